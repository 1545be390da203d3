/-! Level 2: drift of both sides -/
/-- the class while it drifts: only the draft, scratch and the seed are otherwise -/
def DS0 (h K : AH) (x : Int) : Prop := (hN K = hN h ∧ hS K = hS h ∧ hK K = hK h) ∧ (∀ a, ¬ (49 ≤ a ∧ a < 75) → hR K a = hR h a) ∧ (∀ a, ¬ (49 ≤ a ∧ a < 327) → a ≠ 20 → hI K a = hI h a) ∧ (∀ i, i ≠ 4 → hI K 20 i = hI h 20 i) ∧ hI K 20 4 = x ∧ SB K 49
def DS (h K : AH) (f : Nat → Nat → Int) : Prop := DS0 h K (f 402 8) ∧ ST K 49 (rr f)
section K18
variable {h H K g : AH} {own own' : Nat → Nat} {f f0 : Nat → Nat → Int} {x : Int}
theorem DS0.fx (c : CAS h own g) (d : DS0 h K x) : FX K := by
  unfold FX
  rw [d.1.2.2, d.2.1 16 (by decide), d.2.1 18 (by decide)]
  exact c.fx
theorem DS0.wh (c : CAS h own g) (d : DS0 h K x) : hK K 20 = (11, 0) ∧ hR K 20 0 = 21 := by
  rw [d.1.2.2, d.2.1 20 (by decide)]
  exact ⟨c.wh.1, c.wh.2.1⟩
theorem DS0.sx (d : DS0 h K x) (y : Int) : DS0 h (sI K 20 4 y) y := by
  obtain ⟨d1, d2, d3, d4, d5, d6⟩ := d
  exact ⟨d1, d2, fun a h1 h2 => by rw [hI_sIn _ _ h2]; exact d3 a h1 h2, fun i hi => by rw [hI_sId _ _ hi]; exact d4 i hi, hI_sIs _ _ _ _, SB_to d6 (fun _ _ _ => rfl) (fun _ _ _ => rfl) (fun _ _ => by rw [hI_sIn _ _ (by decide)]) (fun _ _ => by rw [hI_sIn _ _ (by decide)])⟩
theorem ST.sx {ρ : Nat → Int} (s : ST K 49 ρ) (y : Int) : ST (sI K 20 4 y) 49 ρ := ST_to s (fun _ _ _ => rfl) (fun _ _ _ => rfl) (fun a h1 h2 => by rw [hI_sIn _ _ (by omega)])
theorem draw_e (k20 : hK K 20 = (11, 0)) (e : hI K 20 4 = x) (h0 : 0 ≤ x) (h1 : x < 2147483648) : Wor_draw 20 K = some (dr x / 65536, sI K 20 4 (dr x)) := by
  have b := dr_b x
  have k' : hK (sI K 20 4 (dr x)) 20 = (11, 0) := k20
  unfold Wor_draw
  rw [gI_k k20, e, dr_c h0 h1, pI_k k20, gI_k k', hI_sIs, if_neg (by decide), iDiv_e b.1 b.2 (by decide) (by decide)]
theorem once_e (c : CAS h own g) (mg : MS g) (d : DS h K f) (di : DI g f0 f) (P : Int) : ∃ K', Bat_driftOnce 16 P K = some ((), K') ∧ DS h K' (dvF f P) := by
  obtain ⟨d0, st⟩ := d
  obtain ⟨o, mb, rb, x0, x1⟩ := id di
  have b1 := dr_b (f 402 8)
  have b2 := dr_b (dr (f 402 8))
  have b3 := dr_b (dr (dr (f 402 8)))
  have b4 := dr_b (dr (dr (dr (f 402 8))))
  have n2 := rb.2.2.1
  rw [rr_s _ (by decide)] at n2
  have e2 : hI K (49 + 22) 3 = f 402 2 := by rw [← rr_s f (show 2 < 8 by decide)]; exact st.2.1.2.2.1
  have D1 := d0.sx (dr (f 402 8))
  have D2 := D1.sx (dr (dr (f 402 8)))
  have D3 := D2.sx (dr (dr (dr (f 402 8))))
  have D4 := D3.sx (dr (dr (dr (dr (f 402 8)))))
  have S1 := st.sx (dr (f 402 8))
  have S4 := ((S1.sx (dr (dr (f 402 8)))).sx (dr (dr (dr (f 402 8))))).sx (dr (dr (dr (dr (f 402 8)))))
  have w0 := draw_e (d0.wh c).1 d0.2.2.2.2.1 x0 x1
  have w1 := draw_e (D1.wh c).1 D1.2.2.2.2.1 b1.1 b1.2
  have w2 := draw_e (D2.wh c).1 D2.2.2.2.2.1 b2.1 b2.2
  have w3 := draw_e (D3.wh c).1 D3.2.2.2.2.1 b3.1 b3.2
  have F0 := d0.fx c
  have F1 := D1.fx c
  have F2 := D2.fx c
  have F3 := D3.fx c
  have F4 := D4.fx c
  have end1 : DS h (sI K 20 4 (dr (f 402 8))) (up2 f 402 8 (dr (f 402 8))) := by
    refine ⟨?_, by rw [rr_8]; exact S1⟩
    rw [up2_e, if_pos ⟨rfl, rfl⟩]; exact D1
  unfold Bat_driftOnce dvF
  rw [gR_k F0.1, F0.2.2.2.2.2.2.1, st.t0, gI_k st.TR.1, e2, gR_k F0.1, F0.2.2.2.2.1, rc_k (d0.wh c).1, w0, bnd_some, if_neg (show ¬ (100 : Int) = 0 by decide), iRem_e (by omega) (by omega) (by decide) (by decide)]
  by_cases a : P ≤ dr (f 402 8) / 65536 % 100
  · rw [if_pos a, if_neg (by omega)]
    exact ⟨_, rfl, end1⟩
  · rw [if_neg a]
    by_cases z : f 402 2 = 0
    · rw [if_neg (show ¬ ¬ f 402 2 = 0 by omega), if_neg (by omega)]
      exact ⟨_, rfl, end1⟩
    · have r0 := Int.emod_nonneg (dr (dr (f 402 8)) / 65536) (show f 402 2 ≠ 0 by omega)
      have r1 := Int.emod_lt_of_pos (dr (dr (f 402 8)) / 65536) (show 0 < f 402 2 by omega)
      have up : rr (up2 f 402 8 (dr (dr (dr (dr (f 402 8)))))) = rr f := rr_8 _ _
      rw [if_pos z, if_pos (show dr (f 402 8) / 65536 % 100 < P ∧ 0 < f 402 2 by omega), gR_k F1.1, F1.2.2.2.2.1, rc_k (D1.wh c).1, w1, bnd_some, if_neg z, gR_k F2.1, F2.2.2.2.2.1, rc_k (D2.wh c).1, w2, bnd_some, if_neg (show ¬ (3 : Int) = 0 by decide), gR_k F3.1, F3.2.2.2.2.1, rc_k (D3.wh c).1, w3, bnd_some, if_neg (show ¬ (10 : Int) = 0 by decide), gR_k F4.1, F4.2.2.2.2.2.2.1, S4.t0, rc_k S4.TR.1, iRem_e (a := dr (dr (f 402 8)) / 65536) (by omega) (by omega) (by omega) (by omega), iRem_e (a := dr (dr (dr (f 402 8))) / 65536) (by omega) (by omega) (by decide) (by decide), iRem_e (a := dr (dr (dr (dr (f 402 8)))) / 65536) (by omega) (by omega) (by decide) (by decide), S4.atR r0 (by rw [rr_s _ (by decide)]; exact r1) (by omega) (by omega), bnd_some, numr_rr _ r0 (by omega) (by omega) (by rw [if_neg (by omega)]; omega)]
      by_cases q : numf f (dr (dr (f 402 8)) / 65536 % f 402 2) (dr (dr (dr (f 402 8))) / 65536 % 3) = dr (dr (dr (dr (f 402 8)))) / 65536 % 10
      · rw [if_pos q, if_pos q]
        refine ⟨_, rfl, ?_, by rw [up]; exact S4⟩
        rw [up2_e, if_pos ⟨rfl, rfl⟩]; exact D4
      · rw [if_neg q, if_neg q, gR_k F4.1, F4.2.2.2.2.2.2.1, rc_k S4.1.1]
        obtain ⟨K', y1, y2, y3⟩ := S4.replace (t := 0) (row := dr (dr (f 402 8)) / 65536 % f 402 2) (col := dr (dr (dr (f 402 8))) / 65536 % 3) (Or.inl rfl) r0 (by rw [if_pos rfl, rr_s _ (by decide)]; exact r1) (by rw [if_pos rfl]; omega) (v := dr (dr (dr (dr (f 402 8)))) / 65536 % 10) (by omega) (by omega)
        have n5 := rb.n5
        rw [rr_s _ (by decide)] at n5
        obtain ⟨-, rm, er⟩ := Mod_changes_x (h := g) (f := up2 f 402 8 (dr (dr (dr (dr (f 402 8)))))) mg (row := dr (dr (f 402 8)) / 65536 % f 402 2) (col := dr (dr (dr (f 402 8))) / 65536 % 3) (v := dr (dr (dr (dr (f 402 8)))) / 65536 % 10) r0 (by omega) (by omega) (by omega) (by rw [up2_e, if_neg (by omega)]; exact n5.1) (by rw [up2_e, if_neg (by omega)]; exact n5.2) (fun k hk => by
          rw [up2_e, if_neg (by omega)] at hk
          rw [up2_ne (by decide), ← kp_rr f]
          exact (rb.k (k := k) (by rw [rr_s _ (by decide)]; exact hk)).2.2)
        rw [y1, bnd_some]
        refine ⟨K', rfl, ?_, by rw [er, up]; exact y3⟩
        obtain ⟨z1, z2, z3, z4⟩ := y2
        obtain ⟨v1, v2, v3, v4, v5, v6⟩ := D4
        rw [rm.2.2.2.2, up2_e, if_pos ⟨rfl, rfl⟩]
        exact ⟨⟨by rw [z1]; exact v1.1, by rw [z2]; exact v1.2.1, by rw [z3]; exact v1.2.2⟩, fun b hb => by rw [(z4 b (by omega)).2]; exact v2 b hb, fun b h1 h2 => by rw [(z4 b (by omega)).1]; exact v3 b h1 h2, fun i hi => by rw [(z4 20 (by decide)).1]; exact v4 i hi, by rw [(z4 20 (by decide)).1]; exact v5, y3.1⟩
/-- what the batch costs while it drifts -/
theorem DS.cost (c : CAS h own g) (m : MR g) (d : DS h K f) (di : DI g f0 f) (q : QG g (WI g f)) {β : Type} (k : Int → AH → Option (β × AH)) : ∃ K', (gR K 12 16 8 fun r9 => gR K 12 16 7 fun r10 => gI K 12 16 4 fun x11 => rc K 5 r9 <| bnd (Pri_look r9 r10 x11 K) fun _ h12 => gR h12 12 16 8 fun r15 => gR h12 12 16 7 fun r16 => gR h12 9 r16 1 fun r17 => rc h12 5 r15 <| bnd (Pri_batchBy r15 r17 h12) k) = k (cF g f) K' ∧ DS h K' f := by
  obtain ⟨d0, st⟩ := id d
  have F0 := d0.fx c
  have ps : PS K := by
    unfold PS
    rw [d0.1.2.2, d0.2.1 75 (by decide)]
    exact c.ps
  have cq0 : CQ K g := CQ_to c.2.1 d0.1.2.2 (fun a ha => d0.2.1 a (by omega)) (fun a h1 h2 => d0.2.2.1 a (by omega) (by omega)) m.2.1
  have cq : CQ K (WI g f) := q.cq cq0
  have e16 : hI K 16 4 = hI (WI g f) 401 10 := by rw [d0.2.2.1 16 (by decide) (by decide), q.1]; exact c.2.2.1.1
  obtain ⟨φ, y1, y2, y3⟩ := Pri_look_e (h := K) (f := hI K) (g := WI g f) ps cq di.2.1 st (Or.inl (by decide)) rfl
  rw [WI_id] at y1
  have st1 : ST (WI K φ) 49 (rr f) := ST_to st (fun _ _ _ => rfl) (fun _ _ _ => rfl) (fun x h1 h2 => y2 x (by omega))
  have cq1 : CQ (WI K φ) (WI g f) := CQ_to cq rfl (fun _ _ => rfl) (fun a h1 h2 => y2 a (by omega)) di.2.1
  have b5 := st1.2.2.n5
  have e5 : φ 51 1 = rr f 5 := st1.2.1.2.2.2.2.2.1
  have n5 : (φ 51 1).toNat = nK (WI g f) := by rw [e5, rr_s _ (by decide)]; rfl
  have et : eqT (kv (WI K φ) 51) (kT (WI g f)) (nK (WI g f)) := fun k hk t ht => by
    rw [← n5] at hk
    have := st1.kk (i := k) (by omega) ht
    rw [kp_rr] at this
    exact this
  have tb : TB (kT (WI g f)) (nK (WI g f)) := RB.tb (h := WI g f) di.2.2.1
  have px : PX K φ (WI g f) 51 6 := ⟨ps, cq1, di.2.1, y3, st.sh, Or.inl (by decide), by decide, by omega, fun k hk => by
    rw [n5] at hk
    rw [et k hk 13 (by decide)]
    exact tb k hk⟩
  obtain ⟨v, z1⟩ := Pri_batchBy_e px di.2.2.1
  rw [n5, bH_cc di.2.1 et] at z1
  refine ⟨WI K (s78 φ v), ?_, ?_, ST_to st1 (fun _ _ _ => rfl) (fun _ _ _ => rfl) (fun x h1 h2 => s78_n _ _ (by omega))⟩
  · have sp : hR (WI K φ) 49 1 = 51 := st.sp
    rw [gR_k F0.1, F0.2.2.2.2.2.2.2.1, gR_k F0.1, F0.2.2.2.2.2.2.1, gI_k F0.1, e16, rc_k ps.1, y1, bnd_some, gR_k (h := WI K φ) F0.1, show hR (WI K φ) 16 8 = 75 from F0.2.2.2.2.2.2.2.1, gR_k (h := WI K φ) F0.1, show hR (WI K φ) 16 7 = 49 from F0.2.2.2.2.2.2.1, gR_k (h := WI K φ) st.1.1, sp, rc_k (h := WI K φ) ps.1, z1, bnd_some]
    rfl
  · obtain ⟨v1, v2, v3, v4, v5, v6⟩ := d0
    have nn : ∀ x, ¬ (75 ≤ x ∧ x ≤ 78) → hI (WI K (s78 φ v)) x = hI K x := fun x hx => by rw [hI_WI, s78_n _ _ (by omega), y2 x hx]
    exact ⟨v1, v2, fun a h1 h2 => by rw [nn a (by omega)]; exact v3 a h1 h2, fun i hi => by rw [nn 20 (by decide)]; exact v4 i hi, by rw [nn 20 (by decide)]; exact v5, SB_to v6 (fun _ _ _ => rfl) (fun _ _ _ => rfl) (fun _ _ => by rw [nn _ (by decide)]) (fun _ _ => by rw [nn _ (by decide)])⟩
theorem drift_C1 (c : CAS h own g) (m : MR g) (hq : ∀ f, DI g f0 f → QG g (WI g f)) {M P W was s t : Int} {N : Nat} (hN1 : N ≤ 30) (k77 : Nat → Int → Int → Int → Int → Int → Int → Int → Int → AH → Option (Int × AH)) : ∀ (n k F : Nat) (f : Nat → Nat → Int) (K : AH) (cs : Int), k + n = N → n < F → DI g f0 f → DS h K f → 0 ≤ cs → cs + 96000 * n ≤ 100000000 → ∃ K', DS h K' (dvN g P n f cs).1 ∧ DI g f0 (dvN g P n f cs).1 ∧ 0 ≤ (dvN g P n f cs).2 ∧ (dvN g P n f cs).2 ≤ cs + 96000 * n ∧ Bat_drift_L100 k77 F 16 M (N : Int) P W was cs s t (k : Int) K = Bat_drift_L100 k77 (F - n) 16 M (N : Int) P W was (dvN g P n f cs).2 s t (N : Int) K'
  | 0, k, F, f, K, cs, hk, hF, di, d, s0, s1 => by
    refine ⟨K, d, di, s0, by show cs ≤ _; omega, ?_⟩
    rw [show k = N by omega, Nat.sub_zero]; rfl
  | n + 1, k, F + 1, f, K, cs, hk, hF, di, d, s0, s1 => by
    obtain ⟨K1, x1, x2⟩ := once_e c m.1 d di P
    have di' := di.dv m.1 P
    have cb := cF_b di'.2.1 di'.2.2.1 m.1
    obtain ⟨K2, y1, y2⟩ := x2.cost c m di' (hq _ di') (fun x19 h18 => Bat_drift_L100 k77 F 16 M (N : Int) P W was ((wr (cs + x19))) s t ((wr ((k : Int) + 1))) h18)
    obtain ⟨K3, z1, z2, z3, z4, z5⟩ := drift_C1 c m hq (M := M) (P := P) (W := W) (was := was) (s := s) (t := t) hN1 k77 n (k + 1) F (dvF f P) K2 (cs + cF g (dvF f P)) (by omega) (by omega) di' y2 (by omega) (by omega)
    refine ⟨K3, z1, z2, z3, by rw [dvN]; omega, ?_⟩
    rw [Bat_drift_L100, if_neg (by omega), rc_k (d.1.fx c).1, x1, bnd_some, y1, wr_id (z := cs + cF g (dvF f P)) (by omega) (by omega), wr_id (z := (k : Int) + 1) (by omega) (by omega), show (k : Int) + 1 = ((k + 1 : Nat) : Int) by omega, z5, show F + 1 - (n + 1) = F - n by omega]
    rfl
theorem drift_C2 (c : CAS h own g) (m : MR g) (hq : ∀ f, DI g f0 f → QG g (WI g f)) (r0 : rr f0 = rr (hI g)) {P W was : Int} {M N : Nat} (hM : M ≤ 5) (hN1 : N ≤ 30) : ∀ (n t F : Nat) (x : Int) (K : AH) (cs s : Int), t + n = M → n < F → DI g f0 (up2 f0 402 8 x) → DS0 h K x → 0 ≤ cs → cs + 2880000 * n ≤ 20000000 → 0 ≤ s → s + 6 * n ≤ 1000 → ∃ x' K', DS0 h K' x' ∧ Bat_drift_L77 F 16 (M : Int) (N : Int) P W was cs s (t : Int) K = some (if W = 0 then (dvM g f0 P N n x cs s).1 else (dvM g f0 P N n x cs s).2, sI K' 20 4 was)
  | 0, t, F + 1, x, K, cs, s, ht, _, di, d, c0, c1, s1, s2 => by
    refine ⟨x, K, d, ?_⟩
    have F0 := d.fx c
    rw [Bat_drift_L77, if_pos (by omega), gR_k F0.1, F0.2.2.2.2.1, pI_k (d.wh c).1]
    by_cases w : W = 0
    · rw [if_neg (by omega), if_pos w]; rfl
    · rw [if_pos w, if_neg w]; rfl
  | n + 1, t, F + 1, x, K, cs, s, ht, hF, di, d, c0, c1, s1, s2 => by
    have big := FU_big
    have F0 := d.fx c
    obtain ⟨v1, v2, v3, v4, v5, v6⟩ := id d
    have st21 : ST K 21 (rr (hI g)) := ST_to c.st (fun y _ _ => by rw [v1.2.2]) (fun y h1 h2 => v2 y (by omega)) (fun y h1 h2 => v3 y (by omega) (by omega))
    obtain ⟨φ, x1, x2, x3⟩ := Sta_copy_e (h := K) (f := hI K) (d := 49) (a := 21) v6 st21 (by decide)
    rw [WI_id] at x1
    have d0 : DS h (WI K φ) (up2 f0 402 8 x) := by
      refine ⟨?_, by rw [rr_8, r0]; exact x3⟩
      rw [up2_e, if_pos ⟨rfl, rfl⟩]
      exact ⟨v1, v2, fun a h1 h2 => by rw [hI_WI, x2 a (by omega)]; exact v3 a h1 h2, fun i hi => by rw [hI_WI, x2 20 (by decide)]; exact v4 i hi, by rw [hI_WI, x2 20 (by decide)]; exact v5, x3.1⟩
    obtain ⟨K1, y1, y2, y3, y4, y5⟩ := drift_C1 c m hq (M := (M : Int)) (P := P) (W := W) (was := was) (s := s) (t := (t : Int)) hN1 (Bat_drift_L77 F) N 0 FU (up2 f0 402 8 x) (WI K φ) cs (by omega) (by omega) di d0 c0 (by omega)
    have n5 := y2.2.2.1.n5
    rw [rr_s _ (by decide)] at n5
    have sb := stl_b y2.2.2.1 ((dvN g P N (up2 f0 402 8 x) cs).1 402 5).toNat (by rw [rr_s _ (by decide)]; omega)
    have dix : DI g f0 (up2 f0 402 8 ((dvN g P N (up2 f0 402 8 x) cs).1 402 8)) := by
      have := di.x y2.2.2.2.1 y2.2.2.2.2
      rw [up2_up2] at this
      exact this
    have ss := y1.2.stale
    rw [rr_s _ (show 5 < 8 by decide)] at ss
    obtain ⟨x', K', q1, q2⟩ := drift_C2 c m hq r0 (P := P) (W := W) (was := was) hM hN1 n (t + 1) F ((dvN g P N (up2 f0 402 8 x) cs).1 402 8) K1 (dvN g P N (up2 f0 402 8 x) cs).2 (s + stl (rr (dvN g P N (up2 f0 402 8 x) cs).1) ((dvN g P N (up2 f0 402 8 x) cs).1 402 5).toNat) (by omega) (by omega) dix y1.1 y3 (by omega) (by omega) (by omega)
    refine ⟨x', K', q1, ?_⟩
    obtain ⟨G, hG⟩ : ∃ G, FU - N = G + 1 := ⟨FU - N - 1, by omega⟩
    have F1 := y1.1.fx c
    rw [show ((0 : Nat) : Int) = 0 from rfl] at y5
    rw [Bat_drift_L77, if_neg (by omega), gR_k F0.1, F0.2.2.2.2.2.2.1, gR_k F0.1, F0.2.2.2.2.1, gR_k (d.wh c).1, (d.wh c).2, rc_k v6.1, x1, bnd_some, y5, hG, Bat_drift_L100, if_pos (Int.le_refl _), gR_k F1.1, F1.2.2.2.2.2.2.1, gR_k y1.2.1.1, y1.2.sp, rc_k y1.2.sh.1, ss, bnd_some, wr_id (z := s + stl (rr (dvN g P N (up2 f0 402 8 x) cs).1) ((dvN g P N (up2 f0 402 8 x) cs).1 402 5).toNat) (by omega) (by omega), wr_id (z := (t : Int) + 1) (by omega) (by omega), show (t : Int) + 1 = ((t + 1 : Nat) : Int) by omega, q2, dvM]
end K18
