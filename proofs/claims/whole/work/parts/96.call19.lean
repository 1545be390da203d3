/-! Level 2: drift of both sides, on -/
section K19
variable {h H K g : AH} {own own' : Nat → Nat} {f f0 : Nat → Nat → Int} {x : Int}
/-- the class's head stays -/
theorem CAS.base2 (c : CAS h own g) (hn : hN h ≤ hN H) (ho : ∀ x, x < 16 + hN h → own' x = own x) (ek : ∀ x, x < 401 → hK H x = hK h x) (er : ∀ x, x < 401 → ¬ (20 ≤ x ∧ x < 75) → hR H x = hR h x) (e327 : hI H 327 1 = hI h 327 1) (sb : SB H 49) : FX H ∧ PS H ∧ CHS H ∧ CR2 H ∧ (SH H 327 0 ∧ hI H 327 1 = 0) ∧ SB H 49 ∧ (∀ c, c < 426 → own' c = 1) ∧ 426 ≤ 16 + hN H := by
  obtain ⟨⟨c1, c2, c3, c4, c5, c6, c7, c8⟩, d2, d3, d4, d5, d6⟩ := c
  have k := ek
  have r := er
  have pa : ∀ {p : Nat}, PA h p → 75 ≤ p → p + 1 < 401 → PA H p := fun q h49 hp => ⟨by rw [k _ (by omega)]; exact q.1, by rw [r _ (by omega) (by omega)]; exact q.2.1, by rw [k _ (by omega)]; exact q.2.2⟩
  refine ⟨?_, ?_, ?_, ?_, ?_, sb, fun c hc => by rw [ho c (by omega)]; exact c7 c hc, by omega⟩
  · unfold FX at *
    rw [k 16 (by decide), r 16 (by decide) (by decide), k 17 (by decide), k 18 (by decide), r 18 (by decide) (by decide), k 48 (by decide)]
    exact c1
  · unfold PS at *
    rw [k 75 (by decide), r 75 (by decide) (by decide), k 76 (by decide), k 77 (by decide), k 78 (by decide)]
    exact c2
  · obtain ⟨a1, a2, a3, a4, a5, a6, a7, a8, a9, a10⟩ := c3
    unfold CHS
    rw [k 79 (by decide), r 79 (by decide) (by decide), k 80 (by decide), k 81 (by decide), k 82 (by decide), r 80 (by decide) (by decide)]
    exact ⟨a1, a2, a3, a4, a5, a6, a7, a8, pa a9 (by omega) (by omega), fun j hj => ⟨(a10 j hj).1, pa (a10 j hj).2 (by omega) (by omega)⟩⟩
  · obtain ⟨a1, a2, a3, a4, a5, a6, a7, a8, a9⟩ := c4
    unfold CR2
    rw [k 301 (by decide), r 301 (by decide) (by decide), k 325 (by decide), k 326 (by decide)]
    exact ⟨a1, a2, a3, a4, a5, a6, SH_to a7 (fun x _ h2 => k x (by omega)) (fun x _ h2 => r x (by omega) (by omega)), a8, a9⟩
  · exact ⟨SH_to c5.1 (fun x _ h2 => k x (by omega)) (fun x _ h2 => r x (by omega) (by omega)), by rw [e327]; exact c5.2⟩
/-- both in order, put together from more -/
theorem JV_asm2 (j : JV h own) (hn : hN h ≤ hN H) (ho : ∀ x, x < 16 + hN h → own' x = own x) (ek : ∀ x, x < 426 → hK H x = hK h x) (er : ∀ x, x < 426 → ¬ (20 ≤ x ∧ x < 75) → hR H x = hR h x) (e327 : hI H 327 1 = hI h 327 1) (sb : SB H 49) (cq : CQ H H) (e16 : hI H 16 4 = hI H 401 10) (tp : TP H H) (e4 : hI H 20 4 = hI H 402 8) (wo : ∃ F, WOF H own' 20 1 100 (rr (hI H)) F (hI H 401 43).toNat (fun i j => hI H 423 (156 * i + j))) (im : IM H own' H) (n43 : 0 ≤ hI H 401 43 ∧ hI H 401 43 ≤ 20) (mb : MB H) (qi : QI H) : JV H own' := by
  obtain ⟨c, m⟩ := j
  have bs := c.base2 (H := H) (own' := own') hn ho (fun x hx => ek x (by omega)) (fun x hx h2 => er x (by omega) h2) e327 sb
  have rb : RB (rr (hI H)) := by obtain ⟨F, wo⟩ := wo; exact wo.2.2.1.2.2
  exact ⟨⟨bs, cq, ⟨e16, tp⟩, e4, wo, im⟩, MS_to m.1 (fun a h1 h2 => ⟨ek a h2, er a h2 (by omega)⟩), mb, qi, rb, n43.1, n43.2⟩
theorem sv_rr (f : Nat → Nat → Int) : rr (svF f 20) = rr f := by
  funext j; unfold rr svF; simp
theorem drift_C (c : CAS h own g) (m : MR g) (x0 : 0 ≤ hI g 402 8) (x1 : hI g 402 8 < 2147483648) {M N P W : Int} (e : dftOk g M N P W) : ∃ H, Bat_drift 16 M N P W h = some (dftA g M N P W, H) ∧ DS0 h H (hI g 402 8) := by
  obtain ⟨e1, e2, e3, e4, e5⟩ := e
  have rs := sv_rr (hI g)
  have s8 : svF (hI g) 20 402 8 = hI g 402 8 := by unfold svF; simp
  have up : up2 (svF (hI g) 20) 402 8 (hI g 402 8) = svF (hI g) 20 := by
    funext a i; rw [up2_e]; split
    · rename_i c; rw [c.1, c.2, s8]
    · rfl
  have mb0 : MB (WI g (svF (hI g) 20)) := MB_of m.2.1 (by rw [rs]; exact m.2.2.2.1) (by unfold svF; simp) (fun a h1 h2 => sv_n _ _ (by omega) (by omega))
  have di : DI g (svF (hI g) 20) (up2 (svF (hI g) 20) 402 8 (hI g 402 8)) := by rw [up]; exact ⟨fun _ _ _ _ => rfl, mb0, by rw [rs]; exact m.2.2.2.1, by rw [s8]; exact ⟨x0, x1⟩⟩
  have hq : ∀ f, DI g (svF (hI g) 20) f → QG g (WI g f) := fun f d => by
    have o := d.1
    refine ⟨?_, ?_, fun a h1 h2 => ?_⟩
    · rw [hI_WI, o 401 10 (by unfold inrw; omega) (by omega)]; unfold svF; simp
    · rw [hI_WI, o 401 18 (by unfold inrw; omega) (by omega)]; unfold svF; simp
    · funext i
      rw [hI_WI, o a i (by unfold inrw; omega) (by omega), sv_n _ _ (by omega) (by omega)]
  have d0 : DS0 h h (hI g 402 8) := ⟨⟨rfl, rfl, rfl⟩, fun _ _ => rfl, fun _ _ _ => rfl, fun _ _ => rfl, c.2.2.2.1, c.1.2.2.2.2.2.1⟩
  obtain ⟨M', rfl⟩ : ∃ k : Nat, M = (k : Int) := ⟨M.toNat, by omega⟩
  obtain ⟨N', rfl⟩ : ∃ k : Nat, N = (k : Int) := ⟨N.toNat, by omega⟩
  have big := FU_big
  obtain ⟨x', K, q1, q2⟩ := drift_C2 c m hq rs (P := P) (W := W) (was := hI g 402 8) (M := M') (N := N') (by omega) (by omega) M' 0 FU (hI g 402 8) h 0 0 (by omega) (by omega) di d0 (by decide) (by omega) (by decide) (by omega)
  refine ⟨sI K 20 4 (hI g 402 8), ?_, q1.sx _⟩
  have b0 : hI h 21 2 = hI g 402 0 := by rw [c.st.2.1.1, rr_s _ (by decide)]
  rw [show ((0 : Nat) : Int) = 0 from rfl] at q2
  unfold Bat_drift dftA
  rw [if_neg (by omega), if_neg (by omega), if_neg (by omega), if_neg (by omega), if_neg (by omega), if_pos (by omega), if_neg (by omega), if_neg (by omega), c.way, gI_k c.st.1.1, b0, if_pos (by omega), gR_k c.fx.1, c.fx.2.2.2.2.1, gI_k c.wh.1, c.2.2.2.1, q2]
  rfl
theorem drift_ok (M N P W : Int) : OKC (Bat_drift 16 M N P W) (Mod_drift 401 M N P W) := by
  intro h own ⟨c, m⟩ sd
  have c7 := c.1.2.2.2.2.2.2.1
  have c8 := c.1.2.2.2.2.2.2.2
  by_cases o : dftOk h M N P W
  · obtain ⟨H1, x1, x2⟩ := drift_C c m sd.1.1 sd.1.2 o
    obtain ⟨v1, v2, v3, v4, v5, v6⟩ := id x2
    have gr : GR h H1 := ⟨by rw [v3 401 (by decide) (by decide)], by rw [v3 401 (by decide) (by decide)], by rw [v3 401 (by decide) (by decide)], fun a h1 h2 _ => v3 a (by omega) (by omega), fun a h1 h2 => ⟨by rw [v1.2.2], v2 a (by omega)⟩⟩
    have m1 := gr.mr m
    have e402 : hI H1 402 = hI h 402 := v3 402 (by decide) (by decide)
    have o1 : dftOk H1 M N P W := by unfold dftOk at *; rw [e402]; exact o
    obtain ⟨H1', y1, -⟩ := drift_C (gr.cs c) m1 (by rw [e402]; exact sd.1.1) (by rw [e402]; exact sd.1.2) o1
    rw [x1] at y1
    injection y1 with y1
    injection y1 with ya yb
    obtain ⟨H, z1, z2⟩ := Mod_drift_y m1.1 m1.2.1 m1.2.2.2.1 (by rw [e402]; exact sd.1.1) (by rw [e402]; exact sd.1.2) o1
    obtain ⟨r1, r2, r3, r4, r5, r6, r7, r8, r9, r10, r11⟩ := z2
    have i20 : hI H1 20 = hI h 20 := by
      funext i
      by_cases q : i = 4
      · rw [q, v5]; exact c.2.2.2.1.symm
      · exact v4 i q
    have nh : ∀ a, ¬ (401 ≤ a ∧ a < 426) → hI H a = hI H1 a := fun a ha => r5 a (by unfold scrA; simp; omega) (by omega) (by omega) (by omega) (by omega) (by omega)
    have nq : ∀ a, 408 ≤ a → a ≤ 415 → hI H a = hI h a := fun a h1 h2 => by rw [r5 a (by unfold scrA; simp; omega) (by omega) (by omega) (by omega) (by omega) (by omega), v3 a (by omega) (by omega)]
    have qg : QG h H := ⟨by rw [r6, v3 401 (by decide) (by decide)], by rw [r7, v3 401 (by decide) (by decide)], nq⟩
    have n4 : ∀ a, a = 424 ∨ a = 425 → hI H a = hI h a := fun a ha => by rw [r5 a (by unfold scrA; simp; omega) (by omega) (by omega) (by omega) (by omega) (by omega), v3 a (by omega) (by omega)]
    have hK' : hK H = hK h := by rw [r3, v1.2.2]
    have ii : ∀ a, ¬ (401 ≤ a ∧ a < 426) → ¬ (49 ≤ a ∧ a < 327) → hI H a = hI h a := fun a h1 h2 => by
      rw [nh a h1]
      by_cases q : a = 20
      · rw [q]; exact i20
      · exact v3 a h2 q
    have iR : ∀ a, ¬ (49 ≤ a ∧ a < 75) → hR H a = hR h a := fun a h1 => by rw [r4]; exact v2 a h1
    have e43 : hI H 401 43 = hI h 401 43 := by rw [r8, v3 401 (by decide) (by decide)]
    have err : ∀ j, j < 156 → rr (hI H) j = rr (hI h) j := fun j hj => by rw [r10 j hj, gr.row]
    obtain ⟨F, wo⟩ := c.2.2.2.2.1
    have w1 : WOF H own 20 1 100 (rr (hI h)) F (hI h 401 43).toNat (fun i j => hI h 423 (156 * i + j)) := wo.to (by rw [r1, v1.1]; exact Nat.le_refl _) (fun _ _ => rfl) (fun y hy h2 => by
      have : ¬ (49 ≤ y ∧ y < 426) := by
        rcases h2 with h2 | h2
        · omega
        · intro q
          rw [c7 y q.2] at h2; omega
      exact ⟨by rw [hK'], ii y (by omega) (by omega), iR y (by omega)⟩)
    have e423 : ∀ i, i < 3120 → hI H 423 i = hI h 423 i := fun i hi => by rw [r11 i hi, v3 423 (by decide) (by decide)]
    have n20 := m.2.2.2.2.2
    have rb : RB (rr (hI H)) := RB_of m.2.2.2.1 (fun j hj _ _ _ => err j hj)
    have mbH : MB H := MB_of (h := h) m.2.1 rb qg.1 (fun a h1 h2 => qg.2.2 a h1 (by omega))
    refine ⟨dftA h M N P W, H1, H, own, x1, by rw [ya]; exact z1, JV_asm2 ⟨c, m⟩ (by rw [r1, v1.1]; exact Nat.le_refl _) (fun _ _ => rfl) (fun _ _ => by rw [hK']) (fun x _ h2 => iR x (by omega)) (by rw [ii 327 (by decide) (by decide)]) (SB_to v6 (fun _ _ _ => by rw [r3]) (fun _ _ _ => by rw [r4]) (fun _ _ => by rw [nh _ (by decide)]) (fun _ _ => by rw [nh _ (by decide)])) (qg.cq (CQ_to c.2.1 hK' (fun a ha => iR a (by omega)) (fun a h1 h2 => ii a (by omega) (by omega)) m.2.1)) (by rw [ii 16 (by decide) (by decide), qg.1]; exact c.2.2.1.1) ?_ ?_ ⟨F, ?_⟩ ?_ ?_ mbH (qg.qi m.2.2.1), ⟨by rw [hK'], ii 15 (by decide) (by decide)⟩, ⟨by rw [v1.2.2], v3 15 (by decide) (by decide)⟩, by rw [r1, v1.1]; omega, by rw [r2, v1.2.1]; omega, sd.of (by rw [r9, e402]) (n4 424 (Or.inl rfl)), by rw [v1.2.2]⟩
    · unfold TP
      rw [ii 16 (by decide) (by decide), ii 17 (by decide) (by decide), qg.2.1, nq 415 (by decide) (by decide)]
      exact c.2.2.1.2
    · rw [ii 20 (by decide) (by decide), r9, e402]; exact c.2.2.2.1
    · rw [e43]
      exact w1.row2 err (fun i hi j hj => e423 _ (by omega))
    · exact c.imgs (by rw [r1, v1.1]; exact Nat.le_refl _) (fun _ _ => rfl) (iR 48 (by decide)) (fun y h1 h2 h3 => ⟨by rw [hK'], ii y (by omega) (by omega), iR y (by omega)⟩) (n4 424 (Or.inl rfl)) (n4 425 (Or.inr rfl))
    · rw [e43]; exact ⟨m.2.2.2.2.1, n20⟩
  · refine ⟨-1, h, h, own, ?_, Mod_drift_n m.1 o, ⟨c, m⟩, ⟨rfl, rfl⟩, ⟨rfl, rfl⟩, by omega, by omega, sd, rfl⟩
    have b0 : hI h 21 2 = hI h 402 0 := by rw [c.st.2.1.1, rr_s _ (by decide)]
    have b01 := isBase_01 m
    unfold dftOk at o
    unfold Bat_drift
    rw [c.way, gI_k c.st.1.1, b0]
    by_cases a1 : M < 1
    · rw [if_pos a1]
    rw [if_neg a1]
    by_cases a2 : 5 < M
    · rw [if_pos a2]
    rw [if_neg a2]
    by_cases a3 : N < 1
    · rw [if_pos a3]
    rw [if_neg a3]
    by_cases a4 : 30 < N
    · rw [if_pos a4]
    rw [if_neg a4]
    by_cases a5 : P < 0
    · rw [if_pos a5]
    rw [if_neg a5]
    by_cases a6 : P ≤ 100
    · rw [if_pos a6]
      by_cases a7 : W < 0
      · rw [if_pos a7]
      rw [if_neg a7]
      by_cases a8 : 1 < W
      · rw [if_pos a8]
      rw [if_neg a8, if_neg (by omega)]
    · rw [if_neg a6]
end K19
