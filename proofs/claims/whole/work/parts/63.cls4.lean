/-! Level 2: the class: it looks, and what the batch costs -/
section C5
variable {h h' g : AH} {f f' : Nat → Nat → Int} {ρ : Nat → Int} {a s R q : Nat}
theorem SH_to (sh : SH h s R) (ek : ∀ x, s ≤ x → x < s + 2 + 3 * R → hK h' x = hK h x) (er : ∀ x, s ≤ x → x < s + 2 + 3 * R → hR h' x = hR h x) : SH h' s R := by
  obtain ⟨h1, h2, h3, h4, h5, h6⟩ := sh
  unfold SH KE PA
  rw [ek s (by omega) (by omega), er s (by omega) (by omega), ek (s + 1) (by omega) (by omega), er (s + 1) (by omega) (by omega)]
  refine ⟨h1, h2, h3, fun j hj => ?_, h5, h6⟩
  rw [ek (s + 2 + 3 * j) (by omega) (by omega), er (s + 2 + 3 * j) (by omega) (by omega), ek (s + 2 + 3 * j + 1) (by omega) (by omega), er (s + 2 + 3 * j + 1) (by omega) (by omega), ek (s + 2 + 3 * j + 1 + 1) (by omega) (by omega)]
  exact h4 j hj
theorem kv_to (sh : SH h s R) (er : ∀ x, s ≤ x → x < s + 2 + 3 * R → hR h' x = hR h x) (ei : ∀ x, s ≤ x → x < s + 2 + 3 * R → hI h' x = hI h x) {i : Nat} (hi : i < R) : kv h' s i = kv h s i := by
  obtain ⟨-, k1, k2⟩ := sh.it hi
  funext t
  unfold kv
  rw [er (s + 1) (by omega) (by omega), ei _ (by omega) (by omega), ei _ (by omega) (by omega)]
theorem SB_to (sb : SB h a) (ek : ∀ x, a ≤ x → x < a + 26 → hK h' x = hK h x) (er : ∀ x, a ≤ x → x < a + 26 → hR h' x = hR h x) (e1 : ∀ j, j < 2 → hI h' (a + 22) j = hI h (a + 22) j) (e2 : ∀ j, j < 2 → hI h' (a + 24) j = hI h (a + 24) j) : SB h' a := by
  obtain ⟨s1, s2, s3, s4, s5, s6, s7, s8, s9⟩ := sb
  unfold SB TA at *
  rw [ek a (by omega) (by omega), er a (by omega) (by omega), ek (a + 1) (by omega) (by omega), er (a + 1) (by omega) (by omega), ek (a + 22) (by omega) (by omega), er (a + 22) (by omega) (by omega), ek (a + 22 + 1) (by omega) (by omega), ek (a + 24) (by omega) (by omega), er (a + 24) (by omega) (by omega), ek (a + 24 + 1) (by omega) (by omega), e1 0 (by decide), e1 1 (by decide), e2 0 (by decide), e2 1 (by decide)]
  exact ⟨s1, s2, s3, s4, s5, s6, s7, s8, SH_to s9 (fun x h1 h2 => ek x (by omega) (by omega)) (fun x h1 h2 => er x (by omega) (by omega))⟩
theorem ER_to (sb : SB h a) (e : ER h a ρ) (b : RB ρ) (er : ∀ x, a ≤ x → x < a + 26 → hR h' x = hR h x) (ei : ∀ x, a ≤ x → x < a + 26 → hI h' x = hI h x) : ER h' a ρ := by
  have b5 := b.n5
  obtain ⟨e0, e1, e2, e3, e4, e5, e6, e7, eR, eS, eK⟩ := e
  unfold ER
  rw [ei a (by omega) (by omega), ei (a + 22) (by omega) (by omega), ei (a + 24) (by omega) (by omega), ei (a + 2) (by omega) (by omega), ei (a + 23) (by omega) (by omega), ei (a + 25) (by omega) (by omega)]
  refine ⟨e0, e1, e2, e3, e4, e5, e6, e7, eR, eS, fun i hi t ht => ?_⟩
  rw [kv_to sb.2.2.2.2.2.2.2.2 (fun x h1 h2 => er x (by omega) (by omega)) (fun x h1 h2 => ei x (by omega) (by omega)) (by omega)]
  exact eK i hi t ht
theorem ST_to (st : ST h a ρ) (ek : ∀ x, a ≤ x → x < a + 26 → hK h' x = hK h x) (er : ∀ x, a ≤ x → x < a + 26 → hR h' x = hR h x) (ei : ∀ x, a ≤ x → x < a + 26 → hI h' x = hI h x) : ST h' a ρ :=
  ⟨SB_to st.1 ek er (fun j _ => by rw [ei _ (by omega) (by omega)]) (fun j _ => by rw [ei _ (by omega) (by omega)]), ER_to st.1 st.2.1 st.2.2 er ei, st.2.2⟩
theorem rows1_num (f : Nat → Nat → Int) (π : Nat → Int) {t : Int} {N : Nat} (hN : N ≤ if t = 0 then 12 else 8) : rows1 π (numr (rr f)) t N = rows1 π (numf f) t N := by
  unfold rows1
  refine cntR_c (fun r _ hr => inF_num f π (by omega) ?_)
  by_cases e : t = 0
  · rw [if_pos e] at hN ⊢; omega
  · rw [if_neg e] at hN ⊢; omega
theorem sumR_c {p q : Nat → Nat} : ∀ {n k : Nat}, (∀ i, k ≤ i → i < k + n → p i = q i) → sumR p k n = sumR q k n
  | 0, _, _ => rfl
  | n + 1, k, e => by rw [sumR_s, sumR_s, e k (Nat.le_refl _) (by omega), sumR_c (fun i h1 h2 => e i (by omega) (by omega))]
theorem rowsF_num (f : Nat → Nat → Int) {π : Nat → Int} (ok : okP π) {NR NS : Nat} (h1 : NR ≤ 12) (h2 : NS ≤ 8) : rowsF π (numr (rr f)) NR NS = rowsF π (numf f) NR NS := by
  unfold rowsF
  by_cases c : 2 ≤ π 0
  · rw [if_pos c, if_pos c]
    have kk := ok.2 (by have := ok.1; omega)
    unfold rows2
    refine sumR_c (fun r _ hr => cntR_c (fun s _ hs => ?_))
    rw [numr_rr f (by omega) (by omega) (by omega) (by rw [if_neg (by omega)]; omega), numr_rr f (by omega) (by omega) (by omega) (by rw [if_pos (by omega)]; omega), inF_num f π (by omega) (by rw [if_pos rfl]; omega), inF_num f π (by omega) (by rw [if_neg (by decide)]; omega)]
  · rw [if_neg c, if_neg c]
    by_cases d : π 0 = 0
    · rw [d, if_pos rfl]; exact rows1_num f π (by rw [if_pos rfl]; exact h1)
    · rw [if_neg d]; exact rows1_num f π (by rw [if_neg d]; exact h2)
theorem makeF_num (f : Nat → Nat → Int) (π : Nat → Int) {NR NS : Nat} (h1 : NR ≤ 12) (h2 : NS ≤ 8) : makeF π (numr (rr f)) NR NS = makeF π (numf f) NR NS := by
  unfold makeF
  rw [rows1_num f π (t := 0) (by rw [if_pos rfl]; exact h1), rows1_num f π (t := 1) (by rw [if_neg (by decide)]; exact h2)]
/-- pairs laid anew -/
def f77 (f : Nat → Nat → Int) (w : Nat → Int) : Nat → Nat → Int := fun a => if a = 77 then w else f a
theorem f77_n (f : Nat → Nat → Int) (w : Nat → Int) {a : Nat} (ha : a ≠ 77) : f77 f w a = f a := if_neg ha
theorem look_L (ps : PS h) (cq : CQ (WI h f) g) (b : MB g) (st : ST (WI h f) a (rr (hI g))) (ha : a + 26 ≤ 75 ∨ 78 < a) (e4 : f 75 4 = hI g 401 10) : ∀ (n q fuel : Nat) (w : Nat → Int), (q : Int) + n = hI g 401 10 → n < fuel → (∀ i : Nat, i < q → rVd g i = false → hI g 408 i = 2 → w i = RW g i 0 * RW g i 1) → ∃ w', Pri_look_L53 fuel 75 a (q : Int) (WI h (f77 f w)) = some ((), WI h (f77 f w')) ∧ ∀ i : Nat, (i : Int) < hI g 401 10 → rVd g i = false → hI g 408 i = 2 → w' i = RW g i 0 * RW g i 1
  | 0, q, fuel + 1, w, hq, _, hw => by
    refine ⟨w, ?_, fun i hi => hw i (by omega)⟩
    rw [Pri_look_L53, gI_k (h := WI h (f77 f w)) ps.1, hI_WI, f77_n _ _ (by decide), e4, if_pos (by omega)]
  | n + 1, q, fuel + 1, w, hq, hf, hw => by
    obtain ⟨ps1, ps2, ps3, ps4, ps5, ps6, ps7, ps8⟩ := id ps
    have b3 := b.2.2.1
    have nb := nRS b
    obtain ⟨q1, q2, q3, q4, q5, q6, q7⟩ := (show QA h from cq.1).2 q (by omega)
    have W : ∀ F, hK (WI h F) = hK h := fun _ => rfl
    have Wr : ∀ F, hR (WI h F) = hR h := fun _ => rfl
    have cq1 : CQ (WI h (f77 f w)) g := CQ_to cq rfl (fun _ _ => rfl) (fun a h1 _ => by rw [hI_WI, hI_WI, f77_n _ _ (by omega)]) b
    have st1 : ST (WI h (f77 f w)) a (rr (hI g)) := ST_to st (fun _ _ _ => rfl) (fun _ _ _ => rfl) (fun x h1 h2 => by rw [hI_WI, hI_WI, f77_n _ _ (by omega)])
    rw [Pri_look_L53, gI_k (t := 5) (n := 0) (by rw [W]; exact ps1), hI_WI, f77_n _ _ (by decide), e4, if_neg (by omega), gR_k (t := 5) (n := 0) (by rw [W]; exact ps1), Wr, ps2, aR_k (n := 8) (by rw [W]; exact cq.1.1) (by omega) (by omega), Wr, tN (q : Int) q rfl, q1, rc_k (t := 6) (n := 0) (by rw [W]; exact q2), cq1.has b (by omega), bnd_some, ite_bi, wr_id (z := (q : Int) + 1) (by omega) (by omega), show (q : Int) + 1 = ((q + 1 : Nat) : Int) by omega]
    have hv : rHas g q 2 = (decide (hI g 408 q = 2) || decide (hI g 408 q = 2)) := by unfold rHas; rfl
    cases hh : (!rVd g q && rHas g q 2)
    · rw [if_neg (by decide)]
      refine look_L ps cq b st ha e4 n (q + 1) fuel w (by omega) (by omega) (fun i hi h1 h2 => ?_)
      by_cases e : i = q
      · subst e
        rw [h1, hv, decide_eq_true h2] at hh
        exact absurd hh (by decide)
      · exact hw i (by omega) h1 h2
    · have hh' := hh
      rw [Bool.and_eq_true] at hh'
      have p0 := (q7 0 (by decide))
      have p1 := (q7 1 (by decide))
      have t0 := (cq1.2 q (by omega)).2.2 0 (by decide)
      have t1 := (cq1.2 q (by omega)).2.2 1 (by decide)
      have s2 : hI g 408 q = 2 := by have := hh'.2; rw [hv] at this; simpa using this
      have hr : ∀ k : Int, rHas g q k = true := fun k => by unfold rHas; rw [show ((q : Nat) : Int).toNat = q from rfl, decide_eq_true s2]; rfl
      have r0 : ((rows1 (hI (WI h (f77 f w)) (332 + 9 * q + 2 * 0 + 1)) (numr (rr (hI g))) 0 (rr (hI g) 2).toNat : Nat) : Int) = RW g q 0 := by
        unfold RW rowsF
        rw [hr, if_pos rfl, if_neg (show ¬ 2 ≤ qp g q 0 0 by rw [show qp g q 0 0 = 0 from rfl]; decide), show 332 + 9 * q + 2 * 0 + 1 = 333 + 9 * q + 2 * 0 by omega, rows1_c t0, rr_s _ (by decide), rows1_num (hI g) _ (by rw [if_pos rfl]; exact nb.1), ← num_h]
        rfl
      have r1 : ((rows1 (hI (WI h (f77 f w)) (332 + 9 * q + 2 * 1 + 1)) (numr (rr (hI g))) 1 (rr (hI g) 3).toNat : Nat) : Int) = RW g q 1 := by
        unfold RW rowsF
        rw [hr, if_pos rfl, if_neg (show ¬ 2 ≤ qp g q 1 0 by rw [show qp g q 1 0 = 1 from rfl]; decide), show 332 + 9 * q + 2 * 1 + 1 = 333 + 9 * q + 2 * 1 by omega, rows1_c t1, rr_s _ (by decide), rows1_num (hI g) _ (by rw [if_neg (by decide)]; exact nb.2), ← num_h]
        rfl
      have R0 := st1.rowsOfR (p := 332 + 9 * q + 2 * 0) p0.2
      have R1 := st1.rowsOfS (p := 332 + 9 * q + 2 * 1) p1.2
      rw [r0] at R0
      rw [r1] at R1
      have pb := prB b q
      rw [if_pos rfl, gR_k (t := 5) (n := 0) (by rw [W]; exact ps1), Wr, ps4, gR_k (t := 5) (n := 0) (by rw [W]; exact ps1), Wr, ps2, aR_k (n := 8) (by rw [W]; exact cq.1.1) (by omega) (by omega), Wr, tN (q : Int) q rfl, q1, gR_k (t := 6) (n := 0) (by rw [W]; exact q2), Wr, q4, aR_k (n := 3) (by rw [W]; exact q6) (by decide) (by decide), Wr, show hR h (331 + 9 * q) (0 : Int).toNat = 332 + 9 * q + 2 * 0 from p0.1, st1.t0, rc_k (t := 4) (n := 0) (by rw [W]; exact p0.2.1), R0, bnd_some, gR_k (t := 5) (n := 0) (by rw [W]; exact ps1), Wr, ps2, aR_k (n := 8) (by rw [W]; exact cq.1.1) (by omega) (by omega), Wr, tN (q : Int) q rfl, q1, gR_k (t := 6) (n := 0) (by rw [W]; exact q2), Wr, q4, aR_k (n := 3) (by rw [W]; exact q6) (by decide) (by decide), Wr, show hR h (331 + 9 * q) (1 : Int).toNat = 332 + 9 * q + 2 * 1 from p1.1, st1.t1, rc_k (t := 4) (n := 0) (by rw [W]; exact p1.2.1), R1, bnd_some, wI_k (n := 8) (by rw [W]; exact ps7) (by omega) (by omega), tN (q : Int) q rfl, WI_sI, wr_id (z := RW g q 0 * RW g q 1) (by omega) (by omega)]
      have e77 : up2 (f77 f w) 77 q (RW g q 0 * RW g q 1) = f77 f (u1 w q (RW g q 0 * RW g q 1)) := by
        funext a j; rw [up2_e]; unfold f77 u1; by_cases e : a = 77 <;> simp [e]
      rw [e77]
      refine look_L ps cq b st ha e4 n (q + 1) fuel _ (by omega) (by omega) (fun i hi h1 h2 => ?_)
      unfold u1
      by_cases e : i = q
      · rw [if_pos e, e]
      · rw [if_neg e]; exact hw i (by omega) h1 h2
/-- only the pricer's own -/
def PK (f f' : Nat → Nat → Int) : Prop := ∀ a, ¬ (75 ≤ a ∧ a ≤ 78) → f' a = f a
theorem Pri_look_e (ps : PS h) (cq : CQ (WI h f) g) (b : MB g) (st : ST (WI h f) a (rr (hI g))) (ha : a + 26 ≤ 75 ∨ 78 < a) {nq : Int} (hn : nq = hI g 401 10) : ∃ f', Pri_look 75 a nq (WI h f) = some ((), WI h f') ∧ PK f f' ∧ LK f' g := by
  obtain ⟨ps1, ps2, ps3, ps4, ps5, ps6, ps7, ps8⟩ := id ps
  have b3 := b.2.2.1
  have W : ∀ F, hK (WI h F) = hK h := fun _ => rfl
  have Wr : ∀ F, hR (WI h F) = hR h := fun _ => rfl
  have stT : ∀ F : Nat → Nat → Int, PK f F → ST (WI h F) a (rr (hI g)) := fun F hF => ST_to st (fun _ _ _ => rfl) (fun _ _ _ => rfl) (fun x h1 h2 => hF x (by omega))
  have cqT : ∀ F : Nat → Nat → Int, PK f F → CQ (WI h F) g := fun F hF => CQ_to cq rfl (fun _ _ => rfl) (fun x h1 h2 => hF x (by omega)) b
  have pu : ∀ (F : Nat → Nat → Int) (x k : Nat) (v : Int), PK f F → 75 ≤ x → x ≤ 78 → PK f (up2 F x k v) := fun F x k v hF h1 h2 y hy => by rw [up2_ne (by omega)]; exact hF y hy
  have mm : mMin nq 8 = hI g 401 10 := by unfold mMin; rw [if_neg (by omega), hn]
  have P0 : PK f f := fun _ _ => rfl
  have P1 := pu f 75 4 (hI g 401 10) P0 (by decide) (by decide)
  have P2 := pu _ 75 5 (hI g 402 4) P1 (by decide) (by decide)
  have P3 := pu _ 76 0 (hI g 402 2) P2 (by decide) (by decide)
  have P4 := pu _ 76 1 (hI g 402 3) P3 (by decide) (by decide)
  have q4 : (up2 f 75 4 (hI g 401 10)) a 4 = hI g 402 4 := by
    have := (stT _ P1).2.1.2.2.2.2.1
    rw [rr_s _ (by decide)] at this; exact this
  have q2 : (up2 (up2 f 75 4 (hI g 401 10)) 75 5 (hI g 402 4)) (a + 22) 3 = hI g 402 2 := by
    have := (stT _ P2).2.1.2.2.1
    rw [rr_s _ (by decide)] at this; exact this
  have q3 : (up2 (up2 (up2 f 75 4 (hI g 401 10)) 75 5 (hI g 402 4)) 76 0 (hI g 402 2)) (a + 24) 3 = hI g 402 3 := by
    have := (stT _ P3).2.1.2.2.2.1
    rw [rr_s _ (by decide)] at this; exact this
  have kA : hK h a = (9, 0) := st.1.1
  have kR : hK h (a + 22) = (10, 0) := st.1.2.2.2.2.2.2.1.1
  have kS : hK h (a + 24) = (10, 0) := st.1.2.2.2.2.2.2.2.1.1
  unfold Pri_look
  rw [gR_k (t := 5) (n := 0) (by rw [W]; exact ps1), Wr, ps4, aN_k (n := 8) (by rw [W]; exact ps7), show mMin nq ((8 : Nat) : Int) = hI g 401 10 from mm, pI_k (t := 5) (n := 0) (by rw [W]; exact ps1), WI_sI, gI_k (t := 9) (n := 0) (by rw [W]; exact kA), hI_WI, q4, pI_k (t := 5) (n := 0) (by rw [W]; exact ps1), WI_sI, gR_k (t := 5) (n := 0) (by rw [W]; exact ps1), Wr, ps3, (stT _ P2).t0, gI_k (t := 10) (n := 0) (by rw [W]; exact kR), hI_WI, q2, wI_k (n := 2) (by rw [W]; exact ps6) (by decide) (by decide), WI_sI, show (0 : Int).toNat = 0 from rfl, gR_k (t := 5) (n := 0) (by rw [W]; exact ps1), Wr, ps3, (stT _ P3).t1, gI_k (t := 10) (n := 0) (by rw [W]; exact kS), hI_WI, q3, wI_k (n := 2) (by rw [W]; exact ps6) (by decide) (by decide), WI_sI, show (1 : Int).toNat = 1 from rfl]
  generalize hF : up2 (up2 (up2 (up2 f 75 4 (hI g 401 10)) 75 5 (hI g 402 4)) 76 0 (hI g 402 2)) 76 1 (hI g 402 3) = F at *
  obtain ⟨w', x1, x2⟩ := look_L ps (cqT F P4) b (stT F P4) ha (by rw [← hF, up2_e, if_neg (by omega), up2_e, if_neg (by omega), up2_e, if_neg (by omega), up2_e, if_pos ⟨rfl, rfl⟩]) (hI g 401 10).toNat 0 FU (F 77) (by omega) (by have := FU_big; omega) (fun i hi => by omega)
  have e7 : f77 F (F 77) = F := by funext a; unfold f77; split <;> simp_all
  rw [e7, show ((0 : Nat) : Int) = 0 from rfl] at x1
  refine ⟨f77 F w', x1, fun y hy => ?_, ?_, ?_, ?_, ?_, x2⟩
  · rw [f77_n _ _ (by omega)]; exact P4 y hy
  · rw [f77_n _ _ (by decide), ← hF, up2_e, if_neg (by omega), up2_e, if_neg (by omega), up2_e, if_neg (by omega), up2_e, if_pos ⟨rfl, rfl⟩]
  · rw [f77_n _ _ (by decide), ← hF, up2_e, if_neg (by omega), up2_e, if_neg (by omega), up2_e, if_pos ⟨rfl, rfl⟩]
  · rw [f77_n _ _ (by decide), ← hF, up2_e, if_neg (by omega), up2_e, if_pos ⟨rfl, rfl⟩]
  · rw [f77_n _ _ (by decide), ← hF, up2_e, if_pos ⟨rfl, rfl⟩]
theorem PX.v (x : PX h f g s R) (v : Nat → Int) : PX h (s78 f v) g s R ∧ (∀ i, i < R → kv (WI h (s78 f v)) s i = kv (WI h f) s i) ∧ s78 f v s 1 = f s 1 := by
  obtain ⟨x1, x2, x3, x4, x5, x6, x7, x8, x9⟩ := x
  have e1 : s78 f v s 1 = f s 1 := by rw [s78_n _ _ (by omega)]
  refine ⟨⟨x1, CQ_78 x2 x3 v, x3, ?_, x5, x6, x7, by rw [e1]; exact x8, ?_⟩, fun i hi => kv_78 x5 x6 v hi, e1⟩
  · obtain ⟨l1, l2, l3, l4, l5⟩ := x4
    unfold LK
    rw [s78_n _ _ (by decide), s78_n _ _ (by decide), s78_n _ _ (by decide)]
    exact ⟨l1, l2, l3, l4, l5⟩
  · rw [e1]
    intro k hk
    rw [kv_78 x5 x6 v (by omega)]
    exact x9 k hk
theorem cH_cc (b : MB g) {T T' : Nat → Nat → Int} {n : Nat} (e : eqT T T' n) (hq : (q : Int) < hI g 401 10) : cH g T n q = cH g T' n q := by
  unfold cH
  have b3 := b.2.2.1
  exact cNow_cc (fun _ _ => rfl) (fun _ _ => rfl) (fun _ _ => rfl) e rfl rfl _ _ (b.2.2.2.2 q (by omega) hq).1
theorem bH_cc (b : MB g) {T T' : Nat → Nat → Int} {n : Nat} (e : eqT T T' n) : bH g T n = bH g T' n := by
  unfold bH
  have b3 := b.2.2.1
  exact bsum_cc (fun q hq => ⟨rfl, cH_cc b e (by unfold nQ at hq; omega)⟩)
theorem bH_b2 (b : MB g) {T : Nat → Nat → Int} {n : Nat} (tb : TB T n) (k : Nat) (hk : (k : Int) ≤ hI g 401 10) : 0 ≤ bsum (onH g) (cH g T n) k ∧ bsum (onH g) (cH g T n) k ≤ 12000 * k :=
  bsum_b (fun q hq => cH_b b tb (by omega))
theorem stk (b : RB (rr (hI g))) {q : Nat} (hq : q < 8) : iAnd (iShr (hI g 402 4) (q : Int)) 1 = bi (hasB (hI g 402 4) q) := by
  have b4 := b.2.2.2.2.1
  rw [rr_s _ (by decide)] at b4
  obtain ⟨S, hS⟩ : ∃ S : Nat, hI g 402 4 = (S : Int) := ⟨(hI g 402 4).toNat, by omega⟩
  have := stk_01 S (by omega) q hq
  rw [hS]
  unfold hasB
  rcases this with e | e
  · rw [e]; rfl
  · rw [e]; rfl
theorem Pri_batchBy_e (x : PX h f g s R) (rb : RB (rr (hI g))) : ∃ v, Pri_batchBy 75 s (WI h f) = some (bH g (kv (WI h f) s) (f s 1).toNat, WI h (s78 f v)) := by
  have b := x.2.2.1
  have b3 := b.2.2.1
  have ps1 := x.1.1
  have L : ∀ (n q : Nat), (q : Int) + n = hI g 401 10 → ∀ (fuel : Nat) (v : Nat → Int), n < fuel → ∃ v', Pri_batchBy_L4 fuel 75 s (bsum (onH g) (cH g (kv (WI h f) s) (f s 1).toNat) q) (q : Int) (WI h (s78 f v)) = some (bH g (kv (WI h f) s) (f s 1).toNat, WI h (s78 f v')) := by
    intro n
    induction n with
    | zero =>
      intro q hq fuel v hf
      obtain ⟨fuel, rfl⟩ : ∃ j, fuel = j + 1 := ⟨fuel - 1, by omega⟩
      refine ⟨v, ?_⟩
      rw [Pri_batchBy_L4, gI_k (h := WI h (s78 f v)) ps1, hI_WI, s78_n _ _ (by decide), x.2.2.2.1.1, if_pos (by omega)]
      unfold bH nQ
      rw [show (hI g 401 10).toNat = q by omega]
    | succ n ih =>
      intro q hq fuel v hf
      obtain ⟨fuel, rfl⟩ : ∃ j, fuel = j + 1 := ⟨fuel - 1, by omega⟩
      have sb := bH_b2 b x.2.2.2.2.2.2.2.2 q (by omega)
      have cb := cH_b b x.2.2.2.2.2.2.2.2 (q := q) (by omega)
      have ih := ih (q + 1) (by omega) fuel
      rw [bsum] at ih
      have eo : onH g q = (!rVd g q && !hasB (hI g 402 4) q) := rfl
      rw [Pri_batchBy_L4, gI_k (h := WI h (s78 f v)) ps1, hI_WI, s78_n _ _ (by decide), x.2.2.2.1.1, if_neg (by omega), gI_k (h := WI h (s78 f v)) ps1, hI_WI, s78_n _ _ (by decide), x.2.2.2.1.2.1, stk rb (by omega), ite_nbi, wr_id (z := (q : Int) + 1) (by omega) (by omega), show (q : Int) + 1 = ((q + 1 : Nat) : Int) by omega]
      cases hs : hasB (hI g 402 4) q
      · obtain ⟨xv, xk, xn⟩ := x.v v
        obtain ⟨v2, e2, -⟩ := Pri_costBy_e xv (q := q) (by omega)
        have e3 : cH g (kv (WI h (s78 f v)) s) (s78 f v s 1).toNat q = cH g (kv (WI h f) s) (f s 1).toNat q := by
          rw [xn]; exact cH_cc b (fun i hi t _ => by rw [xk i (by have := x.2.2.2.2.2.2.2.1; omega)]) (by omega)
        have e4 : s78 (s78 f v) v2 = s78 f v2 := by funext a; unfold s78; split <;> simp_all
        rw [e3, e4] at e2
        rw [if_neg (by decide), rc_k (h := WI h (s78 f v)) ps1, e2, bnd_some, wr_id (by omega) (by omega)]
        obtain ⟨v', e5⟩ := ih v2 (by omega)
        refine ⟨v', ?_⟩
        rw [eo, hs] at e5
        cases vd : rVd g q
        · rw [vd, if_pos (show (!false && !false) = true from rfl)] at e5; exact e5
        · have z : cH g (kv (WI h f) s) (f s 1).toNat q = 0 := by unfold cH cNow; rw [vd]; rfl
          rw [vd, if_neg (show ¬ (!true && !false) = true by decide)] at e5
          rw [z]; exact e5
      · obtain ⟨v', e5⟩ := ih v (by omega)
        refine ⟨v', ?_⟩
        rw [eo, hs, Bool.not_true, Bool.and_false, if_neg (by decide), Int.add_zero] at e5
        rw [if_pos rfl]; exact e5
  obtain ⟨v', e⟩ := L (hI g 401 10).toNat 0 (by omega) FU (f 78) (by have := FU_big; omega)
  have e7 : s78 f (f 78) = f := by funext a; unfold s78; split <;> simp_all
  rw [e7] at e
  exact ⟨v', e⟩
end C5
