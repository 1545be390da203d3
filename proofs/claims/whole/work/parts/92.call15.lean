/-! Level 2: answer of both sides -/
def tkP (π : Nat → Int) (ρ : Nat → Int) (r t : Nat) : Bool := (decide (π 0 = 1) || inF π (numr ρ r) 0) && ((decide (π 0 = 0) || inF π (numr ρ t) 1) && (decide (π 0 < 2) || decide (numr ρ r (π 1) = numr ρ t (π 2))))
section K15
variable {h g : AH} {own : Nat → Nat} {ρ : Nat → Int} {a p : Nat}
theorem hitS_nil {P : Nat → Nat → Bool} {r : Nat} : ∀ (n s : Nat), (∀ t, P r t = false) → hitS P r n s = []
  | 0, _, _ => rfl
  | n + 1, s, e => by rw [hitS, e s, if_neg (by decide), hitS_nil n (s + 1) e]
theorem hitS_c {P Q : Nat → Nat → Bool} {r : Nat} : ∀ (n s : Nat), (∀ t, s ≤ t → t < s + n → P r t = Q r t) → hitS P r n s = hitS Q r n s
  | 0, _, _ => rfl
  | n + 1, s, e => by rw [hitS, hitS, e s (by omega) (by omega), hitS_c n (s + 1) (fun t h1 h2 => e t (by omega) (by omega))]
theorem hitR_c {P Q : Nat → Nat → Bool} {mS : Nat} : ∀ (n r : Nat), (∀ i t, r ≤ i → i < r + n → t < mS → P i t = Q i t) → hitR P mS n r = hitR Q mS n r
  | 0, _, _ => rfl
  | n + 1, r, e => by rw [hitR, hitR, hitS_c mS 0 (fun t _ h2 => e r t (by omega) (by omega) (by omega)), hitR_c n (r + 1) (fun i t h1 h2 h3 => e i t (by omega) (by omega) h3)]
theorem hitS_cnt {P : Nat → Nat → Bool} {r : Nat} : ∀ (n s : Nat), (hitS P r n s).length = cntR (P r) s n
  | 0, _ => rfl
  | n + 1, s => by
    rw [hitS, cntR_s]
    cases P r s
    · rw [if_neg (by decide), if_neg (by decide), hitS_cnt n]; omega
    · rw [if_pos rfl, if_pos rfl, List.length_cons, hitS_cnt n]; omega
theorem hitR_sum {P : Nat → Nat → Bool} {mS : Nat} : ∀ (n r : Nat), (hitR P mS n r).length = sumR (fun r => cntR (P r) 0 mS) r n
  | 0, _ => rfl
  | n + 1, r => by rw [hitR, sumR_s, List.length_append, hitS_cnt, hitR_sum n]
theorem sum_1 {P : Nat → Nat → Bool} : ∀ (n k : Nat), sumR (fun r => cntR (P r) 0 1) k n = cntR (fun r => P r 0) k n
  | 0, _ => rfl
  | n + 1, k => by rw [sumR_s, cntR_s, sum_1 n, cntR_s, cntR_0]; omega
theorem locL_0 (x : Nat × Nat) (L : List (Nat × Nat)) : locL (x :: L) 0 = 8 * (x.1 : Int) + x.2 := rfl
theorem locL_s (x : Nat × Nat) (L : List (Nat × Nat)) (n : Nat) : locL (x :: L) (n + 1) = locL L n := by
  unfold locL; rw [List.getElem?_cons_succ]
theorem locL_some {L : List (Nat × Nat)} {n : Nat} {x : Nat × Nat} (e : L[n]? = some x) : locL L n = 8 * (x.1 : Int) + x.2 := by unfold locL; rw [e]
theorem locL_none {L : List (Nat × Nat)} {n : Nat} (e : L[n]? = none) : locL L n = -1 := by unfold locL; rw [e]
theorem loc85 (s : ST h a ρ) (p1 : PA h p) (ok : okP (hI h (p + 1))) {r mS : Nat} {mR : Int} (hr : hI h (p + 1) 0 ≠ 1 → (r : Int) < ρ 2 ∧ inF (hI h (p + 1)) (numr ρ r) 0 = true) (r12 : r < 100) (hS1 : (mS : Int) = if hI h (p + 1) 0 = 0 then 1 else ρ 3) {k50 : Nat → Nat → Int → Int → Int → Int → AH → Option (Int × AH)} {rest : List (Nat × Nat)} (hk : ∀ l : Nat, l < 2147483648 → k50 p a mR (mS : Int) (l : Int) ((r + 1 : Nat) : Int) h = some (locL rest l, h)) : ∀ (n t fuel l : Nat), t + n = mS → n < fuel → l < 2147483648 → Par_locate_L85 k50 fuel p a mR (mS : Int) (l : Int) (r : Int) (t : Int) h = some (locL (hitS (tkP (hI h (p + 1)) ρ) r n t ++ rest) l, h)
  | 0, t, fuel + 1, l, ht, _, hl => by
    rw [Par_locate_L85, if_pos (by omega), wr_id (by omega) (by omega), show (r : Int) + 1 = ((r + 1 : Nat) : Int) by omega, hk l hl]; rfl
  | n + 1, t, fuel + 1, l, ht, hf, hl => by
    have b3 := s.2.2.2.2.2.1
    have m8 : mS ≤ 8 := by
      split at hS1 <;> omega
    have ih := loc85 s p1 ok hr r12 hS1 hk n (t + 1) fuel
    have fin : ∀ v : Bool, tkP (hI h (p + 1)) ρ r t = v → (if v = true then (if ¬ (l : Int) = 0 then Par_locate_L85 k50 fuel p a mR (mS : Int) (wr ((l : Int) + (-1))) (r : Int) (wr ((t : Int) + 1)) h else some (wr (wr ((r : Int) * 8) + t), h)) else Par_locate_L85 k50 fuel p a mR (mS : Int) (l : Int) (r : Int) (wr ((t : Int) + 1)) h) = some (locL (hitS (tkP (hI h (p + 1)) ρ) r (n + 1) t ++ rest) l, h) := fun v hv => by
      rw [wr_id (z := (t : Int) + 1) (by omega) (by omega), show (t : Int) + 1 = ((t + 1 : Nat) : Int) by omega, hitS, hv]
      cases v
      · rw [if_neg (by decide), if_neg (by decide), ih l (by omega) (by omega) hl]
      · rw [if_pos rfl, if_pos rfl, List.cons_append]
        cases l with
        | zero =>
          rw [if_neg (by simp), locL_0, wr_id (z := (r : Int) * 8) (by omega) (by omega), wr_id (by omega) (by omega)]
          congr 2; omega
        | succ l =>
          rw [if_pos (by omega), locL_s, wr_id (z := ((l + 1 : Nat) : Int) + (-1)) (by omega) (by omega), show ((l + 1 : Nat) : Int) + (-1) = (l : Int) by omega, ih l (by omega) (by omega) (by omega)]
    have k3 := ok.1
    rw [Par_locate_L85, if_neg (by omega), rc_k p1.1, Par_kind_e p1, bnd_some]
    rcases k3 with e | e | e
    · have ev : tkP (hI h (p + 1)) ρ r t = true := by
        unfold tkP; rw [(hr (by omega)).2, e]; rfl
      have f := fin true ev
      rw [if_pos rfl] at f
      rw [if_pos (by omega)]
      unfold Par_locate_L118
      rw [rc_k p1.1, Par_kind_e p1, bnd_some, if_pos (by omega)]
      exact f
    · have t3 : (t : Int) < ρ 3 := by rw [if_neg (by omega)] at hS1; omega
      have ev : tkP (hI h (p + 1)) ρ r t = inF (hI h (p + 1)) (numr ρ t) 1 := by
        unfold tkP; rw [e]; simp
      have f := fin _ ev
      rw [if_neg (by omega), s.t1, rc_k p1.1, s.tS p1, decide_eq_true (show 0 ≤ (t : Int) ∧ (t : Int) < ρ 3 by omega), Bool.true_and, bnd_some, ite_nbi]
      unfold Par_locate_L118
      rw [rc_k p1.1, Par_kind_e p1, bnd_some, if_pos (show ¬ hI h (p + 1) 0 = 2 by omega)]
      exact f
    · have t3 : (t : Int) < ρ 3 := by rw [if_neg (by omega)] at hS1; omega
      have r2 := hr (by omega)
      have ev : tkP (hI h (p + 1)) ρ r t = (decide (numr ρ r (hI h (p + 1) 1) = numr ρ t (hI h (p + 1) 2)) && inF (hI h (p + 1)) (numr ρ t) 1) := by
        unfold tkP; rw [r2.2, e]; simp [Bool.and_comm]
      have f := fin _ ev
      rw [if_pos (by omega)]
      unfold Par_locate_L118
      rw [rc_k p1.1, Par_kind_e p1, bnd_some, if_neg (by omega), rc_k p1.1, s.both p1 ok e r2.1 t3, bnd_some, ite_nbi]
      exact f
theorem loc50 (s : ST h a ρ) (p1 : PA h p) (ok : okP (hI h (p + 1))) {mS mR : Nat} (hS1 : (mS : Int) = if hI h (p + 1) 0 = 0 then 1 else ρ 3) (hR1 : (mR : Int) = if hI h (p + 1) 0 = 1 then 1 else ρ 2) : ∀ (n r fuel l : Nat), r + n = mR → n < fuel → l < 2147483648 → Par_locate_L50 fuel p a (mR : Int) (mS : Int) (l : Int) (r : Int) h = some (locL (hitR (tkP (hI h (p + 1)) ρ) mS n r) l, h)
  | 0, r, fuel + 1, l, hr, _, hl => by
    rw [Par_locate_L50, if_pos (by omega)]; rfl
  | n + 1, r, fuel + 1, l, hr, hf, hl => by
    have b2 := s.2.2.2.2.1
    have b3 := s.2.2.2.2.2.1
    have m8 : mS ≤ 8 := by split at hS1 <;> omega
    have m12 : mR ≤ 12 := by split at hR1 <;> omega
    have ih := loc50 s p1 ok hS1 hR1 n (r + 1) fuel
    have k3 := ok.1
    rw [Par_locate_L50, if_neg (by omega), rc_k p1.1, Par_kind_e p1, bnd_some, hitR]
    by_cases e : hI h (p + 1) 0 = 1
    · rw [if_pos e]
      exact loc85 s p1 ok (fun x => absurd e x) (by omega) hS1 (fun l hl => ih l (by omega) (by omega) hl) mS 0 FU l (by omega) (by have := FU_big; omega) hl
    · have r2 : (r : Int) < ρ 2 := by rw [if_neg e] at hR1; omega
      rw [if_neg e, s.t0, rc_k p1.1, s.tR p1, decide_eq_true (show 0 ≤ (r : Int) ∧ (r : Int) < ρ 2 by omega), Bool.true_and, bnd_some, ite_nbi, wr_id (by omega) (by omega), show (r : Int) + 1 = ((r + 1 : Nat) : Int) by omega]
      cases ei : inF (hI h (p + 1)) (numr ρ r) 0
      · rw [if_neg (by decide), ih l (by omega) (by omega) hl, hitS_nil _ _ (fun t => by unfold tkP; rw [ei, decide_eq_false e]; rfl), List.nil_append]
      · rw [if_pos rfl]
        exact loc85 s p1 ok (fun _ => ⟨r2, ei⟩) (by omega) hS1 (fun l hl => ih l (by omega) (by omega) hl) mS 0 FU l (by omega) (by have := FU_big; omega) hl
theorem loc_e (s : ST h a ρ) (p1 : PA h p) (ok : okP (hI h (p + 1))) {mS mR : Nat} (hS1 : (mS : Int) = if hI h (p + 1) 0 = 0 then 1 else ρ 3) (hR1 : (mR : Int) = if hI h (p + 1) 0 = 1 then 1 else ρ 2) {l : Nat} (hl : l < 2147483648) : Par_locate p a (l : Int) h = some (locL (hitR (tkP (hI h (p + 1)) ρ) mS mR 0) l, h) := by
  have b2 := s.2.2.2.2.1
  have e2 : hI h (a + 22) 3 = ρ 2 := s.2.1.2.2.1
  have e3 : hI h (a + 24) 3 = ρ 3 := s.2.1.2.2.2.1
  have m12 : mR ≤ 12 := by split at hR1 <;> omega
  have L := loc50 s p1 ok hS1 hR1 mR 0 FU l (by omega) (by have := FU_big; omega) hl
  have k3 := ok.1
  have L21 : Par_locate_L21 p a (l : Int) (mR : Int) h = some (locL (hitR (tkP (hI h (p + 1)) ρ) mS mR 0) l, h) := by
    unfold Par_locate_L21
    rw [rc_k p1.1, Par_kind_e p1, bnd_some]
    by_cases e : hI h (p + 1) 0 = 0
    · rw [if_pos e] at hS1
      rw [if_neg (by omega), ← hS1]; exact L
    · rw [if_neg e] at hS1
      rw [if_pos e, s.t1, gI_k s.TS.1, e3, ← hS1]; exact L
  unfold Par_locate
  rw [rc_k p1.1, Par_kind_e p1, bnd_some]
  by_cases e : hI h (p + 1) 0 = 1
  · rw [if_pos e] at hR1
    rw [if_neg (by omega), ← hR1]; exact L21
  · rw [if_neg e] at hR1
    rw [if_pos e, s.t0, gI_k s.TR.1, e2, ← hR1]; exact L21
theorem qp_in0 (g : AH) (q : Nat) (c : Int → Int) : inF (qp g q 2) c 0 = inF (qp g q 0) c 0 := rfl
theorem qp_in1 (g : AH) (q : Nat) (c : Int → Int) : inF (qp g q 2) c 1 = inF (qp g q 1) c 1 := rfl
/-- what the class takes is the answer -/
theorem tk_an (m : MR g) {q : Nat} (hq : (q : Int) < hI g 401 10) {π : Nat → Int} (e13 : eq13 π (qp g q (hI g 408 q))) {r t : Nat} (hr : hI g 408 q ≠ 1 → (r : Int) < hI g 402 2) (ht : hI g 408 q ≠ 0 → (t : Int) < hI g 402 3) : tkP π (rr (hI g)) r t = anB g q r t := by
  have b3 := m.2.1.2.2.1
  have b1 := m.2.1.1
  have b2 := m.2.1.2.1
  obtain ⟨c1, c2, c3, c4⟩ := m.2.1.2.2.2.2 q (by omega) hq
  have e0 : π 0 = hI g 408 q := e13 0 (by decide)
  unfold tkP anB
  rw [e0, inF_c e13, inF_c e13]
  rcases c1 with e | e | e
  · rw [e, inF_num _ _ (by omega) (by rw [if_pos rfl]; have := hr (by omega); omega)]; rfl
  · rw [e, inF_num (t := 1) _ _ (by omega) (by rw [if_neg (by decide)]; have := ht (by omega); omega)]
    simp
    rfl
  · have e1 : π 1 = hI g 409 q := by rw [e13 1 (by decide), e]; rfl
    have e2 : π 2 = hI g 410 q := by rw [e13 2 (by decide), e]; rfl
    have cc := c2 e
    have r2 := hr (by omega)
    have t2 := ht (by omega)
    rw [e1, e2, e, inF_num (t := 0) _ _ (by omega) (by rw [if_pos rfl]; omega), inF_num (t := 1) _ _ (by omega) (by rw [if_neg (by decide)]; omega), qp_in0, qp_in1, numr_rr _ (by omega) cc.1.1 (by omega) (by rw [if_neg (by omega)]; omega), numr_rr _ (by omega) (by omega) cc.2.2 (by rw [if_pos (by omega)]; omega)]
    rfl
theorem an_len (m : MR g) {q : Nat} (hq : (q : Int) < hI g 401 10) (ev : rVd g q = false) : (anL g q).length = rowsF (qp g q (hI g 408 q)) (num g) (nR g) (nS g) := by
  have b3 := m.2.1.2.2.1
  obtain ⟨c1, c2, c3, c4⟩ := m.2.1.2.2.2.2 q (by omega) hq
  unfold anL
  rw [ev, if_neg (by decide), hitR_sum]
  unfold rowsF
  rw [show qp g q (hI g 408 q) 0 = hI g 408 q from rfl]
  rcases c1 with e | e | e
  · rw [e, if_pos rfl, if_neg (by decide), if_neg (by decide), sum_1, if_pos rfl]
    unfold rows1
    refine cntR_c (fun r _ _ => ?_)
    unfold anB
    rw [e]; simp
  · rw [e, if_neg (by decide), if_pos rfl, if_neg (by decide), if_neg (by decide), sumR_s, sumR_0, Nat.add_zero]
    unfold rows1
    refine cntR_c (fun r _ _ => ?_)
    unfold anB
    rw [e]; simp
  · rw [e, if_neg (by decide), if_neg (by decide), if_pos (by decide)]
    unfold rows2
    refine sumR_c (fun r _ _ => cntR_c (fun t _ _ => ?_))
    unfold anB
    rw [e, qp_in0, qp_in1]
    show _ = (decide (num g r (hI g 409 q) = num g t (hI g 410 q)) && _)
    generalize inF (qp g q 0) (num g r) 0 = A
    generalize inF (qp g q 1) (num g t) 1 = B
    generalize decide (num g r (hI g 409 q) = num g t (hI g 410 q)) = C
    cases A <;> cases B <;> cases C <;> rfl
theorem answer_ok (q : Int) {row : Int} (hrow : row < 2147483648) (col : Int) : OKC (Bat_answer 16 q row col) (Mod_answer 401 q row col) := by
  refine OKC_look (A := fun g => ansA g q row col) (fun h own g c m => ?_) (fun h m => Mod_answer_e m.1 m.2.1 q row col)
  refine ⟨hI h, ?_, SC.refl _⟩
  have s := c.st
  have b3 := m.2.1.2.2.1
  have nb := nRS m.2.1
  have b1 := m.2.1.1
  have b2 := m.2.1.2.1
  unfold Bat_answer ansA
  rw [rc_k c.fx.1, c.hq, bnd_some, ite_bi, WI_id]
  by_cases a : 0 ≤ q ∧ q < hI g 401 10
  · obtain ⟨Q, rfl⟩ : ∃ k : Nat, q = (k : Int) := ⟨q.toNat, by omega⟩
    rw [decide_eq_true a, if_pos rfl]
    by_cases r1 : -1 ≤ row
    · obtain ⟨q1, q2, q3, q4, q5, q6, q7⟩ := c.2.1.1.2 Q (by omega)
      obtain ⟨d1, d2, d3⟩ := c.2.1.2 Q a.2
      obtain ⟨c1, c2, c3, c4⟩ := m.2.1.2.2.2.2 Q (by omega) a.2
      have e0 : hI h (330 + 9 * Q) (0 : Int).toNat = hI g 408 Q := d1 0 (by decide)
      have e13 : hI h (330 + 9 * Q) (13 : Int).toNat = hI g 413 Q := d1 13 (by decide)
      have pt := q7 (hI g 408 Q).toNat (by omega)
      have wh : Que_whole (329 + 9 * Q) h = some (332 + 9 * Q + 2 * (hI g 408 Q).toNat, h) := by
        unfold Que_whole Que_source
        rw [gR_k q2, q4, rc_k q2, gR_k q2, q3, aI_k q5 (by decide) (by decide), e0, bnd_some, aR_k q6 (by omega) (by omega), pt.1]
      have ep : eq13 (hI h (332 + 9 * Q + 2 * (hI g 408 Q).toNat + 1)) (qp g Q (hI g 408 Q)) := by
        have := d3 (hI g 408 Q).toNat (by omega)
        rw [show (((hI g 408 Q).toNat : Nat) : Int) = hI g 408 Q by omega] at this
        rw [show 332 + 9 * Q + 2 * (hI g 408 Q).toNat + 1 = 333 + 9 * Q + 2 * (hI g 408 Q).toNat by omega]
        exact this
      have hh : rHas g Q (hI g 408 Q) = true := by
        unfold rHas; rw [show ((Q : Nat) : Int).toNat = Q from rfl]; simp
      have okq := qp_ok m.2.1 (q := Q) (k := hI g 408 Q) a.2 (by omega) hh
      have okh := okP_c (fun t ht => (ep t ht).symm) okq
      have ri := s.rowsIn pt.2 okh
      rw [rowsF_c ep, rr_s _ (by decide), rr_s _ (by decide), rowsF_num _ okq nb.1 nb.2] at ri
      have ri' : Par_rowsIn (332 + 9 * Q + 2 * (hI g 408 Q).toNat) 21 h = some (((rowsF (qp g Q (hI g 408 Q)) (num g) (nR g) (nS g) : Nat) : Int), h) := ri
      rw [if_pos r1, if_pos ⟨a, r1⟩, c.qr (by omega), if_neg (by omega), gI_k q2, d2, ite_nbi, gI_k q2, d2, ite_bi, show ((Q : Nat) : Int).toNat = Q from rfl]
      by_cases r0 : row = -1
      · rw [if_neg (by omega), if_pos r0]
        cases ev : rVd g Q
        · rw [if_neg (by decide), rc_k q2, wh, bnd_some, c.way, rc_k pt.2.1, ri', bnd_some, an_len m a.2 ev]
        · have : anL g Q = [] := by unfold anL; rw [ev, if_pos rfl]
          rw [if_pos rfl, this]; rfl
      · rw [if_pos r0, if_neg r0]
        cases ev : rVd g Q
        · rw [if_neg (by decide)]
          obtain ⟨R, rfl⟩ : ∃ k : Nat, row = (k : Int) := ⟨row.toNat, by omega⟩
          rw [show ((R : Nat) : Int).toNat = R from rfl, gR_k q2, q3, aI_k q5 (by decide) (by decide), e13]
          by_cases co : 0 ≤ col ∧ col < hI g 413 Q
          · obtain ⟨C, rfl⟩ : ∃ k : Nat, col = (k : Int) := ⟨col.toNat, by omega⟩
            have cc := c4 C co.2
            have esh : hI h (330 + 9 * Q) (14 + (C : Int)).toNat = hI g 414 (5 * Q + C) := by
              rw [tN (14 + (C : Int)) (14 + C) (by omega), d1 _ (by omega)]
              unfold FM
              rw [if_neg (by omega), if_neg (by omega), if_neg (by omega), if_neg (by omega), if_neg (by omega), if_pos (by omega), show 14 + C - 14 = C by omega]
            have lle : (hitR (tkP (hI h (332 + 9 * Q + 2 * (hI g 408 Q).toNat + 1)) (rr (hI g))) (if hI g 408 Q = 0 then 1 else nS g) (if hI g 408 Q = 1 then 1 else nR g) 0) = anL g Q := by
              have eL : anL g Q = hitR (anB g Q) (if hI g 408 Q = 0 then 1 else nS g) (if hI g 408 Q = 1 then 1 else nR g) 0 := by
                unfold anL; rw [ev]; rfl
              rw [eL]
              refine hitR_c _ _ (fun i t h1 h2 h3 => tk_an m a.2 ep (fun x => ?_) (fun x => ?_))
              · rw [if_neg x] at h2; unfold nR at h2; omega
              · rw [if_neg x] at h3; unfold nS at h3; omega
            have k0 : hI h (332 + 9 * Q + 2 * (hI g 408 Q).toNat + 1) 0 = hI g 408 Q := ep 0 (by decide)
            have big : (anL g Q).length ≤ 96 := by
              rw [an_len m a.2 ev]; exact rowsF_b _ _ nb.1 nb.2
            rw [if_neg (by omega), if_pos co.2, rc_k q2, wh, bnd_some, c.way, rc_k pt.2.1]
            have bigR : R < 2147483648 := by omega
            have hmS : (((if hI g 408 Q = 0 then 1 else nS g) : Nat) : Int) = if hI h (332 + 9 * Q + 2 * (hI g 408 Q).toNat + 1) 0 = 0 then 1 else rr (hI g) 3 := by
              rw [k0, rr_s _ (by decide)]
              by_cases e : hI g 408 Q = 0
              · rw [if_pos e, if_pos e]; rfl
              · rw [if_neg e, if_neg e]; unfold nS; omega
            have hmR : (((if hI g 408 Q = 1 then 1 else nR g) : Nat) : Int) = if hI h (332 + 9 * Q + 2 * (hI g 408 Q).toNat + 1) 0 = 1 then 1 else rr (hI g) 2 := by
              rw [k0, rr_s _ (by decide)]
              by_cases e : hI g 408 Q = 1
              · rw [if_pos e, if_pos e]; rfl
              · rw [if_neg e, if_neg e]; unfold nR; omega
            · have lo := loc_e (mS := if hI g 408 Q = 0 then 1 else nS g) (mR := if hI g 408 Q = 1 then 1 else nR g) s pt.2 okh hmS hmR bigR
              rw [lle] at lo
              rw [lo, bnd_some]
              cases hp : (anL g Q)[R]? with
              | none => rw [locL_none hp]; rfl
              | some x =>
                have xm : x ∈ anL g Q := List.mem_of_getElem? hp
                have xb := anL_m m.2.1 xm
                have xr : (hI g 408 Q ≠ 1 → (x.1 : Int) < hI g 402 2) ∧ (hI g 408 Q ≠ 0 → (x.2 : Int) < hI g 402 3) := by
                  unfold anL at xm
                  rw [ev, if_neg (by decide)] at xm
                  have y := hitR_m xm
                  refine ⟨fun z => ?_, fun z => ?_⟩
                  · have := y.1; rw [if_neg z] at this; unfold nR at this; omega
                  · have := y.2; rw [if_neg z] at this; unfold nS at this; omega
                rw [locL_some hp]
                show (if ¬ (8 * (x.1 : Int) + x.2 = -1) then _ else _) = some ((if 0 ≤ (C : Int) ∧ (C : Int) < hI g 413 Q then (if 3 ≤ hI g 414 (5 * Q + C) then num g x.2 (hI g 414 (5 * Q + C)) else num g x.1 (hI g 414 (5 * Q + C))) else -2), h)
                rw [if_pos (show 0 ≤ (C : Int) ∧ (C : Int) < hI g 413 Q from co)]
                rw [if_pos (by omega), gR_k q2, q3, wr_id (by omega) (by omega), aI_k q5 (by omega) (by omega), esh]
                by_cases c3' : 3 ≤ hI g 414 (5 * Q + C)
                · have x2 := xr.2 (by omega)
                  rw [if_pos c3', c.way, s.t1, if_neg (by decide), rc_k s.TS.1, iRem_e (by omega) (by omega) (by decide) (by decide), show (8 * (x.1 : Int) + x.2) % 8 = x.2 by omega, s.atS (by omega) (by rw [rr_s _ (by decide)]; exact x2) c3' cc.2.1, bnd_some, numr_rr _ (by omega) (by omega) cc.2.1 (by rw [if_pos c3']; omega)]
                  show _ = some ((if 3 ≤ hI g 414 (5 * Q + C) then num g x.2 (hI g 414 (5 * Q + C)) else num g x.1 (hI g 414 (5 * Q + C))), h)
                  rw [if_pos c3']; rfl
                · have x1 := xr.1 (by omega)
                  rw [if_neg c3', c.way, s.t0, if_neg (by decide), rc_k s.TR.1, iDiv_e (by omega) (by omega) (by decide) (by decide), show (8 * (x.1 : Int) + x.2) / 8 = x.1 by omega, s.atR (by omega) (by rw [rr_s _ (by decide)]; exact x1) cc.1 (by omega), bnd_some, numr_rr _ (by omega) cc.1 cc.2.1 (by rw [if_neg c3']; omega)]
                  show _ = some ((if 3 ≤ hI g 414 (5 * Q + C) then num g x.2 (hI g 414 (5 * Q + C)) else num g x.1 (hI g 414 (5 * Q + C))), h)
                  rw [if_neg c3']; rfl
          · have en : (if col < 0 then some ((-2 : Int), h) else (if col < hI g 413 Q then (none : Option (Int × AH)) else some (-2, h))) = some (-2, h) := by
              by_cases c0 : col < 0
              · rw [if_pos c0]
              · rw [if_neg c0, if_neg (by omega)]
            cases hp : (anL g Q)[R]? with
            | none =>
              show _ = some ((-2 : Int), h)
              by_cases c0 : col < 0
              · rw [if_pos c0]
              · rw [if_neg c0, if_neg (show ¬ col < hI g 413 Q by omega)]
            | some x =>
              show _ = some ((if 0 ≤ col ∧ col < hI g 413 Q then (if 3 ≤ hI g 414 (5 * Q + col.toNat) then num g x.2 (hI g 414 (5 * Q + col.toNat)) else num g x.1 (hI g 414 (5 * Q + col.toNat))) else -2), h)
              rw [if_neg co]
              by_cases c0 : col < 0
              · rw [if_pos c0]
              · rw [if_neg c0, if_neg (show ¬ col < hI g 413 Q by omega)]
        · have : anL g Q = [] := by unfold anL; rw [ev, if_pos rfl]
          rw [if_pos rfl, this]; rfl
    · rw [if_neg r1, if_neg (fun x => r1 x.2)]
  · rw [decide_eq_false a, if_neg (by decide), if_neg (fun x => a x.1)]
end K15
