/-! Level 2: the law's loop -/
section P5
variable {h H : AH} {own : Nat → Nat} {L : Nat} {xs : Nat → Int}
/-- one call of both -/
theorem call_1 {B M : AH → Option (Int × AH)} (ok : OKC B M) (j : JV h own) (sd : SD h) (k15 : hK h 15 = (24, L)) (x15 : hI h 15 = xs) : ∃ x H1 H2 own', B h = some (x, H1) ∧ M H1 = some (x, H2) ∧ JV H2 own' ∧ SD H2 ∧ (hK H1 15 = (24, L) ∧ hI H1 15 = xs) ∧ (hK H2 15 = (24, L) ∧ hI H2 15 = xs) ∧ hK H1 401 = (13, 0) ∧ hN H2 ≤ hN h + 548 ∧ hS H2 ≤ hS h + 4000 := by
  obtain ⟨x, H1, H2, own', b1, b2, b3, b4, b5, b6, b7, b8, b9⟩ := ok h own j sd
  exact ⟨x, H1, H2, own', b1, b2, b3, b8, ⟨by rw [b5.1]; exact k15, by rw [b5.2]; exact x15⟩, ⟨by rw [b4.1]; exact k15, by rw [b4.2]; exact x15⟩, by rw [b9]; exact j.2.1.1, b6, b7⟩
set_option maxHeartbeats 40000000 in
theorem law_L (hL : L ≤ 3072) (hx : ∀ j, inR (xs j)) : ∀ (m i fuel : Nat) (h : AH) (own : Nat → Nat), L ≤ i + 6 * m + 5 → i ≤ 4000 → m < fuel → JV h own → SD h → hK h 15 = (24, L) → hI h 15 = xs → ∃ h', Law_law_L18 fuel 15 16 401 (i : Int) h = some (1, h') ∧ hN h' ≤ hN h + 548 * m ∧ hS h' ≤ hS h + 4000 * m := by
  intro m
  induction m with
  | zero =>
    intro i fuel h own hi h4 hf j sd k15 x15
    obtain ⟨fuel, rfl⟩ : ∃ j, fuel = j + 1 := ⟨fuel - 1, by omega⟩
    refine ⟨h, ?_, by omega, by omega⟩
    rw [Law_law_L18, aN_k k15, wr_id (by omega) (by omega), if_pos (by omega)]
  | succ m ih =>
    intro i fuel h own hi h4 hf j sd k15 x15
    obtain ⟨fuel, rfl⟩ : ∃ j, fuel = j + 1 := ⟨fuel - 1, by omega⟩
    have k16 : hK h 16 = (12, 0) := j.1.fx.1
    by_cases lt : L < i + 6
    · refine ⟨h, ?_, by omega, by omega⟩
      rw [Law_law_L18, aN_k k15, wr_id (by omega) (by omega), if_pos (by omega)]
    · have next : ∀ (H : AH) (own' : Nat → Nat), JV H own' → SD H → (hK H 15 = (24, L) ∧ hI H 15 = xs) → hN H ≤ hN h + 548 → hS H ≤ hS h + 4000 → ∃ h', Law_law_L18 fuel 15 16 401 ((i : Int) + 6) H = some (1, h') ∧ hN h' ≤ hN h + 548 * (m + 1) ∧ hS h' ≤ hS h + 4000 * (m + 1) := fun H own' jH sH kH nH sS => by
        obtain ⟨h', y1, y2, y3⟩ := ih (i + 6) fuel H own' (by omega) (by omega) (by omega) jH sH kH.1 kH.2
        refine ⟨h', ?_, by omega, by omega⟩
        rw [show (i : Int) + 6 = ((i + 6 : Nat) : Int) by omega]
        exact y1
      have rd : ∀ (K : AH) (d : Nat) {g : Int → Option (Int × AH)}, (hK K 15 = (24, L) ∧ hI K 15 = xs) → d < 6 → aI K 24 15 ((i : Int) + (d : Int)) g = g (xs (i + d)) := fun K d g hk hd => by
        rw [aI_k hk.1 (by omega) (by omega), tN ((i : Int) + (d : Int)) (i + d) (by omega), hk.2]
      have a1 := fun (K : AH) (g : Int → Option (Int × AH)) hk => rd K 1 (g := g) hk (by decide)
      have a2 := fun (K : AH) (g : Int → Option (Int × AH)) hk => rd K 2 (g := g) hk (by decide)
      have a3 := fun (K : AH) (g : Int → Option (Int × AH)) hk => rd K 3 (g := g) hk (by decide)
      have a4 := fun (K : AH) (g : Int → Option (Int × AH)) hk => rd K 4 (g := g) hk (by decide)
      have a5 := fun (K : AH) (g : Int → Option (Int × AH)) hk => rd K 5 (g := g) hk (by decide)
      rw [show ((1 : Nat) : Int) = 1 from rfl] at a1
      rw [show ((2 : Nat) : Int) = 2 from rfl] at a2
      rw [show ((3 : Nat) : Int) = 3 from rfl] at a3
      rw [show ((4 : Nat) : Int) = 4 from rfl] at a4
      rw [show ((5 : Nat) : Int) = 5 from rfl] at a5
      have kx : hK h 15 = (24, L) ∧ hI h 15 = xs := ⟨k15, x15⟩
      have hr := fun d => hx (i + d)
      rw [Law_law_L18, aN_k k15, wr_id (z := (L : Int) - 6) (by omega) (by omega), if_neg (by omega), aI_k k15 (by omega) (by omega), wr_id (z := (i : Int) + 1) (by omega) (by omega), wr_id (z := (i : Int) + 2) (by omega) (by omega), wr_id (z := (i : Int) + 3) (by omega) (by omega), wr_id (z := (i : Int) + 4) (by omega) (by omega), wr_id (z := (i : Int) + 5) (by omega) (by omega), wr_id (z := (i : Int) + 6) (by omega) (by omega)]
      generalize iAnd (hI h 15 (i : Int).toNat) 63 = c
      by_cases c0 : c = 0
      · obtain ⟨x, H1, H2, own', b1, b2, b3, b4, u1', u2, u3, u4, u5⟩ := call_1 (feed_ok (xs (i + 1)) (xs (i + 2)) (xs (i + 3)) (xs (i + 4)) (xs (i + 5))) j sd k15 x15
        rw [if_pos c0, a1 h _ kx, a2 h _ kx, a3 h _ kx, a4 h _ kx, a5 h _ kx, rc_k k16, b1, bnd_some, a1 H1 _ u1', a2 H1 _ u1', a3 H1 _ u1', a4 H1 _ u1', a5 H1 _ u1', rc_k u3, b2, bnd_some, if_pos rfl]
        exact next H2 own' b3 b4 u2 u4 u5
      rw [if_neg c0]
      by_cases c1 : c = 1
      · obtain ⟨x, H1, H2, own', b1, b2, b3, b4, u1', u2, u3, u4, u5⟩ := call_1 (end_ok (xs (i + 1))) j sd k15 x15
        rw [if_pos c1, a1 h _ kx, rc_k k16, b1, bnd_some, a1 H1 _ u1', rc_k u3, b2, bnd_some, if_pos rfl]
        exact next H2 own' b3 b4 u2 u4 u5
      rw [if_neg c1]
      by_cases c2 : c = 2
      · obtain ⟨x, H1, H2, own', b1, b2, b3, b4, u1', u2, u3, u4, u5⟩ := call_1 (base_ok) j sd k15 x15
        rw [if_pos c2, rc_k k16, b1, bnd_some, rc_k u3, b2, bnd_some, if_pos rfl]
        exact next H2 own' b3 b4 u2 u4 u5
      rw [if_neg c2]
      by_cases c3 : c = 3
      · obtain ⟨x, H1, H2, own', b1, b2, b3, b4, u1', u2, u3, u4, u5⟩ := call_1 (query_ok) j sd k15 x15
        rw [if_pos c3, rc_k k16, b1, bnd_some, rc_k u3, b2, bnd_some, if_pos rfl]
        exact next H2 own' b3 b4 u2 u4 u5
      rw [if_neg c3]
      by_cases c4 : c = 4
      · obtain ⟨x, H1, H2, own', b1, b2, b3, b4, u1', u2, u3, u4, u5⟩ := call_1 (cell_ok (xs (i + 1)) (xs (i + 2)) (xs (i + 3))) j sd k15 x15
        rw [if_pos c4, a1 h _ kx, a2 h _ kx, a3 h _ kx, rc_k k16, b1, bnd_some, a1 H1 _ u1', a2 H1 _ u1', a3 H1 _ u1', rc_k u3, b2, bnd_some, if_pos rfl]
        exact next H2 own' b3 b4 u2 u4 u5
      rw [if_neg c4]
      by_cases c5 : c = 5
      · obtain ⟨x, H1, H2, own', b1, b2, b3, b4, u1', u2, u3, u4, u5⟩ := call_1 (form_ok (xs (i + 1)) (xs (i + 2))) j sd k15 x15
        rw [if_pos c5, a1 h _ kx, a2 h _ kx, rc_k k16, b1, bnd_some, a1 H1 _ u1', a2 H1 _ u1', rc_k u3, b2, bnd_some, if_pos rfl]
        exact next H2 own' b3 b4 u2 u4 u5
      rw [if_neg c5]
      by_cases c6 : c = 6
      · obtain ⟨x, H1, H2, own', b1, b2, b3, b4, u1', u2, u3, u4, u5⟩ := call_1 (digest_ok (xs (i + 1))) j sd k15 x15
        rw [if_pos c6, a1 h _ kx, rc_k k16, b1, bnd_some, a1 H1 _ u1', rc_k u3, b2, bnd_some, if_pos rfl]
        exact next H2 own' b3 b4 u2 u4 u5
      rw [if_neg c6]
      by_cases c7 : c = 7
      · obtain ⟨x, H1, H2, own', b1, b2, b3, b4, u1', u2, u3, u4, u5⟩ := call_1 (alike_ok (xs (i + 1))) j sd k15 x15
        rw [if_pos c7, a1 h _ kx, rc_k k16, b1, bnd_some, a1 H1 _ u1', rc_k u3, b2, bnd_some, if_pos rfl]
        exact next H2 own' b3 b4 u2 u4 u5
      rw [if_neg c7]
      by_cases c8 : c = 8
      · obtain ⟨x, H1, H2, own', b1, b2, b3, b4, u1', u2, u3, u4, u5⟩ := call_1 (answer_ok (xs (i + 1)) (hr 2).2 (xs (i + 3))) j sd k15 x15
        rw [if_pos c8, a1 h _ kx, a2 h _ kx, a3 h _ kx, rc_k k16, b1, bnd_some, a1 H1 _ u1', a2 H1 _ u1', a3 H1 _ u1', rc_k u3, b2, bnd_some, if_pos rfl]
        exact next H2 own' b3 b4 u2 u4 u5
      rw [if_neg c8]
      by_cases c9 : c = 9
      · obtain ⟨x, H1, H2, own', b1, b2, b3, b4, u1', u2, u3, u4, u5⟩ := call_1 (alone_ok (xs (i + 1))) j sd k15 x15
        rw [if_pos c9, a1 h _ kx, rc_k k16, b1, bnd_some, a1 H1 _ u1', rc_k u3, b2, bnd_some, if_pos rfl]
        exact next H2 own' b3 b4 u2 u4 u5
      rw [if_neg c9]
      by_cases c10 : c = 10
      · obtain ⟨x, H1, H2, own', b1, b2, b3, b4, u1', u2, u3, u4, u5⟩ := call_1 (candidates_ok) j sd k15 x15
        rw [if_pos c10, rc_k k16, b1, bnd_some, rc_k u3, b2, bnd_some, if_pos rfl]
        exact next H2 own' b3 b4 u2 u4 u5
      rw [if_neg c10]
      by_cases c11 : c = 11
      · obtain ⟨x, H1, H2, own', b1, b2, b3, b4, u1', u2, u3, u4, u5⟩ := call_1 (candidate_ok (xs (i + 1)) (xs (i + 2))) j sd k15 x15
        rw [if_pos c11, a1 h _ kx, a2 h _ kx, rc_k k16, b1, bnd_some, a1 H1 _ u1', a2 H1 _ u1', rc_k u3, b2, bnd_some, if_pos rfl]
        exact next H2 own' b3 b4 u2 u4 u5
      rw [if_neg c11]
      by_cases c12 : c = 12
      · obtain ⟨x, H1, H2, own', b1, b2, b3, b4, u1', u2, u3, u4, u5⟩ := call_1 (gain_ok (xs (i + 1))) j sd k15 x15
        rw [if_pos c12, a1 h _ kx, rc_k k16, b1, bnd_some, a1 H1 _ u1', rc_k u3, b2, bnd_some, if_pos rfl]
        exact next H2 own' b3 b4 u2 u4 u5
      rw [if_neg c12]
      by_cases c13 : c = 13
      · obtain ⟨x, H1, H2, own', b1, b2, b3, b4, u1', u2, u3, u4, u5⟩ := call_1 (greedy_ok (xs (i + 1))) j sd k15 x15
        rw [if_pos c13, a1 h _ kx, rc_k k16, b1, bnd_some, a1 H1 _ u1', rc_k u3, b2, bnd_some, if_pos rfl]
        exact next H2 own' b3 b4 u2 u4 u5
      rw [if_neg c13]
      by_cases c14 : c = 14
      · obtain ⟨x, H1, H2, own', b1, b2, b3, b4, u1', u2, u3, u4, u5⟩ := call_1 (best_ok (xs (i + 1))) j sd k15 x15
        rw [if_pos c14, a1 h _ kx, rc_k k16, b1, bnd_some, a1 H1 _ u1', rc_k u3, b2, bnd_some, if_pos rfl]
        exact next H2 own' b3 b4 u2 u4 u5
      rw [if_neg c14]
      by_cases c15 : c = 15
      · obtain ⟨x, H1, H2, own', b1, b2, b3, b4, u1', u2, u3, u4, u5⟩ := call_1 (put_ok (xs (i + 1)) (xs (i + 2)) (xs (i + 3)) (xs (i + 4))) j sd k15 x15
        rw [if_pos c15, a1 h _ kx, a2 h _ kx, a3 h _ kx, a4 h _ kx, rc_k k16, b1, bnd_some, a1 H1 _ u1', a2 H1 _ u1', a3 H1 _ u1', a4 H1 _ u1', rc_k u3, b2, bnd_some, if_pos rfl]
        exact next H2 own' b3 b4 u2 u4 u5
      rw [if_neg c15]
      by_cases c16 : c = 16
      · obtain ⟨x, H1, H2, own', b1, b2, b3, b4, u1', u2, u3, u4, u5⟩ := call_1 (remove_ok (xs (i + 1)) (xs (i + 2))) j sd k15 x15
        rw [if_pos c16, a1 h _ kx, a2 h _ kx, rc_k k16, b1, bnd_some, a1 H1 _ u1', a2 H1 _ u1', rc_k u3, b2, bnd_some, if_pos rfl]
        exact next H2 own' b3 b4 u2 u4 u5
      rw [if_neg c16]
      by_cases c17 : c = 17
      · obtain ⟨x, H1, H2, own', b1, b2, b3, b4, u1', u2, u3, u4, u5⟩ := call_1 (change_ok (xs (i + 1)) (xs (i + 2)) (xs (i + 3)) (xs (i + 4))) j sd k15 x15
        rw [if_pos c17, a1 h _ kx, a2 h _ kx, a3 h _ kx, a4 h _ kx, rc_k k16, b1, bnd_some, a1 H1 _ u1', a2 H1 _ u1', a3 H1 _ u1', a4 H1 _ u1', rc_k u3, b2, bnd_some, if_pos rfl]
        exact next H2 own' b3 b4 u2 u4 u5
      rw [if_neg c17]
      by_cases c18 : c = 18
      · obtain ⟨x, H1, H2, own', b1, b2, b3, b4, u1', u2, u3, u4, u5⟩ := call_1 (strike_ok (xs (i + 1))) j sd k15 x15
        rw [if_pos c18, a1 h _ kx, rc_k k16, b1, bnd_some, a1 H1 _ u1', rc_k u3, b2, bnd_some, if_pos rfl]
        exact next H2 own' b3 b4 u2 u4 u5
      rw [if_neg c18]
      by_cases c19 : c = 19
      · obtain ⟨x, H1, H2, own', b1, b2, b3, b4, u1', u2, u3, u4, u5⟩ := call_1 (keep_ok (xs (i + 1))) j sd k15 x15
        rw [if_pos c19, a1 h _ kx, rc_k k16, b1, bnd_some, a1 H1 _ u1', rc_k u3, b2, bnd_some, if_pos rfl]
        exact next H2 own' b3 b4 u2 u4 u5
      rw [if_neg c19]
      by_cases c20 : c = 20
      · obtain ⟨x, H1, H2, own', b1, b2, b3, b4, u1', u2, u3, u4, u5⟩ := call_1 (forget_ok (xs (i + 1))) j sd k15 x15
        rw [if_pos c20, a1 h _ kx, rc_k k16, b1, bnd_some, a1 H1 _ u1', rc_k u3, b2, bnd_some, if_pos rfl]
        exact next H2 own' b3 b4 u2 u4 u5
      rw [if_neg c20]
      by_cases c21 : c = 21
      · obtain ⟨x, H1, H2, own', b1, b2, b3, b4, u1', u2, u3, u4, u5⟩ := call_1 (refresh_ok (xs (i + 1))) j sd k15 x15
        rw [if_pos c21, a1 h _ kx, rc_k k16, b1, bnd_some, a1 H1 _ u1', rc_k u3, b2, bnd_some, if_pos rfl]
        exact next H2 own' b3 b4 u2 u4 u5
      rw [if_neg c21]
      by_cases c22 : c = 22
      · obtain ⟨x, H1, H2, own', b1, b2, b3, b4, u1', u2, u3, u4, u5⟩ := call_1 (run_ok) j sd k15 x15
        rw [if_pos c22, rc_k k16, b1, bnd_some, rc_k u3, b2, bnd_some, if_pos rfl]
        exact next H2 own' b3 b4 u2 u4 u5
      rw [if_neg c22]
      by_cases c23 : c = 23
      · obtain ⟨x, H1, H2, own', b1, b2, b3, b4, u1', u2, u3, u4, u5⟩ := call_1 (undo_ok) j sd k15 x15
        rw [if_pos c23, rc_k k16, b1, bnd_some, rc_k u3, b2, bnd_some, if_pos rfl]
        exact next H2 own' b3 b4 u2 u4 u5
      rw [if_neg c23]
      by_cases c24 : c = 24
      · obtain ⟨x, H1, H2, own', b1, b2, b3, b4, u1', u2, u3, u4, u5⟩ := call_1 (kept_ok (xs (i + 1)) (xs (i + 2))) j sd k15 x15
        rw [if_pos c24, a1 h _ kx, a2 h _ kx, rc_k k16, b1, bnd_some, a1 H1 _ u1', a2 H1 _ u1', rc_k u3, b2, bnd_some, if_pos rfl]
        exact next H2 own' b3 b4 u2 u4 u5
      rw [if_neg c24]
      by_cases c25 : c = 25
      · obtain ⟨x, H1, H2, own', b1, b2, b3, b4, u1', u2, u3, u4, u5⟩ := call_1 (batch_ok) j sd k15 x15
        rw [if_pos c25, rc_k k16, b1, bnd_some, rc_k u3, b2, bnd_some, if_pos rfl]
        exact next H2 own' b3 b4 u2 u4 u5
      rw [if_neg c25]
      by_cases c26 : c = 26
      · obtain ⟨x, H1, H2, own', b1, b2, b3, b4, u1', u2, u3, u4, u5⟩ := call_1 (costs_ok (xs (i + 1))) j sd k15 x15
        rw [if_pos c26, a1 h _ kx, rc_k k16, b1, bnd_some, a1 H1 _ u1', rc_k u3, b2, bnd_some, if_pos rfl]
        exact next H2 own' b3 b4 u2 u4 u5
      rw [if_neg c26]
      by_cases c27 : c = 27
      · obtain ⟨x, H1, H2, own', b1, b2, b3, b4, u1', u2, u3, u4, u5⟩ := call_1 (serves_ok (xs (i + 1)) (xs (i + 2))) j sd k15 x15
        rw [if_pos c27, a1 h _ kx, a2 h _ kx, rc_k k16, b1, bnd_some, a1 H1 _ u1', a2 H1 _ u1', rc_k u3, b2, bnd_some, if_pos rfl]
        exact next H2 own' b3 b4 u2 u4 u5
      rw [if_neg c27]
      by_cases c28 : c = 28
      · obtain ⟨x, H1, H2, own', b1, b2, b3, b4, u1', u2, u3, u4, u5⟩ := call_1 (marks_ok (xs (i + 1)) (xs (i + 2))) j sd k15 x15
        rw [if_pos c28, a1 h _ kx, a2 h _ kx, rc_k k16, b1, bnd_some, a1 H1 _ u1', a2 H1 _ u1', rc_k u3, b2, bnd_some, if_pos rfl]
        exact next H2 own' b3 b4 u2 u4 u5
      rw [if_neg c28]
      by_cases c29 : c = 29
      · obtain ⟨x, H1, H2, own', b1, b2, b3, b4, u1', u2, u3, u4, u5⟩ := call_1 (shared_ok) j sd k15 x15
        rw [if_pos c29, rc_k k16, b1, bnd_some, rc_k u3, b2, bnd_some, if_pos rfl]
        exact next H2 own' b3 b4 u2 u4 u5
      rw [if_neg c29]
      by_cases c30 : c = 30
      · obtain ⟨x, H1, H2, own', b1, b2, b3, b4, u1', u2, u3, u4, u5⟩ := call_1 (residue_ok (xs (i + 1)) (xs (i + 2))) j sd k15 x15
        rw [if_pos c30, a1 h _ kx, a2 h _ kx, rc_k k16, b1, bnd_some, a1 H1 _ u1', a2 H1 _ u1', rc_k u3, b2, bnd_some, if_pos rfl]
        exact next H2 own' b3 b4 u2 u4 u5
      rw [if_neg c30]
      by_cases c31 : c = 31
      · obtain ⟨x, H1, H2, own', b1, b2, b3, b4, u1', u2, u3, u4, u5⟩ := call_1 (drift_ok (xs (i + 1)) (xs (i + 2)) (xs (i + 3)) (xs (i + 4))) j sd k15 x15
        rw [if_pos c31, a1 h _ kx, a2 h _ kx, a3 h _ kx, a4 h _ kx, rc_k k16, b1, bnd_some, a1 H1 _ u1', a2 H1 _ u1', a3 H1 _ u1', a4 H1 _ u1', rc_k u3, b2, bnd_some, if_pos rfl]
        exact next H2 own' b3 b4 u2 u4 u5
      rw [if_neg c31]
      by_cases c32 : c = 32
      · obtain ⟨x, H1, H2, own', b1, b2, b3, b4, u1', u2, u3, u4, u5⟩ := call_1 (seed_ok (hr 1).2) j sd k15 x15
        rw [if_pos c32, a1 h _ kx, rc_k k16, b1, bnd_some, a1 H1 _ u1', rc_k u3, b2, bnd_some, if_pos rfl]
        exact next H2 own' b3 b4 u2 u4 u5
      rw [if_neg c32]
      by_cases c33 : c = 33
      · obtain ⟨x, H1, H2, own', b1, b2, b3, b4, u1', u2, u3, u4, u5⟩ := call_1 (count_ok (xs (i + 1))) j sd k15 x15
        rw [if_pos c33, a1 h _ kx, rc_k k16, b1, bnd_some, a1 H1 _ u1', rc_k u3, b2, bnd_some, if_pos rfl]
        exact next H2 own' b3 b4 u2 u4 u5
      rw [if_neg c33]
      by_cases c34 : c = 34
      · obtain ⟨x, H1, H2, own', b1, b2, b3, b4, u1', u2, u3, u4, u5⟩ := call_1 (image_ok (xs (i + 1))) j sd k15 x15
        rw [if_pos c34, a1 h _ kx, rc_k k16, b1, bnd_some, a1 H1 _ u1', rc_k u3, b2, bnd_some, if_pos rfl]
        exact next H2 own' b3 b4 u2 u4 u5
      rw [if_neg c34]
      by_cases c35 : c = 35
      · obtain ⟨x, H1, H2, own', b1, b2, b3, b4, u1', u2, u3, u4, u5⟩ := call_1 (back_ok (xs (i + 1))) j sd k15 x15
        rw [if_pos c35, a1 h _ kx, rc_k k16, b1, bnd_some, a1 H1 _ u1', rc_k u3, b2, bnd_some, if_pos rfl]
        exact next H2 own' b3 b4 u2 u4 u5
      rw [if_neg c35]
      exact next h own j sd kx (by omega) (by omega)
theorem hlaw : ∀ (L : Nat) (xs : Nat → Int), L ≤ 3072 → (∀ j, inR (xs j)) → ∃ h' : AH, Law_law 15 (h0 L xs) = some (1, h') ∧ hN h' ≤ 600000 ∧ hS h' ≤ 7302250 := by
  intro L xs hL hx
  have big := FU_big
  obtain ⟨H, s1, s2, s3, s4, s5, s6, s7⟩ := start_ok L xs
  obtain ⟨h', y1, y2, y3⟩ := law_L hL hx 512 0 FU H _ (by omega) (by omega) (by omega) s2 s3 s4 s5
  refine ⟨h', ?_, by omega, by omega⟩
  rw [s1]
  exact y1
end P5
