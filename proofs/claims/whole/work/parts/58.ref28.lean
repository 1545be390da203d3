/-! Level 2: forms, digests, answers -/
/-- what holds of queries besides -/
def QI (h : AH) : Prop := ∀ q : Nat, q < 8 → (q : Int) < hI h 401 10 → (hI h 408 q ≠ 2 → hI h 409 q = -1 ∧ hI h 410 q = -1) ∧ ∀ c, c < 5 → (0 ≤ hI h 411 (5 * q + c) ∧ hI h 411 (5 * q + c) ≤ 9) ∧ (0 ≤ hI h 412 (5 * q + c) ∧ hI h 412 (5 * q + c) ≤ 9)
/-- the form of a query -/
def FM (h : AH) (q w : Nat) : Int := if w = 0 then hI h 408 q else if w = 1 then hI h 409 q else if w = 2 then hI h 410 q else if w ≤ 12 then (if (w - 3) % 2 = 0 then hI h 411 (5 * q + (w - 3) / 2) else hI h 412 (5 * q + (w - 3) / 2)) else if w = 13 then hI h 413 q else if ((w - 14 : Nat) : Int) < hI h 413 q then hI h 414 (5 * q + (w - 14)) else -1
def fmA (h : AH) (q w : Int) : Int := if (0 ≤ q ∧ q < hI h 401 10) ∧ 0 ≤ w ∧ w ≤ 20 then (if w < 19 then FM h q.toNat w.toNat else if w = 19 then bi (rVd h q.toNat) else bi (hasB (hI h 402 4) q)) else -2
def dg (v : Nat → Int) : Nat → Int
  | 0 => 7
  | k + 1 => (31 * dg v k + v k) % 1000003
theorem dg_b (v : Nat → Int) : ∀ k : Nat, 0 ≤ dg v k ∧ dg v k < 1000003
  | 0 => by rw [dg]; decide
  | k + 1 => by rw [dg]; exact ⟨Int.emod_nonneg _ (by decide), Int.emod_lt_of_pos _ (by decide)⟩
def dgv (h : AH) (q w : Nat) : Int := if FM h q w = -1 then 9 else FM h q w
def dgA (h : AH) (q : Int) : Int := if 0 ≤ q ∧ q < hI h 401 10 then dg (dgv h q.toNat) (14 + (hI h 413 q.toNat).toNat) else -1
def alkF (E : Nat → Bool) : Nat → Nat → Nat
  | 0, i => i
  | n + 1, i => if E i then i else alkF E n (i + 1)
def lkB (h : AH) (q i : Nat) : Bool := allR (fun w => decide (FM h i w = FM h q w)) 0 19
def alkA (h : AH) (q : Int) : Int := if 0 ≤ q ∧ q < hI h 401 10 then ((alkF (lkB h q.toNat) q.toNat 0 : Nat) : Int) else -1
section R28
variable {h H : AH}
theorem bnd2 : ∀ k : Nat, k < 10 → iRem (k : Int) 2 = ((k % 2 : Nat) : Int) ∧ iDiv (k : Int) 2 = ((k / 2 : Nat) : Int) := by decide +kernel
theorem Mod_boundOf_e (m : MS h) {q k : Nat} (hq : q < 8) (hk : k < 10) : Mod_boundOf 401 (q : Int) (k : Int) h = some (FM h q (3 + k), h) := by
  have e := bnd2 k hk
  unfold Mod_boundOf FM
  simp only [if_neg (show ¬ (2 : Int) = 0 by decide)]
  rw [e.1, e.2, r_15 m, r_14 m, wr_id (z := 5 * (q : Int)) (by omega) (by omega), wr_id (by omega) (by omega), a_412 m (by omega) (by omega), a_411 m (by omega) (by omega), tN (5 * (q : Int) + ((k / 2 : Nat) : Int)) (5 * q + k / 2) (by omega)]
  rw [if_neg (show ¬ 3 + k = 0 by omega), if_neg (show ¬ 3 + k = 1 by omega), if_neg (show ¬ 3 + k = 2 by omega), if_pos (show 3 + k ≤ 12 by omega), show 3 + k - 3 = k by omega]
  by_cases c : k % 2 = 0
  · rw [if_neg (by omega), if_pos c]
  · rw [if_pos (by omega), if_neg c]
theorem Mod_form_e (m : MS h) (b : MB h) (q w : Int) : Mod_form 401 q w h = some (fmA h q w, h) := by
  have b3 := b.2.2.1
  by_cases e1 : 0 ≤ q ∧ q < hI h 401 10
  · by_cases e2 : 0 ≤ w ∧ w ≤ 20
    · obtain ⟨Q, rfl⟩ : ∃ k : Nat, q = (k : Int) := ⟨q.toNat, by omega⟩
      obtain ⟨W, rfl⟩ : ∃ k : Nat, w = (k : Int) := ⟨w.toNat, by omega⟩
      have ef : fmA h (Q : Int) (W : Int) = if (W : Int) < 19 then FM h Q W else if (W : Int) = 19 then bi (rVd h Q) else bi (hasB (hI h 402 4) Q) := by
        unfold fmA; rw [if_pos ⟨e1, e2⟩]; rfl
      rw [ef]
      unfold Mod_form
      rw [c_m m, Mod_isQuery_e m b, bnd_some, ite_bi, Mod_in_e, bnd_some, ite_nbi, if_pos (decide_eq_true e1), if_pos (inB_i.mpr e2)]
      by_cases c : 3 ≤ W ∧ W ≤ 12
      · have := Mod_boundOf_e m (q := Q) (k := W - 3) (by omega) (by omega)
        rw [show (((W - 3 : Nat)) : Int) = (W : Int) - 3 by omega, show 3 + (W - 3) = W by omega] at this
        rw [if_neg (show ¬ (W : Int) < 3 by omega), if_neg (show ¬ (12 : Int) < (W : Int) by omega), c_m m, wr_id (by omega) (by omega), this, bnd_some, if_pos (show (W : Int) < 19 by omega)]
      · have L : Mod_form_L43 401 (Q : Int) (W : Int) h = some (if (W : Int) < 19 then FM h Q W else if (W : Int) = 19 then bi (rVd h Q) else bi (hasB (hI h 402 4) Q), h) := by
          unfold Mod_form_L43
          rw [r_11 m, a_408 m (by omega) (by omega), r_12 m, a_409 m (by omega) (by omega), r_13 m, a_410 m (by omega) (by omega), r_16 m, a_413 m (by omega) (by omega), c_m m, Mod_isVoid_e m (by omega) (by omega), bnd_some, ite_bi, r_1 m, a_402 m (by decide) (by decide), show (4 : Int).toNat = 4 from rfl, Mod_has_e, bnd_some, ite_bi, r_16 m, a_413 m (by omega) (by omega), r_17 m, tN (Q : Int) Q rfl]
          by_cases w0 : W = 0
          · subst w0; rfl
          · by_cases w1 : W = 1
            · subst w1; rfl
            · by_cases w2 : W = 2
              · subst w2; rfl
              · by_cases w13 : W = 13
                · subst w13; rfl
                · rw [if_neg (show ¬ (W : Int) = 0 by omega), if_neg (show ¬ (W : Int) = 1 by omega), if_neg (show ¬ (W : Int) = 2 by omega), if_neg (show ¬ (W : Int) = 13 by omega)]
                  by_cases w19 : W = 19
                  · subst w19
                    rw [if_pos (show ((19 : Nat) : Int) = 19 from rfl), if_neg (show ¬ ((19 : Nat) : Int) < 19 by decide), if_pos (show ((19 : Nat) : Int) = 19 from rfl)]
                    cases rVd h Q <;> rfl
                  · rw [if_neg (show ¬ (W : Int) = 19 by omega)]
                    by_cases w20 : W = 20
                    · subst w20
                      rw [if_pos (show ((20 : Nat) : Int) = 20 from rfl), if_neg (show ¬ ((20 : Nat) : Int) < 19 by decide), if_neg (show ¬ ((20 : Nat) : Int) = 19 by decide)]
                      cases hasB (hI h 402 4) Q <;> rfl
                    · have eF : FM h Q W = if ((W - 14 : Nat) : Int) < hI h 413 Q then hI h 414 (5 * Q + (W - 14)) else -1 := by
                        unfold FM
                        rw [if_neg w0, if_neg w1, if_neg w2, if_neg (show ¬ W ≤ 12 by omega), if_neg w13]
                      rw [if_neg (show ¬ (W : Int) = 20 by omega), if_pos (show (W : Int) < 19 by omega), wr_id (z := (W : Int) - 14) (by omega) (by omega), wr_id (z := 5 * (Q : Int)) (by omega) (by omega), wr_id (z := 5 * (Q : Int) + W) (by omega) (by omega), wr_id (by omega) (by omega), a_414 m (by omega) (by omega), tN (5 * (Q : Int) + W - 14) (5 * Q + (W - 14)) (by omega), eF]
                      by_cases cs : ((W - 14 : Nat) : Int) < hI h 413 Q
                      · rw [if_neg (show ¬ hI h 413 Q ≤ (W : Int) - 14 by omega), if_pos cs]
                      · rw [if_pos (show hI h 413 Q ≤ (W : Int) - 14 by omega), if_neg cs]
        by_cases c3 : (W : Int) < 3
        · rw [if_pos c3, L]
        · rw [if_neg c3, if_pos (show (12 : Int) < (W : Int) by omega), L]
    · unfold Mod_form fmA
      rw [c_m m, Mod_isQuery_e m b, bnd_some, ite_bi, Mod_in_e, bnd_some, ite_nbi, if_pos (decide_eq_true e1), if_neg (fun x => e2 (inB_i.mp x)), if_neg (fun x => e2 x.2)]
  · unfold Mod_form fmA
    rw [c_m m, Mod_isQuery_e m b, bnd_some, ite_bi, Mod_in_e, bnd_some, ite_nbi, if_neg (by simpa using e1), if_neg (fun x => e1 x.1)]
theorem Mod_digests_e {x v : Int} (h0 : 0 ≤ x) (h1 : x < 1000003) (v0 : 0 ≤ v) (v9 : v ≤ 100) (h : AH) : Mod_digests x v h = some ((31 * x + v) % 1000003, h) := by
  have e0 := Int.emod_nonneg (31 * x + v) (show (1000003 : Int) ≠ 0 by decide)
  have e1 := Int.emod_lt_of_pos (31 * x + v) (show (0 : Int) < 1000003 by decide)
  unfold Mod_digests
  rw [if_neg (by decide), wr64_id (z := 31 * x) (by omega) (by omega), wr64_id (by omega) (by omega), lRem_e (by omega) (by omega) (by decide) (by decide), wr_id (by omega) (by omega)]
theorem dgv_b (b : MB h) (qi : QI h) {q : Nat} (hq : (q : Int) < hI h 401 10) {w : Nat} (hw : (w : Int) < 14 + hI h 413 q) : 0 ≤ dgv h q w ∧ dgv h q w ≤ 9 := by
  have b3 := b.2.2.1
  obtain ⟨c1, c2, c3, c4⟩ := b.2.2.2.2 q (by omega) hq
  obtain ⟨d1, d2⟩ := qi q (by omega) hq
  have z : dgv h q w = 9 ∨ (0 ≤ FM h q w ∧ FM h q w ≤ 9 ∧ dgv h q w = FM h q w) := by
    unfold dgv
    split
    · exact Or.inl rfl
    · rename_i n
      refine Or.inr ⟨?_, ?_, rfl⟩
      all_goals
        unfold FM at *
        by_cases w0 : w = 0
        · rw [if_pos w0]; omega
        · rw [if_neg w0] at *
          by_cases w1 : w = 1
          · rw [if_pos w1] at *
            by_cases s2 : hI h 408 q = 2
            · have := (c2 s2).1; omega
            · have := (d1 s2).1; omega
          · rw [if_neg w1] at *
            by_cases w2 : w = 2
            · rw [if_pos w2] at *
              by_cases s2 : hI h 408 q = 2
              · have := (c2 s2).2; omega
              · have := (d1 s2).2; omega
            · rw [if_neg w2] at *
              by_cases w12 : w ≤ 12
              · rw [if_pos w12] at *
                have := d2 ((w - 3) / 2) (by omega)
                split <;> omega
              · rw [if_neg w12] at *
                by_cases w13 : w = 13
                · rw [if_pos w13] at *; omega
                · rw [if_neg w13] at *
                  by_cases cs : ((w - 14 : Nat) : Int) < hI h 413 q
                  · rw [if_pos cs] at *; have := c4 (w - 14) cs; omega
                  · omega
  omega
theorem Mod_digest_e (m : MS h) (b : MB h) (qi : QI h) (q : Int) : Mod_digest 401 q h = some (dgA h q, h) := by
  have b3 := b.2.2.1
  unfold Mod_digest dgA
  rw [c_m m, Mod_isQuery_e m b, bnd_some, ite_nbi]
  by_cases e : 0 ≤ q ∧ q < hI h 401 10
  · obtain ⟨Q, rfl⟩ : ∃ k : Nat, q = (k : Int) := ⟨q.toNat, by omega⟩
    have q8 : Q < 8 := by omega
    obtain ⟨c1, c2, c3, c4⟩ := b.2.2.2.2 Q q8 e.2
    have vb := fun {w : Nat} (hw : (w : Int) < 14 + hI h 413 Q) => dgv_b b qi e.2 hw
    have st : ∀ {w : Nat} {v : Int}, (w : Int) < 14 + hI h 413 Q → v = dgv h Q w → Mod_digests (dg (dgv h Q) w) v h = some (dg (dgv h Q) (w + 1), h) := fun {w v} hw hv => by
      have := vb hw
      have := dg_b (dgv h Q) w
      rw [hv, Mod_digests_e (by omega) (by omega) (by omega) (by omega)]; rfl
    rw [if_pos (decide_eq_true e), if_pos e, show ((Q : Nat) : Int).toNat = Q from rfl, r_11 m, a_408 m (by omega) (by omega), tN (Q : Int) Q rfl]
    have v0 : hI h 408 Q = dgv h Q 0 := by unfold dgv FM; rw [if_pos rfl, if_neg (by omega)]
    rw [show (7 : Int) = dg (dgv h Q) 0 from rfl, st (by omega) v0, bnd_some, r_12 m, a_409 m (by omega) (by omega), r_12 m, a_409 m (by omega) (by omega), tN (Q : Int) Q rfl]
    have L112 : ∀ (n j : Nat), (j : Int) + n = hI h 413 Q → ∀ fuel, n < fuel → Mod_digest_L112 fuel 401 (Q : Int) (dg (dgv h Q) (14 + j)) (j : Int) h = some (dg (dgv h Q) (14 + (hI h 413 Q).toNat), h) := by
      intro n
      induction n with
      | zero =>
        intro j hj fuel hf
        obtain ⟨fuel, rfl⟩ : ∃ k, fuel = k + 1 := ⟨fuel - 1, by omega⟩
        rw [Mod_digest_L112, r_16 m, a_413 m (by omega) (by omega), tN (Q : Int) Q rfl, if_pos (by omega), show (hI h 413 Q).toNat = j by omega]
      | succ n ih =>
        intro j hj fuel hf
        obtain ⟨fuel, rfl⟩ : ∃ k, fuel = k + 1 := ⟨fuel - 1, by omega⟩
        have c4j := c4 j (by omega)
        rw [Mod_digest_L112, r_16 m, a_413 m (by omega) (by omega), tN (Q : Int) Q rfl, if_neg (by omega), r_17 m, wr_id (z := 5 * (Q : Int)) (by omega) (by omega), wr_id (by omega) (by omega), a_414 m (by omega) (by omega), tN (5 * (Q : Int) + j) (5 * Q + j) (by omega), st (w := 14 + j) (by omega) (by
          unfold dgv FM
          rw [if_neg (show ¬ 14 + j = 0 by omega), if_neg (show ¬ 14 + j = 1 by omega), if_neg (show ¬ 14 + j = 2 by omega), if_neg (show ¬ 14 + j ≤ 12 by omega), if_neg (show ¬ 14 + j = 13 by omega), show 14 + j - 14 = j by omega, if_pos (show (j : Int) < hI h 413 Q by omega), if_neg (by omega)]), bnd_some, wr_id (by omega) (by omega), show (j : Int) + 1 = ((j + 1 : Nat) : Int) by omega]
        exact ih (j + 1) (by omega) fuel (by omega)
    have L76 : ∀ (n j : Nat), j + n = 10 → ∀ fuel, n < fuel → Mod_digest_L76 fuel 401 (Q : Int) (dg (dgv h Q) (3 + j)) (j : Int) h = some (dg (dgv h Q) (14 + (hI h 413 Q).toNat), h) := by
      intro n
      induction n with
      | zero =>
        intro j hj fuel hf
        obtain ⟨fuel, rfl⟩ : ∃ k, fuel = k + 1 := ⟨fuel - 1, by omega⟩
        rw [Mod_digest_L76, if_pos (by omega), r_16 m, a_413 m (by omega) (by omega), tN (Q : Int) Q rfl, show 3 + j = 13 by omega, st (w := 13) (by omega) (by
          show hI h 413 Q = if hI h 413 Q = -1 then 9 else hI h 413 Q
          rw [if_neg (by omega)]), bnd_some]
        exact L112 (hI h 413 Q).toNat 0 (by omega) FU (by have := FU_big; omega)
      | succ n ih =>
        intro j hj fuel hf
        obtain ⟨fuel, rfl⟩ : ∃ k, fuel = k + 1 := ⟨fuel - 1, by omega⟩
        have d2 := (qi Q q8 e.2).2 (j / 2) (by omega)
        rw [Mod_digest_L76, if_neg (by omega), c_m m, Mod_boundOf_e m q8 (by omega), bnd_some, st (w := 3 + j) (by omega) (by
          unfold dgv
          rw [if_neg (fun x => by
            unfold FM at x
            rw [if_neg (show ¬ 3 + j = 0 by omega), if_neg (show ¬ 3 + j = 1 by omega), if_neg (show ¬ 3 + j = 2 by omega), if_pos (show 3 + j ≤ 12 by omega), show 3 + j - 3 = j by omega] at x
            split at x <;> omega)]), bnd_some, wr_id (by omega) (by omega), show (j : Int) + 1 = ((j + 1 : Nat) : Int) by omega]
        exact ih (j + 1) (by omega) fuel (by omega)
    have L76' := L76 10 0 (by omega) FU (by decide)
    rw [show ((0 : Nat) : Int) = 0 from rfl, show 3 + 0 = 3 from rfl] at L76'
    have L44 : ∀ v, v = dgv h Q 1 → Mod_digest_L44 401 (Q : Int) v (dg (dgv h Q) 1) h = some (dg (dgv h Q) (14 + (hI h 413 Q).toNat), h) := fun v hv => by
      unfold Mod_digest_L44
      rw [st (by omega) hv, bnd_some, r_13 m, a_410 m (by omega) (by omega), r_13 m, a_410 m (by omega) (by omega), tN (Q : Int) Q rfl]
      by_cases c : hI h 410 Q = -1
      · rw [if_neg (by simpa using c), st (w := 2) (by omega) (by show 9 = if hI h 410 Q = -1 then 9 else hI h 410 Q; rw [if_pos c]), bnd_some]
        exact L76'
      · rw [if_pos c, st (w := 2) (by omega) (by show hI h 410 Q = if hI h 410 Q = -1 then 9 else hI h 410 Q; rw [if_neg c]), bnd_some]
        exact L76'
    by_cases c : hI h 409 Q = -1
    · rw [if_neg (by simpa using c)]
      exact L44 9 (by show 9 = if hI h 409 Q = -1 then 9 else hI h 409 Q; rw [if_pos c])
    · rw [if_pos c]
      exact L44 _ (by show hI h 409 Q = if hI h 409 Q = -1 then 9 else hI h 409 Q; rw [if_neg c])
  · rw [if_neg (by simpa using e), if_neg e]
theorem Mod_areAlike_e (m : MS h) (b : MB h) {i q : Nat} (hi : (i : Int) < hI h 401 10) (hq : (q : Int) < hI h 401 10) : Mod_areAlike 401 (i : Int) (q : Int) h = some (bi (lkB h q i), h) := by
  have ff : ∀ {x w : Nat}, (x : Int) < hI h 401 10 → w < 19 → fmA h (x : Int) (w : Int) = FM h x w := fun {x w} hx hw => by
    unfold fmA; rw [if_pos (by omega), if_pos (by omega)]; rfl
  have L : ∀ (n w : Nat), w + n = 19 → ∀ fuel, n < fuel → Mod_areAlike_L2 fuel 401 (i : Int) (q : Int) (w : Int) h = some (bi (allR (fun w => decide (FM h i w = FM h q w)) w n), h) := by
    intro n
    induction n with
    | zero =>
      intro w hw fuel hf
      obtain ⟨fuel, rfl⟩ : ∃ k, fuel = k + 1 := ⟨fuel - 1, by omega⟩
      rw [Mod_areAlike_L2, if_pos (by omega)]; rfl
    | succ n ih =>
      intro w hw fuel hf
      obtain ⟨fuel, rfl⟩ : ∃ k, fuel = k + 1 := ⟨fuel - 1, by omega⟩
      rw [Mod_areAlike_L2, if_neg (by omega), c_m m, Mod_form_e m b, bnd_some, c_m m, Mod_form_e m b, bnd_some, ff hi (by omega), ff hq (by omega), wr_id (by omega) (by omega), show (w : Int) + 1 = ((w + 1 : Nat) : Int) by omega, ih (w + 1) (by omega) fuel (by omega), allR_s]
      by_cases c : FM h i w = FM h q w
      · rw [if_pos c, decide_eq_true c, Bool.true_and]
      · rw [if_neg c, decide_eq_false c]; rfl
  exact L 19 0 rfl FU (by decide)
theorem Mod_alike_e (m : MS h) (b : MB h) (q : Int) : Mod_alike 401 q h = some (alkA h q, h) := by
  have b3 := b.2.2.1
  unfold Mod_alike alkA
  rw [c_m m, Mod_isQuery_e m b, bnd_some, ite_nbi]
  by_cases e : 0 ≤ q ∧ q < hI h 401 10
  · obtain ⟨Q, rfl⟩ : ∃ k : Nat, q = (k : Int) := ⟨q.toNat, by omega⟩
    rw [if_pos (decide_eq_true e), if_pos e, show ((Q : Nat) : Int).toNat = Q from rfl]
    have self : lkB h Q Q = true := by
      unfold lkB allR; simp
    have L : ∀ (n i : Nat), i + n = Q → ∀ fuel, n < fuel → Mod_alike_L12 fuel 401 (Q : Int) (i : Int) h = some (((alkF (lkB h Q) n i : Nat) : Int), h) := by
      intro n
      induction n with
      | zero =>
        intro i hi fuel hf
        obtain ⟨fuel, rfl⟩ : ∃ k, fuel = k + 1 := ⟨fuel - 1, by omega⟩
        have : i = Q := by omega
        subst this
        rw [Mod_alike_L12, c_m m, Mod_areAlike_e m b e.2 e.2, bnd_some, self, bi_t, if_pos (by decide)]; rfl
      | succ n ih =>
        intro i hi fuel hf
        obtain ⟨fuel, rfl⟩ : ∃ k, fuel = k + 1 := ⟨fuel - 1, by omega⟩
        rw [Mod_alike_L12, c_m m, Mod_areAlike_e m b (by omega) e.2, bnd_some, ite_nbi, wr_id (by omega) (by omega), show (i : Int) + 1 = ((i + 1 : Nat) : Int) by omega, ih (i + 1) (by omega) fuel (by omega), alkF]
        cases lkB h Q i <;> rfl
    exact L Q 0 (by omega) FU (by have := FU_big; omega)
  · rw [if_neg (by simpa using e), if_neg e]
/-- the rows of an answer, in order -/
def hitS (P : Nat → Nat → Bool) (r : Nat) : Nat → Nat → List (Nat × Nat)
  | 0, _ => []
  | n + 1, s => if P r s then (r, s) :: hitS P r n (s + 1) else hitS P r n (s + 1)
def hitR (P : Nat → Nat → Bool) (mS : Nat) : Nat → Nat → List (Nat × Nat)
  | 0, _ => []
  | n + 1, r => hitS P r mS 0 ++ hitR P mS n (r + 1)
def anB (h : AH) (q r s : Nat) : Bool := (decide (hI h 408 q = 1) || inF (qp h q 0) (num h r) 0) && ((decide (hI h 408 q = 0) || inF (qp h q 1) (num h s) 1) && (decide (hI h 408 q < 2) || decide (num h r (hI h 409 q) = num h s (hI h 410 q))))
theorem Mod_isAnswer_e (m : MS h) (b : MB h) {q r s : Nat} (hq : (q : Int) < hI h 401 10) (hr : r < 12) (hs : s < 8) : Mod_isAnswer 401 (q : Int) (r : Int) (s : Int) h = some (bi (anB h q r s), h) := by
  have b3 := b.2.2.1
  have q8 : q < 8 := by omega
  obtain ⟨c1, c2, -⟩ := b.2.2.2.2 q q8 hq
  have f56 : ∀ v w : Bool, (v && w) = w → Mod_isAnswer_L56 401 (q : Int) (r : Int) (s : Int) (bi v) h = some (bi (v && (decide (hI h 408 q < 2) || decide (num h r (hI h 409 q) = num h s (hI h 410 q)))), h) := fun v w _ => by
    unfold Mod_isAnswer_L56
    rw [ite_bi]
    cases v
    · rfl
    · rw [if_pos rfl, r_11 m, a_408 m (by omega) (by omega), tN (q : Int) q rfl, Bool.true_and]
      by_cases d : hI h 408 q < 2
      · rw [if_pos d, decide_eq_true d]; rfl
      · have cc := c2 (by omega)
        rw [if_neg d, decide_eq_false d, Bool.false_or, r_12 m, a_409 m (by omega) (by omega), tN (q : Int) q rfl, c_m m, Mod_numR m (by omega) (by omega) cc.1.1 cc.1.2, bnd_some, r_13 m, a_410 m (by omega) (by omega), tN (q : Int) q rfl, c_m m, Mod_numS m (by omega) (by omega) cc.2.1 cc.2.2, bnd_some]
        by_cases x : num h r (hI h 409 q) = num h s (hI h 410 q)
        · rw [if_neg (by simpa using x), decide_eq_true x]; rfl
        · rw [if_pos x, decide_eq_false x]; rfl
  have g56 : ∀ v : Bool, Mod_isAnswer_L56 401 (q : Int) (r : Int) (s : Int) (bi v) h = some (bi (v && (decide (hI h 408 q < 2) || decide (num h r (hI h 409 q) = num h s (hI h 410 q)))), h) := fun v => f56 v false (by simp)
  have a0 := g56 false
  have a1 := g56 true
  rw [bi_f] at a0
  rw [bi_t] at a1
  have g25 : ∀ v : Bool, Mod_isAnswer_L25 401 (q : Int) (r : Int) (s : Int) (bi v) h = some (bi (v && ((decide (hI h 408 q = 0) || inF (qp h q 1) (num h s) 1) && (decide (hI h 408 q < 2) || decide (num h r (hI h 409 q) = num h s (hI h 410 q))))), h) := fun v => by
    unfold Mod_isAnswer_L25
    rw [ite_bi]
    cases v
    · rw [if_neg (by decide), a0]; rfl
    · rw [if_pos rfl, r_11 m, a_408 m (by omega) (by omega), tN (q : Int) q rfl, Bool.true_and]
      by_cases d : hI h 408 q = 0
      · rw [if_pos d, a1, decide_eq_true d, Bool.true_or]
      · rw [if_neg d, decide_eq_false d, Bool.false_or, c_m m, Mod_isIn_e m q8 (Or.inr rfl) (by omega) (by rw [if_neg (by decide)]; omega), bnd_some, ite_bi]
        cases inF (qp h q 1) (num h s) 1
        · rw [if_neg (by decide), a0]
        · rw [if_pos rfl, a1]
  have b0 := g25 false
  have b1 := g25 true
  rw [bi_f] at b0
  rw [bi_t] at b1
  unfold Mod_isAnswer anB
  rw [r_11 m, a_408 m (by omega) (by omega), tN (q : Int) q rfl]
  by_cases d : hI h 408 q = 1
  · rw [if_pos d, b1, decide_eq_true d, Bool.true_or]
  · rw [if_neg d, decide_eq_false d, Bool.false_or, c_m m, Mod_isIn_e m q8 (Or.inl rfl) (by omega) (by rw [if_pos rfl]; omega), bnd_some, ite_bi]
    cases inF (qp h q 0) (num h r) 0
    · rw [if_neg (by decide), b0]
    · rw [if_pos rfl, b1]
/-- what is found so far -/
def FN (H : AH) (row : Int) (acc : List (Nat × Nat)) : Prop := ∀ p, 0 ≤ row → acc[row.toNat]? = some p → hI H 401 24 = p.1 ∧ hI H 401 25 = p.2
theorem answers_i (m : MS h) (b : MB h) {q mS r : Nat} (hq : (q : Int) < hI h 401 10) (hr : r < 12) (hS8 : mS ≤ 8) {row mR : Int} (K : Nat → Int → Int → Int → Int → Int → Int → AH → Option (Int × AH)) : ∀ (n s F : Nat) (H : AH) (acc : List (Nat × Nat)), s + n = mS → n < F → RF h H → FN H row acc → acc.length ≤ 8 * r + s → ∃ H', RF h H' ∧ FN H' row (acc ++ hitS (anB h q) r n s) ∧ Mod_answersTo_L65 K F 401 (q : Int) row mR (mS : Int) (acc.length : Int) (r : Int) (s : Int) H = K 401 (q : Int) row mR (mS : Int) ((acc ++ hitS (anB h q) r n s).length : Int) ((r + 1 : Nat) : Int) H'
  | 0, s, F + 1, H, acc, hs, _, rf, fn, la => by
    refine ⟨H, rf, by rw [hitS, List.append_nil]; exact fn, ?_⟩
    rw [Mod_answersTo_L65, if_pos (by omega), wr_id (by omega) (by omega), show (r : Int) + 1 = ((r + 1 : Nat) : Int) by omega, hitS, List.append_nil]
  | n + 1, s, F + 1, H, acc, hs, hF, rf, fn, la => by
    have mH := rf.ms m
    have bH := rf.mb b
    have ea : anB H q r s = anB h q r s := by unfold anB; rw [rf.eqp, rf.enum, rf.i (a := 408) (by decide), rf.i (a := 409) (by decide), rf.i (a := 410) (by decide)]
    rw [Mod_answersTo_L65, if_neg (by omega), c_m mH, Mod_isAnswer_e mH bH (by rw [rf.q]; exact hq) hr (by omega), bnd_some, ite_bi, ea, wr_id (z := (s : Int) + 1) (by omega) (by omega), show (s : Int) + 1 = ((s + 1 : Nat) : Int) by omega, hitS]
    cases e : anB h q r s
    · rw [if_neg (by decide), if_neg (by decide)]
      exact answers_i m b hq hr hS8 K n (s + 1) F H acc (by omega) (by omega) rf fn (by omega)
    · rw [if_pos rfl, if_pos rfl]
      unfold Mod_answersTo_L100
      have la1 : (acc ++ [(r, s)]).length = acc.length + 1 := by simp
      have key : ∀ x y : Int, (0 ≤ row → row = acc.length → x = r ∧ y = s) → (¬ row = acc.length → x = hI H 401 24 ∧ y = hI H 401 25) → ∃ H', RF h H' ∧ FN H' row (acc ++ (r, s) :: hitS (anB h q) r n (s + 1)) ∧ Mod_answersTo_L65 K F 401 (q : Int) row mR (mS : Int) ((acc.length : Int) + 1) (r : Int) ((s + 1 : Nat) : Int) (sI (sI H 401 24 x) 401 25 y) = K 401 (q : Int) row mR (mS : Int) ((acc ++ (r, s) :: hitS (anB h q) r n (s + 1)).length : Int) ((r + 1 : Nat) : Int) H' := fun x y h1 h2 => by
        have rf2 : RF h (sI (sI H 401 24 x) 401 25 y) := (rf.trans (RF_sI _ _ (by decide) (by decide) (by decide))).trans (RF_sI _ _ (by decide) (by decide) (by decide))
        obtain ⟨H', y1, y2, y3⟩ := answers_i m b hq hr hS8 (row := row) (mR := mR) K n (s + 1) F (sI (sI H 401 24 x) 401 25 y) (acc ++ [(r, s)]) (by omega) (by omega) rf2 (by
          intro p p0 hp
          rw [hI_sId _ _ (by decide), hI_sIs, hI_sIs]
          by_cases c : row = acc.length
          · obtain ⟨z1, z2⟩ := h1 p0 c
            rw [show row.toNat = acc.length by omega, List.getElem?_append_right (Nat.le_refl _), Nat.sub_self] at hp
            have : p = (r, s) := by simpa using hp.symm
            rw [this, z1, z2]; exact ⟨rfl, rfl⟩
          · obtain ⟨z1, z2⟩ := h2 c
            have hl : row.toNat < (acc ++ [(r, s)]).length := (List.getElem?_eq_some_iff.mp hp).1
            rw [la1] at hl
            rw [List.getElem?_append_left (by omega)] at hp
            rw [z1, z2]; exact fn p p0 hp) (by rw [la1]; omega)
        refine ⟨H', y1, ?_, ?_⟩
        · simpa using y2
        · rw [la1, show ((acc.length + 1 : Nat) : Int) = (acc.length : Int) + 1 by omega] at y3
          rw [y3]
          congr 1
          simp
      rw [wr_id (z := (acc.length : Int) + 1) (by omega) (by omega), wr_id (z := (s : Int) + 1) (by omega) (by omega), show (s : Int) + 1 = ((s + 1 : Nat) : Int) by omega]
      by_cases c : (acc.length : Int) = row
      · rw [if_neg (by simpa using c)]
        rw [p_m mH, if_neg (by simpa using c), p_m ((rf.trans (RF_sI _ _ (by decide) (by decide) (by decide))).ms m)]
        exact key r s (fun _ _ => ⟨rfl, rfl⟩) (fun x => absurd c.symm x)
      · rw [if_pos c, g_m mH, p_m mH, if_pos c, g_m ((rf.trans (RF_sI _ _ (by decide) (by decide) (by decide))).ms m), p_m ((rf.trans (RF_sI _ _ (by decide) (by decide) (by decide))).ms m), hI_sId _ _ (by decide)]
        exact key _ _ (fun _ x => absurd x.symm c) (fun _ => ⟨rfl, rfl⟩)
theorem hitS_len (P : Nat → Nat → Bool) (r : Nat) : ∀ n s, (hitS P r n s).length ≤ n
  | 0, _ => by simp [hitS]
  | n + 1, s => by
    have := hitS_len P r n (s + 1)
    rw [hitS]; split
    · simp; omega
    · omega
theorem answers_o (m : MS h) (b : MB h) {q mS mR : Nat} (hq : (q : Int) < hI h 401 10) (hv : rVd h q = false) (hS8 : mS ≤ 8) (hR : mR ≤ 12) {row : Int} : ∀ (n r F : Nat) (H : AH) (acc : List (Nat × Nat)), r + n = mR → n < F → RF h H → FN H row acc → acc.length ≤ 8 * r → ∃ H', RF h H' ∧ FN H' row (acc ++ hitR (anB h q) mS n r) ∧ Mod_answersTo_L48 F 401 (q : Int) row (mR : Int) (mS : Int) (acc.length : Int) (r : Int) H = some (((acc ++ hitR (anB h q) mS n r).length : Int), H')
  | 0, r, F + 1, H, acc, hr, _, rf, fn, la => by
    refine ⟨H, rf, by rw [hitR, List.append_nil]; exact fn, ?_⟩
    rw [Mod_answersTo_L48, if_pos (by omega), hitR, List.append_nil]
  | n + 1, r, F + 1, H, acc, hr, hF, rf, fn, la => by
    have mH := rf.ms m
    have b3 := b.2.2.1
    have big := FU_big
    obtain ⟨H1, rf1, fn1, e1⟩ := answers_i m b hq (r := r) (by omega) hS8 (row := row) (mR := (mR : Int)) (Mod_answersTo_L48 F) mS 0 FU H acc (by omega) (by omega) rf fn (by omega)
    have hl := hitS_len (anB h q) r mS 0
    obtain ⟨H2, rf2, fn2, e2⟩ := answers_o m b hq hv hS8 hR (row := row) n (r + 1) F H1 (acc ++ hitS (anB h q) r mS 0) (by omega) (by omega) rf1 fn1 (by rw [List.length_append]; omega)
    refine ⟨H2, rf2, by rw [hitR, ← List.append_assoc]; exact fn2, ?_⟩
    rw [show ((0 : Nat) : Int) = 0 from rfl] at e1
    rw [Mod_answersTo_L48, if_neg (by omega), c_m mH, Mod_isVoid_e mH (by omega) (by omega), bnd_some, ite_nbi, rf.vd, hv, if_neg (by decide), e1, e2, hitR, ← List.append_assoc]
/-- the rows of the answer of a query -/
def anL (h : AH) (q : Nat) : List (Nat × Nat) := if rVd h q then [] else hitR (anB h q) (if hI h 408 q = 0 then 1 else nS h) (if hI h 408 q = 1 then 1 else nR h) 0
def ansA (h : AH) (q row col : Int) : Int := if (0 ≤ q ∧ q < hI h 401 10) ∧ -1 ≤ row then (if row = -1 then ((anL h q.toNat).length : Int) else match (anL h q.toNat)[row.toNat]? with
  | none => -2
  | some p => if 0 ≤ col ∧ col < hI h 413 q.toNat then (if 3 ≤ hI h 414 (5 * q.toNat + col.toNat) then num h p.2 (hI h 414 (5 * q.toNat + col.toNat)) else num h p.1 (hI h 414 (5 * q.toNat + col.toNat))) else -2) else -2
theorem hitS_m {P : Nat → Nat → Bool} {r : Nat} : ∀ {n s : Nat} {p : Nat × Nat}, p ∈ hitS P r n s → p.1 = r ∧ p.2 < s + n
  | 0, _, _, hp => by simp [hitS] at hp
  | n + 1, s, p, hp => by
    rw [hitS] at hp
    split at hp
    · rcases List.mem_cons.mp hp with e | e
      · rw [e]; exact ⟨rfl, by show s < _; omega⟩
      · have := hitS_m e; exact ⟨this.1, by omega⟩
    · have := hitS_m hp; exact ⟨this.1, by omega⟩
theorem hitR_m {P : Nat → Nat → Bool} {mS : Nat} : ∀ {n r : Nat} {p : Nat × Nat}, p ∈ hitR P mS n r → p.1 < r + n ∧ p.2 < mS
  | 0, _, _, hp => by simp [hitR] at hp
  | n + 1, r, p, hp => by
    rw [hitR] at hp
    rcases List.mem_append.mp hp with e | e
    · have := hitS_m e; omega
    · have := hitR_m e; omega
theorem anL_m (b : MB h) {q : Nat} {p : Nat × Nat} (hp : p ∈ anL h q) : p.1 < 12 ∧ p.2 < 8 := by
  have := nRS b
  unfold anL at hp
  split at hp
  · simp at hp
  · have x := hitR_m hp
    constructor
    · have : (if hI h 408 q = 1 then 1 else nR h) ≤ 12 := by split <;> omega
      omega
    · have : (if hI h 408 q = 0 then 1 else nS h) ≤ 8 := by split <;> omega
      omega
theorem Mod_answersTo_e (m : MS h) (b : MB h) {q : Nat} (hq : (q : Int) < hI h 401 10) (row : Int) : ∃ H', RF h H' ∧ FN H' row (anL h q) ∧ Mod_answersTo 401 (q : Int) row h = some (((anL h q).length : Int), H') := by
  have b3 := b.2.2.1
  have nb := nRS b
  obtain ⟨b1, b2, -⟩ := id b
  have big := FU_big
  have key : ∀ mR mS : Nat, mR ≤ 12 → mS ≤ 8 → (rVd h q = false → hitR (anB h q) mS mR 0 = anL h q) → ∃ H', RF h H' ∧ FN H' row (anL h q) ∧ Mod_answersTo_L48 FU 401 (q : Int) row (mR : Int) (mS : Int) 0 0 h = some (((anL h q).length : Int), H') := fun mR mS h1 h2 h3 => by
    cases hv : rVd h q
    · obtain ⟨H', y1, y2, y3⟩ := answers_o m b hq hv h2 h1 (row := row) mR 0 FU h [] (by omega) (by omega) (RF.refl h) (by intro p _ hp; simp at hp) (by simp)
      rw [List.nil_append, h3 hv] at y2 y3
      exact ⟨H', y1, y2, y3⟩
    · have : anL h q = [] := by unfold anL; rw [if_pos hv]
      rw [this]
      refine ⟨h, RF.refl h, by intro p _ hp; simp at hp, ?_⟩
      rw [show FU = 999999 + 1 from rfl, Mod_answersTo_L48, c_m m, Mod_isVoid_e m (by omega) (by omega), bnd_some, ite_nbi, hv, if_pos (show true = true from rfl)]
      split <;> rfl
  unfold Mod_answersTo Mod_answersTo_L20
  rw [r_11 m, a_408 m (by omega) (by omega), tN (q : Int) q rfl, r_1 m, a_402 m (by decide) (by decide), show (2 : Int).toNat = 2 from rfl]
  have e2 : hI h 402 2 = ((nR h : Nat) : Int) := by unfold nR; omega
  have e3 : hI h 402 3 = ((nS h : Nat) : Int) := by unfold nS; omega
  rw [r_11 m, a_408 m (by omega) (by omega), tN (q : Int) q rfl, r_1 m, a_402 m (by decide) (by decide), show (3 : Int).toNat = 3 from rfl, e2, e3]
  rw [r_11 m, a_408 m (by omega) (by omega), tN (q : Int) q rfl, r_1 m, a_402 m (by decide) (by decide), show (3 : Int).toNat = 3 from rfl, e3]
  by_cases c1 : hI h 408 q = 1
  · rw [if_neg (by simpa using c1), if_pos (by omega)]
    exact key 1 (nS h) (by decide) nb.2 (fun hv => by unfold anL; rw [hv, if_neg (by decide), if_pos c1, if_neg (by omega)])
  · rw [if_pos c1]
    by_cases c0 : hI h 408 q = 0
    · rw [if_neg (by simpa using c0)]
      exact key (nR h) 1 nb.1 (by decide) (fun hv => by unfold anL; rw [hv, if_neg (by decide), if_pos c0, if_neg c1])
    · rw [if_pos c0]
      exact key (nR h) (nS h) nb.1 nb.2 (fun hv => by unfold anL; rw [hv, if_neg (by decide), if_neg c0, if_neg c1])
theorem Mod_answer_e (m : MS h) (b : MB h) (q row col : Int) : ∃ H, Mod_answer 401 q row col h = some (ansA h q row col, H) ∧ RF h H := by
  have b3 := b.2.2.1
  unfold Mod_answer ansA
  rw [c_m m, Mod_isQuery_e m b, bnd_some, ite_bi]
  by_cases e1 : 0 ≤ q ∧ q < hI h 401 10
  · rw [if_pos (decide_eq_true e1)]
    by_cases e2 : -1 ≤ row
    · obtain ⟨Q, rfl⟩ : ∃ k : Nat, q = (k : Int) := ⟨q.toNat, by omega⟩
      obtain ⟨H, rf, fn, x⟩ := Mod_answersTo_e m b e1.2 row
      obtain ⟨c1, c2, c3, c4⟩ := b.2.2.2.2 Q (by omega) e1.2
      have mH := rf.ms m
      have i13 : hI H 413 = hI h 413 := rf.i (by decide)
      have i14 : hI H 414 = hI h 414 := rf.i (by decide)
      refine ⟨H, ?_, rf⟩
      rw [if_pos e2, if_pos ⟨e1, e2⟩, c_m m, x, bnd_some, show ((Q : Nat) : Int).toNat = Q from rfl]
      by_cases e3 : row = -1
      · rw [if_neg (by simpa using e3), if_pos e3]
      · rw [if_pos e3, if_neg e3]
        by_cases e4 : ((anL h Q).length : Int) ≤ row
        · rw [if_pos e4, List.getElem?_eq_none (by omega)]
        · have hl : row.toNat < (anL h Q).length := by omega
          have hg := List.getElem?_eq_getElem hl
          obtain ⟨f1, f2⟩ := fn _ (by omega) hg
          have mem := anL_m b (List.getElem_mem hl)
          rw [if_neg e4, hg]
          generalize (anL h Q)[row.toNat] = p at *
          rw [r_16 mH, a_413 mH (by omega) (by omega), tN (Q : Int) Q rfl, i13, wr_id (by omega) (by omega), Mod_in_e, bnd_some, ite_nbi]
          show _ = some (if 0 ≤ col ∧ col < hI h 413 Q then _ else -2, H)
          by_cases e5 : 0 ≤ col ∧ col < hI h 413 Q
          · have c4c := c4 col.toNat (by omega)
            rw [if_pos (inB_i.mpr (by omega)), if_pos e5, r_17 mH, wr_id (z := 5 * (Q : Int)) (by omega) (by omega), wr_id (by omega) (by omega), a_414 mH (by omega) (by omega), tN (5 * (Q : Int) + col) (5 * Q + col.toNat) (by omega), i14, g_m mH, g_m mH, f1, f2, c_m mH, c_m mH]
            by_cases e6 : 3 ≤ hI h 414 (5 * Q + col.toNat)
            · rw [if_pos e6, if_pos e6, Mod_numS mH (by omega) (by omega) (by omega) (by omega), bnd_some, rf.enum]
            · rw [if_neg e6, if_neg e6, Mod_numR mH (by omega) (by omega) (by omega) (by omega), bnd_some, rf.enum]
          · rw [if_neg (fun x => e5 (by have := inB_i.mp x; omega)), if_neg e5]
    · exact ⟨h, by rw [if_neg e2, if_neg (fun x => e2 x.2)], RF.refl h⟩
  · exact ⟨h, by rw [if_neg (by simpa using e1), if_neg (fun x => e1 x.1)], RF.refl h⟩
end R28
