/-! Level 2: a base read by the reference -/
section L6
variable {K H : AH} {n p : Nat} {φ : Int} {T : Nat → Int} {ρ : Nat → Int}
theorem amt_L98 (r : RDM K n T) {q : Nat} (hq : q < 1000) {top v : Int} (hp : p < 2000) : Mod_amount_L98 401 0 top (q : Int) v (S41 K p φ) = some (v, S41 K p (if φ = 0 ∧ (5 < (p : Int) - q ∨ ¬ (0 ≤ v ∧ v ≤ top)) then flt φ q 1 else φ)) := by
  have m := r.1
  unfold Mod_amount_L98
  rw [g_m (s41_m m _ _), s41_20]
  by_cases c : φ = 0
  · rw [if_neg (by omega), g_m (s41_m m _ _), s41_19, wr_id (by omega) (by omega), c_m (s41_m m _ _), fails_e r hq (by decide) (by decide), bnd_some, Mod_in_e, bnd_some, ite_nbi, c_m (s41_m m _ _), fails_e r hq (by decide) (by decide), bnd_some]
    by_cases d : 5 < (p : Int) - q
    · rw [if_pos d, if_pos ⟨c, Or.inl d⟩]
    · rw [if_neg d]
      by_cases e : 0 ≤ v ∧ v ≤ top
      · rw [if_pos (inB_i.mpr e), if_neg (by omega)]
      · rw [if_neg (fun x => e (inB_i.mp x)), if_pos ⟨c, Or.inr e⟩]
  · rw [if_pos c, if_neg (fun x => c x.1)]
/-- a fault stays -/
theorem amt_f (r : RDM K n T) {q : Nat} (hq : q < 1000) {top v : Int} (hp : p < 2000) (hφ : φ ≠ 0) (fuel : Nat) : Mod_amount_L36 (fuel + 1) 401 0 top (q : Int) v (S41 K p φ) = some (v, S41 K p φ) := by
  rw [Mod_amount_L36, g_m (s41_m r.1 _ _), s41_20, if_pos hφ, amt_L98 r hq hp, if_neg (fun x => hφ x.1)]
theorem amt_L (r : RDM K n T) {q : Nat} (hq : q < 1000) {top : Int} (d0 : dl T n q ≠ 0) : ∀ (k i fuel : Nat), n - (q + i) = k → i + dl T n (q + i) = dl T n q → q + i < 1500 → k < fuel → Mod_amount_L36 fuel 401 0 top (q : Int) (nv T q i) (S41 K (q + i) 0) = some (nv T q (dl T n q), S41 K (q + dl T n q) (nFl T n q top 0)) := by
  obtain ⟨m, r4, r5, rT⟩ := id r
  have db := dl_b T n q
  have nb := nv_b T q (dl T n q) (fun j hj => dlp_d T n _ _ j hj)
  have fin : ∀ i, i = dl T n q → Mod_amount_L98 401 0 top (q : Int) (nv T q i) (S41 K (q + i) 0) = some (nv T q (dl T n q), S41 K (q + dl T n q) (nFl T n q top 0)) := fun i hi => by
    rw [hi, amt_L98 r hq (by omega)]
    unfold nFl
    rw [if_neg d0]
    by_cases c : 5 < dl T n q ∨ top < nv T q (dl T n q)
    · rw [if_pos c, if_pos (by omega)]
    · rw [if_neg c, if_neg (by omega)]
  intro k
  induction k with
  | zero =>
    intro i fuel hk hd hi hf
    obtain ⟨fuel, rfl⟩ : ∃ j, fuel = j + 1 := ⟨fuel - 1, by omega⟩
    rw [dl_e _ _ (q + i), if_neg (by omega)] at hd
    rw [Mod_amount_L36, g_m (s41_m m _ _), s41_20, if_neg (by simp), c_m (s41_m m _ _), isDigit_e r (by omega), bnd_some, ite_bi, decide_eq_false (by omega), if_neg (by decide), fin i (by omega)]
  | succ k ih =>
    intro i fuel hk hd hi hf
    obtain ⟨fuel, rfl⟩ : ∃ j, fuel = j + 1 := ⟨fuel - 1, by omega⟩
    have tp := rT (q + i) (by omega)
    rw [dl_e _ _ (q + i)] at hd
    rw [Mod_amount_L36, g_m (s41_m m _ _), s41_20, if_neg (by simp), c_m (s41_m m _ _), isDigit_e r (by omega), bnd_some, ite_bi]
    by_cases c : q + i < n ∧ 48 ≤ T (q + i) ∧ T (q + i) ≤ 57
    · rw [if_pos c] at hd
      have ih := ih (i + 1) fuel (by omega) (by rw [← Nat.add_assoc]; omega) (by omega) (by omega)
      rw [nv, ← Nat.add_assoc] at ih
      have nb := nv_b T q i (fun j hj => dlp_d T n _ q j (by show j < dl T n q; omega))
      rw [decide_eq_true c, if_pos rfl, g_m (s41_m m _ _), s41_19, wr_id (z := ((q + i : Nat) : Int) - q) (by omega) (by omega), g_m (s41_m m _ _), s41_19, p_m (s41_m m _ _), wr_id (z := ((q + i : Nat) : Int) + 1) (by omega) (by omega), show ((q + i : Nat) : Int) + 1 = ((q + i + 1 : Nat) : Int) by omega, s41_p, r_21 (s41_m m _ _), g_m (s41_m m _ _), s41_19, a_415 (s41_m m _ _) (by omega) (by omega), s41_n (by decide), tN ((q + i : Nat) : Int) _ rfl, g_m (s41_m m _ _), s41_19, p_m (s41_m m _ _), wr_id (z := ((q + i : Nat) : Int) + 1) (by omega) (by omega), show ((q + i : Nat) : Int) + 1 = ((q + i + 1 : Nat) : Int) by omega, s41_p, show hI K 415 (q + i) = T (q + i) by omega]
      by_cases e : i < 5
      · rw [if_pos e] at ih
        rw [if_neg (by omega), wr_id (z := 10 * nv T q i) (by omega) (by omega), wr_id (z := 10 * nv T q i + T (q + i)) (by omega) (by omega), wr_id (by omega) (by omega)]
        exact ih
      · rw [if_neg e] at ih
        rw [if_pos (by omega)]
        exact ih
    · rw [if_neg c] at hd
      rw [decide_eq_false c, if_neg (by decide), fin i (by omega)]
theorem amount_0 (r : RDM K n T) (hp : p ≤ 400) (top : Int) : ∃ p' v, Mod_amount 401 0 top (S41 K p 0) = some (v, S41 K p' (nmF T n p top 0)) ∧ p' ≤ 400 ∧ (nmF T n p top 0 = 0 → p' = nmP T n p ∧ v = nmV T n p) := by
  have m := r.1
  have r5 := r.2.2.1
  have qb := sk_b T n p
  have big := FU_big
  unfold Mod_amount nmF nmP nmV
  rw [c_m (s41_m m _ _), sign_e r (by omega), bnd_some]
  generalize sk T n p = q at *
  have db := dl_b T n q
  rw [g_m (s41_m m _ _), s41_19, g_m (s41_m m _ _), s41_20, if_neg (by simp), c_m (s41_m m _ _), isDigit_e r (by omega), bnd_some, ite_nbi, g_m (s41_m m _ _), s41_19, c_m (s41_m m _ _), fails_e r (by omega) (by decide) (by decide), bnd_some]
  by_cases c : q < n ∧ 48 ≤ T q ∧ T q ≤ 57
  · have d0 : dl T n q ≠ 0 := by rw [dl_e, if_pos c]; omega
    refine ⟨q + dl T n q, nv T q (dl T n q), ?_, by omega, fun _ => ⟨rfl, rfl⟩⟩
    rw [decide_eq_true c, if_pos rfl]
    exact amt_L r (by omega) d0 (n - q) 0 FU rfl (by rw [Nat.add_zero]; omega) (by omega) (by omega)
  · have d0 : dl T n q = 0 := by rw [dl_e, if_neg c]
    have e0 : nFl T n q top 0 = flt 0 q 0 := by unfold nFl; rw [if_pos d0]
    rw [e0, decide_eq_false c, if_neg (by decide), show FU = 999999 + 1 from rfl, amt_f r (by omega) (by omega) (flt_n _ _ (by decide))]
    exact ⟨q, 0, rfl, by omega, fun e => absurd e (flt_n _ _ (by decide))⟩
theorem amount_f (r : RDM K n T) (hp : p ≤ 400) (hφ : φ ≠ 0) (top : Int) : ∃ p' v, Mod_amount 401 0 top (S41 K p φ) = some (v, S41 K p' φ) ∧ p' ≤ 400 := by
  have m := r.1
  have r5 := r.2.2.1
  have qb := sk_b T n p
  unfold Mod_amount
  rw [c_m (s41_m m _ _), sign_e r (by omega), bnd_some]
  generalize sk T n p = q at *
  rw [g_m (s41_m m _ _), s41_19, g_m (s41_m m _ _), s41_20, if_pos hφ, show FU = 999999 + 1 from rfl, amt_f r (by omega) (by omega) hφ]
  exact ⟨q, 0, rfl, by omega⟩
end L6
