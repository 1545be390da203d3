/-! Level 2: kept of both sides -/
section K9
theorem kept_ok (k w : Int) : OKC (Bat_kept 16 k w) (Mod_kept 401 k w) := by
  refine OKC_look (A := fun g => keptA (rr (hI g)) k w) (fun h own g c m => ?_) (fun h m => ⟨h, Mod_kept_e m.1 m.2.1 k w, RF.refl h⟩)
  refine ⟨hI h, ?_, SC.refl _⟩
  have s := c.st
  have b5 := s.2.2.n5
  have e5 : rr (hI g) 5 = hI g 402 5 := rr_s _ (by decide)
  unfold Bat_kept keptA
  rw [rc_k c.fx.1, Bat_hasKept_e c, bnd_some, ite_bi]
  by_cases a : 0 ≤ k ∧ k < hI g 402 5
  · rw [decide_eq_true a, if_pos rfl]
    obtain ⟨j, rfl⟩ : ∃ j : Nat, k = (j : Int) := ⟨k.toNat, by omega⟩
    obtain ⟨ke, k0, k1, k2, k3, k4⟩ := s.it (i := j) (by omega)
    have k01 := (s.2.2.k (k := j) (by omega)).2.2
    by_cases w0 : w < 0
    · rw [if_pos w0, if_neg (by omega)]; rfl
    · rw [if_neg w0]
      by_cases w15 : w ≤ 15
      · rw [if_pos w15, if_pos (by omega), c.way, gR_k s.1.1, s.sp, s.sh.g (by omega), if_neg k0, gI_k ke.1, k3, gI_k ke.1, k2, gI_k ke.1, k1, gR_k ke.1, ke.2.1, gR_k ke.2.2.1, ke.2.2.2.1, show ((j : Nat) : Int).toNat = j from rfl]
        by_cases w13 : 13 ≤ w
        · rw [if_pos w13]
          by_cases e13 : w = 13
          · rw [if_neg (by omega), e13]; rfl
          · rw [if_pos e13]
            by_cases e14 : w = 14
            · rw [if_neg (by omega), e14]; rfl
            · rw [if_pos e14, show w = 15 by omega, show (15 : Int).toNat = 15 from rfl]
              rcases k01 with e | e
              · rw [if_pos e, e]; rfl
              · rw [if_neg (by omega), e]; rfl
        · rw [if_neg w13, aI_k ke.2.2.2.2 (by omega) (by omega), show hR h (21 + 2 + 1) j + 1 + 1 = hR h (21 + 2 + 1) j + 2 by omega, k4 _ (by omega)]; rfl
      · rw [if_neg w15, if_neg (by omega)]; rfl
  · rw [decide_eq_false a, if_neg (by decide), if_neg (by omega)]; rfl
end K9
