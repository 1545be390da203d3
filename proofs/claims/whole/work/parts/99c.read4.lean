/-! Level 2: base of the class -/
section L4
variable {K H h g : AH} {n p : Nat} {φ : Int} {T : Nat → Int} {ρ : Nat → Int} {own : Nat → Nat}
theorem close_e (r : RDR K n) (hp : p ≤ 400) (φ : Int) : Rea_close 18 (S18 K p φ) = some ((), S18 K (sk (hI K 17) n p) (if sk (hI K 17) n p < n then flt φ (sk (hI K 17) n p) 0 else φ)) := by
  have r1 := r.1
  have r4 := r.2.2.2.1
  have r5 := r.2.2.2.2
  have qb := sk_b (hI K 17) n p
  unfold Rea_close
  rw [rc_k (s18_k r1), place_e r (by omega), bnd_some]
  generalize sk (hI K 17) n p = q at *
  rw [gI_k (s18_k r1), s18_1, r4]
  by_cases c : (n : Int) ≤ q
  · rw [if_pos c, if_neg (by omega)]
  · rw [if_neg c, gI_k (s18_k r1), s18_2, rc_k (s18_k r1), fail_e r (by omega) (by decide) (by decide), bnd_some, if_pos (by omega)]
theorem fin_e (r : RDR K n) (sb : SB K 49) (hp : p ≤ 400) (φ : Int) : (rc (S18 K p φ) 7 18 <| bnd (Rea_close 18 (S18 K p φ)) fun _ h1 => pZ h1 9 49 2 1 fun h4 => gI h4 7 18 3 fun x5 => some (x5, h4)) = some (if sk (hI K 17) n p < n then flt φ (sk (hI K 17) n p) 0 else φ, sI (S18 K (sk (hI K 17) n p) (if sk (hI K 17) n p < n then flt φ (sk (hI K 17) n p) 0 else φ)) 49 2 1) := by
  have k18 : ∀ (p : Nat) (φ : Int), hK (sI (S18 K p φ) 49 2 1) 18 = (7, 0) := fun _ _ => r.1
  rw [rc_k (s18_k r.1), close_e r hp, bnd_some, pZ_k (s18_k sb.1) (Or.inr rfl), gI_k (k18 _ _), hI_sIn _ _ (by decide), s18_3]
theorem FB_fin (p : Nat) (φ : Int) : FB K (sI (S18 K p φ) 49 2 1) := (FB_s18 K p φ).trans ⟨⟨rfl, rfl, rfl⟩, fun _ _ => rfl, fun x h1 h2 => by rw [hI_sIn _ _ (by omega)], by rw [hI_sIn _ _ (by decide)]⟩
theorem SB_fin (sb : SB K 49) (p : Nat) (φ : Int) : SB (sI (S18 K p φ) 49 2 1) 49 := SB_to (sb.s18 p φ) (fun _ _ _ => rfl) (fun _ _ _ => rfl) (fun _ _ => by rw [hI_sIn _ _ (by decide)]) (fun _ _ => by rw [hI_sIn _ _ (by decide)])
theorem clF_k {k : Nat} (e : clF T n k p ρ = 0) (hk : k ≤ 40) : k < 40 := by
  by_cases c : k = 40
  · unfold clF at e
    rw [if_neg (show ¬ k = 0 by omega), if_neg (show ¬ ((0 < k ∧ k < 40) ∧ ρ 2 < 12) by omega), if_neg (show ¬ ((0 < k ∧ k < 40) ∧ ρ 3 < 8) by omega)] at e
    have f4 := flt_n 0 (sk T n p) (k := 4) (by decide)
    have f0 := flt_n 0 (sk T n p) (k := 0) (by decide)
    split at e
    · exact absurd e f4
    · split at e
      · exact absurd e f4
      · split at e
        · exact absurd e f4
        · exact absurd e f0
  · omega
theorem readBase_L (hT : n ≤ 400) : ∀ (m k p fuel : Nat) (K : AH) (ρ : Nat → Int), k + (m + 1) = 41 → p ≤ 400 → m + 1 < fuel → RDR K n → ST K 49 ρ → ∃ H, Rea_readBase_L11 fuel 18 49 (k : Int) (S18 K p 0) = some ((bsS (hI K 17) n (m + 1) k p ρ).1, H) ∧ FB K H ∧ SB H 49 ∧ ((bsS (hI K 17) n (m + 1) k p ρ).1 = 0 → ST H 49 (u1 (bsS (hI K 17) n (m + 1) k p ρ).2 0 1)) := by
  intro m
  induction m with
  | zero =>
    intro k p fuel K ρ hk hp hf r s
    obtain ⟨fuel, rfl⟩ : ∃ j, fuel = j + 1 := ⟨fuel - 1, by omega⟩
    obtain ⟨H, p', x1, x2, x3, x4, x5⟩ := readClause_e r s hp (k := k) (by omega)
    have rH := x2.rd r
    have c : clF (hI K 17) n k p ρ ≠ 0 := fun e => by have := clF_k e (by omega); omega
    have ff : (if sk (hI H 17) n p' < n then flt (clF (hI K 17) n k p ρ) (sk (hI H 17) n p') 0 else clF (hI K 17) n k p ρ) = clF (hI K 17) n k p ρ := by
      rw [flt_f c]; split <;> rfl
    refine ⟨sI (S18 H (sk (hI H 17) n p') (clF (hI K 17) n k p ρ)) 49 2 1, ?_, x2.trans (FB_fin _ _), SB_fin x3 _ _, fun e => ?_⟩
    · rw [Rea_readBase_L11, if_neg (by omega), gI_k (s18_k r.1), s18_3, if_neg (by simp), rc_k (s18_k r.1), x1, bnd_some, gI_k (s18_k rH.1), s18_3, if_pos c, fin_e rH x3 x4, ff, bsS, if_pos c]
    · rw [bsS, if_pos c] at e; exact absurd e c
  | succ m ih =>
    intro k p fuel K ρ hk hp hf r s
    obtain ⟨fuel, rfl⟩ : ∃ j, fuel = j + 1 := ⟨fuel - 1, by omega⟩
    obtain ⟨H, p', x1, x2, x3, x4, x5⟩ := readClause_e r s hp (k := k) (by omega)
    have rH := x2.rd r
    have tH := x2.t
    by_cases c : clF (hI K 17) n k p ρ = 0
    · obtain ⟨y1, y2⟩ := x5 c
      rw [c] at x1
      rw [y1] at x1 x4
      have tb := takeByte_e rH (p := clP (hI K 17) n p) (by omega) 0 59
      rw [tH] at tb
      have qb := sk_b (hI K 17) n (clP (hI K 17) n p)
      by_cases d : sk (hI K 17) n (clP (hI K 17) n p) < n ∧ hI K 17 (sk (hI K 17) n (clP (hI K 17) n p)) = 59
      · rw [if_pos d] at tb
        obtain ⟨H2, z1, z2, z3, z4⟩ := ih (k + 1) (sk (hI K 17) n (clP (hI K 17) n p) + 1) fuel H (clR (hI K 17) n p ρ) (by omega) (by omega) (by omega) rH y2
        rw [tH] at z1 z4
        have eB : bsS (hI K 17) n (m + 1 + 1) k p ρ = bsS (hI K 17) n (m + 1) (k + 1) (sk (hI K 17) n (clP (hI K 17) n p) + 1) (clR (hI K 17) n p ρ) := by
          rw [bsS, if_neg (by simpa using c), if_pos d]
        rw [eB]
        refine ⟨H2, ?_, x2.trans z2, z3, z4⟩
        rw [Rea_readBase_L11, if_neg (by omega), gI_k (s18_k r.1), s18_3, if_neg (by simp), rc_k (s18_k r.1), x1, bnd_some, gI_k (s18_k rH.1), s18_3, if_neg (by simp), rc_k (s18_k rH.1), tb, bnd_some, if_pos (by decide), wr_id (by omega) (by omega), show (k : Int) + 1 = ((k + 1 : Nat) : Int) by omega, z1]
      · rw [if_neg d] at tb
        have fe := fin_e rH x3 (p := sk (hI K 17) n (clP (hI K 17) n p)) (by omega) 0
        rw [tH, sk_i _ _ _ _ rfl] at fe
        have L : Rea_readBase_L11 (fuel + 1) 18 49 (k : Int) (S18 K p 0) = some (if sk (hI K 17) n (clP (hI K 17) n p) < n then flt 0 (sk (hI K 17) n (clP (hI K 17) n p)) 0 else 0, sI (S18 H (sk (hI K 17) n (clP (hI K 17) n p)) (if sk (hI K 17) n (clP (hI K 17) n p) < n then flt 0 (sk (hI K 17) n (clP (hI K 17) n p)) 0 else 0)) 49 2 1) := by
          rw [Rea_readBase_L11, if_neg (by omega), gI_k (s18_k r.1), s18_3, if_neg (by simp), rc_k (s18_k r.1), x1, bnd_some, gI_k (s18_k rH.1), s18_3, if_neg (by simp), rc_k (s18_k rH.1), tb, bnd_some, if_neg (by simp), fe]
        by_cases e1 : sk (hI K 17) n (clP (hI K 17) n p) < n
        · rw [if_pos e1] at L
          refine ⟨_, by rw [L, bsS, if_neg (by simpa using c), if_neg d, if_pos e1], x2.trans (FB_fin _ _), SB_fin x3 _ _, fun e => ?_⟩
          rw [bsS, if_neg (by simpa using c), if_neg d, if_pos e1] at e
          exact absurd (show flt 0 (sk (hI K 17) n (clP (hI K 17) n p)) 0 = 0 from e) (flt_n _ _ (by decide))
        · rw [if_neg e1] at L
          refine ⟨_, by rw [L, bsS, if_neg (by simpa using c), if_neg d, if_neg e1], x2.trans (FB_fin _ _), SB_fin x3 _ _, fun e => ?_⟩
          rw [bsS, if_neg (by simpa using c), if_neg d, if_neg e1]
          exact ((y2.s18 _ 0).fld (c := 2) (k := 0) (by omega) (RB_0 y2.2.2 (Or.inr rfl))).1
    · have ff : (if sk (hI H 17) n p' < n then flt (clF (hI K 17) n k p ρ) (sk (hI H 17) n p') 0 else clF (hI K 17) n k p ρ) = clF (hI K 17) n k p ρ := by
        rw [flt_f c]; split <;> rfl
      refine ⟨sI (S18 H (sk (hI H 17) n p') (clF (hI K 17) n k p ρ)) 49 2 1, ?_, x2.trans (FB_fin _ _), SB_fin x3 _ _, fun e => ?_⟩
      · rw [Rea_readBase_L11, if_neg (by omega), gI_k (s18_k r.1), s18_3, if_neg (by simp), rc_k (s18_k r.1), x1, bnd_some, gI_k (s18_k rH.1), s18_3, if_pos c, fin_e rH x3 x4, ff, bsS, if_pos c]
      · rw [bsS, if_pos c] at e; exact absurd e c
theorem RB_z : RB (fun _ => 0) := by
  refine ⟨Or.inl rfl, by decide, by decide, by decide, by decide, by decide, fun j _ => (show (0 : Int) ≤ 0 ∧ (0 : Int) ≤ 9 by decide), fun j _ => (show (0 : Int) ≤ 0 ∧ (0 : Int) ≤ 9 by decide), fun k hk => ?_⟩
  have hk' : (k : Int) < 0 := hk
  omega
/-- a state is cleared -/
theorem Sta_clear_e {a : Nat} (sb : SB h a) : ∃ H, Sta_clear a h = some ((), H) ∧ FR h H a (a + 26) ∧ ST H a (fun _ => 0) := by
  obtain ⟨s1, s2, s3, s4, s5, s6, s7, s8, s9⟩ := id sb
  generalize hF : up2 (up2 (up2 (up2 (up2 (up2 (up2 (up2 (hI h) (a + 22) 3 0) (a + 24) 3 0) (a + 2) 1 0) a 2 0) a 3 0) a 4 0) a 5 0) a 6 0 = F
  have n : ∀ x, x ≠ a → x ≠ a + 2 → x ≠ a + 22 → x ≠ a + 24 → F x = hI h x := fun x h1 h2 h3 h4 => by
    rw [← hF, up2_ne h1, up2_ne h1, up2_ne h1, up2_ne h1, up2_ne h1, up2_ne h2, up2_ne h4, up2_ne h3]
  have n22 : ∀ j, F (a + 22) j = if j = 3 then 0 else hI h (a + 22) j := fun j => by
    rw [← hF]; simp only [up2_e]; grind
  have n24 : ∀ j, F (a + 24) j = if j = 3 then 0 else hI h (a + 24) j := fun j => by
    rw [← hF]; simp only [up2_e]; grind
  have n2 : F (a + 2) 1 = 0 := by rw [← hF]; simp only [up2_e]; grind
  have na : ∀ j, 2 ≤ j → j ≤ 6 → F a j = 0 := fun j h1 h2 => by
    rw [← hF]; simp only [up2_e]; grind
  have sbF : SB (WI h F) a := SB_to sb (fun _ _ _ => rfl) (fun _ _ _ => rfl) (fun j hj => by rw [hI_WI, n22, if_neg (by omega)]) (fun j hj => by rw [hI_WI, n24, if_neg (by omega)])
  have k22 : ∀ F, hK (WI h F) (a + 22) = (10, 0) := fun _ => s7.1
  have k24 : ∀ F, hK (WI h F) (a + 24) = (10, 0) := fun _ => s8.1
  have ka : ∀ F, hK (WI h F) a = (9, 0) := fun _ => s1
  have k2 : ∀ F, hK (WI h F) (a + 2) = (8, 0) := fun _ => s9.1
  have k1 : ∀ F, hK (WI h F) (a + 1) = (34, 2) := fun _ => s4
  have r0 : ∀ F, hR (WI h F) a 0 = a + 1 := fun _ => s2
  have r1 : ∀ F, hR (WI h F) a 1 = a + 2 := fun _ => s3
  have t0 : ∀ F, hR (WI h F) (a + 1) (0 : Int).toNat = a + 22 := fun _ => s5
  have t1 : ∀ F, hR (WI h F) (a + 1) (1 : Int).toNat = a + 24 := fun _ => s6
  refine ⟨WI h F, ?_, ⟨rfl, rfl, rfl, fun x hx => ⟨n x (by omega) (by omega) (by omega) (by omega), rfl⟩⟩, sbF, ⟨na 2 (by decide) (by decide), na 3 (by decide) (by decide), by rw [hI_WI, n22, if_pos rfl], by rw [hI_WI, n24, if_pos rfl], na 4 (by decide) (by decide), n2, na 5 (by decide) (by decide), na 6 (by decide) (by decide), fun j hj => absurd hj (by simp), fun j hj => absurd hj (by simp), fun i hi => absurd hi (by simp)⟩, RB_z⟩
  rw [← WI_id h]
  unfold Sta_clear She_clear
  rw [gR_k (ka _), r0, aR_k (k1 _) (by decide) (by decide), t0, pI_k (k22 _), WI_sI, gR_k (ka _), r0, aR_k (k1 _) (by decide) (by decide), t1, pI_k (k24 _), WI_sI, gR_k (ka _), r1, rc_k (k2 _), pI_k (k2 _), WI_sI, bnd_some, pZ_k (ka _) (Or.inl rfl), WI_sI, pI_k (ka _), WI_sI, pI_k (ka _), WI_sI, pI_k (ka _), WI_sI, pI_k (ka _), WI_sI, hF]
  rfl
end L4
