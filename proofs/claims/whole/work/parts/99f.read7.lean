/-! Level 2: a clause read by the reference -/
def NRR (H : AH) (ρ : Nat → Int) : Prop := hI H 401 7 = ρ 2 ∧ hI H 401 8 = ρ 3 ∧ (∀ j, j < 3 * (ρ 2).toNat → hI H 405 j = ρ (8 + j)) ∧ ∀ j, j < 2 * (ρ 3).toNat → hI H 406 j = ρ (44 + j)
/-- only what is read is otherwise -/
def FMM (K H : AH) : Prop := (hN H = hN K ∧ hS H = hS K ∧ hK H = hK K ∧ hR H = hR K) ∧ (∀ a, a ≠ 401 → a ≠ 405 → a ≠ 406 → hI H a = hI K a) ∧ ∀ i, i ≠ 6 → i ≠ 7 → i ≠ 8 → i ≠ 19 → i ≠ 20 → hI H 401 i = hI K 401 i
section L7
variable {K H : AH} {n p : Nat} {φ : Int} {T : Nat → Int} {ρ : Nat → Int}
theorem FMM.refl (K : AH) : FMM K K := ⟨⟨rfl, rfl, rfl, rfl⟩, fun _ _ _ _ => rfl, fun _ _ _ _ _ _ => rfl⟩
theorem FMM.trans {a b c : AH} (x : FMM a b) (y : FMM b c) : FMM a c := by
  obtain ⟨⟨x1, x2, x3, x4⟩, x5, x6⟩ := x
  obtain ⟨⟨y1, y2, y3, y4⟩, y5, y6⟩ := y
  exact ⟨⟨by rw [y1, x1], by rw [y2, x2], by rw [y3, x3], by rw [y4, x4]⟩, fun k h1 h2 h3 => by rw [y5 k h1 h2 h3, x5 k h1 h2 h3], fun i h1 h2 h3 h4 h5 => by rw [y6 i h1 h2 h3 h4 h5, x6 i h1 h2 h3 h4 h5]⟩
theorem FMM.rd (f : FMM K H) (r : RDM K n T) : RDM H n T := by
  obtain ⟨⟨x1, x2, x3, x4⟩, x5, x6⟩ := f
  obtain ⟨m, r4, r5, rT⟩ := r
  refine ⟨MS_to m (fun a _ _ => ⟨by rw [x3], by rw [x4]⟩), by rw [x6 18 (by decide) (by decide) (by decide) (by decide) (by decide)]; exact r4, r5, ?_⟩
  rw [x5 415 (by decide) (by decide) (by decide)]
  exact rT
theorem FMM_s41 (K : AH) (p : Nat) (φ : Int) : FMM K (S41 K p φ) := ⟨⟨rfl, rfl, rfl, rfl⟩, fun _ h1 _ _ => s41_n h1, fun _ _ _ _ h1 h2 => s41_o h1 h2⟩
theorem s41_w {a : Nat} (ha : a ≠ 401) (k : Nat) (v : Int) : sI (S41 K p φ) a k v = S41 (sI K a k v) p φ := by
  show WI K (up2 (r41 (hI K) p φ) a k v) = WI K (r41 (up2 (hI K) a k v) p φ)
  refine WI_ext K (fun b i => ?_)
  rw [up2_e]; unfold r41; rw [up2_e]; grind
theorem s41_v {k : Nat} (h1 : k ≠ 19) (h2 : k ≠ 20) (v : Int) : sI (S41 K p φ) 401 k v = S41 (sI K 401 k v) p φ := by
  show WI K (up2 (r41 (hI K) p φ) 401 k v) = WI K (r41 (up2 (hI K) 401 k v) p φ)
  refine WI_ext K (fun b i => ?_)
  rw [up2_e]; unfold r41; rw [up2_e]; grind
theorem FMM_w {a : Nat} (ha : a = 405 ∨ a = 406) (k : Nat) (v : Int) : FMM K (sI K a k v) := ⟨⟨rfl, rfl, rfl, rfl⟩, fun b _ h2 h3 => by rw [hI_sIn _ _ (by omega)], fun i _ _ _ _ _ => by rw [hI_sIn _ _ (by omega)]⟩
theorem FMM_v {k : Nat} (hk : k = 6 ∨ k = 7 ∨ k = 8) (v : Int) : FMM K (sI K 401 k v) := ⟨⟨rfl, rfl, rfl, rfl⟩, fun b h1 _ _ => by rw [hI_sIn _ _ h1], fun i h1 h2 h3 _ _ => by rw [hI_sId _ _ (by omega)]⟩
theorem amount_a (r : RDM K n T) (hp : p ≤ 400) {pp : Nat} (e : φ = 0 → p = pp) (top : Int) : ∃ p' v, Mod_amount 401 0 top (S41 K p φ) = some (v, S41 K p' (nmF T n pp top φ)) ∧ p' ≤ 400 ∧ (nmF T n pp top φ = 0 → p' = nmP T n pp ∧ v = nmV T n pp) := by
  by_cases c : φ = 0
  · subst c
    obtain rfl := e rfl
    exact amount_0 r hp top
  · obtain ⟨p', v, x1, x2⟩ := amount_f r hp c top
    have : nmF T n pp top φ = φ := nFl_f c _ _
    rw [this]
    exact ⟨p', v, x1, x2, fun h => absurd h c⟩
theorem rowPart_R (r : RDM K n T) (nr : NRR K ρ) (rb : RB ρ) (hp : p ≤ 400) (hf : ρ 2 < 12) : ∃ H p', Mod_rowPart 401 1 (S41 K p 0) = some ((), S41 H p' (rwF T n p 0)) ∧ FMM K H ∧ hI H 401 6 = hI K 401 6 ∧ p' ≤ 400 ∧ (rwF T n p 0 = 0 → p' = rwP T n p 0 ∧ NRR H (rwR T n p 0 ρ)) := by
  obtain ⟨a7, a8, aR, aS⟩ := nr
  have b2 := rb.2.2.1
  have b3 := rb.2.2.2.1
  obtain ⟨c, hc⟩ : ∃ c : Nat, ρ 2 = (c : Int) := ⟨(ρ 2).toNat, by omega⟩
  obtain ⟨p1, v1, x1, x2, x3⟩ := amount_a (φ := 0) r hp (pp := p) (fun _ => rfl) 9
  have rA : RDM (sI K 405 (3 * c + 0) v1) n T := (FMM_w (Or.inl rfl) _ _).rd r
  obtain ⟨p2, v2, y1, y2, y3⟩ := amount_a (φ := nmF T n p 9 0) rA x2 (pp := nmP T n p) (fun e => (x3 e).1) 9
  have rB : RDM (sI (sI K 405 (3 * c + 0) v1) 405 (3 * c + 1) v2) n T := (FMM_w (Or.inl rfl) _ _).rd rA
  obtain ⟨p3, v3, z1, z2, z3⟩ := amount_a (φ := nmF T n (nmP T n p) 9 (nmF T n p 9 0)) rB y2 (pp := nmP T n (nmP T n p)) (fun e => (y3 e).1) 9
  have rC : RDM (sI (sI (sI K 405 (3 * c + 0) v1) 405 (3 * c + 1) v2) 405 (3 * c + 2) v3) n T := (FMM_w (Or.inl rfl) _ _).rd rB
  have e0 : rwF T n p 0 = nmF T n (nmP T n (nmP T n p)) 9 (nmF T n (nmP T n p) 9 (nmF T n p 9 0)) := if_pos rfl
  have rD : RDM (sI (sI (sI (sI K 405 (3 * c + 0) v1) 405 (3 * c + 1) v2) 405 (3 * c + 2) v3) 401 7 ((c : Int) + 1)) n T := (FMM_v (by omega) _).rd rC
  rw [← e0] at z1
  refine ⟨sI (sI (sI (sI (sI K 405 (3 * c + 0) v1) 405 (3 * c + 1) v2) 405 (3 * c + 2) v3) 401 7 ((c : Int) + 1)) 401 8 (ρ 3), p3, ?_, ((((FMM_w (Or.inl rfl) _ _).trans (FMM_w (Or.inl rfl) _ _)).trans (FMM_w (Or.inl rfl) _ _)).trans (FMM_v (by omega) _)).trans (FMM_v (by omega) _), by rw [hI_sId _ _ (by decide), hI_sId _ _ (by decide), hI_sIn _ _ (by decide), hI_sIn _ _ (by decide), hI_sIn _ _ (by decide)], z2, fun e => ?_⟩
  · have g0 : hI K 401 7 = (c : Int) := by rw [a7, hc]
    unfold Mod_rowPart
    rw [if_neg (by decide), show FU = 999996 + 1 + 1 + 1 + 1 from rfl]
    rw [Mod_rowPart_L12, if_neg (by decide), c_m (s41_m r.1 _ _), x1, bnd_some, if_neg (by decide), r_4 (s41_m r.1 _ _), g_m (s41_m r.1 _ _), s41_o (by decide) (by decide), g0, wr_id (z := 3 * (c : Int)) (by omega) (by omega), wr_id (z := 3 * (c : Int) + 0) (by omega) (by omega), w_405 (s41_m r.1 _ _) (by omega) (by omega), tN (3 * (c : Int) + 0) (3 * c + 0) (by omega), s41_w (by decide), show wr ((0 : Int) + 1) = 1 from rfl]
    rw [Mod_rowPart_L12, if_neg (by decide), c_m (s41_m rA.1 _ _), y1, bnd_some, if_neg (by decide), r_4 (s41_m rA.1 _ _), g_m (s41_m rA.1 _ _), s41_o (by decide) (by decide), hI_sIn _ _ (by decide), g0, wr_id (z := 3 * (c : Int)) (by omega) (by omega), wr_id (z := 3 * (c : Int) + 1) (by omega) (by omega), w_405 (s41_m rA.1 _ _) (by omega) (by omega), tN (3 * (c : Int) + 1) (3 * c + 1) (by omega), s41_w (by decide), show wr ((1 : Int) + 1) = 2 from rfl]
    rw [Mod_rowPart_L12, if_neg (by decide), c_m (s41_m rB.1 _ _), z1, bnd_some, if_neg (by decide), r_4 (s41_m rB.1 _ _), g_m (s41_m rB.1 _ _), s41_o (by decide) (by decide), hI_sIn _ _ (by decide), hI_sIn _ _ (by decide), g0, wr_id (z := 3 * (c : Int)) (by omega) (by omega), wr_id (z := 3 * (c : Int) + 2) (by omega) (by omega), w_405 (s41_m rB.1 _ _) (by omega) (by omega), tN (3 * (c : Int) + 2) (3 * c + 2) (by omega), s41_w (by decide), show wr ((2 : Int) + 1) = 3 from rfl]
    rw [Mod_rowPart_L12, if_pos (by decide), g_m (s41_m rC.1 _ _), s41_o (by decide) (by decide), hI_sIn _ _ (by decide), hI_sIn _ _ (by decide), hI_sIn _ _ (by decide), g0, if_neg (by decide)]
    unfold Mod_rowPart_L83
    rw [p_m (s41_m rC.1 _ _), wr_id (z := (c : Int) + 1) (by omega) (by omega), s41_v (by decide) (by decide), g_m (s41_m rD.1 _ _), s41_o (by decide) (by decide), hI_sId _ _ (by decide), hI_sIn _ _ (by decide), hI_sIn _ _ (by decide), hI_sIn _ _ (by decide), a8, if_neg (by decide), p_m (s41_m rD.1 _ _), wr_id (z := ρ 3 + 0) (by omega) (by omega), Int.add_zero, s41_v (by decide) (by decide)]
  · rw [e0] at e
    obtain ⟨q1, q2⟩ := z3 e
    obtain ⟨o2, -⟩ := nmF_0 e
    obtain ⟨q3, q4⟩ := y3 o2
    obtain ⟨o1, -⟩ := nmF_0 o2
    obtain ⟨q5, q6⟩ := x3 o1
    refine ⟨by rw [q1]; exact (if_pos rfl).symm, ?_⟩
    have eR : rwR T n p 0 ρ = u1 (u1 (u1 (u1 ρ 2 (ρ 2 + 1)) (8 + (3 * c + 0)) v1) (8 + (3 * c + 1)) v2) (8 + (3 * c + 2)) v3 := by
      unfold rwR apRow
      rw [if_pos rfl, if_pos rfl, show (ρ 2).toNat = c by omega, q2, q4, q6]
    rw [eR]
    have u2 : u1 (u1 (u1 (u1 ρ 2 (ρ 2 + 1)) (8 + (3 * c + 0)) v1) (8 + (3 * c + 1)) v2) (8 + (3 * c + 2)) v3 2 = (c : Int) + 1 := by
      unfold u1; rw [if_neg (by omega), if_neg (by omega), if_neg (by omega), if_pos rfl, hc]
    have u3 : u1 (u1 (u1 (u1 ρ 2 (ρ 2 + 1)) (8 + (3 * c + 0)) v1) (8 + (3 * c + 1)) v2) (8 + (3 * c + 2)) v3 3 = ρ 3 := by
      unfold u1; rw [if_neg (by omega), if_neg (by omega), if_neg (by omega), if_neg (by omega)]
    unfold NRR
    rw [u2, u3]
    refine ⟨by rw [hI_sId _ _ (by decide), hI_sIs], by rw [hI_sIs], fun j hj => ?_, fun j hj => ?_⟩
    · rw [hI_sIn _ _ (by decide), hI_sIn _ _ (by decide)]
      simp only [hI_sI, up2_e]
      unfold u1
      by_cases w : j < 3 * c
      · rw [if_neg (by omega), if_neg (by omega), if_neg (by omega), if_neg (by omega), if_neg (by omega), if_neg (by omega), if_neg (by omega)]
        exact aR j (by rw [hc]; omega)
      · have : j = 3 * c ∨ j = 3 * c + 1 ∨ j = 3 * c + 2 := by omega
        rcases this with e | e | e
        · rw [if_neg (by omega), if_neg (by omega), if_pos ⟨by decide, by omega⟩, if_neg (by omega), if_neg (by omega), if_pos (by omega)]
        · rw [if_neg (by omega), if_pos ⟨by decide, by omega⟩, if_neg (by omega), if_pos (by omega)]
        · rw [if_pos ⟨by decide, by omega⟩, if_pos (by omega)]
    · rw [hI_sIn _ _ (by decide), hI_sIn _ _ (by decide), hI_sIn _ _ (by decide), hI_sIn _ _ (by decide), hI_sIn _ _ (by decide)]
      unfold u1
      rw [if_neg (by omega), if_neg (by omega), if_neg (by omega), if_neg (by omega)]
      exact aS j hj
theorem rowPart_S (r : RDM K n T) (nr : NRR K ρ) (rb : RB ρ) (hp : p ≤ 400) (hf : ρ 3 < 8) : ∃ H p', Mod_rowPart 401 0 (S41 K p 0) = some ((), S41 H p' (rwF T n p 1)) ∧ FMM K H ∧ hI H 401 6 = hI K 401 6 ∧ p' ≤ 400 ∧ (rwF T n p 1 = 0 → p' = rwP T n p 1 ∧ NRR H (rwR T n p 1 ρ)) := by
  obtain ⟨a7, a8, aR, aS⟩ := nr
  have b2 := rb.2.2.1
  have b3 := rb.2.2.2.1
  obtain ⟨c, hc⟩ : ∃ c : Nat, ρ 3 = (c : Int) := ⟨(ρ 3).toNat, by omega⟩
  obtain ⟨p1, v1, x1, x2, x3⟩ := amount_a (φ := 0) r hp (pp := p) (fun _ => rfl) 9
  have rA : RDM (sI K 406 (2 * c + 0) v1) n T := (FMM_w (Or.inr rfl) _ _).rd r
  obtain ⟨p2, v2, y1, y2, y3⟩ := amount_a (φ := nmF T n p 9 0) rA x2 (pp := nmP T n p) (fun e => (x3 e).1) 9
  have rB : RDM (sI (sI K 406 (2 * c + 0) v1) 406 (2 * c + 1) v2) n T := (FMM_w (Or.inr rfl) _ _).rd rA
  have e0 : rwF T n p 1 = nmF T n (nmP T n p) 9 (nmF T n p 9 0) := if_neg (by decide)
  have rD : RDM (sI (sI (sI K 406 (2 * c + 0) v1) 406 (2 * c + 1) v2) 401 7 (ρ 2)) n T := (FMM_v (by omega) _).rd rB
  rw [← e0] at y1
  refine ⟨sI (sI (sI (sI K 406 (2 * c + 0) v1) 406 (2 * c + 1) v2) 401 7 (ρ 2)) 401 8 ((c : Int) + 1), p2, ?_, (((FMM_w (Or.inr rfl) _ _).trans (FMM_w (Or.inr rfl) _ _)).trans (FMM_v (by omega) _)).trans (FMM_v (by omega) _), by rw [hI_sId _ _ (by decide), hI_sId _ _ (by decide), hI_sIn _ _ (by decide), hI_sIn _ _ (by decide)], y2, fun e => ?_⟩
  · have g0 : hI K 401 8 = (c : Int) := by rw [a8, hc]
    unfold Mod_rowPart
    rw [if_pos rfl, show FU = 999997 + 1 + 1 + 1 from rfl]
    rw [Mod_rowPart_L12, if_neg (by decide), c_m (s41_m r.1 _ _), x1, bnd_some, if_pos rfl, r_5 (s41_m r.1 _ _), g_m (s41_m r.1 _ _), s41_o (by decide) (by decide), g0, wr_id (z := 2 * (c : Int)) (by omega) (by omega), wr_id (z := 2 * (c : Int) + 0) (by omega) (by omega), w_406 (s41_m r.1 _ _) (by omega) (by omega), tN (2 * (c : Int) + 0) (2 * c + 0) (by omega), s41_w (by decide), show wr ((0 : Int) + 1) = 1 from rfl]
    rw [Mod_rowPart_L12, if_neg (by decide), c_m (s41_m rA.1 _ _), y1, bnd_some, if_pos rfl, r_5 (s41_m rA.1 _ _), g_m (s41_m rA.1 _ _), s41_o (by decide) (by decide), hI_sIn _ _ (by decide), g0, wr_id (z := 2 * (c : Int)) (by omega) (by omega), wr_id (z := 2 * (c : Int) + 1) (by omega) (by omega), w_406 (s41_m rA.1 _ _) (by omega) (by omega), tN (2 * (c : Int) + 1) (2 * c + 1) (by omega), s41_w (by decide), show wr ((1 : Int) + 1) = 2 from rfl]
    rw [Mod_rowPart_L12, if_pos (by decide), g_m (s41_m rB.1 _ _), s41_o (by decide) (by decide), hI_sIn _ _ (by decide), hI_sIn _ _ (by decide), a7, if_pos rfl]
    unfold Mod_rowPart_L83
    rw [p_m (s41_m rB.1 _ _), wr_id (z := ρ 2 + 0) (by omega) (by omega), Int.add_zero, s41_v (by decide) (by decide), g_m (s41_m rD.1 _ _), s41_o (by decide) (by decide), hI_sId _ _ (by decide), hI_sIn _ _ (by decide), hI_sIn _ _ (by decide), g0, if_pos rfl, p_m (s41_m rD.1 _ _), wr_id (z := (c : Int) + 1) (by omega) (by omega), s41_v (by decide) (by decide)]
  · rw [e0] at e
    obtain ⟨q3, q4⟩ := y3 e
    obtain ⟨o1, -⟩ := nmF_0 e
    obtain ⟨q5, q6⟩ := x3 o1
    refine ⟨by rw [q3]; exact (if_neg (by decide)).symm, ?_⟩
    have eR : rwR T n p 1 ρ = u1 (u1 (u1 ρ 3 (ρ 3 + 1)) (44 + (2 * c + 3 - 3)) v1) (44 + (2 * c + 4 - 3)) v2 := by
      unfold rwR apRow
      rw [if_neg (show ¬ (1 : Int) = 0 by decide), show (ρ 3).toNat = c by omega, q4, q6]
    rw [eR]
    have u2 : u1 (u1 (u1 ρ 3 (ρ 3 + 1)) (44 + (2 * c + 3 - 3)) v1) (44 + (2 * c + 4 - 3)) v2 2 = ρ 2 := by
      unfold u1; rw [if_neg (by omega), if_neg (by omega), if_neg (by omega)]
    have u3 : u1 (u1 (u1 ρ 3 (ρ 3 + 1)) (44 + (2 * c + 3 - 3)) v1) (44 + (2 * c + 4 - 3)) v2 3 = (c : Int) + 1 := by
      unfold u1; rw [if_neg (by omega), if_neg (by omega), if_pos rfl, hc]
    unfold NRR
    rw [u2, u3]
    refine ⟨by rw [hI_sId _ _ (by decide), hI_sIs], by rw [hI_sIs], fun j hj => ?_, fun j hj => ?_⟩
    · rw [hI_sIn _ _ (by decide), hI_sIn _ _ (by decide), hI_sIn _ _ (by decide), hI_sIn _ _ (by decide)]
      unfold u1
      rw [if_neg (by omega), if_neg (by omega), if_neg (by omega)]
      exact aR j hj
    · rw [hI_sIn _ _ (by decide), hI_sIn _ _ (by decide)]
      simp only [hI_sI, up2_e]
      unfold u1
      by_cases w : j < 2 * c
      · rw [if_neg (by omega), if_neg (by omega), if_neg (by omega), if_neg (by omega), if_neg (by omega)]
        exact aS j (by rw [hc]; omega)
      · have : j = 2 * c ∨ j = 2 * c + 1 := by omega
        rcases this with e | e
        · rw [if_neg (by omega), if_pos ⟨by decide, by omega⟩, if_neg (by omega), if_pos (by omega)]
        · rw [if_pos ⟨by decide, by omega⟩, if_pos (by omega)]
end L7
