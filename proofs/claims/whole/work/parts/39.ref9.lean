/-! Level 2: all candidates -/
/-- how many of a kind -/
def cK (s : List Pt) (κ : Int) : Nat := cntR (fun i => decide (pa s i 0 = κ)) 0 s.length
theorem cntR_c {p q : Nat → Bool} : ∀ {n k : Nat}, (∀ i, k ≤ i → i < k + n → p i = q i) → cntR p k n = cntR q k n
  | 0, _, _ => rfl
  | n + 1, k, e => by rw [cntR_s, cntR_s, e k (Nat.le_refl _) (by omega), cntR_c (fun i h1 h2 => e i (by omega) (by omega))]
theorem cntR_e (p : Nat → Bool) : ∀ (n k : Nat), cntR p k (n + 1) = cntR p k n + if p (k + n) then 1 else 0
  | 0, k => by rw [cntR_s, cntR_0, cntR_0]; simp
  | n + 1, k => by rw [cntR_s, cntR_e p n (k + 1), cntR_s, show k + 1 + n = k + (n + 1) by omega]; omega
theorem cK_add (s : List Pt) (π : Pt) (κ : Int) : cK (addU s π) κ ≤ cK s κ + if π 0 = κ then 1 else 0 := by
  unfold addU
  split
  · unfold cK
    rw [List.length_append, List.length_singleton, cntR_e, Nat.zero_add, pa_n, cntR_c (q := fun i => decide (pa s i 0 = κ)) (fun i _ h2 => by rw [pa_l (by omega)])]
    by_cases e : π 0 = κ <;> simp [e]
  · omega
theorem cK_add3 (s : List Pt) (has : Nat → Bool) (P : Nat → Pt) (hP : ∀ k : Nat, P k 0 = k) (κ : Int) : cK (add3 s has P) κ ≤ cK s κ + 1 ∧ (add3 s has P).length ≤ s.length + 3 := by
  have a0 := cK_add s (P 0) κ
  have l0 := addU_len s (P 0)
  rw [hP 0] at a0
  generalize e0 : (if has 0 then addU s (P 0) else s) = s0
  have b0 : cK s0 κ ≤ cK s κ + (if ((0 : Nat) : Int) = κ then 1 else 0) ∧ s0.length ≤ s.length + 1 := by
    rw [← e0]; split
    · exact ⟨a0, l0.2⟩
    · constructor <;> omega
  have a1 := cK_add s0 (P 1) κ
  have l1 := addU_len s0 (P 1)
  rw [hP 1] at a1
  generalize e1 : (if has 1 then addU s0 (P 1) else s0) = s1
  have b1 : cK s1 κ ≤ cK s0 κ + (if ((1 : Nat) : Int) = κ then 1 else 0) ∧ s1.length ≤ s0.length + 1 := by
    rw [← e1]; split
    · exact ⟨a1, l1.2⟩
    · constructor <;> omega
  have a2 := cK_add s1 (P 2) κ
  have l2 := addU_len s1 (P 2)
  rw [hP 2] at a2
  generalize e2 : (if has 2 then addU s1 (P 2) else s1) = s2
  have b2 : cK s2 κ ≤ cK s1 κ + (if ((2 : Nat) : Int) = κ then 1 else 0) ∧ s2.length ≤ s1.length + 1 := by
    rw [← e2]; split
    · exact ⟨a2, l2.2⟩
    · constructor <;> omega
  rw [show add3 s has P = s2 by rw [← e2, ← e1, ← e0]; rfl]
  refine ⟨?_, by omega⟩
  have z : (if ((0 : Nat) : Int) = κ then 1 else 0) + (if ((1 : Nat) : Int) = κ then 1 else 0) + (if ((2 : Nat) : Int) = κ then 1 else 0) ≤ 1 := by
    split <;> split <;> split <;> omega
  omega
theorem cA_b (on : Nat → Bool) (has : Nat → Nat → Bool) (P : Nat → Nat → Pt) (hP : ∀ q k : Nat, P q k 0 = k) (κ : Int) : ∀ q : Nat, cK (cA on has P q) κ ≤ q ∧ (cA on has P q).length ≤ 3 * q
  | 0 => by simp [cA, cK, cntR_0]
  | q + 1 => by
    have ih := cA_b on has P hP κ q
    have x := cK_add3 (cA on has P q) (has q) (P q) (hP q) κ
    rw [cA]
    split <;> omega
def tri : Nat → Nat
  | 0 => 0
  | n + 1 => tri n + n
theorem tri_mono : ∀ {a b : Nat}, a ≤ b → tri a ≤ tri b
  | 0, _, _ => by simp [tri]
  | a + 1, 0, h => by omega
  | a + 1, b + 1, h => by
    have := tri_mono (a := a) (b := b) (by omega)
    simp only [tri]; omega
theorem wIn_b (N a : Nat) (K : Nat → Int) (ha : a < N) : ∀ (n b : Nat) (s : List Pt), b + n ≤ N → N ≤ s.length → (∀ i, i < N → pa s i 0 = K i) → (wIn a n b s).length ≤ s.length + cntR (fun b => decide (K a = K b)) b n ∧ N ≤ (wIn a n b s).length ∧ ∀ i, i < N → pa (wIn a n b s) i = pa s i
  | 0, b, s, hb, hn, hs => ⟨by rw [wIn, cntR_0]; omega, hn, fun _ _ => rfl⟩
  | n + 1, b, s, hb, hn, hs => by
    have l := addU_len s (wid (pa s a) (pa s b))
    have hp : ∀ i, i < N → pa (if oneF (pa s a) (pa s b) then addU s (wid (pa s a) (pa s b)) else s) i = pa s i := fun i hi => by
      split
      · exact addU_pa (by omega)
      · rfl
    have hl : N ≤ (if oneF (pa s a) (pa s b) then addU s (wid (pa s a) (pa s b)) else s).length := by split <;> omega
    have ih := wIn_b N a K ha n (b + 1) (if oneF (pa s a) (pa s b) then addU s (wid (pa s a) (pa s b)) else s) (by omega) hl (fun i hi => by rw [hp i hi]; exact hs i hi)
    rw [wIn, cntR_s]
    refine ⟨?_, ih.2.1, fun i hi => by rw [ih.2.2 i hi, hp i hi]⟩
    refine Nat.le_trans ih.1 ?_
    by_cases e : K a = K b
    · rw [show decide (K a = K b) = true from decide_eq_true e, if_pos rfl]
      split <;> omega
    · have : oneF (pa s a) (pa s b) = false := by
        unfold oneF; rw [hs a ha, hs b (by omega)]; simp [e]
      rw [this, if_neg (by decide), show decide (K a = K b) = false from decide_eq_false e, if_neg (by decide)]; omega
def sfx (K : Nat → Int) (N a : Nat) (κ : Int) : Nat := cntR (fun b => decide (K b = κ)) a (N - a)
theorem wOut_b (N : Nat) (K : Nat → Int) (hK3 : ∀ i, i < N → K i = 0 ∨ K i = 1 ∨ K i = 2) : ∀ (n a : Nat) (s : List Pt), a + n = N → N ≤ s.length → (∀ i, i < N → pa s i 0 = K i) → (wOut N n a s).length ≤ s.length + tri (sfx K N a 0) + tri (sfx K N a 1) + tri (sfx K N a 2) ∧ s.length ≤ (wOut N n a s).length + (s.length - N) ∧ N ≤ (wOut N n a s).length
  | 0, a, s, ha, hn, hs => by rw [wOut]; omega
  | n + 1, a, s, ha, hn, hs => by
    have w := wIn_b N a K (by omega) (N - (a + 1)) (a + 1) s (by omega) hn hs
    have ih := wOut_b N K hK3 n (a + 1) (wIn a (N - (a + 1)) (a + 1) s) (by omega) w.2.1 (fun i hi => by rw [w.2.2 i hi]; exact hs i hi)
    rw [wOut]
    refine ⟨?_, by omega, ih.2.2⟩
    refine Nat.le_trans ih.1 ?_
    have e : ∀ κ, sfx K N a κ = sfx K N (a + 1) κ + if decide (K a = κ) then 1 else 0 := fun κ => by
      unfold sfx; rw [show N - a = (N - (a + 1)) + 1 by omega, cntR_s]; omega
    have ec : cntR (fun b => decide (K a = K b)) (a + 1) (N - (a + 1)) = sfx K N (a + 1) (K a) := by
      unfold sfx; congr 1; funext b; exact dec_congr ⟨fun e => e.symm, fun e => e.symm⟩
    have w1 := w.1
    rw [ec] at w1
    rw [e 0, e 1, e 2]
    rcases hK3 a (by omega) with k | k | k <;> rw [k] at w1 ⊢ <;> simp [tri] <;> omega
theorem cL_b (on : Nat → Bool) (has : Nat → Nat → Bool) (P : Nat → Nat → Pt) (hP : ∀ q k : Nat, P q k 0 = k) (q : Nat) (hq : q ≤ 8) (hK3 : ∀ i, i < (cA on has P q).length → pa (cA on has P q) i 0 = 0 ∨ pa (cA on has P q) i 0 = 1 ∨ pa (cA on has P q) i 0 = 2) : (cL on has P q).length ≤ 108 := by
  have b0 := cA_b on has P hP 0 q
  have b1 := cA_b on has P hP 1 q
  have b2 := cA_b on has P hP 2 q
  have w := wOut_b (cA on has P q).length (fun i => pa (cA on has P q) i 0) hK3 (cA on has P q).length 0 (cA on has P q) (by omega) (by omega) (fun _ _ => rfl)
  have e : ∀ κ, cK (cA on has P q) κ ≤ q → tri (sfx (fun i => pa (cA on has P q) i 0) (cA on has P q).length 0 κ) ≤ 28 := fun κ hk => by
    refine Nat.le_trans (tri_mono (b := 8) ?_) (by decide)
    have : sfx (fun i => pa (cA on has P q) i 0) (cA on has P q).length 0 κ = cK (cA on has P q) κ := rfl
    omega
  have e0 := e 0 b0.1
  have e1 := e 1 b1.1
  have e2 := e 2 b2.1
  unfold cL
  omega
section R9
variable {h : AH}
theorem rem2 : ∀ j : Nat, j < 13 → iRem (j : Int) 2 = ((j % 2 : Nat) : Int) := by decide +kernel
theorem laysWide_s (m : MS h) {a b : Nat} (ha : 16 * a + 13 ≤ 4800) (hb : 16 * b + 13 ≤ 4800) {c k : Nat → Int} {n mm : Int} {j : Nat} (hj : j < 13) (f : Nat) (p : Nat → Int) : Mod_laysWide_L14 (f + 1) 401 ((16 * a : Nat) : Int) ((16 * b : Nat) : Int) (j : Int) (CD h p c k n mm) = Mod_laysWide_L14 f 401 ((16 * a : Nat) : Int) ((16 * b : Nat) : Int) ((j + 1 : Nat) : Int) (CD h (u1 p j (wid (fun t => c (16 * a + t)) (fun t => c (16 * b + t)) j)) c k n mm) := by
  have m1 : ∀ p, MS (CD h p c k n mm) := fun _ => m
  have wp : ∀ p v, sI (CD h p c k n mm) 416 j v = CD h (u1 p j v) c k n mm := fun p v => by rw [sI_sF, CD_p]; rfl
  have e419 : hI (CD h p c k n mm) 419 = c := rfl
  have fin : ∀ (s0 v8 x y : Int), Mod_laysWide_L83 (Mod_laysWide_L14 f) 401 ((16 * a : Nat) : Int) ((16 * b : Nat) : Int) (j : Int) x y v8 s0 (j : Int) 416 (CD h p c k n mm) = Mod_laysWide_L14 f 401 ((16 * a : Nat) : Int) ((16 * b : Nat) : Int) ((j + 1 : Nat) : Int) (CD h (u1 p j (if s0 = v8 then x else y)) c k n mm) := fun s0 v8 x y => by
    unfold Mod_laysWide_L83
    rw [w_416 (m1 _) (by omega) (by omega), w_416 (m1 _) (by omega) (by omega), wr_id (z := (j : Int) + 1) (by omega) (by omega), show (j : Int) + 1 = ((j + 1 : Nat) : Int) by omega, tN (j : Int) j rfl, wp, wp]
    by_cases e : s0 = v8
    · rw [if_neg (by simpa using e), if_pos e]
    · rw [if_pos e, if_neg e]
  rw [Mod_laysWide_L14, if_neg (by omega), r_29 (m1 _), wr_id (z := ((16 * a : Nat) : Int) + j) (by omega) (by omega), a_419 (m1 _) (by omega) (by omega), r_29 (m1 _), wr_id (z := ((16 * b : Nat) : Int) + j) (by omega) (by omega), a_419 (m1 _) (by omega) (by omega), tN (((16 * a : Nat) : Int) + j) (16 * a + j) (by omega), tN (((16 * b : Nat) : Int) + j) (16 * b + j) (by omega), e419]
  unfold Mod_laysWide_L58 wid
  rw [r_26 (m1 _), r_26 (m1 _), if_neg (show ¬ (2 : Int) = 0 by decide), fin, fin, fin, fin, rem2 j hj]
  by_cases h3 : j < 3
  · rw [if_pos (by omega), if_pos (Or.inl h3)]
    by_cases e : c (16 * a + j) < c (16 * b + j)
    · rw [if_neg (by omega), if_pos rfl, if_pos e]
    · rw [if_pos (by omega), if_neg (by decide), if_neg e]
  · rw [if_neg (by omega)]
    by_cases e1 : j % 2 = 1
    · rw [if_neg (by omega), if_pos (Or.inr e1)]
      by_cases e : c (16 * a + j) < c (16 * b + j)
      · rw [if_neg (by omega), if_pos rfl, if_pos e]
      · rw [if_pos (by omega), if_neg (by decide), if_neg e]
    · rw [if_pos (show ¬ ((j % 2 : Nat) : Int) = 1 by omega), if_neg (show ¬ (j < 3 ∨ j % 2 = 1) by omega)]
      by_cases e : c (16 * a + j) < c (16 * b + j)
      · rw [if_neg (by omega), if_neg (by decide), if_pos e]
      · rw [if_pos (by omega), if_pos rfl, if_neg e]
theorem laysWide_L (m : MS h) {a b : Nat} (ha : 16 * a + 13 ≤ 4800) (hb : 16 * b + 13 ≤ 4800) {c k : Nat → Int} {n mm : Int} : ∀ (r j fuel : Nat) (p : Nat → Int), j + r = 13 → r < fuel → (∀ i, i < j → p i = wid (fun t => c (16 * a + t)) (fun t => c (16 * b + t)) i) → ∃ p', Mod_laysWide_L14 fuel 401 ((16 * a : Nat) : Int) ((16 * b : Nat) : Int) (j : Int) (CD h p c k n mm) = some ((), CD h p' c k n mm) ∧ eq13 p' (wid (fun t => c (16 * a + t)) (fun t => c (16 * b + t)))
  | 0, j, fuel + 1, p, hj, _, hp => by
    rw [Mod_laysWide_L14, if_pos (by omega)]
    exact ⟨p, rfl, fun i hi => hp i (by omega)⟩
  | r + 1, j, fuel + 1, p, hj, hf, hp => by
    rw [laysWide_s m ha hb (by omega)]
    refine laysWide_L m ha hb r (j + 1) fuel _ (by omega) (by omega) (fun i hi => ?_)
    unfold u1
    by_cases e : i = j
    · rw [if_pos e, e]
    · rw [if_neg e]; exact hp i (by omega)
theorem wid_c {π σ π' σ' : Pt} (e : eq13 π σ) (e' : eq13 π' σ') : eq13 (wid π π') (wid σ σ') := fun k hk => by
  unfold wid; rw [e k hk, e' k hk]
theorem wid_ok {π σ : Pt} (o : oneF π σ = true) (h1 : okP π) : okP (wid π σ) := by
  unfold oneF at o
  simp only [Bool.and_eq_true, decide_eq_true_eq] at o
  obtain ⟨o0, o1, o2⟩ := o
  have w0 : wid π σ 0 = π 0 := by unfold wid; rw [if_pos (by decide)]; split <;> omega
  have w1 : wid π σ 1 = π 1 := by unfold wid; rw [if_pos (by decide)]; split <;> omega
  have w2 : wid π σ 2 = π 2 := by unfold wid; rw [if_pos (by decide)]; split <;> omega
  unfold okP at *
  rw [w0, w1, w2]; exact h1
theorem Mod_laysWide_e (m : MS h) {a b : Nat} (ha : 16 * a + 13 ≤ 4800) (hb : 16 * b + 13 ≤ 4800) {p c k : Nat → Int} {n mm : Int} : ∃ p', Mod_laysWide 401 (a : Int) (b : Int) (CD h p c k n mm) = some ((), CD h p' c k n mm) ∧ eq13 p' (wid (fun t => c (16 * a + t)) (fun t => c (16 * b + t))) := by
  unfold Mod_laysWide
  rw [wr_id (by omega) (by omega), wr_id (by omega) (by omega), show 16 * (a : Int) = ((16 * a : Nat) : Int) by omega, show 16 * (b : Int) = ((16 * b : Nat) : Int) by omega]
  exact laysWide_L m ha hb 13 0 FU p (by omega) (by decide) (fun i hi => by omega)
theorem pass2_in (m : MS h) (b : MB h) {N a : Nat} (ha : a < N) (hN3 : N ≤ 24) (K : Nat → Int) (k71 : Nat → Int → AH → Option (Unit × AH)) : ∀ (n j fuel : Nat) (s : List Pt) (p c k : Nat → Int), j + n = N → a < j → n < fuel → N ≤ s.length → s.length + n ≤ 300 → CI h c k s → ∃ p' c' k', Mod_laysCandidates_L83 k71 fuel 401 (a : Int) (j : Int) (CD h p c k s.length N) = k71 401 ((a + 1 : Nat) : Int) (CD h p' c' k' (wIn a n j s).length N) ∧ CI h c' k' (wIn a n j s)
  | 0, j, fuel + 1, s, p, c, k, hj, _, _, hn, hs, ci => by
    have m1 : MS (CD h p c k s.length N) := m
    rw [Mod_laysCandidates_L83, g_m m1, if_pos (by show (N : Int) ≤ _; omega), wr_id (by omega) (by omega), show (a : Int) + 1 = ((a + 1 : Nat) : Int) by omega]
    exact ⟨p, c, k, rfl, ci⟩
  | n + 1, j, fuel + 1, s, p, c, k, hj, haj, hf, hn, hs, ci => by
    have m1 : ∀ p c k n, MS (CD h p c k n N) := fun _ _ _ _ => m
    have eo : oneF (pf (CD h p c k s.length N) 419 (16 * a)) (pf (CD h p c k s.length N) 419 (16 * j)) = oneF (pa s a) (pa s j) := oneF_c (fun t ht => (ci a (by omega)).1 t ht) (fun t ht => (ci j (by omega)).1 t ht)
    rw [Mod_laysCandidates_L83, g_m (m1 _ _ _ _), if_neg (by show ¬ (N : Int) ≤ _; omega), r_29 (m1 _ _ _ _), r_29 (m1 _ _ _ _), wr_id (z := 16 * (a : Int)) (by omega) (by omega), wr_id (z := 16 * (j : Int)) (by omega) (by omega), show 16 * (a : Int) = ((16 * a : Nat) : Int) by omega, show 16 * (j : Int) = ((16 * j : Nat) : Int) by omega, Mod_areOfOne_e ((m1 _ _ _ _).K 17 rfl).2 ((m1 _ _ _ _).K 17 rfl).2 (by omega) (by omega) (by decide) (by decide), bnd_some, eo, ite_bi, wr_id (z := (j : Int) + 1) (by omega) (by omega), show (j : Int) + 1 = ((j + 1 : Nat) : Int) by omega, wIn]
    cases eq : oneF (pa s a) (pa s j)
    · rw [if_neg (by decide), if_neg (by decide)]
      exact pass2_in m b ha hN3 K k71 n (j + 1) fuel s p c k (by omega) (by omega) (by omega) hn (by omega) ci
    · rw [if_pos rfl, if_pos rfl, c_m (m1 _ _ _ _)]
      obtain ⟨p1, e1, x1⟩ := Mod_laysWide_e m (a := a) (b := j) (by omega) (by omega) (p := p) (c := c) (k := k) (n := s.length) (mm := N)
      have x2 : eq13 p1 (wid (pa s a) (pa s j)) := fun t ht => by rw [x1 t ht]; exact wid_c (ci a (by omega)).1 (ci j (by omega)).1 t ht
      obtain ⟨c2, k2, e2, ci2⟩ := Mod_addsPart_e m b (mm := N) (by omega) x2 (wid_ok eq (ci a (by omega)).2.2.2.2.2) ci
      rw [e1, bnd_some, c_m (m1 _ _ _ _), e2, bnd_some]
      have l := addU_len s (wid (pa s a) (pa s j))
      exact pass2_in m b ha hN3 K k71 n (j + 1) fuel _ p1 c2 k2 (by omega) (by omega) (by omega) (by omega) (by omega) ci2
end R9
