/-! Level 2: all candidates are laid -/
def pot (K : Nat → Int) (N a : Nat) : Nat := tri (sfx K N a 0) + tri (sfx K N a 1) + tri (sfx K N a 2)
theorem pot_s (K : Nat → Int) {N a : Nat} (ha : a < N) (k3 : K a = 0 ∨ K a = 1 ∨ K a = 2) : pot K N a = pot K N (a + 1) + cntR (fun b => decide (K a = K b)) (a + 1) (N - (a + 1)) := by
  have e : ∀ κ, sfx K N a κ = sfx K N (a + 1) κ + if decide (K a = κ) then 1 else 0 := fun κ => by
    unfold sfx; rw [show N - a = (N - (a + 1)) + 1 by omega, cntR_s]; omega
  have ec : cntR (fun b => decide (K a = K b)) (a + 1) (N - (a + 1)) = sfx K N (a + 1) (K a) := by
    unfold sfx; congr 1; funext b; exact dec_congr ⟨fun e => e.symm, fun e => e.symm⟩
  rw [ec]
  unfold pot
  rw [e 0, e 1, e 2]
  rcases k3 with k | k | k <;> rw [k] <;> simp [tri] <;> omega
section R10
variable {h : AH}
theorem pass2_out (m : MS h) (b : MB h) {N : Nat} (hN3 : N ≤ 24) (K : Nat → Int) (hK3 : ∀ i, i < N → K i = 0 ∨ K i = 1 ∨ K i = 2) : ∀ (n a fuel : Nat) (s : List Pt) (p c k : Nat → Int), a + n = N → n < fuel → N ≤ s.length → (∀ i, i < N → pa s i 0 = K i) → s.length + pot K N a ≤ 108 → CI h c k s → ∃ p' c' k', Mod_laysCandidates_L71 fuel 401 (a : Int) (CD h p c k s.length N) = some ((), CD h p' c' k' (wOut N n a s).length N) ∧ CI h c' k' (wOut N n a s)
  | 0, a, fuel + 1, s, p, c, k, ha, _, hn, hs, hp, ci => by
    have m1 : MS (CD h p c k s.length N) := m
    rw [Mod_laysCandidates_L71, g_m m1, if_pos (by show (N : Int) ≤ _; omega)]
    exact ⟨p, c, k, rfl, ci⟩
  | n + 1, a, fuel + 1, s, p, c, k, ha, hf, hn, hs, hp, ci => by
    have m1 : MS (CD h p c k s.length N) := m
    have w := wIn_b N a K (by omega) (N - (a + 1)) (a + 1) s (by omega) hn hs
    have ps := pot_s K (N := N) (a := a) (by omega) (hK3 a (by omega))
    obtain ⟨p1, c1, k1, e1, ci1⟩ := pass2_in m b (N := N) (a := a) (by omega) hN3 K (Mod_laysCandidates_L71 fuel) (N - (a + 1)) (a + 1) FU s p c k (by omega) (by omega) (by have := FU_big; omega) hn (by omega) ci
    rw [Mod_laysCandidates_L71, g_m m1, if_neg (by show ¬ (N : Int) ≤ _; omega), wr_id (by omega) (by omega), show (a : Int) + 1 = ((a + 1 : Nat) : Int) by omega, e1, wOut]
    exact pass2_out m b hN3 K hK3 n (a + 1) fuel _ p1 c1 k1 (by omega) (by omega) w.2.1 (fun i hi => by rw [w.2.2 i hi]; exact hs i hi) (by omega) ci1
abbrev onH (h : AH) : Nat → Bool := fun q => rOn h q
abbrev hasH (h : AH) : Nat → Nat → Bool := fun q k => rHas h q k
abbrev qpH (h : AH) : Nat → Nat → Pt := fun q k => qp h q k
theorem pass1_k (m : MS h) (b : MB h) {q k : Nat} (hq : (q : Int) < hI h 401 10) (hk : k < 3) (on : rOn h q = true) (k7 : Nat → Int → AH → Option (Unit × AH)) (f : Nat) {s : List Pt} (hs : s.length < 300) {p c kk : Nat → Int} {mm : Int} (ci : CI h c kk s) : ∃ p' c' k', Mod_laysCandidates_L17 k7 (f + 1) 401 (q : Int) (k : Int) (CD h p c kk s.length mm) = Mod_laysCandidates_L17 k7 f 401 (q : Int) ((k + 1 : Nat) : Int) (CD h p' c' k' (if hasH h q k then addU s (qpH h q k) else s).length mm) ∧ CI h c' k' (if hasH h q k then addU s (qpH h q k) else s) := by
  have q8 : q < 8 := by obtain ⟨-, -, b3, -⟩ := b; omega
  have m1 : ∀ p c k n, MS (CD h p c k n mm) := fun _ _ _ _ => m
  have eo : rOn (CD h p c kk s.length mm) q = rOn h q := rfl
  have eh : rHas (CD h p c kk s.length mm) q k = rHas h q k := rfl
  rw [Mod_laysCandidates_L17, if_neg (by omega), c_m (m1 _ _ _ _), Mod_isOn_e (m1 _ _ _ _) (by omega) (by omega), bnd_some, eo, on, bi_t, if_neg (by decide), c_m (m1 _ _ _ _), Mod_hasKind_e (m1 _ _ _ _) (by omega) (by omega), bnd_some, eh, ite_bi, wr_id (by omega) (by omega), show (k : Int) + 1 = ((k + 1 : Nat) : Int) by omega]
  show ∃ p' c' k', (if rHas h q k = true then _ else _) = Mod_laysCandidates_L17 k7 f 401 (q : Int) ((k + 1 : Nat) : Int) (CD h p' c' k' (if rHas h q k = true then addU s (qpH h q k) else s).length mm) ∧ CI h c' k' (if rHas h q k = true then addU s (qpH h q k) else s)
  cases hh : rHas h q k
  · rw [if_neg (by decide), if_neg (by decide)]
    exact ⟨p, c, kk, rfl, ci⟩
  · rw [if_pos rfl, if_pos rfl, c_m (m1 _ _ _ _), Mod_laysPart_e (m1 _ _ _ _) q8, bnd_some, CD_p]
    have e13 : eq13 (lp (CD h p c kk s.length mm) q k) (qp h q k) := fun j hj => if_pos hj
    obtain ⟨c2, k2, e2, ci2⟩ := Mod_addsPart_e m b (mm := mm) hs e13 (qp_ok b hq (by omega) hh) ci
    rw [c_m (m1 _ _ _ _), e2, bnd_some]
    exact ⟨_, c2, k2, rfl, ci2⟩
theorem pass1_q (m : MS h) (b : MB h) {q : Nat} (hq : (q : Int) < hI h 401 10) (k7 : Nat → Int → AH → Option (Unit × AH)) {s : List Pt} (hs : s.length < 200) {p c kk : Nat → Int} {mm : Int} (ci : CI h c kk s) : ∃ p' c' k', Mod_laysCandidates_L17 k7 FU 401 (q : Int) 0 (CD h p c kk s.length mm) = k7 401 ((q + 1 : Nat) : Int) (CD h p' c' k' (if onH h q then add3 s (hasH h q) (qpH h q) else s).length mm) ∧ CI h c' k' (if onH h q then add3 s (hasH h q) (qpH h q) else s) := by
  have q8 : q < 8 := by obtain ⟨-, -, b3, -⟩ := b; omega
  have m1 : ∀ p c k n, MS (CD h p c k n mm) := fun _ _ _ _ => m
  show ∃ p' c' k', _ = k7 401 ((q + 1 : Nat) : Int) (CD h p' c' k' (if rOn h q = true then add3 s (hasH h q) (qpH h q) else s).length mm) ∧ CI h c' k' (if rOn h q = true then add3 s (hasH h q) (qpH h q) else s)
  cases on : rOn h q
  · have eo : rOn (CD h p c kk s.length mm) q = rOn h q := rfl
    rw [show FU = 999999 + 1 from rfl, Mod_laysCandidates_L17, if_neg (by decide), c_m (m1 _ _ _ _), Mod_isOn_e (m1 _ _ _ _) (by omega) (by omega), bnd_some, eo, on, bi_f, if_pos rfl, wr_id (by omega) (by omega), show (q : Int) + 1 = ((q + 1 : Nat) : Int) by omega, if_neg (by decide)]
    exact ⟨p, c, kk, rfl, ci⟩
  · rw [if_pos rfl]
    obtain ⟨p1, c1, k1, e1, ci1⟩ := pass1_k m b hq (k := 0) (by decide) on k7 999999 (s := s) (by omega) (p := p) (mm := mm) ci
    have l1 := addU_len s (qpH h q 0)
    generalize hs1 : (if hasH h q 0 then addU s (qpH h q 0) else s) = s1 at e1 ci1
    have h1 : s1.length ≤ s.length + 1 := by rw [← hs1]; split <;> omega
    obtain ⟨p2, c2, k2, e2, ci2⟩ := pass1_k m b hq (k := 1) (by decide) on k7 999998 (s := s1) (by omega) (p := p1) (mm := mm) ci1
    have l2 := addU_len s1 (qpH h q 1)
    generalize hs2 : (if hasH h q 1 then addU s1 (qpH h q 1) else s1) = s2 at e2 ci2
    have h2 : s2.length ≤ s1.length + 1 := by rw [← hs2]; split <;> omega
    obtain ⟨p3, c3, k3, e3, ci3⟩ := pass1_k m b hq (k := 2) (by decide) on k7 999997 (s := s2) (by omega) (p := p2) (mm := mm) ci2
    generalize hs3 : (if hasH h q 2 then addU s2 (qpH h q 2) else s2) = s3 at e3 ci3
    have ea : add3 s (hasH h q) (qpH h q) = s3 := by rw [← hs3, ← hs2, ← hs1]; rfl
    rw [ea, show FU = 999999 + 1 from rfl, show (0 : Int) = ((0 : Nat) : Int) from rfl, e1, show 999999 = 999998 + 1 from rfl, e2, show 999998 = 999997 + 1 from rfl, e3, show 999997 = 999996 + 1 from rfl, Mod_laysCandidates_L17, if_pos (by decide), wr_id (by omega) (by omega), show (q : Int) + 1 = ((q + 1 : Nat) : Int) by omega]
    exact ⟨p3, c3, k3, rfl, ci3⟩
/-- the candidates -/
def cnd (h : AH) : List Pt := cL (onH h) (hasH h) (qpH h) (hI h 401 10).toNat
theorem qp0 (q k : Nat) : qpH h q k 0 = k := by show qp h q k 0 = _; unfold qp; rw [if_pos rfl]
theorem cA3 (b : MB h) : ∀ q : Nat, (q : Int) ≤ hI h 401 10 → (cA (onH h) (hasH h) (qpH h) q).length ≤ 3 * q := fun q _ => (cA_b (onH h) (hasH h) (qpH h) (fun q k => qp0 q k) 0 q).2
theorem pass1_L (m : MS h) (b : MB h) {mm : Int} : ∀ (n q fuel : Nat) (p c k : Nat → Int), (q : Int) + n = hI h 401 10 → n < fuel → CI h c k (cA (onH h) (hasH h) (qpH h) q) → ∃ p' c' k', Mod_laysCandidates_L7 fuel 401 (q : Int) (CD h p c k (cA (onH h) (hasH h) (qpH h) q).length mm) = some ((), CD h p' c' k' (cnd h).length (cA (onH h) (hasH h) (qpH h) (hI h 401 10).toNat).length) ∧ CI h c' k' (cnd h)
  | 0, q, fuel + 1, p, c, k, hq, _, ci => by
    have m1 : ∀ p c k n mm, MS (CD h p c k n mm) := fun _ _ _ _ _ => m
    have b3 := b.2.2.1
    have eq : (hI h 401 10).toNat = q := by omega
    have e31 : ∀ p c k n mm, hI (CD h p c k n mm) 401 31 = n := fun _ _ _ _ _ => rfl
    rw [Mod_laysCandidates_L7, g_m (m1 _ _ _ _ _), if_pos (by show hI h 401 10 ≤ _; omega), g_m (m1 _ _ _ _ _), e31, p_m (m1 _ _ _ _ _), CD_m, eq]
    have l24 := cA3 b q (by omega)
    have hK3 : ∀ i, i < (cA (onH h) (hasH h) (qpH h) q).length → pa (cA (onH h) (hasH h) (qpH h) q) i 0 = 0 ∨ pa (cA (onH h) (hasH h) (qpH h) q) i 0 = 1 ∨ pa (cA (onH h) (hasH h) (qpH h) q) i 0 = 2 := fun i hi => (ci i hi).2.2.2.2.2.1
    have c0 := (cA_b (onH h) (hasH h) (qpH h) (fun q k => qp0 q k) 0 q).1
    have c1 := (cA_b (onH h) (hasH h) (qpH h) (fun q k => qp0 q k) 1 q).1
    have c2 := (cA_b (onH h) (hasH h) (qpH h) (fun q k => qp0 q k) 2 q).1
    have e : ∀ κ, cK (cA (onH h) (hasH h) (qpH h) q) κ ≤ q → tri (sfx (fun i => pa (cA (onH h) (hasH h) (qpH h) q) i 0) (cA (onH h) (hasH h) (qpH h) q).length 0 κ) ≤ 28 := fun κ hk => by
      refine Nat.le_trans (tri_mono (b := 8) ?_) (by decide)
      have : sfx (fun i => pa (cA (onH h) (hasH h) (qpH h) q) i 0) (cA (onH h) (hasH h) (qpH h) q).length 0 κ = cK (cA (onH h) (hasH h) (qpH h) q) κ := rfl
      omega
    have ep : pot (fun i => pa (cA (onH h) (hasH h) (qpH h) q) i 0) (cA (onH h) (hasH h) (qpH h) q).length 0 ≤ 84 := by
      unfold pot; have := e 0 c0; have := e 1 c1; have := e 2 c2; omega
    obtain ⟨p', c', k', e1, ci1⟩ := pass2_out m b (N := (cA (onH h) (hasH h) (qpH h) q).length) (by omega) (fun i => pa (cA (onH h) (hasH h) (qpH h) q) i 0) hK3 (cA (onH h) (hasH h) (qpH h) q).length 0 FU _ p c k (by omega) (by have := FU_big; omega) (Nat.le_refl _) (fun _ _ => rfl) (by omega) ci
    have ec : cnd h = wOut (cA (onH h) (hasH h) (qpH h) q).length (cA (onH h) (hasH h) (qpH h) q).length 0 (cA (onH h) (hasH h) (qpH h) q) := by unfold cnd cL; rw [eq]
    rw [ec]
    exact ⟨p', c', k', e1, ci1⟩
  | n + 1, q, fuel + 1, p, c, k, hq, hf, ci => by
    have m1 : ∀ p c k n mm, MS (CD h p c k n mm) := fun _ _ _ _ _ => m
    have b3 := b.2.2.1
    have l24 := cA3 b q (by omega)
    rw [Mod_laysCandidates_L7, g_m (m1 _ _ _ _ _), if_neg (by show ¬ hI h 401 10 ≤ _; omega)]
    obtain ⟨p1, c1, k1, e1, ci1⟩ := pass1_q m b (q := q) (by omega) (Mod_laysCandidates_L7 fuel) (s := cA (onH h) (hasH h) (qpH h) q) (by omega) (p := p) (mm := mm) ci
    rw [e1]
    exact pass1_L m b n (q + 1) fuel p1 c1 k1 (by omega) (by omega) ci1
theorem Mod_laysCandidates_e (m : MS h) (b : MB h) : ∃ p c k mm, Mod_laysCandidates 401 h = some ((), CD h p c k (cnd h).length mm) ∧ CI h c k (cnd h) := by
  have b3 := b.2.2.1
  unfold Mod_laysCandidates
  rw [p_m m]
  have e : sI h 401 31 0 = CD h (hI h 416) (hI h 419) (hI h 420) 0 (hI h 401 32) := by
    conv => lhs; rw [← CD_i h]
    rw [CD_n]
  rw [e]
  obtain ⟨p, c, k, e1, ci⟩ := pass1_L m b (mm := hI h 401 32) (hI h 401 10).toNat 0 FU (hI h 416) (hI h 419) (hI h 420) (by omega) (by have := FU_big; omega) (fun i hi => by simp [cA] at hi)
  exact ⟨p, c, k, _, e1, ci⟩
theorem cnd_ok (m : MS h) (b : MB h) : ∀ i, i < (cnd h).length → okP (pa (cnd h) i) := by
  obtain ⟨p, c, k, mm, -, ci⟩ := Mod_laysCandidates_e m b
  exact fun i hi => (ci i hi).2.2.2.2.2
theorem addU_ok {s : List Pt} {π : Pt} {Q : Pt → Prop} (h1 : ∀ i, i < s.length → Q (pa s i)) (h2 : Q π) : ∀ i, i < (addU s π).length → Q (pa (addU s π) i) := by
  unfold addU; split
  · intro i hi
    rw [List.length_append, List.length_singleton] at hi
    by_cases e : i = s.length
    · subst e; rw [pa_n]; exact h2
    · rw [pa_l (by omega)]; exact h1 i (by omega)
  · exact h1
theorem cA_ok {on : Nat → Bool} {has : Nat → Nat → Bool} {P : Nat → Nat → Pt} {Q : Pt → Prop} : ∀ {n : Nat}, (∀ q, q < n → ∀ k, k < 3 → has q k = true → Q (P q k)) → ∀ i, i < (cA on has P n).length → Q (pa (cA on has P n) i)
  | 0, _ => fun i hi => by simp [cA] at hi
  | n + 1, hp => by
    have ih := cA_ok (on := on) (has := has) (P := P) (Q := Q) (n := n) (fun q hq => hp q (by omega))
    rw [cA]
    split
    · have x0 : ∀ i, i < (if has n 0 then addU (cA on has P n) (P n 0) else cA on has P n).length → Q (pa (if has n 0 then addU (cA on has P n) (P n 0) else cA on has P n) i) := by
        split
        · exact addU_ok ih (hp n (by omega) 0 (by decide) (by assumption))
        · exact ih
      generalize e0 : (if has n 0 then addU (cA on has P n) (P n 0) else cA on has P n) = s0 at x0
      have x1 : ∀ i, i < (if has n 1 then addU s0 (P n 1) else s0).length → Q (pa (if has n 1 then addU s0 (P n 1) else s0) i) := by
        split
        · exact addU_ok x0 (hp n (by omega) 1 (by decide) (by assumption))
        · exact x0
      generalize e1 : (if has n 1 then addU s0 (P n 1) else s0) = s1 at x1
      have x2 : ∀ i, i < (if has n 2 then addU s1 (P n 2) else s1).length → Q (pa (if has n 2 then addU s1 (P n 2) else s1) i) := by
        split
        · exact addU_ok x1 (hp n (by omega) 2 (by decide) (by assumption))
        · exact x1
      rw [show add3 (cA on has P n) (has n) (P n) = (if has n 2 then addU s1 (P n 2) else s1) by rw [← e1, ← e0]; rfl]
      exact x2
    · exact ih
theorem cnd_len (b : MB h) : (cnd h).length ≤ 108 := by
  have b3 := b.2.2.1
  exact cL_b (onH h) (hasH h) (qpH h) (fun q k => qp0 q k) _ (by omega) (cA_ok (Q := fun π => π 0 = 0 ∨ π 0 = 1 ∨ π 0 = 2) (fun q hq k hk hh => (qp_ok b (q := q) (k := k) (by omega) (by omega) hh).1))
/-- rows and makes of the candidates -/
def cR (h : AH) (k : Nat) : Int := (rowsF (pa (cnd h) k) (num h) (nR h) (nS h) : Nat)
def cM (h : AH) (k : Nat) : Int := (makeF (pa (cnd h) k) (num h) (nR h) (nS h) : Nat)
theorem Mod_isCandidate_e (m : MS h) (b : MB h) (i : Int) : ∃ p c k mm, Mod_isCandidate 401 i h = some (bi (decide (0 ≤ i ∧ i < (cnd h).length)), CD h p c k (cnd h).length mm) ∧ CI h c k (cnd h) := by
  obtain ⟨p, c, k, mm, e, ci⟩ := Mod_laysCandidates_e m b
  have l := cnd_len b
  have m1 : MS (CD h p c k (cnd h).length mm) := m
  refine ⟨p, c, k, mm, ?_, ci⟩
  unfold Mod_isCandidate
  have e31 : hI (CD h p c k (cnd h).length mm) 401 31 = (cnd h).length := rfl
  rw [c_m m, e, bnd_some, g_m m1, e31, Mod_in_e, bnd_some, rz_k (bi_01 _), wr_id (by omega) (by omega)]
  congr 3
  unfold inB
  rw [← Bool.decide_and]
  exact dec_congr (by omega)
theorem Mod_candidates_e (m : MS h) (b : MB h) : ∃ p c k mm, Mod_candidates 401 h = some (((cnd h).length : Int), CD h p c k (cnd h).length mm) := by
  obtain ⟨p, c, k, mm, e, ci⟩ := Mod_laysCandidates_e m b
  have m1 : MS (CD h p c k (cnd h).length mm) := m
  refine ⟨p, c, k, mm, ?_⟩
  unfold Mod_candidates
  have e31 : hI (CD h p c k (cnd h).length mm) 401 31 = (cnd h).length := rfl
  rw [c_m m, e, bnd_some, g_m m1, e31]
def cndA (h : AH) (i w : Int) : Int := if 0 ≤ i ∧ i < (cnd h).length then (if 0 ≤ w ∧ w ≤ 14 then (if w = 14 then cM h i.toNat else if w = 13 then cR h i.toNat else pa (cnd h) i.toNat w.toNat) else -2) else -2
theorem Mod_candidate_e (m : MS h) (b : MB h) (i w : Int) : ∃ p c k n mm, Mod_candidate 401 i w h = some (cndA h i w, CD h p c k n mm) := by
  obtain ⟨p, c, k, mm, e, ci⟩ := Mod_isCandidate_e m b i
  have l := cnd_len b
  have m1 : MS (CD h p c k (cnd h).length mm) := m
  refine ⟨p, c, k, (cnd h).length, mm, ?_⟩
  unfold Mod_candidate cndA
  rw [c_m m, e, bnd_some, ite_bi]
  by_cases e1 : 0 ≤ i ∧ i < (cnd h).length
  · obtain ⟨x1, x2, x3, x4, x5, x6⟩ := ci i.toNat (by omega)
    rw [if_pos (decide_eq_true e1), if_pos e1, Mod_in_e, bnd_some, ite_nbi]
    by_cases e2 : 0 ≤ w ∧ w ≤ 14
    · rw [show inB w 0 14 = true by unfold inB; simp [e2], if_pos rfl, if_pos e2]
      by_cases e3 : w = 14
      · rw [if_neg (by simpa using e3), if_pos e3, r_30 m1, a_420 m1 (by omega) (by omega)]
        unfold cM; rw [← x5]; rfl
      · rw [if_pos e3, if_neg e3, r_29 m1, wr_id (z := 16 * i) (by omega) (by omega), wr_id (by omega) (by omega), a_419 m1 (by omega) (by omega), tN (16 * i + w) (16 * i.toNat + w.toNat) (by omega)]
        show some (c (16 * i.toNat + w.toNat), _) = _
        by_cases e4 : w = 13
        · rw [if_pos e4, show w.toNat = 13 by omega, x2]; rfl
        · rw [if_neg e4, ← x1 w.toNat (by omega)]
    · rw [show inB w 0 14 = false by unfold inB; rw [← Bool.decide_and]; exact decide_eq_false e2, if_neg (by decide), if_neg e2]
  · rw [if_neg (by simpa using e1), if_neg e1]
end R10
