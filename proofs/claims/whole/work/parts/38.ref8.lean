/-! Level 2: candidates -/
abbrev Pt := Nat → Int
def z0 : Pt := fun _ => 0
def pa (s : List Pt) (k : Nat) : Pt := (s[k]?).getD z0
theorem pa_l {s : List Pt} {π : Pt} {k : Nat} (hk : k < s.length) : pa (s ++ [π]) k = pa s k := by
  unfold pa; rw [List.getElem?_append_left hk]
theorem pa_n {s : List Pt} {π : Pt} : pa (s ++ [π]) s.length = π := by
  unfold pa; simp
/-- one candidate more, if it is none yet -/
def addU (s : List Pt) (π : Pt) : List Pt := if allR (fun i => !sameF (pa s i) π) 0 s.length then s ++ [π] else s
def add3 (s : List Pt) (has : Nat → Bool) (P : Nat → Pt) : List Pt :=
  let s0 := if has 0 then addU s (P 0) else s
  let s1 := if has 1 then addU s0 (P 1) else s0
  if has 2 then addU s1 (P 2) else s1
def cA (on : Nat → Bool) (has : Nat → Nat → Bool) (P : Nat → Nat → Pt) : Nat → List Pt
  | 0 => []
  | q + 1 => if on q then add3 (cA on has P q) (has q) (P q) else cA on has P q
/-- the part that holds two -/
def wid (π σ : Pt) : Pt := fun k => if k < 3 ∨ k % 2 = 1 then (if π k < σ k then π k else σ k) else (if π k < σ k then σ k else π k)
def wIn (a : Nat) : Nat → Nat → List Pt → List Pt
  | 0, _, s => s
  | n + 1, b, s => wIn a n (b + 1) (if oneF (pa s a) (pa s b) then addU s (wid (pa s a) (pa s b)) else s)
def wOut (N : Nat) : Nat → Nat → List Pt → List Pt
  | 0, _, s => s
  | n + 1, a, s => wOut N n (a + 1) (wIn a (N - (a + 1)) (a + 1) s)
def cL (on : Nat → Bool) (has : Nat → Nat → Bool) (P : Nat → Nat → Pt) (q : Nat) : List Pt := wOut (cA on has P q).length (cA on has P q).length 0 (cA on has P q)
theorem addU_len (s : List Pt) (π : Pt) : s.length ≤ (addU s π).length ∧ (addU s π).length ≤ s.length + 1 := by
  unfold addU; split
  · rw [List.length_append, List.length_singleton]; omega
  · omega
theorem addU_pa {s : List Pt} {π : Pt} {k : Nat} (hk : k < s.length) : pa (addU s π) k = pa s k := by
  unfold addU; split
  · exact pa_l hk
  · rfl
section R8
variable {h : AH}
/-- how candidates lie -/
def CD (h : AH) (p c k : Nat → Int) (n m : Int) : AH := sF (sF (sF (sF h 416 p) 419 c) 420 k) 401 (u1 (u1 (hI h 401) 31 n) 32 m)
theorem CD_p (h : AH) (p c k p' : Nat → Int) (n m : Int) : sF (CD h p c k n m) 416 p' = CD h p' c k n m := by
  unfold CD
  rw [sF_comm _ _ p' (by decide), sF_comm _ _ p' (by decide), sF_comm _ _ p' (by decide), sF_sF]
theorem CD_c (h : AH) (p c k c' : Nat → Int) (n m : Int) : sF (CD h p c k n m) 419 c' = CD h p c' k n m := by
  unfold CD
  rw [sF_comm _ _ c' (by decide), sF_comm _ _ c' (by decide), sF_sF]
theorem CD_k (h : AH) (p c k k' : Nat → Int) (n m : Int) : sF (CD h p c k n m) 420 k' = CD h p c k' n m := by
  unfold CD
  rw [sF_comm _ _ k' (by decide), sF_sF]
theorem CD_n (h : AH) (p c k : Nat → Int) (n m n' : Int) : sI (CD h p c k n m) 401 31 n' = CD h p c k n' m := by
  rw [sI_sF]
  unfold CD
  rw [sF_sF, hI_sFs]
  congr 1
  funext j
  unfold u1
  by_cases e1 : j = 31 <;> by_cases e2 : j = 32 <;> simp [e1, e2]
theorem CD_m (h : AH) (p c k : Nat → Int) (n m m' : Int) : sI (CD h p c k n m) 401 32 m' = CD h p c k n m' := by
  rw [sI_sF]
  unfold CD
  rw [sF_sF, hI_sFs]
  congr 1
  funext j
  unfold u1
  by_cases e1 : j = 31 <;> by_cases e2 : j = 32 <;> simp [e1, e2]
theorem CD_i (h : AH) : CD h (hI h 416) (hI h 419) (hI h 420) (hI h 401 31) (hI h 401 32) = h := by
  unfold CD
  have e : u1 (u1 (hI h 401) 31 (hI h 401 31)) 32 (hI h 401 32) = hI h 401 := by
    funext j; unfold u1; split
    · rename_i e; rw [e]
    · split
      · rename_i e; rw [e]
      · rfl
  rw [e, sF_id]
  have e1 : sF h 419 (hI h 419) = h := sF_id h 419
  rw [e1]
  have e2 : sF h 420 (hI h 420) = h := sF_id h 420
  rw [e2, sF_id]
/-- the candidates lie as in the list -/
def CI (h : AH) (c k : Nat → Int) (s : List Pt) : Prop := ∀ i, i < s.length → eq13 (fun t => c (16 * i + t)) (pa s i) ∧ c (16 * i + 13) = (rowsF (pa s i) (num h) (nR h) (nS h) : Nat) ∧ c (16 * i + 14) = 0 ∧ c (16 * i + 15) = 0 ∧ k i = (makeF (pa s i) (num h) (nR h) (nS h) : Nat) ∧ okP (pa s i)
theorem addsPart_c (m : MS h) (p k : Nat → Int) (n mm : Int) (k2 : Unit) {B : Nat} (hB : B + 16 ≤ 4800) : ∀ (r j fuel : Nat) (c : Nat → Int), j + r = 13 → Mod_addsPart_L46 (fuel + r) 401 (B : Int) (j : Int) (CD h p c k n mm) = Mod_addsPart_L46 fuel 401 (B : Int) 13 (CD h p (fun i => if B + j ≤ i ∧ i < B + 13 then p (i - B) else c i) k n mm)
  | 0, j, fuel, c, hj => by
    rw [show (j : Int) = 13 by omega, Nat.add_zero]
    congr 2
    funext i
    rw [if_neg (by omega)]
  | r + 1, j, fuel, c, hj => by
    have m1 : MS (CD h p c k n mm) := m
    rw [show fuel + (r + 1) = (fuel + r) + 1 by omega, Mod_addsPart_L46, if_neg (by omega), r_29 m1, r_26 m1, a_416 m1 (by omega) (by omega), wr_id (z := (B : Int) + j) (by omega) (by omega), w_419 m1 (by omega) (by omega), wr_id (z := (j : Int) + 1) (by omega) (by omega), show (j : Int) + 1 = ((j + 1 : Nat) : Int) by omega, tN ((B : Int) + j) (B + j) (by omega), tN (j : Int) j rfl, sI_sF, CD_c, addsPart_c m p k n mm k2 hB r (j + 1) fuel _ (by omega)]
    congr 2
    funext i
    by_cases e : i = B + j
    · subst e
      rw [if_neg (by omega), if_pos rfl, if_pos (by omega), show B + j - B = j by omega]
      rfl
    · by_cases e2 : B + j ≤ i ∧ i < B + 13
      · rw [if_pos (by omega), if_pos e2]
      · rw [if_neg (by omega), if_neg e, if_neg e2]; rfl
theorem addsPart_z (f B : Nat) (H : AH) : Mod_addsPart_L46 f 401 (B : Int) 0 H = Mod_addsPart_L46 f 401 (B : Int) ((0 : Nat) : Int) H := rfl
theorem addsPart_f (m : MS h) (b : MB h) {p c k : Nat → Int} {mm : Int} {s : List Pt} (hs : s.length < 300) {π : Pt} (hp : eq13 p π) (ok : okP π) (ci : CI h c k s) : ∃ c' k', Mod_addsPart_L46 FU 401 (wr (16 * (s.length : Int))) 0 (CD h p c k s.length mm) = some ((), CD h p c' k' ((s.length : Int) + 1) mm) ∧ CI h c' k' (s ++ [π]) := by
  have mm' : ∀ p c k n m', MS (CD h p c k n m') := fun _ _ _ _ _ => m
  have bb' : ∀ p c k n m', MB (CD h p c k n m') := fun _ _ _ _ _ => b
  have okp : ∀ c k n m', okP (pf (CD h p c k n m') 416 0) := fun c k n m' => okP_c (fun j hj => by show π j = hI (CD h p c k n m') 416 (0 + j); rw [Nat.zero_add]; exact (hp j hj).symm) ok
  have epf : ∀ c k n m', eq13 (pf (CD h p c k n m') 416 0) π := fun c k n m' j hj => by show hI (CD h p c k n m') 416 (0 + j) = _; rw [Nat.zero_add]; exact hp j hj
  rw [wr_id (by omega) (by omega), show 16 * (s.length : Int) = ((16 * s.length : Nat) : Int) by omega, show FU = 999987 + 13 from rfl, addsPart_z, addsPart_c m p k s.length mm () (by omega) 13 0 999987 c (by omega), show 999987 = 999986 + 1 from rfl, Mod_addsPart_L46, if_pos (by decide), r_29 (mm' _ _ _ _ _), r_26 (mm' _ _ _ _ _), c_m (mm' _ _ _ _ _)]
  generalize hc1 : (fun i => if 16 * s.length + 0 ≤ i ∧ i < 16 * s.length + 13 then p (i - 16 * s.length) else c i) = c1
  have er : ∀ c k n m', Mod_rowsNow 401 416 0 (CD h p c k n m') = some (((rowsF π (num h) (nR h) (nS h) : Nat) : Int), CD h p c k n m') := fun c k n m' => by
    have := Mod_rowsNow_e (B := 0) (mm' p c k n m') (bb' p c k n m') ((mm' p c k n m').K 14 rfl).2 (by decide) (by decide) (okp _ _ _ _)
    rw [rowsF_c (epf _ _ _ _)] at this
    exact this
  have ek : ∀ c k n m', Mod_makeNow 401 416 0 (CD h p c k n m') = some (((makeF π (num h) (nR h) (nS h) : Nat) : Int), CD h p c k n m') := fun c k n m' => by
    have := Mod_makeNow_e (B := 0) (mm' p c k n m') (bb' p c k n m') ((mm' p c k n m').K 14 rfl).2 (by decide) (by decide) (okp _ _ _ _)
    rw [makeF_c (epf _ _ _ _)] at this
    exact this
  rw [er, bnd_some, wr_id (by omega) (by omega), w_419 (mm' _ _ _ _ _) (by omega) (by omega), sI_sF, CD_c, r_29 (mm' _ _ _ _ _), wr_id (by omega) (by omega), w_419 (mm' _ _ _ _ _) (by omega) (by omega), sI_sF, CD_c, r_29 (mm' _ _ _ _ _), wr_id (by omega) (by omega), w_419 (mm' _ _ _ _ _) (by omega) (by omega), sI_sF, CD_c, r_30 (mm' _ _ _ _ _), g_m (mm' _ _ _ _ _), r_26 (mm' _ _ _ _ _), c_m (mm' _ _ _ _ _)]
  rw [ek, bnd_some]
  have e31 : ∀ p c k n m', hI (CD h p c k n m') 401 31 = n := fun _ _ _ _ _ => rfl
  rw [e31, w_420 (mm' _ _ _ _ _) (by omega) (by omega), sI_sF, CD_k, g_m (mm' _ _ _ _ _), e31, wr_id (by omega) (by omega), p_m (mm' _ _ _ _ _), CD_n]
  refine ⟨_, _, rfl, ?_⟩
  intro i hi
  rw [List.length_append, List.length_singleton] at hi
  have e419 : ∀ p c k n m', hI (CD h p c k n m') 419 = c := fun _ _ _ _ _ => rfl
  have e420 : ∀ p c k n m', hI (CD h p c k n m') 420 = k := fun _ _ _ _ _ => rfl
  have en : ∀ p c k n m', num (CD h p c k n m') = num h := fun _ _ _ _ _ => rfl
  have eR : ∀ p c k n m', (hI (CD h p c k n m') 402 2).toNat = nR h := fun _ _ _ _ _ => rfl
  have eS : ∀ p c k n m', (hI (CD h p c k n m') 402 3).toNat = nS h := fun _ _ _ _ _ => rfl
  simp only [e419, e420, en, eR, eS]
  by_cases e : i = s.length
  · subst e
    rw [pa_n]
    refine ⟨fun t ht => ?_, ?_, ?_, ?_, ?_, ok⟩
    · show (if _ then _ else if _ then _ else if _ then _ else c1 _) = _
      rw [if_neg (by omega), if_neg (by omega), if_neg (by omega), ← hc1]
      show (if _ then p _ else _) = _
      rw [if_pos (by omega), show 16 * s.length + t - 16 * s.length = t by omega]
      exact hp t ht
    · rw [if_neg (by omega), if_neg (by omega), if_pos (by omega)]
    · rw [if_neg (by omega), if_pos (by omega)]
    · rw [if_pos (by omega)]
    · rw [if_pos (by omega)]
  · obtain ⟨x1, x2, x3, x4, x5, x6⟩ := ci i (by omega)
    rw [pa_l (by omega)]
    have ec : ∀ t, t < 16 → c1 (16 * i + t) = c (16 * i + t) := fun t ht => by rw [← hc1]; exact if_neg (by omega)
    refine ⟨fun t ht => ?_, ?_, ?_, ?_, ?_, x6⟩
    · show (if _ then _ else if _ then _ else if _ then _ else c1 _) = _
      rw [if_neg (by omega), if_neg (by omega), if_neg (by omega), ec t (by omega)]
      exact x1 t ht
    · rw [if_neg (by omega), if_neg (by omega), if_neg (by omega), ec 13 (by omega)]; exact x2
    · rw [if_neg (by omega), if_neg (by omega), if_neg (by omega), ec 14 (by omega)]; exact x3
    · rw [if_neg (by omega), if_neg (by omega), if_neg (by omega), ec 15 (by omega)]; exact x4
    · rw [if_neg (by omega)]; exact x5
theorem addsPart_L (m : MS h) (b : MB h) {p c k : Nat → Int} {mm : Int} {s : List Pt} (hs : s.length < 300) {π : Pt} (hp : eq13 p π) (ok : okP π) (ci : CI h c k s) : ∀ (n i fuel : Nat), i + n = s.length → n < fuel → ∃ c' k', Mod_addsPart_L2 fuel 401 (i : Int) (CD h p c k s.length mm) = some ((), CD h p c' k' (if allR (fun i => !sameF (pa s i) π) i n then s ++ [π] else s).length mm) ∧ CI h c' k' (if allR (fun i => !sameF (pa s i) π) i n then s ++ [π] else s)
  | 0, i, fuel + 1, hi, _ => by
    have m1 : MS (CD h p c k s.length mm) := m
    have e31 : hI (CD h p c k s.length mm) 401 31 = s.length := rfl
    rw [Mod_addsPart_L2, g_m m1, e31, if_pos (by omega), g_m m1, e31, allR_0, if_pos rfl]
    obtain ⟨c', k', e1, e2⟩ := addsPart_f m b (mm := mm) hs hp ok ci
    refine ⟨c', k', ?_, e2⟩
    rw [e1, List.length_append, List.length_singleton]
    rfl
  | n + 1, i, fuel + 1, hi, hf => by
    have m1 : MS (CD h p c k s.length mm) := m
    have e31 : hI (CD h p c k s.length mm) 401 31 = s.length := rfl
    have es : sameF (pf (CD h p c k s.length mm) 419 (16 * i)) (pf (CD h p c k s.length mm) 416 0) = sameF (pa s i) π := sameF_c (fun t ht => (ci i (by omega)).1 t ht) (fun t ht => by show hI (CD h p c k s.length mm) 416 (0 + t) = _; rw [Nat.zero_add]; exact hp t ht)
    rw [Mod_addsPart_L2, g_m m1, e31, if_neg (by omega), r_29 m1, r_26 m1, wr_id (by omega) (by omega), show 16 * (i : Int) = ((16 * i : Nat) : Int) by omega, show (0 : Int) = ((0 : Nat) : Int) from rfl, Mod_areSame_e (m1.K 17 rfl).2 (m1.K 14 rfl).2 (by omega) (by omega) (by decide) (by decide), bnd_some, es, show ((0 : Nat) : Int) = 0 from rfl, ite_bi, allR_s, wr_id (by omega) (by omega), show (i : Int) + 1 = ((i + 1 : Nat) : Int) by omega]
    have ih := addsPart_L m b (mm := mm) hs hp ok ci n (i + 1) fuel (by omega) (by omega)
    cases sameF (pa s i) π
    · rw [if_neg (by decide)]
      simpa using ih
    · rw [if_pos rfl]
      refine ⟨c, k, ?_, ?_⟩
      · simp
      · simpa using ci
theorem Mod_addsPart_e (m : MS h) (b : MB h) {p c k : Nat → Int} {mm : Int} {s : List Pt} (hs : s.length < 300) {π : Pt} (hp : eq13 p π) (ok : okP π) (ci : CI h c k s) : ∃ c' k', Mod_addsPart 401 (CD h p c k s.length mm) = some ((), CD h p c' k' (addU s π).length mm) ∧ CI h c' k' (addU s π) :=
  addsPart_L m b hs hp ok ci s.length 0 FU (by omega) (by have := FU_big; omega)
end R8
