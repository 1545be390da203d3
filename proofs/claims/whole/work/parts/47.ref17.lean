/-! Level 2: rows of the past -/
def WI (h : AH) (f : Nat → Nat → Int) : AH := (hN h, hS h, hK h, f, hR h)
theorem hI_WI (h : AH) (f : Nat → Nat → Int) : hI (WI h f) = f := rfl
theorem WI_sI (h : AH) (f : Nat → Nat → Int) (a k : Nat) (v : Int) : sI (WI h f) a k v = WI h (up2 f a k v) := rfl
theorem WI_id (h : AH) : WI h (hI h) = h := rfl
theorem WI_WI (h : AH) (f g : Nat → Nat → Int) : WI (WI h f) g = WI h g := rfl
theorem sI_WI (h : AH) (a k : Nat) (v : Int) : sI h a k v = WI h (up2 (hI h) a k v) := rfl
theorem up2_e {α : Type} (f : Nat → Nat → α) (a k : Nat) (v : α) (b j : Nat) : up2 f a k v b j = if b = a ∧ j = k then v else f b j := by
  unfold up2
  by_cases e1 : b = a
  · subst e1; by_cases e2 : j = k <;> simp [e2]
  · simp [e1]
theorem WI_ext (h : AH) {f g : Nat → Nat → Int} (e : ∀ a i, f a i = g a i) : WI h f = WI h g := by
  have : f = g := by funext a i; exact e a i
  rw [this]
/-- all that acts change, as a row of 156 numbers -/
def rr (f : Nat → Nat → Int) (j : Nat) : Int := if j < 8 then f 402 j else if j < 44 then f 403 (j - 8) else if j < 60 then f 404 (j - 44) else f 407 (j - 60)
section R17
variable {h : AH} {f : Nat → Nat → Int}
theorem rr_s (f : Nat → Nat → Int) {j : Nat} (hj : j < 8) : rr f j = f 402 j := if_pos hj
theorem rr_R (f : Nat → Nat → Int) {j : Nat} (hj : j < 36) : rr f (8 + j) = f 403 j := by
  unfold rr; rw [if_neg (by omega), if_pos (by omega), show 8 + j - 8 = j by omega]
theorem rr_S (f : Nat → Nat → Int) {j : Nat} (hj : j < 16) : rr f (44 + j) = f 404 j := by
  unfold rr; rw [if_neg (by omega), if_neg (by omega), if_pos (by omega), show 44 + j - 44 = j by omega]
theorem rr_K (f : Nat → Nat → Int) (j : Nat) : rr f (60 + j) = f 407 j := by
  unfold rr; rw [if_neg (by omega), if_neg (by omega), if_neg (by omega), show 60 + j - 60 = j by omega]
theorem Mod_moves_e (m : MS h) {P : Nat} {bk : Bool} (e1 : f 401 44 = P) (hP : P < 3276) (e2 : f 401 45 = bi bk) (v : Int) : Mod_moves 401 v (WI h f) = some (if bk then f 423 P else v, WI h (up2 (up2 f 423 P (if bk then f 423 P else v)) 401 44 ((P : Int) + 1))) := by
  have m1 : ∀ f, MS (WI h f) := fun _ => m
  have fin : ∀ v, Mod_moves_L20 401 v (WI h f) = some (v, WI h (up2 (up2 f 423 P v) 401 44 ((P : Int) + 1))) := fun v => by
    unfold Mod_moves_L20
    rw [r_42 (m1 _), g_m (m1 _), hI_WI, e1, w_423 (m1 _) (by omega) (by omega), tN (P : Int) P rfl, WI_sI, g_m (m1 _), hI_WI, up2_e, if_neg (by omega), e1, wr_id (by omega) (by omega), p_m (m1 _), WI_sI]
  unfold Mod_moves
  rw [g_m (m1 _), hI_WI, e2, ite_bi, r_42 (m1 _), g_m (m1 _), hI_WI, e1, a_423 (m1 _) (by omega) (by omega), tN (P : Int) P rfl, hI_WI, fin, fin]
  cases bk <;> rfl
theorem movesRow_L (m : MS h) {A len P : Nat} {bk : Bool} (hk : hK h A = (21, len)) (hl : len < 1000) (hA : A ≠ 423) (hA2 : A ≠ 401) (hP : P + len ≤ 3276) : ∀ (n j fuel : Nat) (f : Nat → Nat → Int), j + n = len → n < fuel → f 401 44 = (P + j : Nat) → f 401 45 = bi bk → ∃ f', Mod_movesRow_L2 fuel 401 A (j : Int) (WI h f) = some ((), WI h f') ∧ ∀ a i, f' a i = if a = 401 ∧ i = 44 then ((P + len : Nat) : Int) else if a = A ∧ bk = true ∧ j ≤ i ∧ i < len then f 423 (P + i) else if a = 423 ∧ bk = false ∧ P + j ≤ i ∧ i < P + len then f A (i - P) else f a i
  | 0, j, fuel + 1, f, hj, _, e1, e2 => by
    have k1 : hK (WI h f) A = (21, len) := hk
    refine ⟨f, ?_, fun a i => ?_⟩
    · rw [Mod_movesRow_L2, aN_k k1, if_pos (by omega)]
    · by_cases c1 : a = 401 ∧ i = 44
      · rw [if_pos c1, c1.1, c1.2, e1, show P + j = P + len by omega]
      · rw [if_neg c1, if_neg (by omega), if_neg (by omega)]
  | n + 1, j, fuel + 1, f, hj, hf, e1, e2 => by
    have k1 : ∀ f, hK (WI h f) A = (21, len) := fun _ => hk
    have m1 : ∀ f, MS (WI h f) := fun _ => m
    rw [Mod_movesRow_L2, aN_k (k1 _), if_neg (by omega), aI_k (k1 _) (by omega) (by omega), c_m (m1 _), tN (j : Int) j rfl, hI_WI, Mod_moves_e m e1 (by omega) e2, bnd_some, wI_k (k1 _) (by omega) (by omega), WI_sI, tN (j : Int) j rfl, wr_id (by omega) (by omega), show (j : Int) + 1 = ((j + 1 : Nat) : Int) by omega]
    generalize hv : (if bk = true then f 423 (P + j) else f A j) = v
    obtain ⟨f', x1, x2⟩ := movesRow_L m hk hl hA hA2 hP n (j + 1) fuel (up2 (up2 (up2 f 423 (P + j) v) 401 44 (((P + j : Nat) : Int) + 1)) A j v) (by omega) (by omega) (by
      rw [up2_e, if_neg (by omega), up2_e, if_pos ⟨rfl, rfl⟩]; omega) (by
      rw [up2_e, if_neg (by omega), up2_e, if_neg (by omega), up2_e, if_neg (by omega)]; exact e2)
    refine ⟨f', x1, fun a i => ?_⟩
    rw [x2 a i]
    simp only [up2_e]
    cases bk <;> grind
theorem Mod_movesRow_e (m : MS h) {A len P : Nat} {bk : Bool} (hk : hK h A = (21, len)) (hl : len < 1000) (hA : A ≠ 423) (hA2 : A ≠ 401) (hP : P + len ≤ 3276) (f : Nat → Nat → Int) (e1 : f 401 44 = (P : Nat)) (e2 : f 401 45 = bi bk) : ∃ f', Mod_movesRow 401 A (WI h f) = some ((), WI h f') ∧ ∀ a i, f' a i = if a = 401 ∧ i = 44 then ((P + len : Nat) : Int) else if a = A ∧ bk = true ∧ i < len then f 423 (P + i) else if a = 423 ∧ bk = false ∧ P ≤ i ∧ i < P + len then f A (i - P) else f a i := by
  obtain ⟨f', x1, x2⟩ := movesRow_L m hk hl hA hA2 hP len 0 FU f (by omega) (by have := FU_big; omega) (by rw [e1]; rfl) e2
  refine ⟨f', x1, fun a i => ?_⟩
  rw [x2 a i]
  simp only [Nat.zero_le, true_and, Nat.add_zero]
/-- what follows the scalars -/
def mvT (h : AH) : Option (Unit × AH) := gR h 13 401 2 fun r1 => rc h 13 401 <| bnd (Mod_movesRow 401 r1 h) fun _ h2 => gR h2 13 401 3 fun r5 => rc h2 13 401 <| bnd (Mod_movesRow 401 r5 h2) fun _ h6 => gR h6 13 401 9 fun r9 => rc h6 13 401 <| bnd (Mod_movesRow 401 r9 h6) fun _ h10 => some ((), h10)
theorem movesAll_L (m : MS h) {P : Nat} {bk : Bool} (hP : P + 8 ≤ 3276) : ∀ (n j fuel : Nat) (f : Nat → Nat → Int), j + n = 8 → n < fuel → f 401 44 = (P + j : Nat) → f 401 45 = bi bk → ∃ f', Mod_movesAll_L16 fuel 401 (j : Int) (WI h f) = mvT (WI h f') ∧ ∀ a i, f' a i = if a = 401 ∧ i = 44 then ((P + 8 : Nat) : Int) else if a = 402 ∧ bk = true ∧ j ≤ i ∧ i < 8 then f 423 (P + i) else if a = 423 ∧ bk = false ∧ P + j ≤ i ∧ i < P + 8 then f 402 (i - P) else f a i
  | 0, j, fuel + 1, f, hj, _, e1, e2 => by
    refine ⟨f, ?_, fun a i => ?_⟩
    · rw [Mod_movesAll_L16, if_pos (by omega)]; rfl
    · by_cases c1 : a = 401 ∧ i = 44
      · rw [if_pos c1, c1.1, c1.2, e1, show P + j = P + 8 by omega]
      · rw [if_neg c1, if_neg (by omega), if_neg (by omega)]
  | n + 1, j, fuel + 1, f, hj, hf, e1, e2 => by
    have m1 : ∀ f, MS (WI h f) := fun _ => m
    rw [Mod_movesAll_L16, if_neg (by omega), r_1 (m1 _), r_1 (m1 _), a_402 (m1 _) (by omega) (by omega), c_m (m1 _), tN (j : Int) j rfl, hI_WI, Mod_moves_e m e1 (by omega) e2, bnd_some, w_402 (m1 _) (by omega) (by omega), WI_sI, tN (j : Int) j rfl, wr_id (by omega) (by omega), show (j : Int) + 1 = ((j + 1 : Nat) : Int) by omega]
    generalize hv : (if bk = true then f 423 (P + j) else f 402 j) = v
    obtain ⟨f', x1, x2⟩ := movesAll_L m hP n (j + 1) fuel (up2 (up2 (up2 f 423 (P + j) v) 401 44 (((P + j : Nat) : Int) + 1)) 402 j v) (by omega) (by omega) (by
      rw [up2_e, if_neg (by omega), up2_e, if_pos ⟨rfl, rfl⟩]; omega) (by
      rw [up2_e, if_neg (by omega), up2_e, if_neg (by omega), up2_e, if_neg (by omega)]; exact e2)
    refine ⟨f', x1, fun a i => ?_⟩
    rw [x2 a i]
    simp only [up2_e]
    cases bk <;> grind
/-- saved, and taken back -/
def svF (f : Nat → Nat → Int) (k : Nat) : Nat → Nat → Int := fun a i => if a = 401 ∧ i = 44 then ((156 * k + 156 : Nat) : Int) else if a = 401 ∧ i = 45 then 0 else if a = 423 ∧ 156 * k ≤ i ∧ i < 156 * k + 156 then rr f (i - 156 * k) else f a i
def ldF (f : Nat → Nat → Int) (k : Nat) : Nat → Nat → Int := fun a i => if a = 401 ∧ i = 44 then ((156 * k + 156 : Nat) : Int) else if a = 401 ∧ i = 45 then 1 else if a = 402 ∧ i < 8 then f 423 (156 * k + i) else if a = 403 ∧ i < 36 then f 423 (156 * k + (8 + i)) else if a = 404 ∧ i < 16 then f 423 (156 * k + (44 + i)) else if a = 407 ∧ i < 96 then f 423 (156 * k + (60 + i)) else f a i
theorem movesAll_x (m : MS h) {k : Nat} (hk : k ≤ 20) (bk : Bool) (f : Nat → Nat → Int) : ∃ f1 f2 f3 f4 : Nat → Nat → Int, Mod_movesAll 401 (k : Int) (bi bk) (WI h f) = some ((), WI h f4) ∧
    (∀ a i, f1 a i = if a = 401 ∧ i = 44 then ((156 * k + 8 : Nat) : Int) else if a = 402 ∧ bk = true ∧ i < 8 then f 423 (156 * k + i) else if a = 423 ∧ bk = false ∧ 156 * k ≤ i ∧ i < 156 * k + 8 then f 402 (i - 156 * k) else if a = 401 ∧ i = 45 then bi bk else f a i) ∧
    (∀ a i, f2 a i = if a = 401 ∧ i = 44 then ((156 * k + 8 + 36 : Nat) : Int) else if a = 403 ∧ bk = true ∧ i < 36 then f1 423 (156 * k + 8 + i) else if a = 423 ∧ bk = false ∧ 156 * k + 8 ≤ i ∧ i < 156 * k + 8 + 36 then f1 403 (i - (156 * k + 8)) else f1 a i) ∧
    (∀ a i, f3 a i = if a = 401 ∧ i = 44 then ((156 * k + 44 + 16 : Nat) : Int) else if a = 404 ∧ bk = true ∧ i < 16 then f2 423 (156 * k + 44 + i) else if a = 423 ∧ bk = false ∧ 156 * k + 44 ≤ i ∧ i < 156 * k + 44 + 16 then f2 404 (i - (156 * k + 44)) else f2 a i) ∧
    (∀ a i, f4 a i = if a = 401 ∧ i = 44 then ((156 * k + 60 + 96 : Nat) : Int) else if a = 407 ∧ bk = true ∧ i < 96 then f3 423 (156 * k + 60 + i) else if a = 423 ∧ bk = false ∧ 156 * k + 60 ≤ i ∧ i < 156 * k + 60 + 96 then f3 407 (i - (156 * k + 60)) else f3 a i) := by
  have m1 : ∀ f, MS (WI h f) := fun _ => m
  obtain ⟨f1, x1, y1⟩ := movesAll_L m (P := 156 * k) (bk := bk) (by omega) 8 0 FU (up2 (up2 f 401 44 ((156 * k : Nat) : Int)) 401 45 (bi bk)) (by omega) (by decide) (by rw [up2_e, if_neg (by omega), up2_e, if_pos ⟨rfl, rfl⟩]; rfl) (by rw [up2_e, if_pos ⟨rfl, rfl⟩])
  have s1 : f1 401 44 = ((156 * k + 8 : Nat) : Int) := by rw [y1, if_pos ⟨rfl, rfl⟩]
  have t1 : f1 401 45 = bi bk := by rw [y1, if_neg (by omega), if_neg (by omega), if_neg (by omega), up2_e, if_pos ⟨rfl, rfl⟩]
  obtain ⟨f2, x2, y2⟩ := Mod_movesRow_e m (P := 156 * k + 8) (bk := bk) (m.K 1 rfl).2 (by decide) (by decide) (by decide) (by omega) f1 s1 t1
  have s2 : f2 401 44 = ((156 * k + 44 : Nat) : Int) := by rw [y2, if_pos ⟨rfl, rfl⟩]
  have t2 : f2 401 45 = bi bk := by rw [y2, if_neg (by omega), if_neg (by omega), if_neg (by omega)]; exact t1
  obtain ⟨f3, x3, y3⟩ := Mod_movesRow_e m (P := 156 * k + 44) (bk := bk) (m.K 2 rfl).2 (by decide) (by decide) (by decide) (by omega) f2 s2 t2
  have s3 : f3 401 44 = ((156 * k + 60 : Nat) : Int) := by rw [y3, if_pos ⟨rfl, rfl⟩]
  have t3 : f3 401 45 = bi bk := by rw [y3, if_neg (by omega), if_neg (by omega), if_neg (by omega)]; exact t2
  obtain ⟨f4, x4, y4⟩ := Mod_movesRow_e m (P := 156 * k + 60) (bk := bk) (m.K 5 rfl).2 (by decide) (by decide) (by decide) (by omega) f3 s3 t3
  refine ⟨f1, f2, f3, f4, ?_, fun a i => ?_, y2, y3, y4⟩
  · unfold Mod_movesAll
    rw [p_m (m1 _), WI_sI, z_m (m1 _) (bi_01 _), WI_sI, wr_id (by omega) (by omega), show 156 * (k : Int) = ((156 * k : Nat) : Int) by omega]
    rw [show ((0 : Nat) : Int) = 0 from rfl] at x1
    rw [x1]
    unfold mvT
    rw [r_2 (m1 _), c_m (m1 _), x2, bnd_some, r_3 (m1 _), c_m (m1 _), x3, bnd_some, r_9 (m1 _), c_m (m1 _), x4, bnd_some]
  · rw [y1 a i]
    simp only [up2_e]
    grind
theorem Mod_saves (m : MS h) {k : Nat} (hk : k ≤ 20) (f : Nat → Nat → Int) : Mod_movesAll 401 (k : Int) 0 (WI h f) = some ((), WI h (svF f k)) := by
  obtain ⟨f1, f2, f3, f4, x, y1, y2, y3, y4⟩ := movesAll_x m hk false f
  rw [bi_f] at x
  rw [x]
  congr 2
  refine WI_ext h (fun a i => ?_)
  simp only [y4, y3, y2, y1, svF, rr, bi_f]
  grind
theorem Mod_loads (m : MS h) {k : Nat} (hk : k ≤ 20) (f : Nat → Nat → Int) : Mod_movesAll 401 (k : Int) 1 (WI h f) = some ((), WI h (ldF f k)) := by
  obtain ⟨f1, f2, f3, f4, x, y1, y2, y3, y4⟩ := movesAll_x m hk true f
  rw [bi_t] at x
  rw [x]
  congr 2
  refine WI_ext h (fun a i => ?_)
  simp only [y4, y3, y2, y1, ldF, bi_t]
  grind
theorem keepsAct_L (m : MS h) : ∀ (n j fuel : Nat) (f : Nat → Nat → Int), j + n = 3120 → 156 ≤ j → n < fuel → f 401 43 = 20 → ∃ f', Mod_keepsAct_L13 fuel 401 (j : Int) (WI h f) = Mod_keepsAct_L52 401 (WI h f') ∧ ∀ a i, f' a i = if a = 401 ∧ i = 43 then 19 else if a = 423 ∧ j ≤ i + 156 ∧ i < 2964 then f 423 (i + 156) else f a i
  | 0, j, fuel + 1, f, hj, _, _, e => by
    have m1 : ∀ f, MS (WI h f) := fun _ => m
    refine ⟨up2 f 401 43 19, ?_, fun a i => ?_⟩
    · rw [Mod_keepsAct_L13, if_pos (by omega), g_m (m1 _), hI_WI, e, p_m (m1 _), WI_sI]; rfl
    · rw [up2_e]
      by_cases c1 : a = 401 ∧ i = 43
      · rw [if_pos c1, if_pos c1]
      · rw [if_neg c1, if_neg c1, if_neg (by omega)]
  | n + 1, j, fuel + 1, f, hj, hj2, hf, e => by
    have m1 : ∀ f, MS (WI h f) := fun _ => m
    obtain ⟨f', x1, x2⟩ := keepsAct_L m n (j + 1) fuel (up2 f 423 (j - 156) (f 423 j)) (by omega) (by omega) (by omega) (by rw [up2_e, if_neg (by omega)]; exact e)
    refine ⟨f', ?_, fun a i => ?_⟩
    · rw [Mod_keepsAct_L13, if_neg (by omega), r_42 (m1 _), r_42 (m1 _), a_423 (m1 _) (by omega) (by omega), wr_id (by omega) (by omega), w_423 (m1 _) (by omega) (by omega), WI_sI, hI_WI, tN (j : Int) j rfl, tN ((j : Int) - 156) (j - 156) (by omega), wr_id (by omega) (by omega), show (j : Int) + 1 = ((j + 1 : Nat) : Int) by omega]
      exact x1
    · rw [x2 a i]
      simp only [up2_e]
      by_cases c1 : a = 401 ∧ i = 43
      · rw [if_pos c1, if_pos c1]
      · rw [if_neg c1, if_neg c1]
        by_cases c2 : a = 423 ∧ j ≤ i + 156 ∧ i < 2964
        · rw [if_pos c2]
          by_cases c3 : i + 156 = j
          · rw [if_neg (by omega), if_pos (by omega), c3]
          · rw [if_pos (by omega), if_neg (by omega)]
        · rw [if_neg c2, if_neg (by omega), if_neg (by omega)]
/-- an act can be undone -/
def KA (f f' : Nat → Nat → Int) : Prop := (∀ a i, a ≠ 423 → ¬ (a = 401 ∧ (i = 43 ∨ i = 44 ∨ i = 45)) → f' a i = f a i) ∧ f' 401 43 = (if f 401 43 = 20 then 20 else f 401 43 + 1) ∧ ∀ k j : Nat, (k : Int) < f' 401 43 → j < 156 → f' 423 (156 * k + j) = if (k : Int) + 1 = f' 401 43 then rr f j else if f 401 43 = 20 then f 423 (156 * (k + 1) + j) else f 423 (156 * k + j)
theorem Mod_keepsAct_e (m : MS h) {f : Nat → Nat → Int} (h0 : 0 ≤ f 401 43) (h1 : f 401 43 ≤ 20) : ∃ f', Mod_keepsAct 401 (WI h f) = some ((), WI h f') ∧ KA f f' := by
  have m1 : ∀ f, MS (WI h f) := fun _ => m
  have fin : ∀ (f : Nat → Nat → Int) (k : Nat), f 401 43 = (k : Int) → k ≤ 19 → Mod_keepsAct_L52 401 (WI h f) = some ((), WI h (up2 (svF f k) 401 43 ((k : Int) + 1))) := fun f k e hk => by
    unfold Mod_keepsAct_L52
    rw [g_m (m1 _), hI_WI, e, c_m (m1 _), Mod_saves m (by omega), bnd_some, g_m (m1 _), hI_WI, show svF f k 401 43 = (k : Int) by unfold svF; rw [if_neg (by omega), if_neg (by omega), if_neg (by omega)]; exact e, wr_id (by omega) (by omega), p_m (m1 _), WI_sI]
  unfold Mod_keepsAct
  rw [g_m (m1 _), hI_WI]
  by_cases e : f 401 43 = 20
  · rw [if_neg (by simpa using e)]
    obtain ⟨f', x1, x2⟩ := keepsAct_L m 2964 156 FU f (by omega) (by omega) (by have := FU_big; omega) e
    rw [show ((156 : Nat) : Int) = 156 from rfl] at x1
    rw [x1, fin f' 19 (by rw [x2, if_pos ⟨rfl, rfl⟩]; rfl) (by omega)]
    refine ⟨_, rfl, fun a i h1 h2 => ?_, ?_, fun k j hk hj => ?_⟩
    · rw [up2_e, if_neg (by omega)]
      unfold svF
      rw [if_neg (by omega), if_neg (by omega), if_neg (by omega), x2, if_neg (by omega), if_neg (by omega)]
    · rw [up2_e, if_pos ⟨rfl, rfl⟩, if_pos e]; rfl
    · simp only [up2_e, svF, rr, x2] at hk ⊢
      grind
  · rw [if_pos e]
    have ek : f 401 43 = (((f 401 43).toNat : Nat) : Int) := by omega
    rw [fin f (f 401 43).toNat ek (by omega)]
    generalize (f 401 43).toNat = k0 at ek
    refine ⟨_, rfl, fun a i h1 h2 => ?_, ?_, fun k j hk hj => ?_⟩
    · rw [up2_e, if_neg (by omega)]
      unfold svF
      rw [if_neg (by omega), if_neg (by omega), if_neg (by omega)]
    · rw [up2_e, if_pos ⟨rfl, rfl⟩, if_neg e, ek]
    · simp only [up2_e, svF, rr] at hk ⊢
      grind
/-- the last act is undone -/
theorem Mod_undo_e (m : MS h) (h0 : 0 ≤ hI h 401 43) (h1 : hI h 401 43 ≤ 20) : Mod_undo 401 h = if hI h 401 43 = 0 then some (-2, h) else some (hI h 401 43 - 1, WI h (ldF (up2 (hI h) 401 43 (hI h 401 43 - 1)) (hI h 401 43 - 1).toNat)) := by
  have m1 : ∀ f, MS (WI h f) := fun _ => m
  unfold Mod_undo
  rw [g_m m]
  by_cases e : hI h 401 43 = 0
  · rw [if_pos e, if_neg (by simpa using e)]
  · rw [if_neg e, if_pos e, g_m m, wr_id (by omega) (by omega), p_m m, sI_WI, g_m (m1 _), hI_WI, up2_e, if_pos ⟨rfl, rfl⟩, c_m (m1 _)]
    have := Mod_loads m (k := (hI h 401 43 - 1).toNat) (by omega) (up2 (hI h) 401 43 (hI h 401 43 - 1))
    rw [show (((hI h 401 43 - 1).toNat : Nat) : Int) = hI h 401 43 - 1 by omega] at this
    rw [this, bnd_some, g_m (m1 _), hI_WI]
    congr 2
end R17
