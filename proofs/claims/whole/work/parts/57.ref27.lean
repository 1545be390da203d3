/-! Level 2: images -/
section R27
variable {h H : AH} {f f' f0 f1 f2 g : Nat → Nat → Int} {ρ ρ' : Nat → Int}
theorem up2_id (f : Nat → Nat → Int) (a k : Nat) : up2 f a k (f a k) = f := by
  funext b j; rw [up2_e]; split
  · rename_i c; rw [c.1, c.2]
  · rfl
theorem Mod_carries_e (m : MS h) {P : Nat} {bk : Bool} (e1 : f 401 48 = P) (hP : P < 13112) (e2 : f 401 49 = bi bk) (v : Int) : Mod_carries 401 v (WI h f) = some (if bk then f 424 P else v, WI h (up2 (up2 f 424 P (if bk then f 424 P else v)) 401 48 ((P : Int) + 1))) := by
  have m1 : ∀ f, MS (WI h f) := fun _ => m
  have fin : ∀ g : Nat → Nat → Int, g 401 48 = P → Mod_carries_L17 401 (WI h g) = some (g 424 P, WI h (up2 g 401 48 ((P : Int) + 1))) := fun g hg => by
    unfold Mod_carries_L17
    rw [g_m (m1 _), hI_WI, hg, wr_id (by omega) (by omega), p_m (m1 _), WI_sI, r_46 (m1 _), g_m (m1 _), hI_WI, show up2 g 401 48 ((P : Int) + 1) 401 48 = (P : Int) + 1 by rw [up2_e, if_pos ⟨rfl, rfl⟩], wr_id (by omega) (by omega), show (P : Int) + 1 - 1 = P by omega, a_424 (m1 _) (by omega) (by omega), hI_WI, tN (P : Int) P rfl, up2_ne (by decide)]
  unfold Mod_carries
  rw [g_m (m1 _), hI_WI, e2, ite_nbi]
  cases bk
  · rw [if_neg (by decide), if_neg (by decide), r_46 (m1 _), g_m (m1 _), hI_WI, e1, w_424 (m1 _) (by omega) (by omega), WI_sI, tN (P : Int) P rfl, fin _ (by rw [up2_e, if_neg (by omega)]; exact e1), up2_e, if_pos ⟨rfl, rfl⟩]
  · rw [if_pos rfl, if_pos rfl, fin f e1, up2_id]
theorem carriesAll_L (m : MS h) {P : Nat} {bk : Bool} (hP : P + 3276 ≤ 13112) : ∀ (n j fuel : Nat) (f : Nat → Nat → Int), j + n = 3276 → n < fuel → f 401 48 = (P + j : Nat) → f 401 49 = bi bk → ∃ f', Mod_carriesAll_L46 fuel 401 (j : Int) (WI h f) = some ((), WI h f') ∧ ∀ a i, f' a i = if a = 401 ∧ i = 48 then ((P + 3276 : Nat) : Int) else if a = 423 ∧ bk = true ∧ j ≤ i ∧ i < 3276 then f 424 (P + i) else if a = 424 ∧ bk = false ∧ P + j ≤ i ∧ i < P + 3276 then f 423 (i - P) else f a i := by
  have m1 : ∀ f, MS (WI h f) := fun _ => m
  intro n
  induction n with
  | zero =>
    intro j fuel f hj hf e1 e2
    obtain ⟨fuel, rfl⟩ : ∃ k, fuel = k + 1 := ⟨fuel - 1, by omega⟩
    refine ⟨f, ?_, fun a i => ?_⟩
    · rw [Mod_carriesAll_L46, if_pos (by omega)]
    · by_cases c1 : a = 401 ∧ i = 48
      · rw [if_pos c1, c1.1, c1.2, e1, show P + j = P + 3276 by omega]
      · rw [if_neg c1, if_neg (by omega), if_neg (by omega)]
  | succ n ih =>
    intro j fuel f hj hf e1 e2
    obtain ⟨fuel, rfl⟩ : ∃ k, fuel = k + 1 := ⟨fuel - 1, by omega⟩
    rw [Mod_carriesAll_L46, if_neg (by omega), r_42 (m1 _), r_42 (m1 _), a_423 (m1 _) (by omega) (by omega), c_m (m1 _), tN (j : Int) j rfl, hI_WI, Mod_carries_e m e1 (by omega) e2, bnd_some, w_423 (m1 _) (by omega) (by omega), WI_sI, tN (j : Int) j rfl, wr_id (by omega) (by omega), show (j : Int) + 1 = ((j + 1 : Nat) : Int) by omega]
    generalize hv : (if bk = true then f 424 (P + j) else f 423 j) = v
    obtain ⟨f', x1, x2⟩ := ih (j + 1) fuel (up2 (up2 (up2 f 424 (P + j) v) 401 48 (((P + j : Nat) : Int) + 1)) 423 j v) (by omega) (by omega) (by
      rw [up2_e, if_neg (by omega), up2_e, if_pos ⟨rfl, rfl⟩]; omega) (by
      rw [up2_e, if_neg (by omega), up2_e, if_neg (by omega), up2_e, if_neg (by omega)]; exact e2)
    refine ⟨f', x1, fun a i => ?_⟩
    rw [x2 a i]
    simp only [up2_e]
    cases bk <;> grind
def imF (f : Nat → Nat → Int) (k : Nat) : Nat → Nat → Int := fun a i => if a = 401 ∧ i = 48 then ((3278 * k + 3278 : Nat) : Int) else if a = 401 ∧ i = 49 then 0 else if a = 424 ∧ 3278 * k ≤ i ∧ i < 3278 * k + 3278 then (if i = 3278 * k then f 401 43 else if i = 3278 * k + 1 then f 402 8 else f 423 (i - (3278 * k + 2))) else f a i
def ibF (f : Nat → Nat → Int) (k : Nat) : Nat → Nat → Int := fun a i => if a = 401 ∧ i = 48 then ((3278 * k + 3278 : Nat) : Int) else if a = 401 ∧ i = 49 then 1 else if a = 401 ∧ i = 43 then f 424 (3278 * k) else if a = 402 ∧ i = 8 then f 424 (3278 * k + 1) else if a = 423 ∧ i < 3276 then f 424 (3278 * k + 2 + i) else f a i
theorem carriesAll_x (m : MS h) {k : Nat} (hk : k < 4) (bk : Bool) (f : Nat → Nat → Int) : Mod_carriesAll 401 (k : Int) (bi bk) (WI h f) = some ((), WI h (if bk then ibF f k else imF f k)) := by
  have m1 : ∀ f, MS (WI h f) := fun _ => m
  have big := FU_big
  unfold Mod_carriesAll
  rw [p_m (m1 _), WI_sI, z_m (m1 _) (bi_01 _), WI_sI, wr_id (by omega) (by omega), show 3278 * (k : Int) = ((3278 * k : Nat) : Int) by omega, g_m (m1 _), hI_WI, c_m (m1 _)]
  generalize hg : up2 (up2 f 401 48 ((3278 * k : Nat) : Int)) 401 49 (bi bk) = g
  rw [Mod_carries_e m (P := 3278 * k) (bk := bk) (by rw [← hg, up2_e, if_neg (by omega), up2_e, if_pos ⟨rfl, rfl⟩]) (by omega) (by rw [← hg, up2_e, if_pos ⟨rfl, rfl⟩]), bnd_some, p_m (m1 _), WI_sI, r_1 (m1 _), r_1 (m1 _), a_402 (m1 _) (by decide) (by decide), hI_WI, show (8 : Int).toNat = 8 from rfl, c_m (m1 _)]
  generalize hg2 : up2 (up2 (up2 g 424 (3278 * k) (if bk = true then g 424 (3278 * k) else g 401 43)) 401 48 (((3278 * k : Nat) : Int) + 1)) 401 43 (if bk = true then g 424 (3278 * k) else g 401 43) = g2
  rw [Mod_carries_e m (P := 3278 * k + 1) (bk := bk) (by rw [← hg2, up2_e, if_neg (by omega), up2_e, if_pos ⟨rfl, rfl⟩]; omega) (by omega) (by rw [← hg2, up2_e, if_neg (by omega), up2_e, if_neg (by omega), up2_e, if_neg (by omega), ← hg, up2_e, if_pos ⟨rfl, rfl⟩]), bnd_some, w_402 (m1 _) (by decide) (by decide), WI_sI, show (8 : Int).toNat = 8 from rfl]
  generalize hg3 : up2 (up2 (up2 g2 424 (3278 * k + 1) (if bk = true then g2 424 (3278 * k + 1) else g2 402 8)) 401 48 (((3278 * k + 1 : Nat) : Int) + 1)) 402 8 (if bk = true then g2 424 (3278 * k + 1) else g2 402 8) = g3
  obtain ⟨f', x1, x2⟩ := carriesAll_L m (P := 3278 * k + 2) (bk := bk) (by omega) 3276 0 FU g3 (by omega) (by omega) (by rw [← hg3, up2_e, if_neg (by omega), up2_e, if_pos ⟨rfl, rfl⟩]; omega) (by rw [← hg3, up2_e, if_neg (by omega), up2_e, if_neg (by omega), up2_e, if_neg (by omega), ← hg2, up2_e, if_neg (by omega), up2_e, if_neg (by omega), up2_e, if_neg (by omega), ← hg, up2_e, if_pos ⟨rfl, rfl⟩])
  rw [show ((0 : Nat) : Int) = 0 from rfl] at x1
  rw [x1]
  congr 2
  refine WI_ext h (fun a i => ?_)
  rw [x2 a i, ← hg3]
  simp only [up2_e]
  rw [← hg2]
  simp only [up2_e]
  rw [← hg]
  simp only [up2_e]
  cases bk
  · show _ = imF f k a i
    simp only [imF, bi_f]
    clear x1 x2 hg hg2 hg3 m1
    grind
  · show _ = ibF f k a i
    simp only [ibF, bi_t]
    clear x1 x2 hg hg2 hg3 m1
    grind
/-- an image is made -/
def imgF (h : AH) (k : Nat) : Nat → Nat → Int := imF (svF (up2 (hI h) 425 k 1) 20) k
theorem Mod_image_e (m : MS h) (k : Int) : Mod_image 401 k h = if 0 ≤ k ∧ k ≤ 3 then some (hI h 402 7, WI h (imgF h k.toNat)) else some (-1, h) := by
  have m1 : ∀ f, MS (WI h f) := fun _ => m
  unfold Mod_image
  rw [Mod_in_e, bnd_some, ite_nbi]
  by_cases e : 0 ≤ k ∧ k ≤ 3
  · obtain ⟨K, rfl⟩ : ∃ K : Nat, k = (K : Int) := ⟨k.toNat, by omega⟩
    have s := Mod_saves m (k := 20) (by decide) (up2 (hI h) 425 K 1)
    have c := carriesAll_x m (k := K) (by omega) false (svF (up2 (hI h) 425 K 1) 20)
    rw [bi_f] at c
    rw [show ((20 : Nat) : Int) = 20 from rfl] at s
    rw [if_pos (inB_i.mpr e), if_pos e, r_47 m, w_425 m (by omega) (by omega) (Or.inr rfl), sI_WI, show ((K : Nat) : Int).toNat = K from rfl, c_m (m1 _), s, bnd_some, c_m (m1 _), c, bnd_some, r_1 (m1 _), a_402 (m1 _) (by decide) (by decide), hI_WI]
    rfl
  · rw [if_neg (fun x => e (inB_i.mp x)), if_neg e]
def bckF (h : AH) (k : Nat) : Nat → Nat → Int := ldF (ibF (hI h) k) 20
theorem Mod_back_e (m : MS h) (k : Int) : Mod_back 401 k h = if (0 ≤ k ∧ k ≤ 3) ∧ hI h 425 k.toNat ≠ 0 then some (hI h 424 (3278 * k.toNat + 2 + 3127), WI h (bckF h k.toNat)) else some (-1, h) := by
  have m1 : ∀ f, MS (WI h f) := fun _ => m
  unfold Mod_back
  rw [Mod_in_e, bnd_some, ite_bi]
  by_cases e : 0 ≤ k ∧ k ≤ 3
  · obtain ⟨K, rfl⟩ : ∃ K : Nat, k = (K : Int) := ⟨k.toNat, by omega⟩
    rw [if_pos (inB_i.mpr e), r_47 m, a_425 m (by omega) (by omega), show ((K : Nat) : Int).toNat = K from rfl]
    by_cases e2 : hI h 425 K ≠ 0
    · have c := carriesAll_x m (k := K) (by omega) true (hI h)
      have s := Mod_loads m (k := 20) (by decide) (ibF (hI h) K)
      rw [bi_t, WI_id, if_pos rfl] at c
      rw [show ((20 : Nat) : Int) = 20 from rfl] at s
      rw [if_pos e2, if_pos ⟨e, e2⟩, c_m m, c, bnd_some, c_m (m1 _), s, bnd_some, r_1 (m1 _), a_402 (m1 _) (by decide) (by decide), hI_WI]
      congr 2
    · rw [if_neg e2, if_neg (fun x => e2 x.2)]
  · rw [if_neg (fun x => e (inB_i.mp x)), if_neg (fun x => e x.1)]
end R27
