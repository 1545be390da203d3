/-! Level 2: reading by the reference -/
/-- the reference at p, with a fault -/
def r41 (f : Nat → Nat → Int) (p φ : Int) : Nat → Nat → Int := fun a i => if a = 401 ∧ i = 19 then p else if a = 401 ∧ i = 20 then φ else f a i
def S41 (K : AH) (p : Nat) (φ : Int) : AH := WI K (r41 (hI K) p φ)
/-- the reference's text -/
def RDM (K : AH) (n : Nat) (T : Nat → Int) : Prop := MS K ∧ hI K 401 18 = n ∧ n ≤ 400 ∧ ∀ i, i < n → T i = hI K 415 i % 256 ∧ -128 ≤ hI K 415 i ∧ hI K 415 i ≤ 127
section L5
variable {K : AH} {n p : Nat} {φ : Int} {T : Nat → Int}
theorem s41_m (m : MS K) (p : Nat) (φ : Int) : MS (S41 K p φ) := m
theorem s41_e (a i : Nat) : hI (S41 K p φ) a i = if a = 401 ∧ i = 19 then (p : Int) else if a = 401 ∧ i = 20 then φ else hI K a i := rfl
theorem s41_19 : hI (S41 K p φ) 401 19 = p := by rw [s41_e, if_pos ⟨rfl, rfl⟩]
theorem s41_20 : hI (S41 K p φ) 401 20 = φ := by rw [s41_e, if_neg (by decide), if_pos ⟨rfl, rfl⟩]
theorem s41_o {i : Nat} (h1 : i ≠ 19) (h2 : i ≠ 20) : hI (S41 K p φ) 401 i = hI K 401 i := by rw [s41_e, if_neg (by omega), if_neg (by omega)]
theorem s41_n {a : Nat} (ha : a ≠ 401) : hI (S41 K p φ) a = hI K a := by
  funext i; rw [s41_e, if_neg (by omega), if_neg (by omega)]
theorem s41_p (v : Nat) : sI (S41 K p φ) 401 19 (v : Int) = S41 K v φ := by
  unfold S41
  rw [WI_sI]
  refine WI_ext K (fun a i => ?_)
  rw [up2_e]; unfold r41; grind
theorem s41_f (v : Int) : sI (S41 K p φ) 401 20 v = S41 K p v := by
  unfold S41
  rw [WI_sI]
  refine WI_ext K (fun a i => ?_)
  rw [up2_e]; unfold r41; grind
theorem S41_K (K : AH) (p : Nat) (φ : Int) (h2 : hI K 401 19 = p) (h3 : hI K 401 20 = φ) : S41 K p φ = K := by
  show WI K (r41 (hI K) p φ) = WI K (hI K)
  refine WI_ext K (fun a i => ?_)
  unfold r41
  by_cases c : a = 401 ∧ i = 19
  · rw [if_pos c, c.1, c.2, h2]
  · rw [if_neg c]
    by_cases d : a = 401 ∧ i = 20
    · rw [if_pos d, d.1, d.2, h3]
    · rw [if_neg d]
theorem sign_L (r : RDM K n T) : ∀ (k p fuel : Nat), n - p = k → p < 1000 → k < fuel → Mod_sign_L0 fuel 401 (S41 K p φ) = some (if sk T n p < n then T (sk T n p) else -1, S41 K (sk T n p) φ) := by
  obtain ⟨m, r4, r5, rT⟩ := id r
  have l38 : ∀ q : Nat, q < 1000 → Mod_sign_L38 401 (S41 K q φ) = some (if q < n then T q else -1, S41 K q φ) := fun q hq => by
    unfold Mod_sign_L38
    rw [g_m (s41_m m _ _), s41_19, g_m (s41_m m _ _), s41_o (by decide) (by decide), r4]
    by_cases c : (n : Int) ≤ q
    · rw [if_pos c, if_neg (by omega)]
    · rw [if_neg c, r_21 (s41_m m _ _), g_m (s41_m m _ _), s41_19, a_415 (s41_m m _ _) (by omega) (by omega), s41_n (by decide), tN (q : Int) q rfl, iAnd_255, if_pos (by omega), (rT q (by omega)).1]
  intro k
  induction k with
  | zero =>
    intro p fuel hk hp hf
    obtain ⟨fuel, rfl⟩ : ∃ j, fuel = j + 1 := ⟨fuel - 1, by omega⟩
    rw [Mod_sign_L0, g_m (s41_m m _ _), s41_19, g_m (s41_m m _ _), s41_o (by decide) (by decide), r4, if_pos (by omega), l38 p hp, sk_e _ _ p, if_neg (show ¬ (p < n ∧ T p = 32) by omega)]
  | succ k ih =>
    intro p fuel hk hp hf
    obtain ⟨fuel, rfl⟩ : ∃ j, fuel = j + 1 := ⟨fuel - 1, by omega⟩
    have tp := rT p (by omega)
    rw [Mod_sign_L0, g_m (s41_m m _ _), s41_19, g_m (s41_m m _ _), s41_o (by decide) (by decide), r4, if_neg (by omega), r_21 (s41_m m _ _), g_m (s41_m m _ _), s41_19, a_415 (s41_m m _ _) (by omega) (by omega), s41_n (by decide), tN (p : Int) p rfl, l38 p hp, g_m (s41_m m _ _), s41_19, p_m (s41_m m _ _), wr_id (by omega) (by omega), show (p : Int) + 1 = ((p + 1 : Nat) : Int) by omega, s41_p, ih (p + 1) fuel (by omega) (by omega) (by omega), sk_e _ _ p]
    by_cases c : hI K 415 p = 32
    · rw [if_neg (by omega), if_pos (show p < n ∧ T p = 32 by omega)]
    · rw [if_pos c, if_neg (show ¬ (p < n ∧ T p = 32) by omega)]
theorem sign_e (r : RDM K n T) (hp : p < 1000) (φ : Int) : Mod_sign 401 (S41 K p φ) = some (if sk T n p < n then T (sk T n p) else -1, S41 K (sk T n p) φ) := sign_L r (n - p) p FU rfl hp (by have := FU_big; have := r.2.2.1; omega)
theorem fails_e (r : RDM K n T) {q : Nat} (hq : q < 1000) {k : Int} (h0 : 0 ≤ k) (h1 : k < 10) : Mod_fails 401 k (q : Int) (S41 K p φ) = some ((), S41 K p (flt φ q k)) := by
  have m := r.1
  unfold Mod_fails flt
  rw [g_m (s41_m m _ _), s41_20, p_m (s41_m m _ _), wr_id (z := 8 * (q : Int)) (by omega) (by omega), wr_id (z := 1 + 8 * (q : Int)) (by omega) (by omega), wr_id (by omega) (by omega), s41_f]
  by_cases c : φ = 0
  · rw [if_neg (by omega), if_pos c]
  · rw [if_pos c, if_neg c]
theorem isDigit_e (r : RDM K n T) (hp : p < 1000) (φ : Int) : Mod_isDigit 401 (S41 K p φ) = some (bi (decide (p < n ∧ 48 ≤ T p ∧ T p ≤ 57)), S41 K p φ) := by
  obtain ⟨m, r4, r5, rT⟩ := id r
  unfold Mod_isDigit
  rw [g_m (s41_m m _ _), s41_19, g_m (s41_m m _ _), s41_o (by decide) (by decide), r4]
  by_cases c : (n : Int) ≤ p
  · rw [if_pos c, bi_n (by omega)]
  · have tp := rT p (by omega)
    rw [if_neg c, r_21 (s41_m m _ _), g_m (s41_m m _ _), s41_19, a_415 (s41_m m _ _) (by omega) (by omega), s41_n (by decide), tN (p : Int) p rfl, Mod_in_e, bnd_some, ite_bi]
    by_cases d : 48 ≤ hI K 415 p ∧ hI K 415 p ≤ 57
    · rw [if_pos (inB_i.mpr d), bi_d (by omega)]
    · rw [if_neg (fun x => d (inB_i.mp x)), bi_n (by omega)]
theorem stood_L67 (r : RDM K n T) {q w : Nat} (hw : 1 ≤ w ∧ w < 8) (hq : q + sLn w ≤ n) : ∀ (k i fuel : Nat) (v : Bool), i + k = sLn w → k < fuel → Mod_stood_L67 fuel 401 w ((sLn w : Nat) : Int) (bi v) (i : Int) (S41 K q φ) = some (bi (v && allR (fun i => decide (T (q + i) = sCh w i)) i k), S41 K q φ) := by
  obtain ⟨m, r4, r5, rT⟩ := id r
  have chb : ∀ w, w < 8 → ∀ i, i < 4 → 0 ≤ sCh w i ∧ sCh w i ≤ 127 := by decide
  have l4 : ∀ w, w < 8 → sLn w ≤ 4 := by decide
  have l4w := l4 w hw.2
  intro k
  induction k with
  | zero =>
    intro i fuel v hk hf
    obtain ⟨fuel, rfl⟩ : ∃ j, fuel = j + 1 := ⟨fuel - 1, by omega⟩
    rw [Mod_stood_L67, if_pos (by omega), rz_k (bi_01 _), allR_0, Bool.and_true]
  | succ k ih =>
    intro i fuel v hk hf
    obtain ⟨fuel, rfl⟩ : ∃ j, fuel = j + 1 := ⟨fuel - 1, by omega⟩
    have tp := rT (q + i) (by omega)
    have cb := chb w hw.2 i (by omega)
    have i0 := ih (i + 1) fuel false (by omega) (by omega)
    have i1 := ih (i + 1) fuel true (by omega) (by omega)
    rw [bi_f] at i0
    rw [bi_t] at i1
    rw [Mod_stood_L67, if_neg (by omega), ite_bi, rz_k (bi_01 _), allR_s]
    cases v
    · rw [if_neg (by decide)]; rfl
    · rw [if_pos rfl, r_21 (s41_m m _ _), g_m (s41_m m _ _), s41_19, wr_id (z := (q : Int) + i) (by omega) (by omega), a_415 (s41_m m _ _) (by omega) (by omega), s41_n (by decide), tN ((q : Int) + i) (q + i) (by omega), sAt, if_pos ⟨hw, by omega, by omega⟩, tN (i : Int) i rfl, wr_id (by omega) (by omega), show (i : Int) + 1 = ((i + 1 : Nat) : Int) by omega, i0, i1]
      by_cases c : hI K 415 (q + i) = sCh w i
      · rw [if_neg (by omega), decide_eq_true (show T (q + i) = sCh w i by omega), Bool.true_and, Bool.true_and]
      · rw [if_pos c, decide_eq_false (show ¬ T (q + i) = sCh w i by omega), Bool.false_and]; rfl
theorem stood_z (r : RDM K n T) {q w : Nat} {v2 : Int} (fuel : Nat) (i : Int) : Mod_stood_L67 (fuel + 1) 401 w v2 0 i (S41 K q φ) = some (0, S41 K q φ) := by
  rw [Mod_stood_L67, if_pos rfl, rz_k (Or.inl rfl)]
  split <;> rfl
theorem stood_L7 (r : RDM K n T) {q w : Nat} (hw : 1 ≤ w ∧ w < 8) (hq : q < 1000) : ∀ (k i fuel : Nat), n - (q + i) = k → i + wl T n (q + i) = wl T n q → q + i < 2000 → k < fuel → Mod_stood_L7 fuel 401 w (i : Int) (S41 K q φ) = some (bi (isW T n q w), S41 K q φ) := by
  obtain ⟨m, r4, r5, rT⟩ := id r
  have wb := wl_b T n q
  have l1 : 1 ≤ sLn w := by
    have : ∀ w, w < 8 → 1 ≤ w → 1 ≤ sLn w := by decide
    exact this w hw.2 hw.1
  have l50 : ∀ i : Nat, i = wl T n q → Mod_stood_L50 401 w (i : Int) (S41 K q φ) = some (bi (isW T n q w), S41 K q φ) := fun i hi => by
    unfold Mod_stood_L50 isW
    rw [sLen, if_pos hw]
    by_cases c : wl T n q = sLn w
    · rw [if_neg (by omega), decide_eq_true c, hi, c]
      have L := stood_L67 r (φ := φ) (q := q) hw (by omega) (sLn w) 0 FU true (by omega) (by have := FU_big; omega)
      rw [bi_t, show ((0 : Nat) : Int) = 0 from rfl] at L
      exact L
    · rw [if_pos (by omega), decide_eq_false c, Bool.false_and, show FU = 999999 + 1 from rfl, stood_z r]; rfl
  intro k
  induction k with
  | zero =>
    intro i fuel hk hd hi hf
    obtain ⟨fuel, rfl⟩ : ∃ j, fuel = j + 1 := ⟨fuel - 1, by omega⟩
    rw [wl_e _ _ (q + i), if_neg (by omega)] at hd
    rw [Mod_stood_L7, g_m (s41_m m _ _), s41_19, g_m (s41_m m _ _), s41_o (by decide) (by decide), r4, wr_id (by omega) (by omega), if_pos (by omega), l50 i (by omega)]
  | succ k ih =>
    intro i fuel hk hd hi hf
    obtain ⟨fuel, rfl⟩ : ∃ j, fuel = j + 1 := ⟨fuel - 1, by omega⟩
    have tp := rT (q + i) (by omega)
    rw [wl_e _ _ (q + i)] at hd
    rw [Mod_stood_L7, g_m (s41_m m _ _), s41_19, g_m (s41_m m _ _), s41_o (by decide) (by decide), r4, wr_id (z := (q : Int) + i) (by omega) (by omega), if_neg (by omega), r_21 (s41_m m _ _), g_m (s41_m m _ _), s41_19, wr_id (z := (q : Int) + i) (by omega) (by omega), a_415 (s41_m m _ _) (by omega) (by omega), s41_n (by decide), tN ((q : Int) + i) (q + i) (by omega), Mod_in_e, bnd_some, ite_bi]
    by_cases c : 97 ≤ hI K 415 (q + i) ∧ hI K 415 (q + i) ≤ 122
    · rw [if_pos (show q + i < n ∧ 97 ≤ T (q + i) ∧ T (q + i) ≤ 122 by omega)] at hd
      rw [if_pos (inB_i.mpr c), wr_id (by omega) (by omega), show (i : Int) + 1 = ((i + 1 : Nat) : Int) by omega, ih (i + 1) fuel (by omega) (by rw [← Nat.add_assoc]; omega) (by omega) (by omega)]
    · rw [if_neg (show ¬ (q + i < n ∧ 97 ≤ T (q + i) ∧ T (q + i) ≤ 122) by omega)] at hd
      rw [if_neg (fun x => c (inB_i.mp x)), l50 i (by omega)]
theorem stood_e (r : RDM K n T) (hp : p < 1000) (φ : Int) {w : Nat} (hw : 1 ≤ w ∧ w < 8) : Mod_stood 401 w (S41 K p φ) = some (bi (isW T n (sk T n p) w), S41 K (sk T n p) φ) := by
  have m := r.1
  have r5 := r.2.2.1
  have qb := sk_b T n p
  unfold Mod_stood
  rw [c_m (s41_m m _ _), sign_e r hp, bnd_some]
  exact stood_L7 r hw (by omega) (n - sk T n p) 0 FU rfl (by rw [Nat.add_zero]; omega) (by omega) (by have := FU_big; omega)
end L5
