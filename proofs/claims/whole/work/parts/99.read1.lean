/-! Level 2: reading: what is read, and the class's reader -/
def skp (T : Nat → Int) (n : Nat) : Nat → Nat → Nat
  | 0, p => p
  | k + 1, p => if p < n ∧ T p = 32 then skp T n k (p + 1) else p
def sk (T : Nat → Int) (n p : Nat) : Nat := skp T n (n - p) p
def wlp (T : Nat → Int) (n : Nat) : Nat → Nat → Nat
  | 0, _ => 0
  | k + 1, p => if p < n ∧ 97 ≤ T p ∧ T p ≤ 122 then wlp T n k (p + 1) + 1 else 0
def wl (T : Nat → Int) (n p : Nat) : Nat := wlp T n (n - p) p
def dlp (T : Nat → Int) (n : Nat) : Nat → Nat → Nat
  | 0, _ => 0
  | k + 1, p => if p < n ∧ 48 ≤ T p ∧ T p ≤ 57 then dlp T n k (p + 1) + 1 else 0
def dl (T : Nat → Int) (n p : Nat) : Nat := dlp T n (n - p) p
def nv (T : Nat → Int) (q : Nat) : Nat → Int
  | 0 => 0
  | k + 1 => if k < 5 then 10 * nv T q k + T (q + k) - 48 else nv T q k
def isW (T : Nat → Int) (n q w : Nat) : Bool := decide (wl T n q = sLn w) && allR (fun i => decide (T (q + i) = sCh w i)) 0 (sLn w)
def flt (φ : Int) (q : Nat) (k : Int) : Int := if φ = 0 then 1 + 8 * (q : Int) + k else φ
def nFl (T : Nat → Int) (n q : Nat) (top φ : Int) : Int := if dl T n q = 0 then flt φ q 0 else if 5 < dl T n q ∨ top < nv T q (dl T n q) then flt φ q 1 else φ
/-- the reader at p, with a fault -/
def r18 (f : Nat → Nat → Int) (p φ : Int) : Nat → Nat → Int := fun a i => if a = 18 ∧ i = 2 then p else if a = 18 ∧ i = 3 then φ else f a i
def S18 (K : AH) (p : Nat) (φ : Int) : AH := WI K (r18 (hI K) p φ)
def RDR (K : AH) (n : Nat) : Prop := hK K 18 = (7, 0) ∧ hR K 18 0 = 17 ∧ hK K 17 = (21, 400) ∧ hI K 18 1 = n ∧ n ≤ 400
section L1
variable {K : AH} {n p : Nat} {φ : Int} {T : Nat → Int}
theorem sk_e (T : Nat → Int) (n p : Nat) : sk T n p = if p < n ∧ T p = 32 then sk T n (p + 1) else p := by
  unfold sk
  by_cases c : p < n
  · rw [show n - p = (n - (p + 1)) + 1 by omega, skp]
  · rw [show n - p = 0 by omega, if_neg (fun x => c x.1)]; rfl
theorem wl_e (T : Nat → Int) (n p : Nat) : wl T n p = if p < n ∧ 97 ≤ T p ∧ T p ≤ 122 then wl T n (p + 1) + 1 else 0 := by
  unfold wl
  by_cases c : p < n
  · rw [show n - p = (n - (p + 1)) + 1 by omega, wlp]
  · rw [show n - p = 0 by omega, if_neg (fun x => c x.1)]; rfl
theorem dl_e (T : Nat → Int) (n p : Nat) : dl T n p = if p < n ∧ 48 ≤ T p ∧ T p ≤ 57 then dl T n (p + 1) + 1 else 0 := by
  unfold dl
  by_cases c : p < n
  · rw [show n - p = (n - (p + 1)) + 1 by omega, dlp]
  · rw [show n - p = 0 by omega, if_neg (fun x => c x.1)]; rfl
theorem skp_b (T : Nat → Int) (n : Nat) : ∀ k p : Nat, p ≤ skp T n k p ∧ (skp T n k p ≤ n ∨ skp T n k p = p)
  | 0, p => ⟨Nat.le_refl _, Or.inr rfl⟩
  | k + 1, p => by
    rw [skp]
    split
    · have := skp_b T n k (p + 1); omega
    · exact ⟨Nat.le_refl _, Or.inr rfl⟩
theorem sk_b (T : Nat → Int) (n p : Nat) : p ≤ sk T n p ∧ (sk T n p ≤ n ∨ sk T n p = p) := skp_b T n _ p
theorem wlp_b (T : Nat → Int) (n : Nat) : ∀ k p : Nat, wlp T n k p ≤ n - p
  | 0, p => Nat.zero_le _
  | k + 1, p => by
    rw [wlp]
    split
    · have := wlp_b T n k (p + 1); omega
    · omega
theorem wl_b (T : Nat → Int) (n p : Nat) : wl T n p ≤ n - p := wlp_b T n _ p
theorem dlp_b (T : Nat → Int) (n : Nat) : ∀ k p : Nat, dlp T n k p ≤ n - p
  | 0, p => Nat.zero_le _
  | k + 1, p => by
    rw [dlp]
    split
    · have := dlp_b T n k (p + 1); omega
    · omega
theorem dl_b (T : Nat → Int) (n p : Nat) : dl T n p ≤ n - p := dlp_b T n _ p
theorem dlp_d (T : Nat → Int) (n : Nat) : ∀ k p i : Nat, i < dlp T n k p → 48 ≤ T (p + i) ∧ T (p + i) ≤ 57
  | 0, p, i, hi => absurd hi (Nat.not_lt_zero _)
  | k + 1, p, i, hi => by
    rw [dlp] at hi
    split at hi
    · rename_i c
      cases i with
      | zero => exact c.2
      | succ i =>
        have := dlp_d T n k (p + 1) i (by omega)
        rw [show p + 1 + i = p + (i + 1) by omega] at this
        exact this
    · omega
theorem nv_b (T : Nat → Int) (q : Nat) : ∀ k : Nat, (∀ i, i < k → 48 ≤ T (q + i) ∧ T (q + i) ≤ 57) → 0 ≤ nv T q k ∧ nv T q k ≤ 99999 ∧ (k < 5 → nv T q k ≤ 9999) ∧ (k < 4 → nv T q k ≤ 999) ∧ (k < 3 → nv T q k ≤ 99) ∧ (k < 2 → nv T q k ≤ 9) ∧ (k < 1 → nv T q k = 0)
  | 0, _ => by rw [nv]; omega
  | k + 1, e => by
    have ih := nv_b T q k (fun i hi => e i (by omega))
    have d := e k (by omega)
    rw [nv]
    split <;> omega
theorem s18_k {a t m : Nat} (h : hK K a = (t, m)) : hK (S18 K p φ) a = (t, m) := h
theorem s18_e (a i : Nat) : hI (S18 K p φ) a i = if a = 18 ∧ i = 2 then (p : Int) else if a = 18 ∧ i = 3 then φ else hI K a i := rfl
theorem s18_2 : hI (S18 K p φ) 18 2 = p := by rw [s18_e, if_pos ⟨rfl, rfl⟩]
theorem s18_3 : hI (S18 K p φ) 18 3 = φ := by rw [s18_e, if_neg (by decide), if_pos ⟨rfl, rfl⟩]
theorem s18_1 : hI (S18 K p φ) 18 1 = hI K 18 1 := by rw [s18_e, if_neg (by decide), if_neg (by decide)]
theorem s18_4 : hI (S18 K p φ) 18 4 = hI K 18 4 := by rw [s18_e, if_neg (by decide), if_neg (by decide)]
theorem s18_n {a : Nat} (ha : a ≠ 18) : hI (S18 K p φ) a = hI K a := by
  funext i; rw [s18_e, if_neg (by omega), if_neg (by omega)]
theorem s18_p (v : Nat) : sI (S18 K p φ) 18 2 (v : Int) = S18 K v φ := by
  unfold S18
  rw [WI_sI]
  refine WI_ext K (fun a i => ?_)
  rw [up2_e]; unfold r18; grind
theorem s18_f (v : Int) : sI (S18 K p φ) 18 3 v = S18 K p v := by
  unfold S18
  rw [WI_sI]
  refine WI_ext K (fun a i => ?_)
  rw [up2_e]; unfold r18; grind
theorem S18_K (K : AH) (p : Nat) (φ : Int) (h2 : hI K 18 2 = p) (h3 : hI K 18 3 = φ) : S18 K p φ = K := by
  show WI K (r18 (hI K) p φ) = WI K (hI K)
  refine WI_ext K (fun a i => ?_)
  unfold r18
  by_cases c : a = 18 ∧ i = 2
  · rw [if_pos c, c.1, c.2, h2]
  · rw [if_neg c]
    by_cases d : a = 18 ∧ i = 3
    · rw [if_pos d, d.1, d.2, h3]
    · rw [if_neg d]
theorem place_L (r : RDR K n) : ∀ (k p fuel : Nat), n - p = k → p < 1000 → k < fuel → Rea_place_L0 fuel 18 (S18 K p φ) = some (((sk (hI K 17) n p : Nat) : Int), S18 K (sk (hI K 17) n p) φ)
  | 0, p, fuel + 1, hk, hp, _ => by
    obtain ⟨r1, r2, r3, r4, r5⟩ := r
    rw [Rea_place_L0, gI_k (s18_k r1), s18_2, gI_k (s18_k r1), s18_1, r4, if_pos (by omega), gI_k (s18_k r1), s18_2, sk_e, if_neg (by omega)]
  | k + 1, p, fuel + 1, hk, hp, hf => by
    obtain ⟨r1, r2, r3, r4, r5⟩ := id r
    have rr17 : hR (S18 K p φ) 18 0 = 17 := r2
    rw [Rea_place_L0, gI_k (s18_k r1), s18_2, gI_k (s18_k r1), s18_1, r4, if_neg (by omega), gR_k (s18_k r1), rr17, gI_k (s18_k r1), s18_2, aI_k (s18_k r3) (by omega) (by omega), s18_n (by decide), tN (p : Int) p rfl, gI_k (s18_k r1), s18_2, gI_k (s18_k r1), s18_2, pI_k (s18_k r1), wr_id (by omega) (by omega), show (p : Int) + 1 = ((p + 1 : Nat) : Int) by omega, s18_p, place_L r k (p + 1) fuel (by omega) (by omega) (by omega), sk_e _ _ p]
    by_cases c : hI K 17 p = 32
    · rw [if_neg (by omega), if_pos ⟨by omega, c⟩]
    · rw [if_pos c, if_neg (fun x => c x.2)]
theorem place_e (r : RDR K n) (hp : p < 1000) (φ : Int) : Rea_place 18 (S18 K p φ) = some (((sk (hI K 17) n p : Nat) : Int), S18 K (sk (hI K 17) n p) φ) := place_L r (n - p) p FU rfl hp (by have := FU_big; have := r.2.2.2.2; omega)
theorem takeByte_e (r : RDR K n) (hp : p < 1000) (φ b : Int) : Rea_takeByte 18 b (S18 K p φ) = if sk (hI K 17) n p < n ∧ hI K 17 (sk (hI K 17) n p) = b then some (1, S18 K (sk (hI K 17) n p + 1) φ) else some (0, S18 K (sk (hI K 17) n p) φ) := by
  obtain ⟨r1, r2, r3, r4, r5⟩ := id r
  have pb := sk_b (hI K 17) n p
  unfold Rea_takeByte
  rw [rc_k (s18_k r1), place_e r hp, bnd_some]
  generalize sk (hI K 17) n p = q at *
  have rr17 : hR (S18 K q φ) 18 0 = 17 := r2
  rw [gI_k (s18_k r1), s18_1, r4]
  by_cases c : (n : Int) ≤ q
  · rw [if_pos c, if_neg (by omega)]
  · rw [if_neg c, gR_k (s18_k r1), rr17, gI_k (s18_k r1), s18_2, aI_k (s18_k r3) (by omega) (by omega), s18_n (by decide), tN (q : Int) q rfl, gI_k (s18_k r1), s18_2, pI_k (s18_k r1), wr_id (by omega) (by omega), show (q : Int) + 1 = ((q + 1 : Nat) : Int) by omega, s18_p]
    by_cases d : hI K 17 q = b
    · rw [if_pos d, if_pos ⟨by omega, d⟩]
    · rw [if_neg d, if_neg (fun x => d x.2)]
theorem wordLen_L (r : RDR K n) {q : Nat} (hq : q < 1000) : ∀ (k i fuel : Nat), n - (q + i) = k → q + i < 2000 → k < fuel → Rea_wordLength_L5 fuel 18 ((q + i : Nat) : Int) (S18 K q φ) = some (((i + wl (hI K 17) n (q + i) : Nat) : Int), S18 K q φ)
  | 0, i, fuel + 1, hk, hi, _ => by
    obtain ⟨r1, r2, r3, r4, r5⟩ := r
    rw [Rea_wordLength_L5, gI_k (s18_k r1), s18_1, r4, if_pos (by omega), gI_k (s18_k r1), s18_2, wr_id (by omega) (by omega), wl_e, if_neg (by omega)]
    congr 2; omega
  | k + 1, i, fuel + 1, hk, hi, hf => by
    obtain ⟨r1, r2, r3, r4, r5⟩ := id r
    have rr17 : hR (S18 K q φ) 18 0 = 17 := r2
    have ih := wordLen_L r hq k (i + 1) fuel (by omega) (by omega) (by omega)
    rw [← Nat.add_assoc] at ih
    rw [Rea_wordLength_L5, gI_k (s18_k r1), s18_1, r4, if_neg (by omega), gR_k (s18_k r1), rr17, aI_k (s18_k r3) (by omega) (by omega), s18_n (by decide), tN ((q + i : Nat) : Int) _ rfl, gI_k (s18_k r1), s18_2, gR_k (s18_k r1), rr17, aI_k (s18_k r3) (by omega) (by omega), s18_n (by decide), tN ((q + i : Nat) : Int) _ rfl, wr_id (z := ((q + i : Nat) : Int) + 1) (by omega) (by omega), show ((q + i : Nat) : Int) + 1 = ((q + i + 1 : Nat) : Int) by omega, ih, wr_id (by omega) (by omega), wl_e _ _ (q + i)]
    by_cases c : hI K 17 (q + i) < 97
    · rw [if_pos c, if_neg (by omega)]; congr 2; omega
    · rw [if_neg c]
      by_cases d : 122 < hI K 17 (q + i)
      · rw [if_pos d, if_neg (by omega)]; congr 2; omega
      · rw [if_neg d, if_pos (by omega)]; congr 2; omega
theorem wordLen_e (r : RDR K n) (hp : p < 1000) (φ : Int) : Rea_wordLength 18 (S18 K p φ) = some (((wl (hI K 17) n (sk (hI K 17) n p) : Nat) : Int), S18 K (sk (hI K 17) n p) φ) := by
  have pb := sk_b (hI K 17) n p
  have r5 := r.2.2.2.2
  unfold Rea_wordLength
  rw [rc_k (s18_k r.1), place_e r hp, bnd_some]
  have := wordLen_L r (φ := φ) (q := sk (hI K 17) n p) (by omega) (n - sk (hI K 17) n p) 0 FU rfl (by omega) (by have := FU_big; omega)
  rw [Nat.add_zero, Nat.zero_add] at this
  exact this
theorem takeWord_L (r : RDR K n) {q w : Nat} (hw : 1 ≤ w ∧ w < 8) (hq : q + sLn w ≤ 400) : ∀ (k i fuel : Nat), i + k = sLn w → k < fuel → Rea_takeWord_L15 fuel 18 w (i : Int) (S18 K q φ) = if allR (fun i => decide (hI K 17 (q + i) = sCh w i)) i k then some (1, S18 K (q + sLn w) φ) else some (0, S18 K q φ)
  | 0, i, fuel + 1, hk, _ => by
    obtain ⟨r1, r2, r3, r4, r5⟩ := r
    rw [Rea_takeWord_L15, sLen, if_pos hw, if_pos (by omega), gI_k (s18_k r1), s18_2, sLen, if_pos hw, pI_k (s18_k r1), wr_id (by omega) (by omega), show (q : Int) + (sLn w : Nat) = ((q + sLn w : Nat) : Int) by omega, s18_p]
    rfl
  | k + 1, i, fuel + 1, hk, hf => by
    obtain ⟨r1, r2, r3, r4, r5⟩ := id r
    have rr17 : hR (S18 K q φ) 18 0 = 17 := r2
    rw [Rea_takeWord_L15, sLen, if_pos hw, if_neg (by omega), gR_k (s18_k r1), rr17, gI_k (s18_k r1), s18_2, wr_id (z := (q : Int) + i) (by omega) (by omega), aI_k (s18_k r3) (by omega) (by omega), s18_n (by decide), tN ((q : Int) + i) (q + i) (by omega), sAt, if_pos ⟨hw, by omega, by omega⟩, tN (i : Int) i rfl, wr_id (by omega) (by omega), show (i : Int) + 1 = ((i + 1 : Nat) : Int) by omega, takeWord_L r hw hq k (i + 1) fuel (by omega) (by omega), allR_s]
    by_cases c : hI K 17 (q + i) = sCh w i
    · rw [if_pos c, decide_eq_true c, Bool.true_and]
    · rw [if_neg c, decide_eq_false c, Bool.false_and, if_neg (by decide)]
theorem takeWord_e (r : RDR K n) (hp : p < 1000) (φ : Int) {w : Nat} (hw : 1 ≤ w ∧ w < 8) : Rea_takeWord 18 w (S18 K p φ) = if isW (hI K 17) n (sk (hI K 17) n p) w then some (1, S18 K (sk (hI K 17) n p + sLn w) φ) else some (0, S18 K (sk (hI K 17) n p) φ) := by
  have r5 := r.2.2.2.2
  have wb := wl_b (hI K 17) n (sk (hI K 17) n p)
  have l1 : 1 ≤ sLn w ∧ sLn w ≤ 4 := by
    have : ∀ w, w < 8 → 1 ≤ w → 1 ≤ sLn w ∧ sLn w ≤ 4 := by decide
    exact this w hw.2 hw.1
  unfold Rea_takeWord isW
  rw [rc_k (s18_k r.1), wordLen_e r hp, bnd_some, sLen, if_pos hw]
  by_cases c : wl (hI K 17) n (sk (hI K 17) n p) = sLn w
  · rw [if_pos (by omega), decide_eq_true c, Bool.true_and]
    exact takeWord_L r hw (by omega) (sLn w) 0 FU (by omega) (by have := FU_big; omega)
  · rw [if_neg (by omega), decide_eq_false c, Bool.false_and, if_neg (by decide)]
theorem fail_e (r : RDR K n) {q : Nat} (hq : q < 1000) {k : Int} (h0 : 0 ≤ k) (h1 : k < 10) : Rea_fail 18 (q : Int) k (S18 K p φ) = some ((), S18 K p (flt φ q k)) := by
  unfold Rea_fail flt
  rw [gI_k (s18_k r.1), s18_3, pI_k (s18_k r.1), wr_id (z := 8 * (q : Int)) (by omega) (by omega), wr_id (z := 1 + 8 * (q : Int)) (by omega) (by omega), wr_id (by omega) (by omega), s18_f]
  by_cases c : φ = 0
  · rw [if_neg (by omega), if_pos c]
  · rw [if_pos c, if_neg c]
theorem num_L (r : RDR K n) {q : Nat} (hq : q < 1000) {top : Int} : ∀ (k i fuel : Nat), n - (q + i) = k → i + dl (hI K 17) n (q + i) = dl (hI K 17) n q → q + i < 1500 → k < fuel → Rea_takeNumber_L7 fuel 18 top (q : Int) (nv (hI K 17) q i) (S18 K (q + i) φ) = some (nv (hI K 17) q (dl (hI K 17) n q), S18 K (q + dl (hI K 17) n q) (nFl (hI K 17) n q top φ)) := by
  have r1 := r.1
  have fin : ∀ i, i = dl (hI K 17) n q → Rea_takeNumber_L87 18 top (q : Int) (nv (hI K 17) q i) (S18 K (q + i) φ) = some (nv (hI K 17) q (dl (hI K 17) n q), S18 K (q + dl (hI K 17) n q) (nFl (hI K 17) n q top φ)) := fun i hi => by
    have db := dl_b (hI K 17) n q
    have r5 := r.2.2.2.2
    unfold Rea_takeNumber_L87 nFl
    rw [gI_k (s18_k r1), s18_2, gI_k (s18_k r1), s18_2, wr_id (by omega) (by omega), rc_k (s18_k r1), fail_e r hq (by decide) (by decide), bnd_some, rc_k (s18_k r1), fail_e r hq (by decide) (by decide), bnd_some, hi]
    by_cases c : dl (hI K 17) n q = 0
    · rw [if_neg (by omega), if_pos c]
    · rw [if_pos (by omega), if_neg c]
      by_cases d : 5 < dl (hI K 17) n q
      · rw [if_pos (by omega), if_pos (Or.inl d)]
      · rw [if_neg (by omega)]
        by_cases e : nv (hI K 17) q (dl (hI K 17) n q) ≤ top
        · rw [if_pos e, if_neg (by omega)]
        · rw [if_neg e, if_pos (by omega)]
  intro k
  induction k with
  | zero =>
    intro i fuel hk hd hi hf
    obtain ⟨fuel, rfl⟩ : ∃ j, fuel = j + 1 := ⟨fuel - 1, by omega⟩
    have r4 := r.2.2.2.1
    rw [dl_e _ _ (q + i), if_neg (by omega)] at hd
    rw [Rea_takeNumber_L7, gI_k (s18_k r1), s18_2, gI_k (s18_k r1), s18_1, r4, if_pos (by omega)]
    exact fin i (by omega)
  | succ k ih =>
    intro i fuel hk hd hi hf
    obtain ⟨fuel, rfl⟩ : ∃ j, fuel = j + 1 := ⟨fuel - 1, by omega⟩
    obtain ⟨-, r2, r3, r4, r5⟩ := id r
    have rr17 : hR (S18 K (q + i) φ) 18 0 = 17 := r2
    rw [dl_e _ _ (q + i)] at hd
    rw [Rea_takeNumber_L7, gI_k (s18_k r1), s18_2, gI_k (s18_k r1), s18_1, r4, if_neg (by omega), gR_k (s18_k r1), rr17, gI_k (s18_k r1), s18_2, aI_k (s18_k r3) (by omega) (by omega), s18_n (by decide), tN ((q + i : Nat) : Int) _ rfl]
    by_cases c : hI K 17 (q + i) < 48
    · rw [if_neg (by omega)] at hd
      rw [if_pos c]; exact fin i (by omega)
    · rw [if_neg c, gR_k (s18_k r1), rr17, gI_k (s18_k r1), s18_2, aI_k (s18_k r3) (by omega) (by omega), s18_n (by decide), tN ((q + i : Nat) : Int) _ rfl]
      by_cases d : 57 < hI K 17 (q + i)
      · rw [if_neg (by omega)] at hd
        rw [if_pos d]; exact fin i (by omega)
      · rw [if_pos (by omega)] at hd
        have ih := ih (i + 1) fuel (by omega) (by rw [← Nat.add_assoc]; omega) (by omega) (by omega)
        rw [nv, ← Nat.add_assoc] at ih
        have nb := nv_b (hI K 17) q i (fun j hj => dlp_d (hI K 17) n _ q j (by show j < dl (hI K 17) n q; omega))
        rw [if_neg d, gI_k (s18_k r1), s18_2, wr_id (z := ((q + i : Nat) : Int) - q) (by omega) (by omega), gI_k (s18_k r1), s18_2, pI_k (s18_k r1), wr_id (z := ((q + i : Nat) : Int) + 1) (by omega) (by omega), show ((q + i : Nat) : Int) + 1 = ((q + i + 1 : Nat) : Int) by omega, s18_p, gR_k (s18_k r1), rr17, gI_k (s18_k r1), s18_2, aI_k (s18_k r3) (by omega) (by omega), s18_n (by decide), tN ((q + i : Nat) : Int) _ rfl, gI_k (s18_k r1), s18_2, pI_k (s18_k r1), wr_id (z := ((q + i : Nat) : Int) + 1) (by omega) (by omega), show ((q + i : Nat) : Int) + 1 = ((q + i + 1 : Nat) : Int) by omega, s18_p]
        by_cases e : i < 5
        · rw [if_pos e] at ih
          rw [if_neg (by omega), wr_id (z := 10 * nv (hI K 17) q i) (by omega) (by omega), wr_id (z := 10 * nv (hI K 17) q i + hI K 17 (q + i)) (by omega) (by omega), wr_id (by omega) (by omega)]
          exact ih
        · rw [if_neg e] at ih
          rw [if_pos (by omega)]
          exact ih
theorem takeNumber_e (r : RDR K n) (hp : p < 1000) (φ top : Int) : Rea_takeNumber 18 top (S18 K p φ) = some (nv (hI K 17) (sk (hI K 17) n p) (dl (hI K 17) n (sk (hI K 17) n p)), S18 K (sk (hI K 17) n p + dl (hI K 17) n (sk (hI K 17) n p)) (nFl (hI K 17) n (sk (hI K 17) n p) top φ)) := by
  have pb := sk_b (hI K 17) n p
  have r5 := r.2.2.2.2
  unfold Rea_takeNumber
  rw [rc_k (s18_k r.1), place_e r hp, bnd_some]
  generalize sk (hI K 17) n p = q at *
  exact num_L r (φ := φ) (q := q) (by omega) (top := top) (n - q) 0 FU (by omega) (by rw [Nat.add_zero]; omega) (by omega) (by have := FU_big; omega)
end L1
