/-! Level 2: of all parts of queries rows and makes -/
section R5
variable {h : AH}
def eq13 (π σ : Nat → Int) : Prop := ∀ k, k < 13 → π k = σ k
theorem inF_c {π σ : Nat → Int} (e : eq13 π σ) (c : Int → Int) (t : Int) : inF π c t = inF σ c t := by
  unfold inF
  rw [e 3 (by decide), e 4 (by decide), e 5 (by decide), e 6 (by decide), e 7 (by decide), e 8 (by decide), e 9 (by decide), e 10 (by decide), e 11 (by decide), e 12 (by decide)]
theorem rows1_c {π σ : Nat → Int} (e : eq13 π σ) (c : Int → Int → Int) (t : Int) (N : Nat) : rows1 π c t N = rows1 σ c t N := by
  unfold rows1; congr 1; funext r; exact inF_c e _ _
theorem rows2_c {π σ : Nat → Int} (e : eq13 π σ) (c : Int → Int → Int) (NR NS : Nat) : rows2 π c NR NS = rows2 σ c NR NS := by
  unfold rows2; congr 1; funext r; congr 1; funext s
  rw [e 1 (by decide), e 2 (by decide), inF_c e, inF_c e]
theorem rowsF_c {π σ : Nat → Int} (e : eq13 π σ) (c : Int → Int → Int) (NR NS : Nat) : rowsF π c NR NS = rowsF σ c NR NS := by
  unfold rowsF; rw [rows2_c e, rows1_c e, e 0 (by decide)]
theorem makeF_c {π σ : Nat → Int} (e : eq13 π σ) (c : Int → Int → Int) (NR NS : Nat) : makeF π c NR NS = makeF σ c NR NS := by
  unfold makeF; rw [rows1_c e, rows1_c e, e 0 (by decide)]
theorem oneF_c {π σ π' σ' : Nat → Int} (e : eq13 π σ) (e' : eq13 π' σ') : oneF π π' = oneF σ σ' := by
  unfold oneF; rw [e 0 (by decide), e 1 (by decide), e 2 (by decide), e' 0 (by decide), e' 1 (by decide), e' 2 (by decide)]
theorem allR_c {p q : Nat → Bool} : ∀ {n k : Nat}, (∀ i, k ≤ i → i < k + n → p i = q i) → allR p k n = allR q k n
  | 0, _, _ => rfl
  | n + 1, k, e => by rw [allR_s, allR_s, e k (Nat.le_refl _) (by omega), allR_c (fun i h1 h2 => e i (by omega) (by omega))]
theorem sameF_c {π σ π' σ' : Nat → Int} (e : eq13 π σ) (e' : eq13 π' σ') : sameF π π' = sameF σ σ' := by
  unfold sameF; exact allR_c (fun i _ h2 => by rw [e i (by omega), e' i (by omega)])
theorem holdF_c {π σ π' σ' : Nat → Int} (e : eq13 π σ) (e' : eq13 π' σ') : holdF π π' = holdF σ σ' := by
  unfold holdF; rw [oneF_c e e']; congr 1
  exact allR_c (fun i _ h2 => by rw [e (3 + 2 * i) (by omega), e' (3 + 2 * i) (by omega), e (4 + 2 * i) (by omega), e' (4 + 2 * i) (by omega)])
theorem okP_c {π σ : Nat → Int} (e : eq13 π σ) (h1 : okP π) : okP σ := by
  unfold okP at *; rw [← e 0 (by decide), ← e 1 (by decide), ← e 2 (by decide)]; exact h1
theorem lp_qp (h : AH) (q : Nat) (kind : Int) : eq13 (lp h q kind) (qp h q kind) := fun k hk => if_pos hk
abbrev nR (h : AH) : Nat := (hI h 402 2).toNat
abbrev nS (h : AH) : Nat := (hI h 402 3).toNat
/-- ROWS and MAKE of the part of a kind of a query, as they are now -/
def RW (h : AH) (q : Nat) (k : Int) : Int := if rHas h q k then (rowsF (qp h q k) (num h) (nR h) (nS h) : Nat) else 0
def MK (h : AH) (q : Nat) (k : Int) : Int := if rHas h q k then (makeF (qp h q k) (num h) (nR h) (nS h) : Nat) else 0
def S3 (h : AH) (p f g : Nat → Int) : AH := sF (sF (sF h 416 p) 417 f) 418 g
theorem S3_416 (h : AH) (p f g p' : Nat → Int) : sF (S3 h p f g) 416 p' = S3 h p' f g := by
  unfold S3; rw [sF_comm _ _ _ (by decide), sF_comm _ f p' (by decide), sF_sF]
theorem S3_417 (h : AH) (p f g f' : Nat → Int) : sF (S3 h p f g) 417 f' = S3 h p f' g := by
  unfold S3; rw [sF_comm _ _ _ (by decide), sF_sF]
theorem S3_418 (h : AH) (p f g g' : Nat → Int) : sF (S3 h p f g) 418 g' = S3 h p f g' := by
  unfold S3; rw [sF_sF]
theorem S3_i (h : AH) : S3 h (hI h 416) (hI h 417) (hI h 418) = h := by
  unfold S3; rw [sF_id]
  have e1 : sF h 417 (hI h 417) = h := sF_id h 417
  rw [e1, sF_id]
theorem qp_ok (b : MB h) {q : Nat} (hq : (q : Int) < hI h 401 10) {k : Int} (hk : k = 0 ∨ k = 1 ∨ k = 2) (hh : rHas h q k = true) : okP (qp h q k) := by
  obtain ⟨b1, b2, b3, b4, b5⟩ := b
  obtain ⟨c1, c2, -⟩ := b5 q (by omega) hq
  refine ⟨hk, fun h2 => ?_⟩
  have h2 : k = 2 := h2
  subst h2
  have : hI h 408 q = 2 := by
    unfold rHas at hh
    rw [tN (q : Int) q rfl] at hh
    simpa using hh
  exact c2 this
theorem laysAll_s (m : MS h) (b : MB h) {q k : Nat} (hq : (q : Int) < hI h 401 10) (hk : k < 3) (k2 : Nat → Int → AH → Option (Unit × AH)) (n : Nat) (p f g : Nat → Int) : Mod_laysAll_L12 k2 (n + 1) 401 (q : Int) (k : Int) (S3 h p f g) = Mod_laysAll_L12 k2 n 401 (q : Int) ((k + 1 : Nat) : Int) (S3 h (fun j => if j < 13 then qp h q k j else p j) (u1 f (3 * q + k) (RW h q k)) (u1 g (3 * q + k) (MK h q k))) := by
  have q8 : q < 8 := by obtain ⟨-, -, b3, -⟩ := b; omega
  have kI : (k : Int) = 0 ∨ (k : Int) = 1 ∨ (k : Int) = 2 := by omega
  have mm : ∀ p f g, MS (S3 h p f g) := fun _ _ _ => m
  have bb : ∀ p f g, MB (S3 h p f g) := fun _ _ _ => b
  rw [Mod_laysAll_L12, if_neg (by omega), c_m (mm _ _ _), Mod_laysPart_e (mm _ _ _) q8, bnd_some, S3_416]
  have elp : lp (S3 h p f g) q (k : Int) = fun j => if j < 13 then qp h q k j else p j := rfl
  rw [elp]
  generalize hp' : (fun j => if j < 13 then qp h q k j else p j) = p'
  have e13 : eq13 p' (qp h q k) := fun j hj => by rw [← hp']; exact if_pos hj
  have epf : eq13 (pf (S3 h p' f g) 416 0) (qp h q k) := fun j hj => by
    show hI (S3 h p' f g) 416 (0 + j) = _
    rw [Nat.zero_add]
    exact e13 j hj
  rw [c_m (mm _ _ _), Mod_hasKind_e (mm _ _ _) (by omega) (by omega), bnd_some, r_27 (mm _ _ _)]
  have erh : rHas (S3 h p' f g) q k = rHas h q k := rfl
  rw [erh, wr_id (z := 3 * (q : Int)) (by omega) (by omega), wr_id (z := 3 * (q : Int) + k) (by omega) (by omega), ite_bi]
  have e37 : (3 * (q : Int) + k).toNat = 3 * q + k := tN _ _ (by omega)
  have wf : ∀ p f g v, sI (S3 h p f g) 417 (3 * q + k) v = S3 h p (u1 f (3 * q + k) v) g := fun p f g v => by rw [sI_sF, S3_417]; rfl
  have wg : ∀ p f g v, sI (S3 h p f g) 418 (3 * q + k) v = S3 h p f (u1 g (3 * q + k) v) := fun p f g v => by rw [sI_sF, S3_418]; rfl
  cases hh : rHas h q k
  · rw [if_neg (by decide)]
    unfold Mod_laysAll_L56
    rw [w_417 (mm _ _ _) (by omega) (by omega), e37, wf, r_28 (mm _ _ _), if_pos bi_f, wr_id (z := 3 * (q : Int)) (by omega) (by omega), wr_id (z := 3 * (q : Int) + k) (by omega) (by omega), w_418 (mm _ _ _) (by omega) (by omega), e37, wg, wr_id (by omega) (by omega), show (k : Int) + 1 = ((k + 1 : Nat) : Int) by omega]
    unfold RW MK
    rw [hh]; rfl
  · have ok := qp_ok b hq kI hh
    rw [if_pos rfl, r_26 (mm _ _ _), c_m (mm _ _ _), show (0 : Int) = ((0 : Nat) : Int) from rfl, Mod_rowsNow_e (mm _ _ _) (bb _ _ _) ((mm p' f g).K 14 rfl).2 (by decide) (by decide) (okP_c (fun j hj => (epf j hj).symm) ok), bnd_some]
    unfold Mod_laysAll_L56
    rw [w_417 (mm _ _ _) (by omega) (by omega), e37, wf, r_28 (mm _ _ _), if_neg (by rw [bi_t]; decide), r_26 (mm _ _ _), c_m (mm _ _ _), wr_id (z := 3 * (q : Int)) (by omega) (by omega), wr_id (z := 3 * (q : Int) + k) (by omega) (by omega), show (0 : Int) = ((0 : Nat) : Int) from rfl]
    have epf2 : ∀ f, eq13 (pf (S3 h p' f g) 416 0) (qp h q k) := fun f j hj => by
      show hI (S3 h p' f g) 416 (0 + j) = _
      rw [Nat.zero_add]
      exact e13 j hj
    rw [Mod_makeNow_e (mm _ _ _) (bb _ _ _) ((mm p' _ g).K 14 rfl).2 (by decide) (by decide) (okP_c (fun j hj => (epf2 _ j hj).symm) ok), bnd_some, w_418 (mm _ _ _) (by omega) (by omega), e37, wg, wr_id (by omega) (by omega), show (k : Int) + 1 = ((k + 1 : Nat) : Int) by omega, rowsF_c epf, makeF_c (epf2 _)]
    unfold RW MK
    rw [hh]; rfl
theorem laysAll_q (m : MS h) (b : MB h) {q : Nat} (hq : (q : Int) < hI h 401 10) (k2 : Nat → Int → AH → Option (Unit × AH)) (p f g : Nat → Int) : ∃ p', Mod_laysAll_L12 k2 FU 401 (q : Int) 0 (S3 h p f g) = k2 401 ((q + 1 : Nat) : Int) (S3 h p' (u1 (u1 (u1 f (3 * q) (RW h q 0)) (3 * q + 1) (RW h q 1)) (3 * q + 2) (RW h q 2)) (u1 (u1 (u1 g (3 * q) (MK h q 0)) (3 * q + 1) (MK h q 1)) (3 * q + 2) (MK h q 2))) := by
  have q8 : q < 8 := by obtain ⟨-, -, b3, -⟩ := b; omega
  rw [show FU = 999996 + 1 + 1 + 1 + 1 from rfl, show (0 : Int) = ((0 : Nat) : Int) from rfl, laysAll_s m b hq (by decide), laysAll_s m b hq (by decide), laysAll_s m b hq (by decide), Mod_laysAll_L12, if_pos (by decide), wr_id (by omega) (by omega), show (q : Int) + 1 = ((q + 1 : Nat) : Int) by omega]
  exact ⟨_, rfl⟩
theorem laysAll_L (m : MS h) (b : MB h) : ∀ (n q fuel : Nat) (p f g : Nat → Int), (q : Int) + n = hI h 401 10 → n < fuel → (∀ i, i < q → ∀ k, k < 3 → f (3 * i + k) = RW h i k ∧ g (3 * i + k) = MK h i k) → ∃ p' f' g', Mod_laysAll_L2 fuel 401 (q : Int) (S3 h p f g) = some ((), S3 h p' f' g') ∧ ∀ i : Nat, (i : Int) < hI h 401 10 → ∀ k, k < 3 → f' (3 * i + k) = RW h i k ∧ g' (3 * i + k) = MK h i k
  | 0, q, fuel + 1, p, f, g, hq, _, hi => by
    have mm : MS (S3 h p f g) := m
    rw [Mod_laysAll_L2, g_m mm, if_pos (by show hI h 401 10 ≤ _; omega)]
    exact ⟨p, f, g, rfl, fun i h1 k hk => hi i (by omega) k hk⟩
  | n + 1, q, fuel + 1, p, f, g, hq, hf, hi => by
    have mm : MS (S3 h p f g) := m
    rw [Mod_laysAll_L2, g_m mm, if_neg (by show ¬ hI h 401 10 ≤ _; omega)]
    obtain ⟨p1, e1⟩ := laysAll_q m b (q := q) (by omega) (Mod_laysAll_L2 fuel) p f g
    rw [e1]
    refine laysAll_L m b n (q + 1) fuel p1 _ _ (by omega) (by omega) (fun i h1 k hk => ?_)
    have hk3 : k = 0 ∨ k = 1 ∨ k = 2 := by omega
    by_cases hiq : i = q
    · subst hiq
      rcases hk3 with rfl | rfl | rfl
      · refine ⟨?_, ?_⟩ <;> (unfold u1; rw [if_neg (by omega), if_neg (by omega), if_pos (by omega)]; rfl)
      · refine ⟨?_, ?_⟩ <;> (unfold u1; rw [if_neg (by omega), if_pos (by omega)]; rfl)
      · refine ⟨?_, ?_⟩ <;> (unfold u1; rw [if_pos (by omega)]; rfl)
    · obtain ⟨x1, x2⟩ := hi i (by omega) k hk
      refine ⟨?_, ?_⟩
      · unfold u1; rw [if_neg (by omega), if_neg (by omega), if_neg (by omega)]; exact x1
      · unfold u1; rw [if_neg (by omega), if_neg (by omega), if_neg (by omega)]; exact x2
/-- rows and makes are laid -/
def laid (h h' : AH) : Prop := ∀ i : Nat, (i : Int) < hI h 401 10 → ∀ k : Nat, k < 3 → hI h' 417 (3 * i + k) = RW h i k ∧ hI h' 418 (3 * i + k) = MK h i k
theorem Mod_laysAll_e (m : MS h) (b : MB h) : ∃ p f g, Mod_laysAll 401 h = some ((), S3 h p f g) ∧ laid h (S3 h p f g) := by
  have b3 := b.2.2.1
  obtain ⟨p, f, g, e1, e2⟩ := laysAll_L m b (hI h 401 10).toNat 0 FU (hI h 416) (hI h 417) (hI h 418) (by omega) (by have := FU_big; omega) (fun i hi => by omega)
  rw [S3_i] at e1
  exact ⟨p, f, g, e1, e2⟩
end R5
