/-! Level 2: the class: tables, parts, states as they lie -/
def PA (h : AH) (p : Nat) : Prop := hK h p = (4, 0) ∧ hR h p 0 = p + 1 ∧ hK h (p + 1) = (21, 13)
def TA (h : AH) (T fc w len : Nat) : Prop := hK h T = (10, 0) ∧ hI h T 0 = fc ∧ hI h T 1 = w ∧ hR h T 2 = T + 1 ∧ hK h (T + 1) = (21, len)
def KE (h : AH) (k : Nat) : Prop := hK h k = (3, 0) ∧ hR h k 0 = k + 1 ∧ PA h (k + 1)
def SH (h : AH) (s R : Nat) : Prop := hK h s = (8, 0) ∧ hR h s 0 = s + 1 ∧ hK h (s + 1) = (35, R) ∧ (∀ j, j < R → KE h (s + 2 + 3 * j)) ∧ (∀ i, i < R → ∃ j, j < R ∧ hR h (s + 1) i = s + 2 + 3 * j) ∧ ∀ i j, i < R → j < R → hR h (s + 1) i = hR h (s + 1) j → i = j
def SB (h : AH) (a : Nat) : Prop := hK h a = (9, 0) ∧ hR h a 0 = a + 1 ∧ hR h a 1 = a + 2 ∧ hK h (a + 1) = (34, 2) ∧ hR h (a + 1) 0 = a + 22 ∧ hR h (a + 1) 1 = a + 24 ∧ TA h (a + 22) 0 3 36 ∧ TA h (a + 24) 3 2 16 ∧ SH h (a + 2) 6
/-- a kept one, as 16 numbers -/
def kv (h : AH) (s i t : Nat) : Int := if t < 13 then hI h (hR h (s + 1) i + 2) t else hI h (hR h (s + 1) i) (t - 12)
/-- a state is as a row tells -/
def ER (h : AH) (a : Nat) (ρ : Nat → Int) : Prop := hI h a 2 = ρ 0 ∧ hI h a 3 = ρ 1 ∧ hI h (a + 22) 3 = ρ 2 ∧ hI h (a + 24) 3 = ρ 3 ∧ hI h a 4 = ρ 4 ∧ hI h (a + 2) 1 = ρ 5 ∧ hI h a 5 = ρ 6 ∧ hI h a 6 = ρ 7 ∧ (∀ j, j < 3 * (ρ 2).toNat → hI h (a + 23) j = ρ (8 + j)) ∧ (∀ j, j < 2 * (ρ 3).toNat → hI h (a + 25) j = ρ (44 + j)) ∧ ∀ i, i < (ρ 5).toNat → ∀ t, t < 16 → kv h (a + 2) i t = kp ρ i t
def ST (h : AH) (a : Nat) (ρ : Nat → Int) : Prop := SB h a ∧ ER h a ρ ∧ RB ρ
section C1
variable {h : AH} {T fc w len p a : Nat} {ρ : Nat → Int}
theorem Tab_hasRow_e (t : TA h T fc w len) (row : Int) : Tab_hasRow T row h = some (bi (decide (0 ≤ row ∧ row < hI h T 3)), h) := by
  unfold Tab_hasRow
  rw [gI_k t.1]
  by_cases c : row < 0
  · rw [if_pos c, bi_n (by omega)]
  · rw [if_neg c]
    by_cases d : hI h T 3 ≤ row
    · rw [if_pos d, bi_n (by omega)]
    · rw [if_neg d, bi_d (by omega)]
theorem Tab_hasCol_e (t : TA h T fc w len) (h1 : fc < 100) (h2 : w < 100) (col : Int) : Tab_hasCol T col h = some (bi (decide ((fc : Int) ≤ col ∧ col < (fc : Int) + w)), h) := by
  obtain ⟨t1, t2, t3, t4, t5⟩ := t
  unfold Tab_hasCol
  rw [gI_k t1, gI_k t1, gI_k t1, t2, t3, wr_id (by omega) (by omega)]
  by_cases c : col < fc
  · rw [if_pos c, bi_n (by omega)]
  · rw [if_neg c]
    by_cases d : (fc : Int) + w ≤ col
    · rw [if_pos d, bi_n (by omega)]
    · rw [if_neg d, bi_d (by omega)]
theorem Par_kind_e (p1 : PA h p) : Par_kind p h = some (hI h (p + 1) 0, h) := by
  obtain ⟨q1, q2, q3⟩ := p1
  unfold Par_kind
  rw [gR_k q1, q2, aI_k q3 (by decide) (by decide)]; rfl
theorem takes_0 (t : TA h T fc w len) (row : Int) (n i : Nat) : Par_takes_L9 (n + 1) p T row 0 (i : Int) h = some (0, h) := by
  rw [Par_takes_L9, gI_k t.1, if_pos rfl, rz_k (Or.inl rfl)]; split <;> rfl
theorem takes_s (t : TA h T fc w len) (p1 : PA h p) (h1 : fc + w ≤ 5) (h2 : len < 1000) {row : Nat} {i : Nat} (hi : i < w) (hr : row * w + i < len) (n : Nat) : Par_takes_L9 (n + 1) p T (row : Int) 1 (i : Int) h = Par_takes_L9 n p T (row : Int) (bi (inB (hI h (T + 1) (row * w + i)) (hI h (p + 1) (3 + 2 * (fc + i))) (hI h (p + 1) (4 + 2 * (fc + i))))) ((i + 1 : Nat) : Int) h := by
  obtain ⟨t1, t2, t3, t4, t5⟩ := t
  obtain ⟨q1, q2, q3⟩ := p1
  have e : (row : Int) * (w : Int) = ((row * w : Nat) : Int) := by rw [Int.natCast_mul]
  rw [Par_takes_L9, gI_k t1, t3, if_neg (by omega), if_neg (by decide), gR_k t1, t4, gI_k t1, t3, e, wr_id (z := ((row * w : Nat) : Int)) (by omega) (by omega), wr_id (z := ((row * w : Nat) : Int) + i) (by omega) (by omega), aI_k t5 (by omega) (by omega), tN (((row * w : Nat) : Int) + i) (row * w + i) (by omega), gI_k t1, t2, wr_id (z := (fc : Int) + i) (by omega) (by omega), wr_id (z := 2 * ((fc : Int) + i)) (by omega) (by omega), wr_id (z := 3 + 2 * ((fc : Int) + i)) (by omega) (by omega), gR_k q1, q2, aI_k q3 (by omega) (by omega), tN (3 + 2 * ((fc : Int) + i)) (3 + 2 * (fc + i)) (by omega), wr_id (z := (i : Int) + 1) (by omega) (by omega), show (i : Int) + 1 = ((i + 1 : Nat) : Int) by omega, gR_k q1, q2, wr_id (z := 3 + 2 * ((fc : Int) + i) + 1) (by omega) (by omega), aI_k q3 (by omega) (by omega), tN (3 + 2 * ((fc : Int) + i) + 1) (4 + 2 * (fc + i)) (by omega)]
  unfold inB
  by_cases c : hI h (T + 1) (row * w + i) < hI h (p + 1) (3 + 2 * (fc + i))
  · rw [if_pos c, decide_eq_false (by omega)]; rfl
  · rw [if_neg c]
    by_cases d : hI h (p + 1) (4 + 2 * (fc + i)) < hI h (T + 1) (row * w + i)
    · rw [if_pos d, decide_eq_true (show hI h (p + 1) (3 + 2 * (fc + i)) ≤ hI h (T + 1) (row * w + i) by omega), decide_eq_false (show ¬ hI h (T + 1) (row * w + i) ≤ hI h (p + 1) (4 + 2 * (fc + i)) by omega)]; rfl
    · rw [if_neg d, decide_eq_true (show hI h (p + 1) (3 + 2 * (fc + i)) ≤ hI h (T + 1) (row * w + i) by omega), decide_eq_true (show hI h (T + 1) (row * w + i) ≤ hI h (p + 1) (4 + 2 * (fc + i)) by omega)]; rfl
theorem takes_end (t : TA h T fc w len) (row : Int) (v : Bool) (n : Nat) : Par_takes_L9 (n + 1) p T row (bi v) (w : Int) h = some (bi v, h) := by
  rw [Par_takes_L9, gI_k t.1, t.2.2.1, if_pos (Int.le_refl _), rz_k (bi_01 v)]
theorem Par_takes_R (t : TA h T 0 3 36) (p1 : PA h p) (h12 : hI h T 3 ≤ 12) (row : Int) : Par_takes p T row h = some (bi (decide (0 ≤ row ∧ row < hI h T 3) && inF (hI h (p + 1)) (fun c => hI h (T + 1) (3 * row + c).toNat) 0), h) := by
  unfold Par_takes
  rw [rc_k t.1, Tab_hasRow_e t, bnd_some, show FU = 999996 + 1 + 1 + 1 + 1 from rfl, show (0 : Int) = ((0 : Nat) : Int) from rfl]
  by_cases c : ((0 : Nat) : Int) ≤ row ∧ row < hI h T 3
  · obtain ⟨r, rfl⟩ : ∃ r : Nat, row = (r : Int) := ⟨row.toNat, by omega⟩
    rw [decide_eq_true c, bi_t, Bool.true_and, takes_s t p1 (by decide) (by decide) (by decide) (by omega)]
    have i0 : (3 * (r : Int) + 0).toNat = r * 3 + 0 := by omega
    have i1 : (3 * (r : Int) + 1).toNat = r * 3 + 1 := by omega
    have i2 : (3 * (r : Int) + 2).toNat = r * 3 + 2 := by omega
    have ef : inF (hI h (p + 1)) (fun c => hI h (T + 1) (3 * (r : Int) + c).toNat) ((0 : Nat) : Int) = (inB (hI h (T + 1) (r * 3 + 0)) (hI h (p + 1) (3 + 2 * (0 + 0))) (hI h (p + 1) (4 + 2 * (0 + 0))) && (inB (hI h (T + 1) (r * 3 + 1)) (hI h (p + 1) (3 + 2 * (0 + 1))) (hI h (p + 1) (4 + 2 * (0 + 1))) && inB (hI h (T + 1) (r * 3 + 2)) (hI h (p + 1) (3 + 2 * (0 + 2))) (hI h (p + 1) (4 + 2 * (0 + 2))))) := by
      unfold inF
      rw [if_pos (show ((0 : Nat) : Int) = 0 from rfl)]
      simp only [i0, i1, i2]
    rw [ef]
    cases inB (hI h (T + 1) (r * 3 + 0)) (hI h (p + 1) (3 + 2 * (0 + 0))) (hI h (p + 1) (4 + 2 * (0 + 0)))
    · rw [bi_f, takes_0 t]; rfl
    · rw [bi_t, takes_s t p1 (by decide) (by decide) (by decide) (by omega), Bool.true_and]
      show Par_takes_L9 _ p T r (bi (inB (hI h (T + 1) (r * 3 + 1)) (hI h (p + 1) (3 + 2 * (0 + 1))) (hI h (p + 1) (4 + 2 * (0 + 1))))) _ h = _
      cases inB (hI h (T + 1) (r * 3 + 1)) (hI h (p + 1) (3 + 2 * (0 + 1))) (hI h (p + 1) (4 + 2 * (0 + 1)))
      · rw [bi_f, takes_0 t]; rfl
      · rw [bi_t, takes_s t p1 (by decide) (by decide) (by decide) (by omega), Bool.true_and]
        exact takes_end t _ _ _
  · rw [decide_eq_false c, bi_f, takes_0 t]; rfl
theorem Par_takes_S (t : TA h T 3 2 16) (p1 : PA h p) (h8 : hI h T 3 ≤ 8) (row : Int) : Par_takes p T row h = some (bi (decide (0 ≤ row ∧ row < hI h T 3) && inF (hI h (p + 1)) (fun c => hI h (T + 1) (2 * row + c - 3).toNat) 1), h) := by
  unfold Par_takes
  rw [rc_k t.1, Tab_hasRow_e t, bnd_some, show FU = 999997 + 1 + 1 + 1 from rfl, show (0 : Int) = ((0 : Nat) : Int) from rfl]
  by_cases c : ((0 : Nat) : Int) ≤ row ∧ row < hI h T 3
  · obtain ⟨r, rfl⟩ : ∃ r : Nat, row = (r : Int) := ⟨row.toNat, by omega⟩
    rw [decide_eq_true c, bi_t, Bool.true_and, takes_s t p1 (by decide) (by decide) (by decide) (by omega)]
    have i0 : (2 * (r : Int) + 3 - 3).toNat = r * 2 + 0 := by omega
    have i1 : (2 * (r : Int) + 4 - 3).toNat = r * 2 + 1 := by omega
    have ef : inF (hI h (p + 1)) (fun c => hI h (T + 1) (2 * (r : Int) + c - 3).toNat) 1 = (inB (hI h (T + 1) (r * 2 + 0)) (hI h (p + 1) (3 + 2 * (3 + 0))) (hI h (p + 1) (4 + 2 * (3 + 0))) && inB (hI h (T + 1) (r * 2 + 1)) (hI h (p + 1) (3 + 2 * (3 + 1))) (hI h (p + 1) (4 + 2 * (3 + 1)))) := by
      unfold inF
      rw [if_neg (by decide)]
      simp only [i0, i1]
    rw [ef]
    cases inB (hI h (T + 1) (r * 2 + 0)) (hI h (p + 1) (3 + 2 * (3 + 0))) (hI h (p + 1) (4 + 2 * (3 + 0)))
    · rw [bi_f, takes_0 t]; rfl
    · rw [bi_t, takes_s t p1 (by decide) (by decide) (by decide) (by omega), Bool.true_and]
      exact takes_end t _ _ _
  · rw [decide_eq_false c, bi_f, takes_0 t]; rfl
theorem ST.tR (s : ST h a ρ) (p1 : PA h p) (row : Int) : Par_takes p (a + 22) row h = some (bi (decide (0 ≤ row ∧ row < ρ 2) && inF (hI h (p + 1)) (numr ρ row) 0), h) := by
  obtain ⟨⟨s1, s2, s3, s4, s5, s6, s7, s8, s9⟩, ⟨e0, e1, e2, e3, e4, e5, e6, e7, eR, eS, eK⟩, b⟩ := s
  have b2 := b.2.2.1
  rw [Par_takes_R s7 p1 (by omega), e2]
  by_cases c : 0 ≤ row ∧ row < ρ 2
  · rw [decide_eq_true c, Bool.true_and, Bool.true_and]
    congr 3
    have z : ∀ c : Int, 0 ≤ c → c < 3 → hI h (a + 22 + 1) (3 * row + c).toNat = numr ρ row c := fun c h0 h3 => by
      unfold numr; rw [if_neg (by omega)]; exact eR _ (by omega)
    exact inF_cc (fun _ => ⟨z 0 (by decide) (by decide), z 1 (by decide) (by decide), z 2 (by decide) (by decide)⟩) (fun x => absurd rfl x)
  · rw [decide_eq_false c]; rfl
theorem ST.tS (s : ST h a ρ) (p1 : PA h p) (row : Int) : Par_takes p (a + 24) row h = some (bi (decide (0 ≤ row ∧ row < ρ 3) && inF (hI h (p + 1)) (numr ρ row) 1), h) := by
  obtain ⟨⟨s1, s2, s3, s4, s5, s6, s7, s8, s9⟩, ⟨e0, e1, e2, e3, e4, e5, e6, e7, eR, eS, eK⟩, b⟩ := s
  have b3 := b.2.2.2.1
  rw [Par_takes_S s8 p1 (by omega), e3]
  by_cases c : 0 ≤ row ∧ row < ρ 3
  · rw [decide_eq_true c, Bool.true_and, Bool.true_and]
    congr 3
    have z : ∀ c : Int, 3 ≤ c → c < 5 → hI h (a + 24 + 1) (2 * row + c - 3).toNat = numr ρ row c := fun c h0 h3 => by
      unfold numr; rw [if_pos (by omega)]; exact eS _ (by omega)
    exact inF_cc (fun x => absurd x (by decide)) (fun _ => ⟨z 3 (by decide) (by decide), z 4 (by decide) (by decide)⟩)
  · rw [decide_eq_false c]; rfl
theorem Tab_atR (t : TA h T 0 3 36) (h12 : hI h T 3 ≤ 12) (row col : Int) : Tab_at T row col h = some (if (0 ≤ row ∧ row < hI h T 3) ∧ 0 ≤ col ∧ col < 3 then hI h (T + 1) (3 * row + col).toNat else -1, h) := by
  unfold Tab_at
  rw [rc_k t.1, Tab_hasRow_e t, bnd_some, ite_bi, rc_k t.1, Tab_hasCol_e t (by decide) (by decide), bnd_some, ite_bi]
  by_cases c : 0 ≤ row ∧ row < hI h T 3
  · rw [if_pos (decide_eq_true c)]
    by_cases d : 0 ≤ col ∧ col < 3
    · rw [if_pos (decide_eq_true (by omega)), if_pos ⟨c, d⟩, gR_k t.1, t.2.2.2.1, gI_k t.1, t.2.2.1, gI_k t.1, t.2.1, wr_id (z := row * ((3 : Nat) : Int)) (by omega) (by omega), wr_id (z := row * ((3 : Nat) : Int) + col) (by omega) (by omega), wr_id (by omega) (by omega), aI_k t.2.2.2.2 (by omega) (by omega), show (row * ((3 : Nat) : Int) + col - ((0 : Nat) : Int)).toNat = (3 * row + col).toNat by omega]
    · rw [if_neg (fun x => d (by have := of_decide_eq_true x; omega)), if_neg (fun x => d x.2)]
  · rw [if_neg (by simpa using c), if_neg (fun x => c x.1)]
theorem Tab_atS (t : TA h T 3 2 16) (h8 : hI h T 3 ≤ 8) (row col : Int) : Tab_at T row col h = some (if (0 ≤ row ∧ row < hI h T 3) ∧ 3 ≤ col ∧ col < 5 then hI h (T + 1) (2 * row + col - 3).toNat else -1, h) := by
  unfold Tab_at
  rw [rc_k t.1, Tab_hasRow_e t, bnd_some, ite_bi, rc_k t.1, Tab_hasCol_e t (by decide) (by decide), bnd_some, ite_bi]
  by_cases c : 0 ≤ row ∧ row < hI h T 3
  · rw [if_pos (decide_eq_true c)]
    by_cases d : 3 ≤ col ∧ col < 5
    · rw [if_pos (decide_eq_true (by omega)), if_pos ⟨c, d⟩, gR_k t.1, t.2.2.2.1, gI_k t.1, t.2.2.1, gI_k t.1, t.2.1, wr_id (z := row * ((2 : Nat) : Int)) (by omega) (by omega), wr_id (z := row * ((2 : Nat) : Int) + col) (by omega) (by omega), wr_id (by omega) (by omega), aI_k t.2.2.2.2 (by omega) (by omega), show (row * ((2 : Nat) : Int) + col - ((3 : Nat) : Int)).toNat = (2 * row + col - 3).toNat by omega]
    · rw [if_neg (fun x => d (by have := of_decide_eq_true x; omega)), if_neg (fun x => d x.2)]
  · rw [if_neg (by simpa using c), if_neg (fun x => c x.1)]
theorem ST.atR (s : ST h a ρ) {row col : Int} (hr0 : 0 ≤ row) (hr : row < ρ 2) (hc0 : 0 ≤ col) (hc : col < 3) : Tab_at (a + 22) row col h = some (numr ρ row col, h) := by
  obtain ⟨⟨s1, s2, s3, s4, s5, s6, s7, s8, s9⟩, ⟨e0, e1, e2, e3, e4, e5, e6, e7, eR, eS, eK⟩, b⟩ := s
  have b2 := b.2.2.1
  rw [Tab_atR s7 (by omega), e2, if_pos (by omega)]
  unfold numr; rw [if_neg (by omega), eR _ (by omega)]
theorem ST.atS (s : ST h a ρ) {row col : Int} (hr0 : 0 ≤ row) (hr : row < ρ 3) (hc0 : 3 ≤ col) (hc : col < 5) : Tab_at (a + 24) row col h = some (numr ρ row col, h) := by
  obtain ⟨⟨s1, s2, s3, s4, s5, s6, s7, s8, s9⟩, ⟨e0, e1, e2, e3, e4, e5, e6, e7, eR, eS, eK⟩, b⟩ := s
  have b3 := b.2.2.2.1
  rw [Tab_atS s8 (by omega), e3, if_pos (by omega)]
  unfold numr; rw [if_pos (by omega), eS _ (by omega)]
theorem ST.rowsOfR (s : ST h a ρ) (p1 : PA h p) : Par_rowsOf p (a + 22) h = some (((rows1 (hI h (p + 1)) (numr ρ) 0 (ρ 2).toNat : Nat) : Int), h) := by
  have b2 := s.2.2.2.2.1
  have e2 := s.2.1.2.2.1
  have k := s.1.2.2.2.2.2.2.1.1
  have L : ∀ (n r : Nat), (r : Int) + n = ρ 2 → ∀ (fuel : Nat) (acc : Int), n < fuel → 0 ≤ acc → acc ≤ r → Par_rowsOf_L4 fuel p (a + 22) acc (r : Int) h = some (acc + (cntR (fun r => inF (hI h (p + 1)) (numr ρ r) 0) r n : Nat), h) := by
    intro n
    induction n with
    | zero =>
      intro r hr fuel acc hf h0 h1
      obtain ⟨fuel, rfl⟩ : ∃ j, fuel = j + 1 := ⟨fuel - 1, by omega⟩
      rw [Par_rowsOf_L4, gI_k k, e2, if_pos (by omega), cntR_0]; simp
    | succ n ih =>
      intro r hr fuel acc hf h0 h1
      obtain ⟨fuel, rfl⟩ : ∃ j, fuel = j + 1 := ⟨fuel - 1, by omega⟩
      rw [Par_rowsOf_L4, gI_k k, e2, if_neg (by omega), rc_k p1.1, s.tR p1, bnd_some, ite_bi, decide_eq_true (show 0 ≤ (r : Int) ∧ (r : Int) < ρ 2 by omega), Bool.true_and, wr_id (z := acc + 1) (by omega) (by omega), wr_id (z := (r : Int) + 1) (by omega) (by omega), show (r : Int) + 1 = ((r + 1 : Nat) : Int) by omega, ih (r + 1) (by omega) fuel acc (by omega) (by omega) (by omega), ih (r + 1) (by omega) fuel (acc + 1) (by omega) (by omega) (by omega), cntR_s]
      cases inF (hI h (p + 1)) (numr ρ r) 0
      · rw [if_neg (by decide), if_neg (by decide)]; congr 2; omega
      · rw [if_pos rfl, if_pos rfl]; congr 2; omega
  have := L (ρ 2).toNat 0 (by omega) FU 0 (by have := FU_big; omega) (by omega) (by omega)
  rw [Int.zero_add] at this
  exact this
theorem ST.rowsOfS (s : ST h a ρ) (p1 : PA h p) : Par_rowsOf p (a + 24) h = some (((rows1 (hI h (p + 1)) (numr ρ) 1 (ρ 3).toNat : Nat) : Int), h) := by
  have b2 := s.2.2.2.2.2.1
  have e2 := s.2.1.2.2.2.1
  have k := s.1.2.2.2.2.2.2.2.1.1
  have L : ∀ (n r : Nat), (r : Int) + n = ρ 3 → ∀ (fuel : Nat) (acc : Int), n < fuel → 0 ≤ acc → acc ≤ r → Par_rowsOf_L4 fuel p (a + 24) acc (r : Int) h = some (acc + (cntR (fun r => inF (hI h (p + 1)) (numr ρ r) 1) r n : Nat), h) := by
    intro n
    induction n with
    | zero =>
      intro r hr fuel acc hf h0 h1
      obtain ⟨fuel, rfl⟩ : ∃ j, fuel = j + 1 := ⟨fuel - 1, by omega⟩
      rw [Par_rowsOf_L4, gI_k k, e2, if_pos (by omega), cntR_0]; simp
    | succ n ih =>
      intro r hr fuel acc hf h0 h1
      obtain ⟨fuel, rfl⟩ : ∃ j, fuel = j + 1 := ⟨fuel - 1, by omega⟩
      rw [Par_rowsOf_L4, gI_k k, e2, if_neg (by omega), rc_k p1.1, s.tS p1, bnd_some, ite_bi, decide_eq_true (show 0 ≤ (r : Int) ∧ (r : Int) < ρ 3 by omega), Bool.true_and, wr_id (z := acc + 1) (by omega) (by omega), wr_id (z := (r : Int) + 1) (by omega) (by omega), show (r : Int) + 1 = ((r + 1 : Nat) : Int) by omega, ih (r + 1) (by omega) fuel acc (by omega) (by omega) (by omega), ih (r + 1) (by omega) fuel (acc + 1) (by omega) (by omega) (by omega), cntR_s]
      cases inF (hI h (p + 1)) (numr ρ r) 1
      · rw [if_neg (by decide), if_neg (by decide)]; congr 2; omega
      · rw [if_pos rfl, if_pos rfl]; congr 2; omega
  have := L (ρ 3).toNat 0 (by omega) FU 0 (by have := FU_big; omega) (by omega) (by omega)
  rw [Int.zero_add] at this
  exact this
theorem ST.t0 {β : Type} (s : ST h a ρ) {f : Nat → Option β} : (gR h 9 a 0 fun r => aR h 34 r 0 f) = f (a + 22) := by
  obtain ⟨s1, s2, s3, s4, s5, s6, -⟩ := s.1
  rw [gR_k s1, s2, aR_k s4 (by decide) (by decide)]; show f (hR h (a + 1) 0) = _; rw [s5]
theorem ST.t1 {β : Type} (s : ST h a ρ) {f : Nat → Option β} : (gR h 9 a 0 fun r => aR h 34 r 1 f) = f (a + 24) := by
  obtain ⟨s1, s2, s3, s4, s5, s6, -⟩ := s.1
  rw [gR_k s1, s2, aR_k s4 (by decide) (by decide)]; show f (hR h (a + 1) 1) = _; rw [s6]
theorem ST.both (s : ST h a ρ) (p1 : PA h p) (ok : okP (hI h (p + 1))) (k2 : hI h (p + 1) 0 = 2) {r t : Nat} (hr : (r : Int) < ρ 2) (ht : (t : Int) < ρ 3) : Par_takesBoth p a (r : Int) (t : Int) h = some (bi (decide (numr ρ r (hI h (p + 1) 1) = numr ρ t (hI h (p + 1) 2)) && inF (hI h (p + 1)) (numr ρ t) 1), h) := by
  obtain ⟨q1, q2, q3⟩ := id p1
  have kk := ok.2 k2
  have kR := s.1.2.2.2.2.2.2.1.1
  have kS := s.1.2.2.2.2.2.2.2.1.1
  unfold Par_takesBoth
  rw [s.t0, gR_k q1, q2, aI_k q3 (by decide) (by decide), rc_k kR, show (1 : Int).toNat = 1 from rfl, s.atR (by omega) hr kk.1.1 kk.1.2, bnd_some, s.t1, gR_k q1, q2, aI_k q3 (by decide) (by decide), rc_k kS, show (2 : Int).toNat = 2 from rfl, s.atS (by omega) ht kk.2.1 kk.2.2, bnd_some, s.t1, rc_k q1, s.tS p1, bnd_some, ite_bi, decide_eq_true (show 0 ≤ (t : Int) ∧ (t : Int) < ρ 3 by omega), Bool.true_and]
  by_cases c : numr ρ r (hI h (p + 1) 1) = numr ρ t (hI h (p + 1) 2)
  · rw [if_neg (by simpa using c), decide_eq_true c, Bool.true_and]
    cases inF (hI h (p + 1)) (numr ρ t) 1 <;> rfl
  · rw [if_pos c, decide_eq_false c]; rfl
theorem ST.rowsIn (s : ST h a ρ) (p1 : PA h p) (ok : okP (hI h (p + 1))) : Par_rowsIn p a h = some (((rowsF (hI h (p + 1)) (numr ρ) (ρ 2).toNat (ρ 3).toNat : Nat) : Int), h) := by
  have b2 := s.2.2.2.2.1
  have b3 := s.2.2.2.2.2.1
  have e2 := s.2.1.2.2.1
  have e3 := s.2.1.2.2.2.1
  have kR := s.1.2.2.2.2.2.2.1.1
  have kS := s.1.2.2.2.2.2.2.2.1.1
  have big := FU_big
  unfold Par_rowsIn rowsF
  rw [rc_k p1.1, Par_kind_e p1, bnd_some]
  by_cases k2 : hI h (p + 1) 0 = 2
  · rw [if_pos k2, if_pos (by omega)]
    have LS : ∀ (K : Nat → Nat → Int → Int → AH → Option (Int × AH)) (r : Nat), (r : Int) < ρ 2 → inF (hI h (p + 1)) (numr ρ r) 0 = true → ∀ (n t : Nat), (t : Int) + n = ρ 3 → ∀ (fuel : Nat) (acc : Int), n < fuel → 0 ≤ acc → acc ≤ 8 * r + t → Par_rowsIn_L59 K fuel p a acc (r : Int) (t : Int) h = K p a (acc + (cntR (fun t => decide (numr ρ r (hI h (p + 1) 1) = numr ρ t (hI h (p + 1) 2)) && (inF (hI h (p + 1)) (numr ρ r) 0 && inF (hI h (p + 1)) (numr ρ t) 1)) t n : Nat)) ((r : Int) + 1) h := by
      intro K r hr hin n
      induction n with
      | zero =>
        intro t ht fuel acc hf h0 h1
        obtain ⟨fuel, rfl⟩ : ∃ j, fuel = j + 1 := ⟨fuel - 1, by omega⟩
        rw [Par_rowsIn_L59, s.t1, gI_k kS, e3, if_pos (by omega), wr_id (by omega) (by omega), cntR_0]; simp
      | succ n ih =>
        intro t ht fuel acc hf h0 h1
        obtain ⟨fuel, rfl⟩ : ∃ j, fuel = j + 1 := ⟨fuel - 1, by omega⟩
        rw [Par_rowsIn_L59, s.t1, gI_k kS, e3, if_neg (by omega), rc_k p1.1, s.both p1 ok k2 hr (by omega), bnd_some, ite_bi, wr_id (z := acc + 1) (by omega) (by omega), wr_id (z := (t : Int) + 1) (by omega) (by omega), show (t : Int) + 1 = ((t + 1 : Nat) : Int) by omega, ih (t + 1) (by omega) fuel acc (by omega) (by omega) (by omega), ih (t + 1) (by omega) fuel (acc + 1) (by omega) (by omega) (by omega), cntR_s, hin, Bool.true_and]
        cases decide (numr ρ r (hI h (p + 1) 1) = numr ρ t (hI h (p + 1) 2)) && inF (hI h (p + 1)) (numr ρ t) 1
        · rw [if_neg (by decide), if_neg (by decide)]; congr 1; omega
        · rw [if_pos rfl, if_pos rfl]; congr 1; omega
    have LR : ∀ (n r : Nat), (r : Int) + n = ρ 2 → ∀ (fuel : Nat) (acc : Int), n < fuel → 0 ≤ acc → acc ≤ 8 * r → Par_rowsIn_L26 fuel p a acc (r : Int) h = some (acc + (sumR (fun r => cntR (fun t => decide (numr ρ r (hI h (p + 1) 1) = numr ρ t (hI h (p + 1) 2)) && (inF (hI h (p + 1)) (numr ρ r) 0 && inF (hI h (p + 1)) (numr ρ t) 1)) 0 (ρ 3).toNat) r n : Nat), h) := by
      intro n
      induction n with
      | zero =>
        intro r hr fuel acc hf h0 h1
        obtain ⟨fuel, rfl⟩ : ∃ j, fuel = j + 1 := ⟨fuel - 1, by omega⟩
        rw [Par_rowsIn_L26, s.t0, gI_k kR, e2, if_pos (by omega), sumR_0]; simp
      | succ n ih =>
        intro r hr fuel acc hf h0 h1
        obtain ⟨fuel, rfl⟩ : ∃ j, fuel = j + 1 := ⟨fuel - 1, by omega⟩
        have hle := cntR_le (fun t => decide (numr ρ r (hI h (p + 1) 1) = numr ρ t (hI h (p + 1) 2)) && (inF (hI h (p + 1)) (numr ρ r) 0 && inF (hI h (p + 1)) (numr ρ t) 1)) (ρ 3).toNat 0
        rw [Par_rowsIn_L26, s.t0, gI_k kR, e2, if_neg (by omega), s.t0, rc_k p1.1, s.tR p1, bnd_some, ite_nbi, decide_eq_true (show 0 ≤ (r : Int) ∧ (r : Int) < ρ 2 by omega), Bool.true_and, sumR_s]
        cases hin : inF (hI h (p + 1)) (numr ρ r) 0
        · rw [if_neg (by decide), wr_id (by omega) (by omega), show (r : Int) + 1 = ((r + 1 : Nat) : Int) by omega, ih (r + 1) (by omega) fuel acc (by omega) (by omega) (by omega)]
          have z : cntR (fun t => decide (numr ρ r (hI h (p + 1) 1) = numr ρ t (hI h (p + 1) 2)) && (false && inF (hI h (p + 1)) (numr ρ t) 1)) 0 (ρ 3).toNat = 0 := by
            rw [cntR_c (q := fun _ => false) (fun i _ _ => by simp)]
            unfold cntR; simp
          rw [z]; congr 2; omega
        · have hi := LS (Par_rowsIn_L26 fuel) r (by omega) hin (ρ 3).toNat 0 (by omega) FU acc (by omega) h0 (by omega)
          rw [show ((0 : Nat) : Int) = 0 from rfl] at hi
          rw [if_pos rfl, hi, show (r : Int) + 1 = ((r + 1 : Nat) : Int) by omega, ih (r + 1) (by omega) fuel _ (by omega) (by omega) (by omega), hin]
          congr 2; omega
    have := LR (ρ 2).toNat 0 (by omega) FU 0 (by omega) (by omega) (by omega)
    rw [Int.zero_add] at this
    exact this
  · have k01 : hI h (p + 1) 0 = 0 ∨ hI h (p + 1) 0 = 1 := by have := ok.1; omega
    obtain ⟨s1, s2, s3, s4, s5, s6, -⟩ := id s.1
    rw [if_neg k2, if_neg (by omega), gR_k s1, s2, rc_k p1.1, Par_kind_e p1, bnd_some, aR_k s4 (by omega) (by omega), rc_k p1.1]
    rcases k01 with k | k
    · rw [k, show (0 : Int).toNat = 0 from rfl, s5, s.rowsOfR p1, bnd_some, if_pos rfl]
    · rw [k, show (1 : Int).toNat = 1 from rfl, s6, s.rowsOfS p1, bnd_some, if_neg (by decide)]
theorem ST.makeIn (s : ST h a ρ) (p1 : PA h p) (ok : okP (hI h (p + 1))) : Par_makeIn p a h = some (((makeF (hI h (p + 1)) (numr ρ) (ρ 2).toNat (ρ 3).toNat : Nat) : Int), h) := by
  have b2 := s.2.2.2.2.1
  have b3 := s.2.2.2.2.2.1
  have e2 := s.2.1.2.2.1
  have e3 := s.2.1.2.2.2.1
  have kR := s.1.2.2.2.2.2.2.1.1
  have kS := s.1.2.2.2.2.2.2.2.1.1
  unfold Par_makeIn makeF
  rw [s.t0, if_neg (by omega), s.t1, if_neg (by omega), rc_k p1.1, Par_kind_e p1, bnd_some]
  by_cases k2 : hI h (p + 1) 0 = 2
  · have l1 : rows1 (hI h (p + 1)) (numr ρ) 0 (ρ 2).toNat ≤ 12 := Nat.le_trans (cntR_le _ _ _) (by omega)
    have l2 : rows1 (hI h (p + 1)) (numr ρ) 1 (ρ 3).toNat ≤ 8 := Nat.le_trans (cntR_le _ _ _) (by omega)
    have l3 := Nat.mul_le_mul l1 l2
    rw [if_neg (by simpa using k2), if_pos (by omega), gI_k kR, gI_k kS, e2, e3, rc_k p1.1, s.rowsOfR p1, bnd_some, rc_k p1.1, s.rowsOfS p1, bnd_some, ← Int.natCast_mul]
    generalize rows1 (hI h (p + 1)) (numr ρ) 0 (ρ 2).toNat * rows1 (hI h (p + 1)) (numr ρ) 1 (ρ 3).toNat = P at l3 ⊢
    rw [wr_id (z := ρ 2 + ρ 3) (by omega) (by omega), wr_id (z := (P : Int)) (by omega) (by omega), wr_id (by omega) (by omega)]
    congr 2; omega
  · have k01 : hI h (p + 1) 0 = 0 ∨ hI h (p + 1) 0 = 1 := by have := ok.1; omega
    obtain ⟨s1, s2, s3, s4, s5, s6, -⟩ := id s.1
    rw [if_pos k2, if_neg (by omega), gR_k s1, s2, rc_k p1.1, Par_kind_e p1, bnd_some, aR_k s4 (by omega) (by omega)]
    rcases k01 with k | k
    · rw [k, show (0 : Int).toNat = 0 from rfl, s5, gI_k kR, e2, if_pos rfl]; congr 2; omega
    · rw [k, show (1 : Int).toNat = 1 from rfl, s6, gI_k kS, e3, if_neg (by decide)]; congr 2; omega
theorem Par_isLike_e {q : Nat} (p1 : PA h p) (q1 : PA h q) : Par_isLike p q h = some (bi (sameF (hI h (p + 1)) (hI h (q + 1))), h) := by
  obtain ⟨a1, a2, a3⟩ := p1
  obtain ⟨b1, b2, b3⟩ := q1
  have L : ∀ (n k : Nat), k + n = 13 → ∀ fuel, n < fuel → Par_isLike_L2 fuel p q (k : Int) h = some (bi (allR (fun k => decide (hI h (p + 1) k = hI h (q + 1) k)) k n), h) := by
    intro n
    induction n with
    | zero =>
      intro k hk fuel hf
      obtain ⟨fuel, rfl⟩ : ∃ j, fuel = j + 1 := ⟨fuel - 1, by omega⟩
      rw [Par_isLike_L2, if_pos (by omega)]; rfl
    | succ n ih =>
      intro k hk fuel hf
      obtain ⟨fuel, rfl⟩ : ∃ j, fuel = j + 1 := ⟨fuel - 1, by omega⟩
      rw [Par_isLike_L2, if_neg (by omega), gR_k a1, a2, aI_k a3 (by omega) (by omega), gR_k b1, b2, aI_k b3 (by omega) (by omega), tN (k : Int) k rfl, wr_id (by omega) (by omega), show (k : Int) + 1 = ((k + 1 : Nat) : Int) by omega, ih (k + 1) (by omega) fuel (by omega), allR_s]
      by_cases c : hI h (p + 1) k = hI h (q + 1) k
      · rw [if_pos c, decide_eq_true c, Bool.true_and]
      · rw [if_neg c, decide_eq_false c]; rfl
  exact L 13 0 rfl FU (by decide)
theorem Par_isOfSort_e {q : Nat} (p1 : PA h p) (q1 : PA h q) : Par_isOfSort p q h = some (bi (oneF (hI h (p + 1)) (hI h (q + 1))), h) := by
  obtain ⟨a1, a2, a3⟩ := p1
  obtain ⟨b1, b2, b3⟩ := q1
  unfold Par_isOfSort oneF
  simp (disch := first | assumption | omega) only [gR_k a1, a2, aI_k a3, gR_k b1, b2, aI_k b3]
  show (if ¬ hI h (p + 1) 0 = hI h (q + 1) 0 then _ else if ¬ hI h (p + 1) 1 = hI h (q + 1) 1 then _ else if ¬ hI h (p + 1) 2 = hI h (q + 1) 2 then _ else _) = _
  by_cases e1 : hI h (p + 1) 0 = hI h (q + 1) 0 <;> by_cases e2 : hI h (p + 1) 1 = hI h (q + 1) 1 <;> by_cases e3 : hI h (p + 1) 2 = hI h (q + 1) 2 <;> simp [e1, e2, e3, bi]
theorem Par_holds_e {q : Nat} (p1 : PA h p) (q1 : PA h q) : Par_holds p q h = some (bi (holdF (hI h (p + 1)) (hI h (q + 1))), h) := by
  obtain ⟨a1, a2, a3⟩ := id p1
  obtain ⟨b1, b2, b3⟩ := id q1
  have L0 : ∀ (n k : Nat), Par_holds_L53 (n + 1) p q 0 (k : Int) h = some (0, h) := fun n k => by
    rw [Par_holds_L53, if_pos rfl, rz_k (Or.inl rfl)]; split <;> rfl
  have L : ∀ (n c : Nat), c + n = 5 → ∀ fuel, n + 1 < fuel → Par_holds_L53 fuel p q 1 ((3 + 2 * c : Nat) : Int) h = some (bi (allR (fun c => decide (hI h (p + 1) (3 + 2 * c) ≤ hI h (q + 1) (3 + 2 * c)) && decide (hI h (q + 1) (4 + 2 * c) ≤ hI h (p + 1) (4 + 2 * c))) c n), h) := by
    intro n
    induction n with
    | zero =>
      intro c hc fuel hf
      obtain ⟨fuel, rfl⟩ : ∃ j, fuel = j + 1 := ⟨fuel - 1, by omega⟩
      rw [Par_holds_L53, if_pos (by omega), rz_k (Or.inr rfl)]; rfl
    | succ n ih =>
      intro c hc fuel hf
      obtain ⟨fuel, rfl⟩ : ∃ j, fuel = j + 1 + 1 := ⟨fuel - 2, by omega⟩
      rw [Par_holds_L53, if_neg (by omega), if_neg (by decide), gR_k a1, a2, aI_k a3 (by omega) (by omega), gR_k b1, b2, aI_k b3 (by omega) (by omega), gR_k a1, a2, wr_id (z := ((3 + 2 * c : Nat) : Int) + 1) (by omega) (by omega), aI_k a3 (by omega) (by omega), gR_k b1, b2, aI_k b3 (by omega) (by omega), tN ((3 + 2 * c : Nat) : Int) (3 + 2 * c) rfl, tN (((3 + 2 * c : Nat) : Int) + 1) (4 + 2 * c) (by omega), wr_id (by omega) (by omega), show ((3 + 2 * c : Nat) : Int) + 2 = ((3 + 2 * (c + 1) : Nat) : Int) by omega, L0, ih (c + 1) (by omega) (fuel + 1) (by omega), allR_s]
      by_cases x : hI h (q + 1) (3 + 2 * c) < hI h (p + 1) (3 + 2 * c)
      · rw [if_pos x, decide_eq_false (show ¬ hI h (p + 1) (3 + 2 * c) ≤ hI h (q + 1) (3 + 2 * c) by omega)]; rfl
      · rw [if_neg x, decide_eq_true (show hI h (p + 1) (3 + 2 * c) ≤ hI h (q + 1) (3 + 2 * c) by omega), Bool.true_and]
        by_cases y : hI h (p + 1) (4 + 2 * c) < hI h (q + 1) (4 + 2 * c)
        · rw [if_pos y, decide_eq_false (show ¬ hI h (q + 1) (4 + 2 * c) ≤ hI h (p + 1) (4 + 2 * c) by omega)]; rfl
        · rw [if_neg y, decide_eq_true (show hI h (q + 1) (4 + 2 * c) ≤ hI h (p + 1) (4 + 2 * c) by omega), Bool.true_and]
  have L1 := L 5 0 rfl FU (by decide)
  rw [show ((3 + 2 * 0 : Nat) : Int) = 3 from rfl] at L1
  have L2 := L0 999999 3
  rw [show 999999 + 1 = FU from rfl, show ((3 : Nat) : Int) = 3 from rfl] at L2
  unfold Par_holds holdF oneF
  simp (disch := first | assumption | omega) only [gR_k a1, a2, aI_k a3, gR_k b1, b2, aI_k b3]
  rw [L1, L2]
  show (if ¬ hI h (p + 1) 0 = hI h (q + 1) 0 then _ else if ¬ hI h (p + 1) 1 = hI h (q + 1) 1 then _ else if ¬ hI h (p + 1) 2 = hI h (q + 1) 2 then _ else _) = _
  by_cases e1 : hI h (p + 1) 0 = hI h (q + 1) 0 <;> by_cases e2 : hI h (p + 1) 1 = hI h (q + 1) 1 <;> by_cases e3 : hI h (p + 1) 2 = hI h (q + 1) 2 <;> simp [e1, e2, e3, bi]
theorem Par_isOver_e (p1 : PA h p) (t : Int) : Par_isOver p t h = some (bi (decide (hI h (p + 1) 0 = 2) || decide (hI h (p + 1) 0 = t)), h) := by
  unfold Par_isOver
  rw [rc_k p1.1, Par_kind_e p1, bnd_some, rc_k p1.1, Par_kind_e p1, bnd_some]
  by_cases e1 : hI h (p + 1) 0 = 2 <;> by_cases e2 : hI h (p + 1) 0 = t <;> simp [e1, e2, bi]
end C1
