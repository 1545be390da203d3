/-! Level 2: marks, shared, residue, seed, count -/
def mkB (c : Nat → Bool) : Nat → Int
  | 0 => 0
  | q + 1 => iOr (mkB c q) (if c q then iShl 1 (q : Int) else 0)
def anyB (c : Nat → Bool) : Nat → Bool
  | 0 => false
  | q + 1 => anyB c q || c q
section R23
variable {h H : AH} {f f' f1 f2 : Nat → Nat → Int} {ρ ρ' : Nat → Int}
theorem isIn_s (m : MS h) {q k : Nat} (hq : q < 8) {row to c : Int} (hc : 0 ≤ c) (hc5 : c < 5) (hr : 0 ≤ row) (hr2 : row < if 3 ≤ c then 8 else 12) : Mod_isIn_L26 (k + 1) 401 (q : Int) row to c h = if to ≤ c then some (1, h) else if inB (num h row c) (hI h 411 (5 * q + c.toNat)) (hI h 412 (5 * q + c.toNat)) then Mod_isIn_L26 k 401 (q : Int) row to (c + 1) h else some (0, h) := by
  rw [Mod_isIn_L26]
  by_cases ht : to ≤ c
  · rw [if_pos ht, if_pos ht]
  · rw [if_neg ht, if_neg ht]
    simp (disch := first | assumption | omega) only [c_m, Mod_numberAt_e m hr hc hc5 hr2, bnd_some, wr_id, r_14, r_15, a_411, a_412, Mod_in_e, ite_nbi]
    rw [tN (5 * (q : Int) + c) (5 * q + c.toNat) (by omega)]
theorem Mod_isIn_e (m : MS h) {q : Nat} (hq : q < 8) {t row : Int} (ht : t = 0 ∨ t = 1) (hr : 0 ≤ row) (hr2 : row < if t = 0 then 12 else 8) : Mod_isIn 401 (q : Int) t row h = some (bi (inF (qp h q t) (num h row) t), h) := by
  unfold Mod_isIn Mod_isIn_L9
  rcases ht with rfl | rfl
  · rw [if_pos rfl] at hr2
    rw [if_neg (by simp), if_neg (by simp), show FU = 999996 + 1 + 1 + 1 + 1 from rfl]
    rw [isIn_s m hq (by decide) (by decide) hr (by simpa using hr2), isIn_s m hq (by decide) (by decide) hr (by simpa using hr2), isIn_s m hq (by decide) (by decide) hr (by simpa using hr2)]
    rw [Mod_isIn_L26]
    unfold inF
    rw [show qp h q 0 3 = hI h 411 (5 * q + 0) from rfl, show qp h q 0 4 = hI h 412 (5 * q + 0) from rfl, show qp h q 0 5 = hI h 411 (5 * q + 1) from rfl, show qp h q 0 6 = hI h 412 (5 * q + 1) from rfl, show qp h q 0 7 = hI h 411 (5 * q + 2) from rfl, show qp h q 0 8 = hI h 412 (5 * q + 2) from rfl]
    simp only [if_true]
    show (if _ then _ else if inB (num h row 0) (hI h 411 (5 * q + 0)) (hI h 412 (5 * q + 0)) = true then if _ then _ else if inB (num h row 1) (hI h 411 (5 * q + 1)) (hI h 412 (5 * q + 1)) = true then if _ then _ else if inB (num h row 2) (hI h 411 (5 * q + 2)) (hI h 412 (5 * q + 2)) = true then _ else _ else _ else _) = _
    cases inB (num h row 0) (hI h 411 (5 * q + 0)) (hI h 412 (5 * q + 0)) <;> cases inB (num h row 1) (hI h 411 (5 * q + 1)) (hI h 412 (5 * q + 1)) <;> cases inB (num h row 2) (hI h 411 (5 * q + 2)) (hI h 412 (5 * q + 2)) <;> rfl
  · rw [if_neg (by decide)] at hr2
    rw [if_pos (by decide), if_pos (by decide), show FU = 999996 + 1 + 1 + 1 + 1 from rfl]
    rw [isIn_s m hq (by decide) (by decide) hr (by simpa using hr2), isIn_s m hq (by decide) (by decide) hr (by simpa using hr2)]
    rw [Mod_isIn_L26]
    unfold inF
    rw [show qp h q 1 9 = hI h 411 (5 * q + 3) from rfl, show qp h q 1 10 = hI h 412 (5 * q + 3) from rfl, show qp h q 1 11 = hI h 411 (5 * q + 4) from rfl, show qp h q 1 12 = hI h 412 (5 * q + 4) from rfl]
    show (if _ then _ else if inB (num h row 3) (hI h 411 (5 * q + 3)) (hI h 412 (5 * q + 3)) = true then if _ then _ else if inB (num h row 4) (hI h 411 (5 * q + 4)) (hI h 412 (5 * q + 4)) = true then _ else _ else _) = _
    cases inB (num h row 3) (hI h 411 (5 * q + 3)) (hI h 412 (5 * q + 3)) <;> cases inB (num h row 4) (hI h 411 (5 * q + 4)) (hI h 412 (5 * q + 4)) <;> rfl
/-- whether a query marks a row -/
def mkC (h : AH) (t row : Int) (q : Nat) : Bool := rOn h q && (rHas h q t && inF (qp h q t) (num h row) t)
def jnC (h : AH) (jr js : Int) (q : Nat) : Bool := decide (jr = -1) || (decide (hI h 409 q = jr) && decide (hI h 410 q = js))
theorem marksOf_L (m : MS h) (b : MB h) {t row jr js : Int} (ht : t = 0 ∨ t = 1) (hr : 0 ≤ row) (hr2 : row < if t = 0 then 12 else 8) : ∀ (n q fuel : Nat), (q : Int) + n = hI h 401 10 → n < fuel → Mod_marksOf_L6 fuel 401 t row jr js (mkB (fun q => mkC h t row q && jnC h jr js q) q) (q : Int) h = some (mkB (fun q => mkC h t row q && jnC h jr js q) (nQ h), h)
  | 0, q, fuel + 1, hq, _ => by
    rw [Mod_marksOf_L6, g_m m, if_pos (by omega), show nQ h = q by unfold nQ; omega]
  | n + 1, q, fuel + 1, hq, hf => by
    have b3 := b.2.2.1
    have ih := marksOf_L m b (jr := jr) (js := js) ht hr hr2 n (q + 1) fuel (by omega) (by omega)
    rw [mkB] at ih
    have f9 : ∀ v : Bool, (mkC h t row q && jnC h jr js q) = v → Mod_marksOf_L90 (Mod_marksOf_L6 fuel) 401 t row jr js (mkB (fun q => mkC h t row q && jnC h jr js q) q) (q : Int) (bi v) h = some (mkB (fun q => mkC h t row q && jnC h jr js q) (nQ h), h) := fun v hv => by
      unfold Mod_marksOf_L90
      rw [hv] at ih
      rw [wr_id (z := (q : Int) + 1) (by omega) (by omega), show (q : Int) + 1 = ((q + 1 : Nat) : Int) by omega, ite_bi]
      cases v
      · rw [if_neg (show ¬ false = true by decide)] at ih ⊢; exact ih
      · rw [if_pos (show true = true from rfl)] at ih ⊢; exact ih
    have f5 : ∀ v : Bool, mkC h t row q = v → Mod_marksOf_L50 (Mod_marksOf_L6 fuel) 401 t row jr js (mkB (fun q => mkC h t row q && jnC h jr js q) q) (q : Int) (bi v) h = some (mkB (fun q => mkC h t row q && jnC h jr js q) (nQ h), h) := fun v hv => by
      unfold Mod_marksOf_L50
      rw [hv] at f9
      have z0 := f9 false
      have z1 := f9 true
      rw [bi_f] at z0
      rw [bi_t] at z1
      unfold jnC at z0 z1
      rw [ite_bi, r_12 m, a_409 m (by omega) (by omega), r_13 m, a_410 m (by omega) (by omega), tN (q : Int) q rfl]
      cases v
      · rw [if_neg (show ¬ false = true by decide)]; exact z0 (by simp)
      · rw [if_pos rfl]
        by_cases c1 : jr = -1
        · rw [if_pos c1]; exact z1 (by simp [c1])
        · rw [if_neg c1]
          by_cases c2 : hI h 409 q = jr
          · rw [if_neg (by simpa using c2)]
            by_cases c3 : hI h 410 q = js
            · rw [if_neg (by simpa using c3)]; exact z1 (by simp [c2, c3])
            · rw [if_pos c3]; exact z0 (by simp [c1, c3])
          · rw [if_pos c2]; exact z0 (by simp [c1, c2])
    have z0 := f5 false
    have z1 := f5 true
    rw [bi_f] at z0
    rw [bi_t] at z1
    unfold mkC at z0 z1
    rw [Mod_marksOf_L6, g_m m, if_neg (by omega), c_m m, Mod_isOn_e m (by omega) (by omega), bnd_some, ite_bi, c_m m, Mod_hasKind_e m (by omega) (by omega), bnd_some, ite_bi, c_m m, Mod_isIn_e m (by omega) ht hr hr2, bnd_some, ite_bi]
    cases e1 : rOn h q
    · rw [if_neg (show ¬ false = true by decide)]; exact z0 (by rw [e1]; rfl)
    · rw [if_pos (show true = true from rfl)]
      cases e2 : rHas h q t
      · rw [if_neg (show ¬ false = true by decide)]; exact z0 (by rw [e1, e2]; rfl)
      · rw [if_pos (show true = true from rfl)]
        cases e3 : inF (qp h q t) (num h row) t
        · rw [if_neg (show ¬ false = true by decide)]; exact z0 (by rw [e1, e2, e3]; rfl)
        · rw [if_pos (show true = true from rfl)]; exact z1 (by rw [e1, e2, e3]; rfl)
theorem Mod_marksOf_e (m : MS h) (b : MB h) {t row : Int} (jr js : Int) (ht : t = 0 ∨ t = 1) (hr : 0 ≤ row) (hr2 : row < if t = 0 then 12 else 8) : Mod_marksOf 401 t row jr js h = some (mkB (fun q => mkC h t row q && jnC h jr js q) (nQ h), h) := by
  have b3 := b.2.2.1
  exact marksOf_L m b ht hr hr2 (nQ h) 0 FU (by unfold nQ; omega) (by have := FU_big; unfold nQ; omega)
theorem mkB_c {c d : Nat → Bool} : ∀ {n : Nat}, (∀ q, q < n → c q = d q) → mkB c n = mkB d n
  | 0, _ => rfl
  | n + 1, e => by rw [mkB, mkB, mkB_c (fun q hq => e q (by omega)), e n (by omega)]
def marksA (h : AH) (t row : Int) : Int := if rowOk (rr (hI h)) t row then mkB (mkC h t row) (nQ h) else -1
theorem rowIn (b : MB h) {t row : Int} (e : rowOk (rr (hI h)) t row = true) : (t = 0 ∨ t = 1) ∧ 0 ≤ row ∧ row < if t = 0 then 12 else 8 := by
  obtain ⟨e1, e2, e3⟩ := rowOk_i.mp e
  obtain ⟨b1, b2, -⟩ := b
  refine ⟨e1, e2, ?_⟩
  by_cases t0 : t = 0
  · rw [if_pos t0, rr_s _ (by decide)] at e3; rw [if_pos t0]; omega
  · rw [if_neg t0, rr_s _ (by decide)] at e3; rw [if_neg t0]; omega
theorem Mod_marks_e (m : MS h) (b : MB h) (t row : Int) : Mod_marks 401 t row h = some (marksA h t row, h) := by
  unfold Mod_marks marksA
  rw [c_m m, Mod_isRow_e m b, bnd_some, ite_bi, rIsRow_r]
  cases e : rowOk (rr (hI h)) t row
  · rfl
  · obtain ⟨e1, e2, e3⟩ := rowIn b e
    rw [if_pos rfl, if_pos rfl, c_m m, Mod_marksOf_e m b (-1) (-1) e1 e2 e3, bnd_some]
    congr 2
    exact mkB_c (fun q _ => by simp [jnC])
def mkd (h : AH) (t jr js : Int) : Nat := cntR (fun row => !decide (mkB (fun q => mkC h t row q && jnC h jr js q) (nQ h) = 0)) 0 (rN h t).toNat
theorem Mod_markedOf_e (m : MS h) (b : MB h) {t : Int} (jr js : Int) (ht : t = 0 ∨ t = 1) : Mod_markedOf 401 t jr js h = some (((mkd h t jr js : Nat) : Int), h) := by
  have nb := rN_b b t
  have L : ∀ (n r : Nat), (r : Int) + n = rN h t → ∀ (fuel : Nat) (acc : Int), n < fuel → 0 ≤ acc → acc ≤ r → Mod_markedOf_L6 fuel 401 t jr js acc (r : Int) h = some (acc + (cntR (fun row => !decide (mkB (fun q => mkC h t row q && jnC h jr js q) (nQ h) = 0)) r n : Nat), h) := by
    intro n
    induction n with
    | zero =>
      intro r hr fuel acc hf h0 h1
      obtain ⟨fuel, rfl⟩ : ∃ j, fuel = j + 1 := ⟨fuel - 1, by omega⟩
      rw [Mod_markedOf_L6, c_m m, Mod_manyOf_e m, bnd_some, if_pos (by omega), cntR_0]; simp
    | succ n ih =>
      intro r hr fuel acc hf h0 h1
      obtain ⟨fuel, rfl⟩ : ∃ j, fuel = j + 1 := ⟨fuel - 1, by omega⟩
      rw [Mod_markedOf_L6, c_m m, Mod_manyOf_e m, bnd_some, if_neg (by omega), c_m m, Mod_marksOf_e m b jr js ht (by omega) (by split <;> omega), bnd_some, wr_id (z := acc + 0) (by omega) (by omega), wr_id (z := acc + 1) (by omega) (by omega), wr_id (z := (r : Int) + 1) (by omega) (by omega), show (r : Int) + 1 = ((r + 1 : Nat) : Int) by omega, ih (r + 1) (by omega) fuel (acc + 0) (by omega) (by omega) (by omega), ih (r + 1) (by omega) fuel (acc + 1) (by omega) (by omega) (by omega), cntR_s]
      by_cases e : mkB (fun q => mkC h t r q && jnC h jr js q) (nQ h) = 0
      · rw [if_pos e, if_neg (by simp [e])]; congr 2; omega
      · rw [if_neg e, if_pos (by simp [e])]; congr 2; omega
  have := L (rN h t).toNat 0 (by omega) FU 0 (by have := FU_big; omega) (by omega) (by omega)
  rw [Int.zero_add] at this
  exact this
theorem mkd_b (b : MB h) (t jr js : Int) : mkd h t jr js ≤ 12 := by
  have := rN_b b t
  exact Nat.le_trans (cntR_le _ _ _) (by omega)
def pdS (h : AH) (a b : Int) : Int := ((mkd h 0 a b * mkd h 1 a b : Nat) : Int)
theorem pdS_b (b : MB h) (x y : Int) : 0 ≤ pdS h x y ∧ pdS h x y ≤ 144 := by
  have l1 := mkd_b b 0 x y
  have l2 := mkd_b b 1 x y
  have l3 := Nat.mul_le_mul l1 l2
  unfold pdS; omega
def sh0 (h : AH) : Int := (if anyB (fun q => rOn h q && rHas h q 0) (nQ h) then hI h 402 2 else 0) + (if anyB (fun q => rOn h q && rHas h q 1) (nQ h) then hI h 402 3 else 0)
def shA (h : AH) : Int := sh0 h + pdS h 0 3 + pdS h 0 4 + pdS h 1 3 + pdS h 1 4 + pdS h 2 3 + pdS h 2 4
theorem shared_a (m : MS h) (b : MB h) {a : Nat} (ha : a < 3) (K : Nat → Int → Int → AH → Option (Int × AH)) {s : Int} (h0 : 0 ≤ s) (h1 : s ≤ 10000) : Mod_shared_L116 K FU 401 s (a : Int) 3 h = K 401 (s + pdS h a 3 + pdS h a 4) ((a + 1 : Nat) : Int) h := by
  have p3 := pdS_b b a 3
  have p4 := pdS_b b a 4
  have st : ∀ (c : Int) (n : Nat) (s : Int), c = 3 ∨ c = 4 → 0 ≤ s → s ≤ 20000 → Mod_shared_L116 K (n + 1) 401 s (a : Int) c h = Mod_shared_L116 K n 401 (s + pdS h a c) (a : Int) (c + 1) h := fun c n s hc h0 h1 => by
    have p := pdS_b b a c
    have l1 := mkd_b b 0 a c
    have l2 := mkd_b b 1 a c
    rw [Mod_shared_L116, if_neg (by omega), c_m m, Mod_markedOf_e m b a c (Or.inl rfl), bnd_some, c_m m, Mod_markedOf_e m b a c (Or.inr rfl), bnd_some, ← Int.natCast_mul]
    rw [show ((mkd h 0 a c * mkd h 1 a c : Nat) : Int) = pdS h a c from rfl, wr_id (z := pdS h a c) (by omega) (by omega), wr_id (z := s + pdS h a c) (by omega) (by omega), wr_id (z := c + 1) (by omega) (by omega)]
  rw [show FU = 999997 + 1 + 1 + 1 from rfl, st 3 _ s (Or.inl rfl) h0 (by omega), show (3 : Int) + 1 = 4 from rfl, st 4 _ _ (Or.inr rfl) (by omega) (by omega), Mod_shared_L116, if_pos (by decide), wr_id (by omega) (by omega), show (a : Int) + 1 = ((a + 1 : Nat) : Int) by omega]
theorem shared_b (m : MS h) (b : MB h) {s : Int} (h0 : 0 ≤ s) (h1 : s ≤ 1000) : Mod_shared_L107 FU 401 s 0 h = some (s + pdS h 0 3 + pdS h 0 4 + pdS h 1 3 + pdS h 1 4 + pdS h 2 3 + pdS h 2 4, h) := by
  have a3 := pdS_b b 0 3
  have a4 := pdS_b b 0 4
  have c3 := pdS_b b 1 3
  have c4 := pdS_b b 1 4
  rw [show FU = 999996 + 1 + 1 + 1 + 1 from rfl, Mod_shared_L107, if_neg (by decide), show (0 : Int) = ((0 : Nat) : Int) from rfl]
  rw [shared_a m b (by decide) _ h0 (by omega), show (((0 : Nat) : Int)) = 0 from rfl, Mod_shared_L107, if_neg (by decide), shared_a m b (by decide) _ (by omega) (by omega), show (((0 + 1 : Nat) : Int)) = 1 from rfl, Mod_shared_L107, if_neg (by decide), shared_a m b (by decide) _ (by omega) (by omega), show (((0 + 1 + 1 : Nat) : Int)) = 2 from rfl, Mod_shared_L107, if_pos (by decide)]
theorem shared_L (m : MS h) (b : MB h) : ∀ (n q fuel : Nat), (q : Int) + n = hI h 401 10 → n < fuel → Mod_shared_L6 fuel 401 (bi (anyB (fun q => rOn h q && rHas h q 0) q)) (bi (anyB (fun q => rOn h q && rHas h q 1) q)) (q : Int) h = some (shA h, h)
  | 0, q, fuel + 1, hq, _ => by
    obtain ⟨b1, b2, b3, -⟩ := id b
    have eq : nQ h = q := by unfold nQ; omega
    have z : ∀ s : Int, s = (if anyB (fun q => rOn h q && rHas h q 0) q then hI h 402 2 else 0) → Mod_shared_L88 401 (bi (anyB (fun q => rOn h q && rHas h q 1) q)) s h = some (shA h, h) := fun s hs => by
      have : 0 ≤ s ∧ s ≤ 12 := by rw [hs]; split <;> omega
      unfold Mod_shared_L88 shA sh0
      rw [ite_bi, r_1 m, a_402 m (by decide) (by decide), show (3 : Int).toNat = 3 from rfl, eq, ← hs, wr_id (z := s + 0) (by omega) (by omega), wr_id (z := s + hI h 402 3) (by omega) (by omega)]
      cases anyB (fun q => rOn h q && rHas h q 1) q
      · rw [if_neg (by decide), shared_b m b (by omega) (by omega)]; rfl
      · rw [if_pos rfl, shared_b m b (by omega) (by omega)]; rfl
    rw [Mod_shared_L6, g_m m, if_pos (by omega), ite_bi, r_1 m, a_402 m (by decide) (by decide), show (2 : Int).toNat = 2 from rfl]
    cases e : anyB (fun q => rOn h q && rHas h q 0) q
    · rw [if_neg (by decide)]; exact z 0 (by rw [e]; rfl)
    · rw [if_pos rfl]; exact z _ (by rw [e]; rfl)
  | n + 1, q, fuel + 1, hq, hf => by
    have b3 := b.2.2.1
    have ih := shared_L m b n (q + 1) fuel (by omega) (by omega)
    rw [anyB, anyB] at ih
    have f4 : ∀ v : Bool, (anyB (fun q => rOn h q && rHas h q 0) q || (rOn h q && rHas h q 0)) = v → Mod_shared_L40 (Mod_shared_L6 fuel) 401 (bi (anyB (fun q => rOn h q && rHas h q 1) q)) (q : Int) (bi v) h = some (shA h, h) := fun v hv => by
      unfold Mod_shared_L40
      rw [hv] at ih
      rw [ite_nbi, wr_id (z := (q : Int) + 1) (by omega) (by omega), show (q : Int) + 1 = ((q + 1 : Nat) : Int) by omega, c_m m, Mod_isOn_e m (by omega) (by omega), bnd_some, ite_bi, c_m m, Mod_hasKind_e m (by omega) (by omega), bnd_some, ite_bi]
      revert ih
      cases anyB (fun q => rOn h q && rHas h q 1) q <;> cases rOn h q <;> cases rHas h q 1 <;> exact fun ih => ih
    have z0 := f4 false
    have z1 := f4 true
    rw [bi_f] at z0
    rw [bi_t] at z1
    rw [Mod_shared_L6, g_m m, if_neg (by omega), ite_nbi, c_m m, Mod_isOn_e m (by omega) (by omega), bnd_some, ite_bi, c_m m, Mod_hasKind_e m (by omega) (by omega), bnd_some, ite_bi]
    cases e1 : anyB (fun q => rOn h q && rHas h q 0) q
    · cases e2 : rOn h q
      · exact z0 (by rw [e1, e2]; rfl)
      · cases e3 : rHas h q 0
        · exact z0 (by rw [e1, e2, e3]; rfl)
        · exact z1 (by rw [e1, e2, e3]; rfl)
    · exact z1 (by rw [e1]; rfl)
theorem Mod_shared_e (m : MS h) (b : MB h) : Mod_shared 401 h = some (shA h, h) := by
  have b3 := b.2.2.1
  exact shared_L m b (nQ h) 0 FU (by unfold nQ; omega) (by have := FU_big; unfold nQ; omega)
/-- residue -/
def rsdB (h : AH) (q k : Nat) : Bool := !rVd h q && (rHas h q (kp (rr (hI h)) k 0) && (decide (kp (rr (hI h)) k 15 = 0) && holdF (kp (rr (hI h)) k) (qp h q (kp (rr (hI h)) k 0))))
def rsdA (h : AH) (q k : Int) : Int := if askd h q && decide (0 ≤ k ∧ k < hI h 402 5) then (if rsdB h q.toNat k.toNat then kp (rr (hI h)) k.toNat 13 - (rowsF (qp h q.toNat (kp (rr (hI h)) k.toNat 0)) (num h) (nR h) (nS h) : Nat) else -2) else -1
theorem Mod_residue_e (m : MS h) (mb : MB h) (b : RB (rr (hI h))) (q k : Int) : ∃ H, Mod_residue 401 q k h = some (rsdA h q k, H) ∧ RF h H := by
  have b4 := mb.2.2.2.1
  have b3 := mb.2.2.1
  unfold Mod_residue rsdA
  rw [c_m m, Mod_isAsked_e m mb, bnd_some, ite_bi, c_m m, Mod_isKeptOne_e m mb, bnd_some, ite_nbi]
  cases e1 : askd h q
  · exact ⟨h, rfl, RF.refl h⟩
  · have eq := askd_q e1
    rw [if_pos rfl, Bool.true_and]
    by_cases e2 : 0 ≤ k ∧ k < hI h 402 5
    · obtain ⟨Q, rfl⟩ : ∃ Q : Nat, q = (Q : Int) := ⟨q.toNat, by omega⟩
      obtain ⟨K, rfl⟩ : ∃ K : Nat, k = (K : Int) := ⟨k.toNat, by omega⟩
      rw [if_pos (decide_eq_true e2), if_pos (decide_eq_true e2), r_9 m, wr_id (z := 16 * (K : Int)) (by omega) (by omega), a_407 m (by omega) (by omega), tN (16 * (K : Int)) (16 * K + 0) (by omega), ← kp_rr (hI h), show ((Q : Nat) : Int).toNat = Q from rfl, show ((K : Nat) : Int).toNat = K from rfl]
      have kb := b.k (k := K) (by rw [rr_s _ (by decide)]; omega)
      generalize hkd : kp (rr (hI h)) K 0 = kd at *
      refine ⟨sF h 416 (lp h Q kd), ?_, RF_sF h _ (by decide) (by decide)⟩
      have m1 : MS (sF h 416 (lp h Q kd)) := m
      have mb1 : MB (sF h 416 (lp h Q kd)) := mb
      have f7 : hI (sF h 416 (lp h Q kd)) 407 = hI h 407 := hI_sFn _ _ (by decide)
      have f16 : hI (sF h 416 (lp h Q kd)) 416 = lp h Q kd := hI_sFs _ _ _
      have k3 : kd = 0 ∨ kd = 1 ∨ kd = 2 := by rw [← hkd]; exact kb.1.1
      have z0 : Mod_residue_L89 401 (16 * (K : Int)) 0 (sF h 416 (lp h Q kd)) = some (-2, sF h 416 (lp h Q kd)) := by unfold Mod_residue_L89; rw [if_pos rfl]
      have z1 : rsdB h Q K = true → Mod_residue_L89 401 (16 * (K : Int)) 1 (sF h 416 (lp h Q kd)) = some (kp (rr (hI h)) K 13 - (rowsF (qp h Q kd) (num h) (nR h) (nS h) : Nat), sF h 416 (lp h Q kd)) := fun e => by
        have hh : rHas h Q kd = true := by
          unfold rsdB at e; rw [hkd] at e; simp only [Bool.and_eq_true] at e; exact e.2.1
        have ok := qp_ok mb (q := Q) (k := kd) eq.2 k3 hh
        have e13 : eq13 (pf (sF h 416 (lp h Q kd)) 416 0) (qp h Q kd) := fun j hj => by
          show hI (sF h 416 (lp h Q kd)) 416 (0 + j) = _
          rw [f16, Nat.zero_add]; exact lp_qp h Q kd j hj
        have nb := nRS mb
        have rb := rowsF_b (qp h Q kd) (num h) nb.1 nb.2
        have kb13 := kb.2.1
        have er := Mod_rowsNow_e (B := 0) m1 mb1 (m1.K 14 rfl).2 (by decide) (by decide) (okP_c (fun j hj => (e13 j hj).symm) ok)
        rw [rowsF_c e13] at er
        unfold Mod_residue_L89
        rw [if_neg (by decide), r_9 m1, wr_id (z := 16 * (K : Int) + 13) (by omega) (by omega), a_407 m1 (by omega) (by omega), r_26 m1, c_m m1, show (0 : Int) = ((0 : Nat) : Int) from rfl, er, bnd_some, f7, tN (16 * (K : Int) + 13) (16 * K + 13) (by omega), ← kp_rr (hI h)]
        have e9 : (rowsF (qp h Q kd) (num (sF h 416 (lp h Q kd))) (hI (sF h 416 (lp h Q kd)) 402 2).toNat (hI (sF h 416 (lp h Q kd)) 402 3).toNat) = rowsF (qp h Q kd) (num h) (nR h) (nS h) := rfl
        rw [e9, wr_id (by omega) (by omega)]
      rw [c_m m, Mod_laysPart_e m (by omega), bnd_some, c_m m1, Mod_isVoid_e m1 (by omega) (by omega), bnd_some, ite_nbi, c_m m1, Mod_hasKind_e m1 (by omega) (by omega), bnd_some, ite_bi, r_9 m1, wr_id (z := 16 * (K : Int) + 15) (by omega) (by omega), a_407 m1 (by omega) (by omega), f7, tN (16 * (K : Int) + 15) (16 * K + 15) (by omega), ← kp_rr (hI h), r_9 m1, r_26 m1, show 16 * (K : Int) = ((16 * K : Nat) : Int) by omega, show (0 : Int) = ((0 : Nat) : Int) from rfl, Mod_doesHold_e (m1.K 5 rfl).2 (m1.K 14 rfl).2 (by omega) (by omega) (by decide) (by decide), bnd_some]
      have eh : holdF (pf (sF h 416 (lp h Q kd)) 407 (16 * K)) (pf (sF h 416 (lp h Q kd)) 416 0) = holdF (kp (rr (hI h)) K) (qp h Q kd) := holdF_c (fun j hj => by show hI (sF h 416 (lp h Q kd)) 407 (16 * K + j) = _; rw [f7, kp_rr]) (fun j hj => by show hI (sF h 416 (lp h Q kd)) 416 (0 + j) = _; rw [f16, Nat.zero_add]; exact lp_qp h Q kd j hj)
      have ev : rVd (sF h 416 (lp h Q kd)) Q = rVd h Q := rfl
      have ehk : rHas (sF h 416 (lp h Q kd)) Q kd = rHas h Q kd := rfl
      rw [eh, ev, ehk, show (((0 : Nat) : Int)) = 0 from rfl, ite_bi, show ((16 * K : Nat) : Int) = 16 * (K : Int) by omega, z0]
      revert z1
      unfold rsdB
      rw [hkd]
      intro z1
      cases c1 : rVd h Q
      · rw [c1] at z1
        cases c2 : rHas h Q kd
        · rfl
        · rw [c2] at z1
          by_cases c3 : kp (rr (hI h)) K 15 = 0
          · rw [decide_eq_true c3] at z1 ⊢
            rw [if_neg (by decide), if_pos rfl, if_neg (by simpa using c3)]
            cases c4 : holdF (kp (rr (hI h)) K) (qp h Q kd)
            · rfl
            · rw [c4] at z1
              rw [if_pos rfl, z1 rfl]; rfl
          · rw [decide_eq_false c3, if_neg (by decide), if_pos rfl, if_pos c3]; rfl
      · rfl
    · rw [if_neg (by simpa using e2), if_neg (by simpa using e2)]
      exact ⟨h, rfl, RF.refl h⟩
theorem Mod_seed_e (m : MS h) (x : Int) : Mod_seed 401 x h = if 0 ≤ x then some (hI h 402 8, sI h 402 8 x) else some (-1, h) := by
  unfold Mod_seed
  rw [r_1 m, a_402 m (by decide) (by decide), r_1 m, w_402 m (by decide) (by decide), show (8 : Int).toNat = 8 from rfl]
theorem so_ite {c : Prop} [Decidable c] {a b : Int} {h : AH} : some ((if c then a else b), h) = if c then some (a, h) else some (b, h) := by split <;> rfl
def cntA (h : AH) (w : Int) : Int := if w = 0 then hI h 402 1 else if w = 1 then hI h 402 2 else if w = 2 then hI h 402 3 else if w = 3 then hI h 401 10 else if w = 4 then hI h 402 4 else if w = 5 then hI h 402 5 else if w = 6 then rsm (rr (hI h)) (hI h 402 5).toNat else if w = 7 then hI h 402 6 else if w = 8 then hI h 402 7 else if w = 9 then hI h 401 43 else if w = 10 then hI h 402 8 else if w = 11 then hI h 401 18 else -1
theorem Mod_count_e (m : MS h) (b : RB (rr (hI h))) (w : Int) : Mod_count 401 w h = some (cntA h w, h) := by
  have er := Mod_rowsOfAll_e (f := hI h) m b
  rw [WI_id] at er
  unfold Mod_count cntA
  rw [r_1 m, a_402 m (by decide) (by decide), r_1 m, a_402 m (by decide) (by decide), r_1 m, a_402 m (by decide) (by decide), g_m m, r_1 m, a_402 m (by decide) (by decide), r_1 m, a_402 m (by decide) (by decide), c_m m, er, bnd_some, r_1 m, a_402 m (by decide) (by decide), r_1 m, a_402 m (by decide) (by decide), g_m m, r_1 m, a_402 m (by decide) (by decide), g_m m]
  simp only [so_ite]
  rfl
end R23
