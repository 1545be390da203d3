/-! Level 2: shared and answer of both sides -/
def jC (g : AH) (jr js : Int) (q : Nat) : Bool := decide (hI g 408 q = 2) && (decide (hI g 409 q = jr) && decide (hI g 410 q = js))
/-- where the n-th is -/
def locL (L : List (Nat × Nat)) (n : Nat) : Int := match L[n]? with
  | none => -1
  | some p => 8 * (p.1 : Int) + p.2
section K14
variable {h g : AH} {own : Nat → Nat}
theorem with_C (c : CAS h own g) (m : MR g) (t : Int) : ∀ (n q fuel : Nat), (q : Int) + n = hI g 401 10 → n < fuel → Bat_queriesWith_L4 fuel 16 t (mkB (fun q => rOn g q && rHas g q t) q) (q : Int) h = some (mkB (fun q => rOn g q && rHas g q t) (nQ g), h)
  | 0, q, fuel + 1, hq, _ => by
    rw [Bat_queriesWith_L4, gI_k c.fx.1, c.2.2.1.1, if_pos (by omega), show nQ g = q by unfold nQ; omega]
  | n + 1, q, fuel + 1, hq, hf => by
    have b3 := m.2.1.2.2.1
    have ih := with_C c m t n (q + 1) fuel (by omega) (by omega)
    obtain ⟨q1, q2, q3, q4, q5, q6, q7⟩ := c.2.1.1.2 q (by omega)
    rw [mkB] at ih
    have o0 := mkB_or (fun q => rOn g q && rHas g q t) (n := q) (by omega)
    rw [Bat_queriesWith_L4, gI_k c.fx.1, c.2.2.1.1, if_neg (by omega), rc_k c.fx.1, c.live m (by omega), bnd_some, ite_bi, c.qr (by omega), rc_k q2, c.2.1.has m.2.1 (by omega) t, bnd_some, ite_bi, wr_id (by omega) (by omega), show (q : Int) + 1 = ((q + 1 : Nat) : Int) by omega]
    cases e1 : rOn g q
    · rw [e1, Bool.false_and, if_neg (by decide), o0] at ih
      rw [if_neg (by decide), ih]
    · have ev : rVd g q = false := by
        unfold rOn at e1; simp only [Bool.and_eq_true] at e1; simpa using e1.1
      rw [if_pos rfl, ev, Bool.not_false, Bool.true_and]
      rw [e1, Bool.true_and] at ih
      cases e2 : rHas g q t
      · rw [e2, if_neg (by decide), o0] at ih
        rw [if_neg (by decide), ih]
      · rw [e2, if_pos rfl] at ih
        rw [if_pos rfl, ih]
theorem joins_C (c : CAS h own g) (m : MR g) {q : Nat} (hq : (q : Int) < hI g 401 10) (jr js : Int) : Que_joins (329 + 9 * q) jr js h = some (bi (jC g jr js q), h) := by
  have b3 := m.2.1.2.2.1
  obtain ⟨q1, q2, q3, q4, q5, q6, q7⟩ := c.2.1.1.2 q (by omega)
  obtain ⟨d1, d2, d3⟩ := c.2.1.2 q hq
  have e0 : hI h (330 + 9 * q) (0 : Int).toNat = hI g 408 q := d1 0 (by decide)
  have e1 : hI h (330 + 9 * q) (1 : Int).toNat = hI g 409 q := d1 1 (by decide)
  have e2 : hI h (330 + 9 * q) (2 : Int).toNat = hI g 410 q := d1 2 (by decide)
  unfold Que_joins Que_source jC
  rw [rc_k q2, gR_k q2, q3, aI_k q5 (by decide) (by decide), e0, bnd_some, gR_k q2, q3, aI_k q5 (by decide) (by decide), e1, gR_k q2, q3, aI_k q5 (by decide) (by decide), e2]
  by_cases x : hI g 408 q = 2
  · rw [if_neg (by omega), decide_eq_true x, Bool.true_and]
    by_cases y : hI g 409 q = jr
    · rw [if_neg (by simpa using y), decide_eq_true y, Bool.true_and]
      by_cases z : hI g 410 q = js
      · rw [if_neg (by simpa using z), decide_eq_true z]; rfl
      · rw [if_pos z, decide_eq_false z]; rfl
    · rw [if_pos y, decide_eq_false y]; rfl
  · rw [if_pos x, decide_eq_false x]; rfl
theorem join_C (c : CAS h own g) (m : MR g) (jr js : Int) : ∀ (n q fuel : Nat), (q : Int) + n = hI g 401 10 → n < fuel → Bat_queriesJoining_L5 fuel 16 jr js (mkB (fun q => rOn g q && jC g jr js q) q) (q : Int) h = some (mkB (fun q => rOn g q && jC g jr js q) (nQ g), h)
  | 0, q, fuel + 1, hq, _ => by
    rw [Bat_queriesJoining_L5, gI_k c.fx.1, c.2.2.1.1, if_pos (by omega), show nQ g = q by unfold nQ; omega]
  | n + 1, q, fuel + 1, hq, hf => by
    have b3 := m.2.1.2.2.1
    have ih := join_C c m jr js n (q + 1) fuel (by omega) (by omega)
    obtain ⟨q1, q2, q3, q4, q5, q6, q7⟩ := c.2.1.1.2 q (by omega)
    rw [mkB] at ih
    have o0 := mkB_or (fun q => rOn g q && jC g jr js q) (n := q) (by omega)
    rw [Bat_queriesJoining_L5, gI_k c.fx.1, c.2.2.1.1, if_neg (by omega), rc_k c.fx.1, c.live m (by omega), bnd_some, ite_bi, c.qr (by omega), rc_k q2, joins_C c m (by omega), bnd_some, ite_bi, wr_id (by omega) (by omega), show (q : Int) + 1 = ((q + 1 : Nat) : Int) by omega]
    cases e1 : rOn g q
    · rw [e1, Bool.false_and, if_neg (by decide), o0] at ih
      rw [if_neg (by decide), ih]
    · rw [if_pos rfl]
      rw [e1, Bool.true_and] at ih
      cases e2 : jC g jr js q
      · rw [e2, if_neg (by decide), o0] at ih
        rw [if_neg (by decide), ih]
      · rw [e2, if_pos rfl] at ih
        rw [if_pos rfl, ih]
theorem marked_C (c : CAS h own g) (m : MR g) {t : Int} (ht : t = 0 ∨ t = 1) {jr : Int} (j0 : 0 ≤ jr) (js : Int) : Bat_markedRows 16 t (mkB (fun q => rOn g q && jC g jr js q) (nQ g)) h = some (((mkd g t jr js : Nat) : Int), h) := by
  have b3 := m.2.1.2.2.1
  have nb := rN_b m.2.1 t
  have s := c.st
  have q2 : hI h 43 3 = rr (hI g) 2 := s.2.1.2.2.1
  have q3 : hI h 45 3 = rr (hI g) 3 := s.2.1.2.2.2.1
  have sz : hI h (if t = 0 then 43 else 45) 3 = rN g t := by
    unfold rN
    rcases ht with rfl | rfl
    · rw [if_pos rfl, if_pos rfl, q2, rr_s _ (by decide)]
    · rw [if_neg (by decide), if_neg (by decide), q3, rr_s _ (by decide)]
  have nq : nQ g ≤ 8 := by unfold nQ; omega
  have L : ∀ (n r : Nat), (r : Int) + n = rN g t → ∀ (fuel : Nat) (acc : Int), n < fuel → 0 ≤ acc → acc ≤ r → Bat_markedRows_L5 fuel 16 t (mkB (fun q => rOn g q && jC g jr js q) (nQ g)) acc (r : Int) h = some (acc + (cntR (fun row => !decide (mkB (fun q => mkC g t row q && jnC g jr js q) (nQ g) = 0)) r n : Nat), h) := by
    intro n
    induction n with
    | zero =>
      intro r hr fuel acc hf h0 h1
      obtain ⟨fuel, rfl⟩ : ∃ j, fuel = j + 1 := ⟨fuel - 1, by omega⟩
      rw [Bat_markedRows_L5, c.way, s.tb ht, gI_k (s.k10 t), show (if t = 0 then 21 + 22 else 21 + 24) = (if t = 0 then 43 else 45) from rfl, sz, if_pos (by omega), cntR_0]; simp
    | succ n ih =>
      intro r hr fuel acc hf h0 h1
      obtain ⟨fuel, rfl⟩ : ∃ j, fuel = j + 1 := ⟨fuel - 1, by omega⟩
      have o : rowOk (rr (hI g)) t (r : Int) = true := by
        refine rowOk_i.mpr ⟨ht, by omega, ?_⟩
        unfold rN at hr
        rcases ht with rfl | rfl
        · rw [if_pos rfl] at hr ⊢; rw [rr_s _ (by decide)]; omega
        · rw [if_neg (by decide)] at hr ⊢; rw [rr_s _ (by decide)]; omega
      have eb : iAnd (mkB (mkC g t r) (nQ g)) (mkB (fun q => rOn g q && jC g jr js q) (nQ g)) = mkB (fun q => mkC g t r q && jnC g jr js q) (nQ g) := by
        rw [mkB_and nq]
        refine mkB_c (fun q hq => ?_)
        have qi := (m.2.2.1 q (by omega) (by unfold nQ at hq; omega)).1
        unfold mkC jC jnC
        rw [decide_eq_false (show ¬ jr = -1 by omega), Bool.false_or]
        by_cases x : hI g 408 q = 2
        · rw [decide_eq_true x, Bool.true_and]
          cases rOn g q
          · rfl
          · rw [Bool.true_and, Bool.true_and]
        · have y := (qi x).1
          rw [decide_eq_false x, Bool.false_and, Bool.and_false, Bool.and_false, decide_eq_false (show ¬ hI g 409 q = jr by omega), Bool.false_and, Bool.and_false]
      rw [Bat_markedRows_L5, c.way, s.tb ht, gI_k (s.k10 t), show (if t = 0 then 21 + 22 else 21 + 24) = (if t = 0 then 43 else 45) from rfl, sz, if_neg (by omega), rc_k c.fx.1, marksOf_C c m o, bnd_some, eb, wr_id (z := acc + 1) (by omega) (by omega), wr_id (z := (r : Int) + 1) (by omega) (by omega), show (r : Int) + 1 = ((r + 1 : Nat) : Int) by omega, ih (r + 1) (by omega) fuel acc (by omega) (by omega) (by omega), ih (r + 1) (by omega) fuel (acc + 1) (by omega) (by omega) (by omega), cntR_s]
      by_cases e : mkB (fun q => mkC g t r q && jnC g jr js q) (nQ g) = 0
      · rw [if_pos e, if_neg (by simp [e])]; congr 2; omega
      · rw [if_neg e, if_pos (by simp [e])]; congr 2; omega
  have := L (rN g t).toNat 0 (by omega) FU 0 (by have := FU_big; omega) (by omega) (by omega)
  rw [Int.zero_add] at this
  exact this
theorem shared_Ca (c : CAS h own g) (m : MR g) {a : Nat} (ha : a < 3) (K : Nat → Int → Int → AH → Option (Int × AH)) {s : Int} (h0 : 0 ≤ s) (h1 : s ≤ 10000) : Bat_shared_L54 K FU 16 s (a : Int) 3 h = K 16 (s + pdS g a 3 + pdS g a 4) ((a + 1 : Nat) : Int) h := by
  have b3 := m.2.1.2.2.1
  have b := m.2.1
  have p3 := pdS_b b a 3
  have p4 := pdS_b b a 4
  have st : ∀ (k : Int) (n : Nat) (s : Int), k = 3 ∨ k = 4 → 0 ≤ s → s ≤ 20000 → Bat_shared_L54 K (n + 1) 16 s (a : Int) k h = Bat_shared_L54 K n 16 (s + pdS g a k) (a : Int) (k + 1) h := fun k n s hk h0 h1 => by
    have p := pdS_b b a k
    have jq : Bat_queriesJoining 16 (a : Int) k h = some (mkB (fun q => rOn g q && jC g a k q) (nQ g), h) := join_C c m a k (nQ g) 0 FU (by unfold nQ; omega) (by have := FU_big; unfold nQ; omega)
    rw [Bat_shared_L54, if_neg (by omega), rc_k c.fx.1, jq, bnd_some, rc_k c.fx.1, marked_C c m (Or.inl rfl) (by omega), bnd_some, rc_k c.fx.1, marked_C c m (Or.inr rfl) (by omega), bnd_some, ← Int.natCast_mul]
    rw [show ((mkd g 0 a k * mkd g 1 a k : Nat) : Int) = pdS g a k from rfl, wr_id (z := pdS g a k) (by omega) (by omega), wr_id (z := s + pdS g a k) (by omega) (by omega), wr_id (z := k + 1) (by omega) (by omega)]
  rw [show FU = 999997 + 1 + 1 + 1 from rfl, st 3 _ s (Or.inl rfl) h0 (by omega), show (3 : Int) + 1 = 4 from rfl, st 4 _ _ (Or.inr rfl) (by omega) (by omega), Bat_shared_L54, if_pos (by decide), wr_id (by omega) (by omega), show (a : Int) + 1 = ((a + 1 : Nat) : Int) by omega]
theorem shared_Cb (c : CAS h own g) (m : MR g) {s : Int} (h0 : 0 ≤ s) (h1 : s ≤ 1000) : Bat_shared_L47 FU 16 s 0 h = some (s + pdS g 0 3 + pdS g 0 4 + pdS g 1 3 + pdS g 1 4 + pdS g 2 3 + pdS g 2 4, h) := by
  have b := m.2.1
  have a3 := pdS_b b 0 3
  have a4 := pdS_b b 0 4
  have c3 := pdS_b b 1 3
  have c4 := pdS_b b 1 4
  rw [show FU = 999996 + 1 + 1 + 1 + 1 from rfl, Bat_shared_L47, if_neg (by decide), show (0 : Int) = ((0 : Nat) : Int) from rfl]
  rw [shared_Ca c m (by decide) _ h0 (by omega), show (((0 : Nat) : Int)) = 0 from rfl, Bat_shared_L47, if_neg (by decide), shared_Ca c m (by decide) _ (by omega) (by omega), show (((0 + 1 : Nat) : Int)) = 1 from rfl, Bat_shared_L47, if_neg (by decide), shared_Ca c m (by decide) _ (by omega) (by omega), show (((0 + 1 + 1 : Nat) : Int)) = 2 from rfl, Bat_shared_L47, if_pos (by decide)]
theorem shared_ok : OKC (Bat_shared 16) (Mod_shared 401) := by
  refine OKC_look (A := fun g => shA g) (fun h own g c m => ?_) (fun h m => ⟨h, Mod_shared_e m.1 m.2.1, RF.refl h⟩)
  refine ⟨hI h, ?_, SC.refl _⟩
  have b3 := m.2.1.2.2.1
  have s := c.st
  have q2 : hI h 43 3 = hI g 402 2 := by rw [← rr_s (hI g) (show 2 < 8 by decide)]; exact s.2.1.2.2.1
  have q3 : hI h 45 3 = hI g 402 3 := by rw [← rr_s (hI g) (show 3 < 8 by decide)]; exact s.2.1.2.2.2.1
  have b1 := m.2.1.1
  have b2 := m.2.1.2.1
  have nq : nQ g ≤ 8 := by unfold nQ; omega
  have w : ∀ t : Int, Bat_queriesWith 16 t h = some (mkB (fun q => rOn g q && rHas g q t) (nQ g), h) := fun t => with_C c m t (nQ g) 0 FU (by unfold nQ; omega) (by have := FU_big; unfold nQ; omega)
  have z0 : ∀ {t : Int}, (mkB (fun q => rOn g q && rHas g q t) (nQ g) = 0) ↔ anyB (fun q => rOn g q && rHas g q t) (nQ g) = false := mkB_0 nq
  have last : ∀ (n : Nat) (x : Int), 0 ≤ x → x ≤ 100 → Bat_shared_L4 (n + 1) 16 x 2 h = some (x + pdS g 0 3 + pdS g 0 4 + pdS g 1 3 + pdS g 1 4 + pdS g 2 3 + pdS g 2 4, h) := fun n x x0 x1 => by
    rw [Bat_shared_L4, if_pos (by decide), shared_Cb c m x0 (by omega)]
  have two : ∀ (n : Nat) (x : Int), 0 ≤ x → x ≤ 12 → Bat_shared_L4 (n + 1 + 1) 16 x 1 h = some (x + (if anyB (fun q => rOn g q && rHas g q 1) (nQ g) then hI g 402 3 else 0) + pdS g 0 3 + pdS g 0 4 + pdS g 1 3 + pdS g 1 4 + pdS g 2 3 + pdS g 2 4, h) := fun n x x0 x1 => by
    rw [Bat_shared_L4, if_neg (by decide), rc_k c.fx.1, w, bnd_some, c.way, s.t1, gI_k s.TS.1, show (21 + 24 : Nat) = 45 from rfl, q3, show wr ((1 : Int) + 1) = 2 from rfl, wr_id (z := x + 0) (by omega) (by omega), wr_id (z := x + hI g 402 3) (by omega) (by omega), last n _ (by omega) (by omega), last n _ (by omega) (by omega)]
    by_cases e : mkB (fun q => rOn g q && rHas g q 1) (nQ g) = 0
    · rw [if_neg (by simpa using e), z0.mp e]; rfl
    · have : anyB (fun q => rOn g q && rHas g q 1) (nQ g) = true := by
        cases q : anyB (fun q => rOn g q && rHas g q 1) (nQ g)
        · exact absurd (z0.mpr q) e
        · rfl
      rw [if_pos e, this]; rfl
  have e0 : (if anyB (fun q => rOn g q && rHas g q 0) (nQ g) then hI g 402 2 else 0) = 0 ∨ (if anyB (fun q => rOn g q && rHas g q 0) (nQ g) then hI g 402 2 else 0) = hI g 402 2 := by
    split
    · exact Or.inr rfl
    · exact Or.inl rfl
  unfold Bat_shared shA sh0
  rw [show FU = 999997 + 1 + 1 + 1 from rfl, Bat_shared_L4, if_neg (by decide), rc_k c.fx.1, w, bnd_some, c.way, s.t0, gI_k s.TR.1, show (21 + 22 : Nat) = 43 from rfl, q2, show wr ((0 : Int) + 1) = 1 from rfl, wr_id (z := 0 + 0) (by decide) (by decide), wr_id (z := 0 + hI g 402 2) (by omega) (by omega), two _ _ (by omega) (by omega), two _ _ (by omega) (by omega), WI_id]
  by_cases e : mkB (fun q => rOn g q && rHas g q 0) (nQ g) = 0
  · rw [if_neg (by simpa using e), z0.mp e]; rfl
  · have : anyB (fun q => rOn g q && rHas g q 0) (nQ g) = true := by
      cases q : anyB (fun q => rOn g q && rHas g q 0) (nQ g)
      · exact absurd (z0.mpr q) e
      · rfl
    rw [if_pos e, this, Int.zero_add]; rfl
end K14
