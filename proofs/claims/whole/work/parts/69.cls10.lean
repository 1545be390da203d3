/-! Level 2: the class: tables of a state are written -/
section C11
variable {h : AH} {ρ σ : Nat → Int} {a : Nat} {f' : Nat → Nat → Int}
theorem ST.put (s : ST h a ρ) (i : IN (hI h) f' a (a + 26)) (hs : ∀ x, a + 3 ≤ x → x < a + 22 → f' x = hI h x) (e0 : f' a 2 = σ 0) (e1 : f' a 3 = σ 1) (e2 : f' (a + 22) 3 = σ 2) (e3 : f' (a + 24) 3 = σ 3) (e4 : f' a 4 = σ 4) (e5 : f' (a + 2) 1 = σ 5) (e6 : f' a 5 = σ 6) (e7 : f' a 6 = σ 7) (l5 : σ 5 ≤ ρ 5) (t1 : ∀ j, j < 2 → f' (a + 22) j = hI h (a + 22) j) (t2 : ∀ j, j < 2 → f' (a + 24) j = hI h (a + 24) j) (eR : ∀ j, j < 3 * (σ 2).toNat → f' (a + 23) j = σ (8 + j)) (eS : ∀ j, j < 2 * (σ 3).toNat → f' (a + 25) j = σ (44 + j)) (kk : ∀ j, 60 ≤ j → σ j = ρ j) (rb : RB σ) : ST (WI h f') a σ ∧ FR h (WI h f') a (a + 26) := by
  have b5 := s.2.2.n5
  refine ⟨⟨SB_to s.1 (fun _ _ _ => rfl) (fun _ _ _ => rfl) t1 t2, ⟨e0, e1, e2, e3, e4, e5, e6, e7, eR, eS, fun i hi t ht => ?_⟩, rb⟩, FR_IN i⟩
  have hi' : (i : Int) < ρ 5 := by omega
  obtain ⟨-, k1, k2⟩ := s.sh.it (i := i) (by omega)
  have x1 := s.kk hi' ht
  unfold kv at x1 ⊢
  unfold kp at x1 ⊢
  rw [kk _ (by omega), ← x1, show hR (WI h f') = hR h from rfl, hI_WI, hs _ (by omega) (by omega), hs _ (by omega) (by omega)]
/-- a field of the state is written -/
theorem ST.fld (s : ST h a ρ) {c k : Nat} (ck : (c = 2 ∧ k = 0) ∨ (c = 3 ∧ k = 1) ∨ (c = 4 ∧ k = 4) ∨ (c = 5 ∧ k = 6) ∨ (c = 6 ∧ k = 7)) {v : Int} (rb : RB (u1 ρ k v)) : ST (sI h a c v) a (u1 ρ k v) ∧ FR h (sI h a c v) a (a + 26) := by
  have b2 := s.2.2.2.2.1
  have b3 := s.2.2.2.2.2.1
  have n : ∀ x, x ≠ a → up2 (hI h) a c v x = hI h x := fun x hx => up2_ne hx
  obtain ⟨sb, ⟨e0, e1, e2, e3, e4, e5, e6, e7, eR, eS, eK⟩, b⟩ := id s
  have z : ∀ j, j ≠ k → u1 ρ k v j = ρ j := fun j hj => if_neg hj
  refine s.put (f' := up2 (hI h) a c v) (IN_u _ _ (by omega) (by omega)) (fun x h1 h2 => n x (by omega)) ?_ ?_ (by rw [n _ (by omega), z 2 (by omega)]; exact e2) (by rw [n _ (by omega), z 3 (by omega)]; exact e3) ?_ (by rw [n _ (by omega), z 5 (by omega)]; exact e5) ?_ ?_ (by rw [z 5 (by omega)]; omega) (fun j hj => by rw [n _ (by omega)]) (fun j hj => by rw [n _ (by omega)]) (fun j hj => ?_) (fun j hj => ?_) (fun j hj => z _ (by omega)) rb
  · rw [up2_e]; unfold u1; rw [e0]; by_cases q : c = 2
    · rw [if_pos ⟨rfl, by omega⟩, if_pos (by omega)]
    · rw [if_neg (by omega), if_neg (by omega)]
  · rw [up2_e]; unfold u1; rw [e1]; by_cases q : c = 3
    · rw [if_pos ⟨rfl, by omega⟩, if_pos (by omega)]
    · rw [if_neg (by omega), if_neg (by omega)]
  · rw [up2_e]; unfold u1; rw [e4]; by_cases q : c = 4
    · rw [if_pos ⟨rfl, by omega⟩, if_pos (by omega)]
    · rw [if_neg (by omega), if_neg (by omega)]
  · rw [up2_e]; unfold u1; rw [e6]; by_cases q : c = 5
    · rw [if_pos ⟨rfl, by omega⟩, if_pos (by omega)]
    · rw [if_neg (by omega), if_neg (by omega)]
  · rw [up2_e]; unfold u1; rw [e7]; by_cases q : c = 6
    · rw [if_pos ⟨rfl, by omega⟩, if_pos (by omega)]
    · rw [if_neg (by omega), if_neg (by omega)]
  · rw [z 2 (by omega)] at hj
    rw [n _ (by omega), z _ (by omega)]; exact eR j hj
  · rw [z 3 (by omega)] at hj
    rw [n _ (by omega), z _ (by omega)]; exact eS j hj
theorem Tab_write_e {T fc w len : Nat} (t : TA h T fc w len) (h1 : fc < 100) (h2 : w < 100) (h3 : len < 1000) {row col : Nat} (hr : (row : Int) < hI h T 3) (c0 : fc ≤ col) (c1 : col < fc + w) (hl : row * w + (col - fc) < len) (v : Int) : Tab_write T (row : Int) (col : Int) v h = some ((), sI h (T + 1) (row * w + (col - fc)) v) := by
  obtain ⟨t1, t2, t3, t4, t5⟩ := id t
  have e : (row : Int) * (w : Int) = ((row * w : Nat) : Int) := by rw [Int.natCast_mul]
  unfold Tab_write
  rw [rc_k t1, Tab_hasRow_e t, bnd_some, ite_bi, decide_eq_true (show 0 ≤ (row : Int) ∧ (row : Int) < hI h T 3 by omega), if_pos rfl, rc_k t1, Tab_hasCol_e t h1 h2, bnd_some, ite_bi, decide_eq_true (show (fc : Int) ≤ (col : Int) ∧ (col : Int) < (fc : Int) + w by omega), if_pos rfl, gR_k t1, t4, gI_k t1, t3, gI_k t1, t2, e, wr_id (z := ((row * w : Nat) : Int)) (by omega) (by omega), wr_id (z := ((row * w : Nat) : Int) + col) (by omega) (by omega), wr_id (z := ((row * w : Nat) : Int) + col - fc) (by omega) (by omega), wI_k t5 (by omega) (by omega), tN (((row * w : Nat) : Int) + col - fc) (row * w + (col - fc)) (by omega)]
theorem Tab_write_n {T fc w len : Nat} (t : TA h T fc w len) (h1 : fc < 100) (h2 : w < 100) {row : Nat} (hr : (row : Int) < hI h T 3) {col : Int} (c1 : (fc : Int) + w ≤ col) (v : Int) : Tab_write T (row : Int) col v h = some ((), h) := by
  unfold Tab_write
  rw [rc_k t.1, Tab_hasRow_e t, bnd_some, ite_bi, decide_eq_true (show 0 ≤ (row : Int) ∧ (row : Int) < hI h T 3 by omega), if_pos rfl, rc_k t.1, Tab_hasCol_e t h1 h2, bnd_some, ite_bi, decide_eq_false (show ¬ ((fc : Int) ≤ (col : Int) ∧ (col : Int) < (fc : Int) + w) by omega), if_neg (by decide)]
theorem ST.TR (s : ST h a ρ) : TA h (a + 22) 0 3 36 := s.1.2.2.2.2.2.2.1
theorem ST.TS (s : ST h a ρ) : TA h (a + 24) 3 2 16 := s.1.2.2.2.2.2.2.2.1
/-- a cell of the state is written -/
theorem ST.cR (s : ST h a ρ) {k : Nat} (hk : k < 36) {v : Int} (rb : RB (u1 ρ (8 + k) v)) : ST (sI h (a + 23) k v) a (u1 ρ (8 + k) v) ∧ FR h (sI h (a + 23) k v) a (a + 26) := by
  have b2 := s.2.2.2.2.1
  have b3 := s.2.2.2.2.2.1
  have n : ∀ x, x ≠ a + 23 → up2 (hI h) (a + 23) k v x = hI h x := fun x hx => up2_ne hx
  obtain ⟨sb, ⟨e0, e1, e2, e3, e4, e5, e6, e7, eR, eS, eK⟩, b⟩ := id s
  have z : ∀ j, j ≠ 8 + k → u1 ρ (8 + k) v j = ρ j := fun j hj => if_neg hj
  refine s.put (f' := up2 (hI h) (a + 23) k v) (IN_u _ _ (by omega) (by omega)) (fun x h1 h2 => n x (by omega)) (by rw [n _ (by omega), z 0 (by omega)]; exact e0) (by rw [n _ (by omega), z 1 (by omega)]; exact e1) (by rw [n _ (by omega), z 2 (by omega)]; exact e2) (by rw [n _ (by omega), z 3 (by omega)]; exact e3) (by rw [n _ (by omega), z 4 (by omega)]; exact e4) (by rw [n _ (by omega), z 5 (by omega)]; exact e5) (by rw [n _ (by omega), z 6 (by omega)]; exact e6) (by rw [n _ (by omega), z 7 (by omega)]; exact e7) (by rw [z 5 (by omega)]; omega) (fun j hj => by rw [n _ (by omega)]) (fun j hj => by rw [n _ (by omega)]) (fun j hj => ?_) (fun j hj => ?_) (fun j hj => z _ (by omega)) rb
  · rw [z 2 (by omega)] at hj
    rw [up2_e]; unfold u1
    by_cases q : j = k
    · rw [if_pos ⟨rfl, q⟩, if_pos (by omega)]
    · rw [if_neg (by omega), if_neg (by omega)]; exact eR j hj
  · rw [z 3 (by omega)] at hj
    rw [n _ (by omega), z _ (by omega)]; exact eS j hj
theorem ST.cS (s : ST h a ρ) {k : Nat} (hk : k < 16) {v : Int} (rb : RB (u1 ρ (44 + k) v)) : ST (sI h (a + 25) k v) a (u1 ρ (44 + k) v) ∧ FR h (sI h (a + 25) k v) a (a + 26) := by
  have b2 := s.2.2.2.2.1
  have b3 := s.2.2.2.2.2.1
  have n : ∀ x, x ≠ a + 25 → up2 (hI h) (a + 25) k v x = hI h x := fun x hx => up2_ne hx
  obtain ⟨sb, ⟨e0, e1, e2, e3, e4, e5, e6, e7, eR, eS, eK⟩, b⟩ := id s
  have z : ∀ j, j ≠ 44 + k → u1 ρ (44 + k) v j = ρ j := fun j hj => if_neg hj
  refine s.put (f' := up2 (hI h) (a + 25) k v) (IN_u _ _ (by omega) (by omega)) (fun x h1 h2 => n x (by omega)) (by rw [n _ (by omega), z 0 (by omega)]; exact e0) (by rw [n _ (by omega), z 1 (by omega)]; exact e1) (by rw [n _ (by omega), z 2 (by omega)]; exact e2) (by rw [n _ (by omega), z 3 (by omega)]; exact e3) (by rw [n _ (by omega), z 4 (by omega)]; exact e4) (by rw [n _ (by omega), z 5 (by omega)]; exact e5) (by rw [n _ (by omega), z 6 (by omega)]; exact e6) (by rw [n _ (by omega), z 7 (by omega)]; exact e7) (by rw [z 5 (by omega)]; omega) (fun j hj => by rw [n _ (by omega)]) (fun j hj => by rw [n _ (by omega)]) (fun j hj => ?_) (fun j hj => ?_) (fun j hj => z _ (by omega)) rb
  · rw [z 2 (by omega)] at hj
    rw [n _ (by omega), z _ (by omega)]; exact eR j hj
  · rw [z 3 (by omega)] at hj
    rw [up2_e]; unfold u1
    by_cases q : j = k
    · rw [if_pos ⟨rfl, q⟩, if_pos (by omega)]
    · rw [if_neg (by omega), if_neg (by omega)]; exact eS j hj
/-- a cell, as change writes it -/
theorem ST.write (s : ST h a ρ) {t row col : Int} (ht : t = 0 ∨ t = 1) (hr0 : 0 ≤ row) (hr : row < ρ (if t = 0 then 2 else 3)) (hc : if t = 0 then 0 ≤ col ∧ col < 3 else 3 ≤ col ∧ col < 5) {v : Int} (v0 : 0 ≤ v) (v9 : v ≤ 9) : ∃ H, Tab_write (if t = 0 then a + 22 else a + 24) row col v h = some ((), H) ∧ FR h H a (a + 26) ∧ ST H a (u1 ρ (cix t row col) v) := by
  have b2 := s.2.2.2.2.1
  have b3 := s.2.2.2.2.2.1
  have e2 := s.2.1.2.2.1
  have e3 := s.2.1.2.2.2.1
  obtain ⟨r, rfl⟩ : ∃ r : Nat, row = (r : Int) := ⟨row.toNat, by omega⟩
  rcases ht with rfl | rfl
  · rw [if_pos rfl] at hr hc ⊢
    obtain ⟨c, rfl⟩ : ∃ c : Nat, col = (c : Int) := ⟨col.toNat, by omega⟩
    have x := s.cR (k := r * 3 + (c - 0)) (by omega) (RB_cell s.2.2 (by omega) (by omega) v0 v9)
    have ec : cix 0 (r : Int) (c : Int) = 8 + (r * 3 + (c - 0)) := by unfold cix; rw [if_pos rfl]; omega
    rw [ec]
    exact ⟨_, Tab_write_e s.TR (by decide) (by decide) (by decide) (by rw [e2]; exact hr) (by omega) (by omega) (by omega) v, x.2, x.1⟩
  · rw [if_neg (by decide)] at hr hc ⊢
    obtain ⟨c, rfl⟩ : ∃ c : Nat, col = (c : Int) := ⟨col.toNat, by omega⟩
    have x := s.cS (k := r * 2 + (c - 3)) (by omega) (RB_cell s.2.2 (by omega) (by omega) v0 v9)
    have ec : cix 1 (r : Int) (c : Int) = 44 + (r * 2 + (c - 3)) := by unfold cix; rw [if_neg (by decide)]; omega
    rw [ec]
    exact ⟨_, Tab_write_e s.TS (by decide) (by decide) (by decide) (by rw [e3]; exact hr) (by omega) (by omega) (by omega) v, x.2, x.1⟩
theorem ST.tb (s : ST h a ρ) {t : Int} (ht : t = 0 ∨ t = 1) {β : Type} {k : Nat → Option β} : (gR h 9 a 0 fun r => aR h 34 r t k) = k (if t = 0 then a + 22 else a + 24) := by
  rcases ht with rfl | rfl
  · rw [s.t0, if_pos rfl]
  · rw [s.t1, if_neg (by decide)]
theorem ST.k10 (s : ST h a ρ) (t : Int) : hK h (if t = 0 then a + 22 else a + 24) = (10, 0) := by
  split
  · exact s.TR.1
  · exact s.TS.1
/-- change -/
theorem ST.replace (s : ST h a ρ) {t row col : Int} (ht : t = 0 ∨ t = 1) (hr0 : 0 ≤ row) (hr : row < ρ (if t = 0 then 2 else 3)) (hc : if t = 0 then 0 ≤ col ∧ col < 3 else 3 ≤ col ∧ col < 5) {v : Int} (v0 : 0 ≤ v) (v9 : v ≤ 9) : ∃ H, Sta_replace a t row col v h = some ((), H) ∧ FR h H a (a + 26) ∧ ST H a (chgRow ρ t row col v) := by
  have b2 := s.2.2.2.2.1
  have b3 := s.2.2.2.2.2.1
  obtain ⟨H1, x1, x2, x3⟩ := s.spoil ht hr0 hr
  have sp : ∀ j, j < 60 → spo ρ t row j = ρ j := fun j hj => if_neg (by omega)
  obtain ⟨H2, y1, y2, y3⟩ := x3.write ht hr0 (by rw [sp _ (by split <;> omega)]; exact hr) hc v0 v9
  have cx : 8 ≤ cix t row col := by unfold cix; rcases ht with rfl | rfl <;> simp at hc ⊢ <;> omega
  have hi : (if t = 0 then 2 else 3) < 8 := by split <;> omega
  obtain ⟨H3, z1, z2, z3⟩ := y3.spoil ht hr0 (by unfold u1; rw [if_neg (by omega), sp _ (by omega)]; exact hr)
  refine ⟨H3, ?_, (x2.trans y2).trans z2, z3⟩
  have k0 := s.1
  have k1 := x3.1
  have k2 := y3.1
  unfold Sta_replace
  rw [gR_k k0.1, k0.2.2.1, s.tb ht, rc_k s.sh.1, x1, bnd_some, x3.tb ht, rc_k (x3.k10 t), y1, bnd_some, gR_k k2.1, k2.2.2.1, y3.tb ht, rc_k y3.sh.1, z1, bnd_some]
theorem TA_sI {T fc w len x k : Nat} (t : TA h T fc w len) (hx : x ≠ T ∨ 2 ≤ k) (v : Int) : TA (sI h x k v) T fc w len := by
  obtain ⟨t1, t2, t3, t4, t5⟩ := t
  refine ⟨t1, ?_, ?_, t4, t5⟩
  · rw [hI_sI, up2_e, if_neg (by omega)]; exact t2
  · rw [hI_sI, up2_e, if_neg (by omega)]; exact t3
theorem Tab_isFull_e {T fc w len : Nat} (t : TA h T fc w len) (hw : w < 100) (hl : len < 1000) {n : Nat} (hn : hI h T 3 = n) (h100 : n < 100) : Tab_isFull T h = some (bi (decide (len < (n + 1) * w)), h) := by
  obtain ⟨t1, t2, t3, t4, t5⟩ := id t
  have e : ((n : Int) + 1) * (w : Int) = (((n + 1) * w : Nat) : Int) := by rw [Int.natCast_mul]; rfl
  have l : (n + 1) * w ≤ 100 * 100 := Nat.mul_le_mul (by omega) (by omega)
  unfold Tab_isFull
  rw [gI_k t1, hn, gI_k t1, t3, gR_k t1, t4, aN_k t5, wr_id (z := (n : Int) + 1) (by omega) (by omega), e]
  generalize (n + 1) * w = P at *
  rw [wr_id (by omega) (by omega)]
  by_cases c : (P : Int) ≤ len
  · rw [if_pos c, bi_n (by omega)]
  · rw [if_neg c, bi_d (by omega)]
theorem Tab_append_e {T fc w len : Nat} (t : TA h T fc w len) (h1 : fc < 100) (h2 : w < 100) (hw : 2 ≤ w) (hw3 : w ≤ 3) (hl : len < 1000) {n : Nat} (hn : hI h T 3 = n) (h100 : n < 100) (hf : (n + 1) * w ≤ len) (v1 v2 v3 : Int) : Tab_append T v1 v2 v3 h = some ((), if w = 3 then sI (sI (sI (sI h T 3 (n + 1 : Nat)) (T + 1) (n * w + 0) v1) (T + 1) (n * w + 1) v2) (T + 1) (n * w + 2) v3 else sI (sI (sI h T 3 (n + 1 : Nat)) (T + 1) (n * w + 0) v1) (T + 1) (n * w + 1) v2) := by
  obtain ⟨t1, t2, t3, t4, t5⟩ := id t
  have ef : (n + 1) * w = n * w + w := Nat.succ_mul n w
  have q1 : TA (sI h T 3 (n + 1 : Nat)) T fc w len := TA_sI t (Or.inr (by decide)) _
  have q2 : TA (sI (sI h T 3 (n + 1 : Nat)) (T + 1) (n * w + 0) v1) T fc w len := TA_sI q1 (Or.inl (by omega)) _
  have q3 : TA (sI (sI (sI h T 3 (n + 1 : Nat)) (T + 1) (n * w + 0) v1) (T + 1) (n * w + 1) v2) T fc w len := TA_sI q2 (Or.inl (by omega)) _
  have z1 : hI (sI h T 3 (n + 1 : Nat)) T 3 = (n + 1 : Nat) := hI_sIs _ _ _ _
  have z2 : hI (sI (sI h T 3 (n + 1 : Nat)) (T + 1) (n * w + 0) v1) T 3 = (n + 1 : Nat) := by rw [hI_sIn _ _ (by omega)]; exact z1
  have z3 : hI (sI (sI (sI h T 3 (n + 1 : Nat)) (T + 1) (n * w + 0) v1) (T + 1) (n * w + 1) v2) T 3 = (n + 1 : Nat) := by rw [hI_sIn _ _ (by omega)]; exact z2
  have w1 := Tab_write_e q1 h1 h2 hl (row := n) (col := fc) (by rw [z1]; omega) (by omega) (by omega) (by omega) v1
  have w2 := Tab_write_e q2 h1 h2 hl (row := n) (col := fc + 1) (by rw [z2]; omega) (by omega) (by omega) (by omega) v2
  rw [show n * w + (fc - fc) = n * w + 0 by omega] at w1
  rw [show n * w + (fc + 1 - fc) = n * w + 1 by omega] at w2
  unfold Tab_append
  rw [rc_k t1, Tab_isFull_e t h2 hl hn h100, bnd_some, ite_bi, decide_eq_false (by omega), if_neg (by decide), gI_k t1, hn, pI_k t1, wr_id (z := (n : Int) + 1) (by omega) (by omega), show (n : Int) + 1 = ((n + 1 : Nat) : Int) by omega, gI_k q1.1, z1, gI_k q1.1, q1.2.1, rc_k q1.1, wr_id (z := ((n + 1 : Nat) : Int) - 1) (by omega) (by omega), show ((n + 1 : Nat) : Int) - 1 = (n : Int) by omega, w1, bnd_some, gI_k q2.1, z2, gI_k q2.1, q2.2.1, rc_k q2.1, wr_id (z := ((n + 1 : Nat) : Int) - 1) (by omega) (by omega), show ((n + 1 : Nat) : Int) - 1 = (n : Int) by omega, wr_id (z := (fc : Int) + 1) (by omega) (by omega), show (fc : Int) + 1 = ((fc + 1 : Nat) : Int) by omega, w2, bnd_some, gI_k q3.1, z3, gI_k q3.1, q3.2.1, rc_k q3.1, wr_id (z := ((n + 1 : Nat) : Int) - 1) (by omega) (by omega), show ((n + 1 : Nat) : Int) - 1 = (n : Int) by omega, wr_id (z := (fc : Int) + 2) (by omega) (by omega)]
  by_cases e3 : w = 3
  · have w3 := Tab_write_e q3 h1 h2 hl (row := n) (col := fc + 2) (by rw [z3]; omega) (by omega) (by omega) (by omega) v3
    rw [show n * w + (fc + 2 - fc) = n * w + 2 by omega] at w3
    rw [if_pos e3, show (fc : Int) + 2 = ((fc + 2 : Nat) : Int) by omega, w3, bnd_some]
  · rw [if_neg e3, Tab_write_n q3 h1 h2 (by rw [z3]; omega) (by omega), bnd_some]
theorem RB_apR (b : RB ρ) (h12 : ρ 2 < 12) {x y z : Int} (hx : 0 ≤ x ∧ x ≤ 9) (hy : 0 ≤ y ∧ y ≤ 9) (hz : 0 ≤ z ∧ z ≤ 9) : RB (u1 (u1 (u1 (u1 ρ 2 (ρ 2 + 1)) (8 + (3 * (ρ 2).toNat + 0)) x) (8 + (3 * (ρ 2).toNat + 1)) y) (8 + (3 * (ρ 2).toNat + 2)) z) := by
  obtain ⟨b0, b1, b2, b3, b4, b5, b6, b7, b8⟩ := b
  generalize hσ : u1 (u1 (u1 (u1 ρ 2 (ρ 2 + 1)) (8 + (3 * (ρ 2).toNat + 0)) x) (8 + (3 * (ρ 2).toNat + 1)) y) (8 + (3 * (ρ 2).toNat + 2)) z = σ
  have zz : ∀ j, j ≠ 2 → ¬ (8 + 3 * (ρ 2).toNat ≤ j ∧ j < 8 + 3 * (ρ 2).toNat + 3) → σ j = ρ j := fun j h1 h2 => by
    rw [← hσ]; unfold u1; rw [if_neg (by omega), if_neg (by omega), if_neg (by omega), if_neg (by omega)]
  have z2 : σ 2 = ρ 2 + 1 := by rw [← hσ]; unfold u1; rw [if_neg (by omega), if_neg (by omega), if_neg (by omega), if_pos rfl]
  unfold RB
  rw [zz 0 (by omega) (by omega), zz 1 (by omega) (by omega), z2, zz 3 (by omega) (by omega), zz 4 (by omega) (by omega), zz 5 (by omega) (by omega)]
  refine ⟨b0, b1, by omega, b3, b4, b5, fun j hj => ?_, fun j hj => by rw [zz _ (by omega) (by omega)]; exact b7 j hj, fun k hk => ?_⟩
  · by_cases c : (j : Int) < 3 * ρ 2
    · rw [zz _ (by omega) (by omega)]; exact b6 j c
    · rw [← hσ]; unfold u1
      have : j = 3 * (ρ 2).toNat ∨ j = 3 * (ρ 2).toNat + 1 ∨ j = 3 * (ρ 2).toNat + 2 := by omega
      rcases this with e | e | e
      · rw [if_neg (by omega), if_neg (by omega), if_pos (by omega)]; exact hx
      · rw [if_neg (by omega), if_pos (by omega)]; exact hy
      · rw [if_pos (by omega)]; exact hz
  · have zk : ∀ u, kp σ k u = kp ρ k u := fun u => zz _ (by omega) (by omega)
    rw [zk 13, zk 15]
    exact ⟨okP_3 (zk 0).symm (zk 1).symm (zk 2).symm (b8 k hk).1, (b8 k hk).2⟩
theorem RB_apS (b : RB ρ) (h12 : ρ 3 < 8) {x y : Int} (hx : 0 ≤ x ∧ x ≤ 9) (hy : 0 ≤ y ∧ y ≤ 9) : RB (u1 (u1 (u1 ρ 3 (ρ 3 + 1)) (44 + (2 * (ρ 3).toNat + 3 - 3)) x) (44 + (2 * (ρ 3).toNat + 4 - 3)) y) := by
  obtain ⟨b0, b1, b2, b3, b4, b5, b6, b7, b8⟩ := b
  generalize hσ : u1 (u1 (u1 ρ 3 (ρ 3 + 1)) (44 + (2 * (ρ 3).toNat + 3 - 3)) x) (44 + (2 * (ρ 3).toNat + 4 - 3)) y = σ
  have zz : ∀ j, j ≠ 3 → ¬ (44 + 2 * (ρ 3).toNat ≤ j ∧ j < 44 + 2 * (ρ 3).toNat + 2) → σ j = ρ j := fun j h1 h2 => by
    rw [← hσ]; unfold u1; rw [if_neg (by omega), if_neg (by omega), if_neg (by omega)]
  have z3 : σ 3 = ρ 3 + 1 := by rw [← hσ]; unfold u1; rw [if_neg (by omega), if_neg (by omega), if_pos rfl]
  unfold RB
  rw [zz 0 (by omega) (by omega), zz 1 (by omega) (by omega), z3, zz 2 (by omega) (by omega), zz 4 (by omega) (by omega), zz 5 (by omega) (by omega)]
  refine ⟨b0, b1, b2, by omega, b4, b5, fun j hj => by rw [zz _ (by omega) (by omega)]; exact b6 j hj, fun j hj => ?_, fun k hk => ?_⟩
  · by_cases c : (j : Int) < 2 * ρ 3
    · rw [zz _ (by omega) (by omega)]; exact b7 j c
    · rw [← hσ]; unfold u1
      have : j = 2 * (ρ 3).toNat ∨ j = 2 * (ρ 3).toNat + 1 := by omega
      rcases this with e | e
      · rw [if_neg (by omega), if_pos (by omega)]; exact hx
      · rw [if_pos (by omega)]; exact hy
  · have zk : ∀ u, kp σ k u = kp ρ k u := fun u => zz _ (by omega) (by omega)
    rw [zk 13, zk 15]
    exact ⟨okP_3 (zk 0).symm (zk 1).symm (zk 2).symm (b8 k hk).1, (b8 k hk).2⟩
theorem ST.appR (s : ST h a ρ) (h12 : ρ 2 < 12) {x y z : Int} (hx : 0 ≤ x ∧ x ≤ 9) (hy : 0 ≤ y ∧ y ≤ 9) (hz : 0 ≤ z ∧ z ≤ 9) : ∃ H, Tab_append (a + 22) x y z h = some ((), H) ∧ FR h H a (a + 26) ∧ ST H a (u1 (u1 (u1 (u1 ρ 2 (ρ 2 + 1)) (8 + (3 * (ρ 2).toNat + 0)) x) (8 + (3 * (ρ 2).toNat + 1)) y) (8 + (3 * (ρ 2).toNat + 2)) z) := by
  have b2 := s.2.2.2.2.1
  have b3 := s.2.2.2.2.2.1
  have rb := RB_apR s.2.2 h12 hx hy hz
  obtain ⟨sb, ⟨e0, e1, e2, e3, e4, e5, e6, e7, eR, eS, eK⟩, b⟩ := id s
  obtain ⟨n, hn⟩ : ∃ n : Nat, ρ 2 = (n : Int) := ⟨(ρ 2).toNat, by omega⟩
  have ap := Tab_append_e s.TR (by decide) (by decide) (by decide) (by decide) (by decide) (n := n) (by rw [e2, hn]) (by omega) (by omega) x y z
  rw [if_pos rfl] at ap
  rw [show (ρ 2).toNat = n by omega] at rb eR ⊢
  generalize hσ : u1 (u1 (u1 (u1 ρ 2 (ρ 2 + 1)) (8 + (3 * n + 0)) x) (8 + (3 * n + 1)) y) (8 + (3 * n + 2)) z = σ at *
  have zz : ∀ j, j ≠ 2 → ¬ (8 + 3 * n ≤ j ∧ j < 8 + 3 * n + 3) → σ j = ρ j := fun j h1 h2 => by
    rw [← hσ]; unfold u1; rw [if_neg (by omega), if_neg (by omega), if_neg (by omega), if_neg (by omega)]
  have z2 : σ 2 = ρ 2 + 1 := by rw [← hσ]; unfold u1; rw [if_neg (by omega), if_neg (by omega), if_neg (by omega), if_pos rfl]
  generalize hF : up2 (up2 (up2 (up2 (hI h) (a + 22) 3 (n + 1 : Nat)) (a + 22 + 1) (n * 3 + 0) x) (a + 22 + 1) (n * 3 + 1) y) (a + 22 + 1) (n * 3 + 2) z = F
  have nn : ∀ k, k ≠ a + 22 → k ≠ a + 23 → F k = hI h k := fun k h1 h2 => by rw [← hF, up2_ne (by omega), up2_ne (by omega), up2_ne (by omega), up2_ne (by omega)]
  have n22 : ∀ j, F (a + 22) j = if j = 3 then ((n + 1 : Nat) : Int) else hI h (a + 22) j := fun j => by
    rw [← hF, up2_ne (by omega), up2_ne (by omega), up2_ne (by omega), up2_e]
    by_cases q : j = 3
    · rw [if_pos ⟨rfl, q⟩, if_pos q]
    · rw [if_neg (by omega), if_neg q]
  have w := s.put (f' := F) (σ := σ) (fun k hk => nn k (by omega) (by omega)) (fun k h1 h2 => nn k (by omega) (by omega)) (by rw [nn _ (by omega) (by omega), zz 0 (by omega) (by omega)]; exact e0) (by rw [nn _ (by omega) (by omega), zz 1 (by omega) (by omega)]; exact e1) (by rw [n22, if_pos rfl, z2]; omega) (by rw [nn _ (by omega) (by omega), zz 3 (by omega) (by omega)]; exact e3) (by rw [nn _ (by omega) (by omega), zz 4 (by omega) (by omega)]; exact e4) (by rw [nn _ (by omega) (by omega), zz 5 (by omega) (by omega)]; exact e5) (by rw [nn _ (by omega) (by omega), zz 6 (by omega) (by omega)]; exact e6) (by rw [nn _ (by omega) (by omega), zz 7 (by omega) (by omega)]; exact e7) (by rw [zz 5 (by omega) (by omega)]; omega) (fun j hj => by rw [n22, if_neg (by omega)]) (fun j hj => by rw [nn _ (by omega) (by omega)]) (fun j hj => ?_) (fun j hj => by rw [zz 3 (by omega) (by omega)] at hj; rw [nn _ (by omega) (by omega), zz _ (by omega) (by omega)]; exact eS j hj) (fun j hj => zz _ (by omega) (by omega)) rb
  · subst hF
    exact ⟨_, ap, w.2, w.1⟩
  · rw [z2] at hj
    rw [← hF, up2_e, up2_e, up2_e, up2_ne (by omega)]
    by_cases c : j < 3 * n
    · rw [if_neg (by omega), if_neg (by omega), if_neg (by omega), zz _ (by omega) (by omega)]; exact eR j c
    · rw [← hσ]; unfold u1
      have : j = 3 * n ∨ j = 3 * n + 1 ∨ j = 3 * n + 2 := by omega
      rcases this with e | e | e
      · rw [if_neg (by omega), if_neg (by omega), if_pos (by omega), if_neg (by omega), if_neg (by omega), if_pos (by omega)]
      · rw [if_neg (by omega), if_pos (by omega), if_neg (by omega), if_pos (by omega)]
      · rw [if_pos (by omega), if_pos (by omega)]
theorem ST.appS (s : ST h a ρ) (h12 : ρ 3 < 8) {x y : Int} (z : Int) (hx : 0 ≤ x ∧ x ≤ 9) (hy : 0 ≤ y ∧ y ≤ 9) : ∃ H, Tab_append (a + 24) x y z h = some ((), H) ∧ FR h H a (a + 26) ∧ ST H a (u1 (u1 (u1 ρ 3 (ρ 3 + 1)) (44 + (2 * (ρ 3).toNat + 3 - 3)) x) (44 + (2 * (ρ 3).toNat + 4 - 3)) y) := by
  have b2 := s.2.2.2.2.1
  have b3 := s.2.2.2.2.2.1
  have rb := RB_apS s.2.2 h12 hx hy
  obtain ⟨sb, ⟨e0, e1, e2, e3, e4, e5, e6, e7, eR, eS, eK⟩, b⟩ := id s
  obtain ⟨n, hn⟩ : ∃ n : Nat, ρ 3 = (n : Int) := ⟨(ρ 3).toNat, by omega⟩
  have ap := Tab_append_e s.TS (by decide) (by decide) (by decide) (by decide) (by decide) (n := n) (by rw [e3, hn]) (by omega) (by omega) x y z
  rw [if_neg (by decide)] at ap
  rw [show (ρ 3).toNat = n by omega] at rb eS ⊢
  generalize hσ : u1 (u1 (u1 ρ 3 (ρ 3 + 1)) (44 + (2 * n + 3 - 3)) x) (44 + (2 * n + 4 - 3)) y = σ at *
  have zz : ∀ j, j ≠ 3 → ¬ (44 + 2 * n ≤ j ∧ j < 44 + 2 * n + 2) → σ j = ρ j := fun j h1 h2 => by
    rw [← hσ]; unfold u1; rw [if_neg (by omega), if_neg (by omega), if_neg (by omega)]
  have z3 : σ 3 = ρ 3 + 1 := by rw [← hσ]; unfold u1; rw [if_neg (by omega), if_neg (by omega), if_pos rfl]
  generalize hF : up2 (up2 (up2 (hI h) (a + 24) 3 (n + 1 : Nat)) (a + 24 + 1) (n * 2 + 0) x) (a + 24 + 1) (n * 2 + 1) y = F
  have nn : ∀ k, k ≠ a + 24 → k ≠ a + 25 → F k = hI h k := fun k h1 h2 => by rw [← hF, up2_ne (by omega), up2_ne (by omega), up2_ne (by omega)]
  have n24 : ∀ j, F (a + 24) j = if j = 3 then ((n + 1 : Nat) : Int) else hI h (a + 24) j := fun j => by
    rw [← hF, up2_ne (by omega), up2_ne (by omega), up2_e]
    by_cases q : j = 3
    · rw [if_pos ⟨rfl, q⟩, if_pos q]
    · rw [if_neg (by omega), if_neg q]
  have w := s.put (f' := F) (σ := σ) (fun k hk => nn k (by omega) (by omega)) (fun k h1 h2 => nn k (by omega) (by omega)) (by rw [nn _ (by omega) (by omega), zz 0 (by omega) (by omega)]; exact e0) (by rw [nn _ (by omega) (by omega), zz 1 (by omega) (by omega)]; exact e1) (by rw [nn _ (by omega) (by omega), zz 2 (by omega) (by omega)]; exact e2) (by rw [n24, if_pos rfl, z3]; omega) (by rw [nn _ (by omega) (by omega), zz 4 (by omega) (by omega)]; exact e4) (by rw [nn _ (by omega) (by omega), zz 5 (by omega) (by omega)]; exact e5) (by rw [nn _ (by omega) (by omega), zz 6 (by omega) (by omega)]; exact e6) (by rw [nn _ (by omega) (by omega), zz 7 (by omega) (by omega)]; exact e7) (by rw [zz 5 (by omega) (by omega)]; omega) (fun j hj => by rw [nn _ (by omega) (by omega)]) (fun j hj => by rw [n24, if_neg (by omega)]) (fun j hj => by rw [zz 2 (by omega) (by omega)] at hj; rw [nn _ (by omega) (by omega), zz _ (by omega) (by omega)]; exact eR j hj) (fun j hj => ?_) (fun j hj => zz _ (by omega) (by omega)) rb
  · subst hF
    exact ⟨_, ap, w.2, w.1⟩
  · rw [z3] at hj
    rw [← hF, up2_e, up2_e, up2_ne (by omega)]
    by_cases c : j < 2 * n
    · rw [if_neg (by omega), if_neg (by omega), zz _ (by omega) (by omega)]; exact eS j c
    · rw [← hσ]; unfold u1
      have : j = 2 * n ∨ j = 2 * n + 1 := by omega
      rcases this with e | e
      · rw [if_neg (by omega), if_pos (by omega), if_neg (by omega), if_pos (by omega)]
      · rw [if_pos (by omega), if_pos (by omega)]
end C11
