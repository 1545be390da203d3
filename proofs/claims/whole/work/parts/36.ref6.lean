/-! Level 2: what serves best, and what it costs -/
section R6
variable {h : AH}
theorem copiesInto_L {a b n1 n2 F T M : Nat} (ha : hK h a = (21, n1)) (hb : hK h b = (21, n2)) (hab : a ≠ b) (h1 : F + M ≤ n1) (h2 : T + M ≤ n2) (h3 : n1 < 100000) (h4 : n2 < 100000) : ∀ (n k fuel : Nat) (g : Nat → Int), k + n = M → n < fuel → Mod_copiesInto_L3 fuel a (F : Int) b (T : Int) (M : Int) (k : Int) (sF h b g) = some ((), sF h b (fun j => if T + k ≤ j ∧ j < T + M then hI h a (F + (j - T)) else g j))
  | 0, k, fuel + 1, g, hk, _ => by
    rw [Mod_copiesInto_L3, if_pos (by omega)]
    congr 3
    funext j
    rw [if_neg (by omega)]
  | n + 1, k, fuel + 1, g, hk, hf => by
    have ha' : hK (sF h b g) a = (21, n1) := ha
    have hb' : hK (sF h b g) b = (21, n2) := hb
    rw [Mod_copiesInto_L3, if_neg (by omega), wr_id (by omega) (by omega), aI_k ha' (by omega) (by omega), wr_id (by omega) (by omega), wI_k hb' (by omega) (by omega), wr_id (by omega) (by omega), show (k : Int) + 1 = ((k + 1 : Nat) : Int) by omega, tN ((T : Int) + k) (T + k) (by omega), tN ((F : Int) + k) (F + k) (by omega), hI_sFn h _ hab, sI_u, copiesInto_L ha hb hab h1 h2 h3 h4 n (k + 1) fuel _ (by omega) (by omega)]
    congr 3
    funext j
    unfold u1
    by_cases e : j = T + k
    · subst e
      rw [if_neg (by omega), if_pos rfl, if_pos (by omega)]
      congr 1; omega
    · by_cases e2 : T + k ≤ j ∧ j < T + M
      · rw [if_pos (by omega), if_pos e2]
      · rw [if_neg (by omega), if_neg e, if_neg e2]
theorem copiesInto_e {a b n1 n2 F T M : Nat} (ha : hK h a = (21, n1)) (hb : hK h b = (21, n2)) (hab : a ≠ b) (h1 : F + M ≤ n1) (h2 : T + M ≤ n2) (h3 : n1 < 100000) (h4 : n2 < 100000) : Mod_copiesInto a (F : Int) b (T : Int) (M : Int) h = some ((), sF h b (fun j => if T ≤ j ∧ j < T + M then hI h a (F + (j - T)) else hI h b j)) := by
  have := copiesInto_L ha hb hab h1 h2 h3 h4 M 0 FU (hI h b) (by omega) (by have := FU_big; omega)
  rw [sF_id] at this
  exact this
theorem Mod_takesNone_e (m : MS h) : Mod_takesNone 401 h = some ((), sI h 401 34 0) := by
  unfold Mod_takesNone; rw [p_m m]
/-- what is kept is taken -/
def tkK (h : AH) : AH := sI (sF h 421 (fun j => if j < 16 * (hI h 402 5).toNat then hI h 407 j else hI h 421 j)) 401 34 (hI h 402 5)
theorem Mod_takesKept_e (m : MS h) (b : MB h) : Mod_takesKept 401 h = some ((), tkK h) := by
  obtain ⟨b1, b2, b3, b4, b5⟩ := b
  unfold Mod_takesKept
  rw [r_9 m, r_33 m, r_1 m, a_402 m (by decide) (by decide), show (5 : Int).toNat = 5 from rfl, wr_id (by omega) (by omega), show hI h 402 5 * 16 = ((16 * (hI h 402 5).toNat : Nat) : Int) by omega, show (0 : Int) = ((0 : Nat) : Int) from rfl, copiesInto_e (m.K 5 rfl).2 (m.K 19 rfl).2 (by decide) (by omega) (by omega) (by decide) (by decide), bnd_some]
  have m' : ∀ f, MS (sF h 421 f) := fun _ => m
  rw [r_1 (m' _), a_402 (m' _) (by decide) (by decide), p_m (m' _)]
  unfold tkK
  congr 3
  congr 1
  funext j
  by_cases e : j < 16 * (hI h 402 5).toNat
  · rw [if_pos ⟨Nat.zero_le _, by omega⟩, if_pos e]; congr 1; omega
  · rw [if_neg (by omega), if_neg e]
/-- a candidate is taken -/
def tk1 (h : AH) (k : Nat) : AH := sI (sF h 421 (fun j => if 16 * (hI h 401 34).toNat ≤ j ∧ j < 16 * (hI h 401 34).toNat + 16 then hI h 419 (16 * k + (j - 16 * (hI h 401 34).toNat)) else hI h 421 j)) 401 34 (hI h 401 34 + 1)
theorem Mod_takesOne_e (m : MS h) {k : Nat} (hk : k < 300) (h0 : 0 ≤ hI h 401 34) (h6 : hI h 401 34 ≤ 6) : Mod_takesOne 401 (k : Int) h = some ((), tk1 h k) := by
  unfold Mod_takesOne
  rw [r_29 m, r_33 m, g_m m, wr_id (by omega) (by omega), wr_id (by omega) (by omega), show 16 * (k : Int) = ((16 * k : Nat) : Int) by omega, show 16 * hI h 401 34 = ((16 * (hI h 401 34).toNat : Nat) : Int) by omega, show (16 : Int) = ((16 : Nat) : Int) from rfl, copiesInto_e (m.K 17 rfl).2 (m.K 19 rfl).2 (by decide) (by omega) (by omega) (by decide) (by decide), bnd_some]
  have m' : ∀ f, MS (sF h 421 f) := fun _ => m
  rw [g_m (m' _), p_m (m' _), hI_sFn h _ (by decide), wr_id (by omega) (by omega)]
  rfl
/-- which of the first taken ones serves a part best -/
def bfs (T : Nat → Nat → Int) (π : Nat → Int) : Nat → Int
  | 0 => -1
  | k + 1 => if (decide (T k 15 = 0) && holdF (T k) π) && decide (bfs T π k = -1 ∨ T k 13 < T (bfs T π k).toNat 13) then (k : Int) else bfs T π k
theorem bfs_b (T : Nat → Nat → Int) (π : Nat → Int) : ∀ n : Nat, bfs T π n = -1 ∨ (0 ≤ bfs T π n ∧ bfs T π n < n)
  | 0 => Or.inl rfl
  | n + 1 => by
    have := bfs_b T π n
    rw [bfs]
    split
    · omega
    · omega
theorem bfs_c {T : Nat → Nat → Int} {π σ : Nat → Int} (e : eq13 π σ) : ∀ n : Nat, bfs T π n = bfs T σ n
  | 0 => rfl
  | n + 1 => by rw [bfs, bfs, bfs_c e n, holdF_c (fun _ _ => rfl) e]
/-- the taken ones -/
def tK (h : AH) (k t : Nat) : Int := hI h 421 (16 * k + t)
def tM (h : AH) : Nat := (hI h 401 34).toNat
def TM (h : AH) : Prop := 0 ≤ hI h 401 34 ∧ hI h 401 34 ≤ 7
theorem bestFor_L (m : MS h) (t : TM h) {π : Nat → Int} (hp : eq13 (hI h 416) π) : ∀ (n k fuel : Nat), (k : Int) + n = hI h 401 34 → n < fuel → Mod_bestFor_L11 fuel 401 (bfs (tK h) π k) (k : Int) h = some (bfs (tK h) π (tM h), h)
  | 0, k, fuel + 1, hk, _ => by
    rw [Mod_bestFor_L11, g_m m, if_pos (by omega), show tM h = k by unfold tM; omega]
  | n + 1, k, fuel + 1, hk, hf => by
    obtain ⟨t0, t7⟩ := t
    have bb := bfs_b (tK h) π k
    have ih := bestFor_L m ⟨t0, t7⟩ hp n (k + 1) fuel (by omega) (by omega)
    rw [Mod_bestFor_L11, g_m m, if_neg (by omega), r_33 m, wr_id (z := 16 * (k : Int)) (by omega) (by omega), wr_id (z := 16 * (k : Int) + 15) (by omega) (by omega), a_421 m (by omega) (by omega), r_33 m, r_26 m, show 16 * (k : Int) = ((16 * k : Nat) : Int) by omega, show (0 : Int) = ((0 : Nat) : Int) from rfl, Mod_doesHold_e (m.K 19 rfl).2 (m.K 14 rfl).2 (by omega) (by omega) (by decide) (by decide), bnd_some, tN (((16 * k : Nat) : Int) + 15) (16 * k + 15) (by omega)]
    have eh : holdF (pf h 421 (16 * k)) (pf h 416 0) = holdF (tK h k) π := holdF_c (fun _ _ => rfl) (fun j hj => by show hI h 416 (0 + j) = _; rw [Nat.zero_add]; exact hp j hj)
    rw [eh, show hI h 421 (16 * k + 15) = tK h k 15 from rfl]
    unfold Mod_bestFor_L61
    rw [wr_id (z := (k : Int) + 1) (by omega) (by omega), show (k : Int) + 1 = ((k + 1 : Nat) : Int) by omega]
    rw [bfs] at ih
    by_cases e15 : tK h k 15 = 0
    · rw [if_neg (by simpa using e15), show ((0 : Nat) : Int) = 0 from rfl, ite_bi]
      cases eH : holdF (tK h k) π
      · rw [if_neg (by decide), if_pos rfl]
        rw [eH, if_neg (by simp)] at ih
        exact ih
      · rw [if_pos rfl, if_neg (by decide)]
        by_cases e1 : bfs (tK h) π k = -1
        · rw [if_pos e1]
          rw [if_pos (by simp [e15, eH, e1])] at ih
          exact ih
        · rw [if_neg e1, r_33 m, wr_id (z := 16 * (k : Int)) (by omega) (by omega), wr_id (z := 16 * (k : Int) + 13) (by omega) (by omega), a_421 m (by omega) (by omega), r_33 m, wr_id (z := 16 * bfs (tK h) π k) (by omega) (by omega), wr_id (z := 16 * bfs (tK h) π k + 13) (by omega) (by omega), a_421 m (by omega) (by omega), tN (16 * (k : Int) + 13) (16 * k + 13) (by omega), tN (16 * bfs (tK h) π k + 13) (16 * (bfs (tK h) π k).toNat + 13) (by omega)]
          show (if tK h (bfs (tK h) π k).toNat 13 ≤ tK h k 13 then _ else _) = _
          by_cases e2 : tK h (bfs (tK h) π k).toNat 13 ≤ tK h k 13
          · rw [if_pos e2]
            rw [if_neg (by simp [e15, eH, e1]; omega)] at ih
            exact ih
          · rw [if_neg e2]
            rw [if_pos (by simp [e15, eH, e1]; omega)] at ih
            exact ih
    · rw [if_pos (by simpa using e15), if_pos (show ((0 : Nat) : Int) = 0 from rfl)]
      rw [if_neg (by simp [e15])] at ih
      exact ih
theorem Mod_bestFor_e (m : MS h) (t : TM h) {q : Nat} (hq : q < 8) (kind : Int) : ∃ p, Mod_bestFor 401 (q : Int) kind h = some (bfs (tK h) (qp h q kind) (tM h), sF h 416 p) := by
  unfold Mod_bestFor
  refine ⟨lp h q kind, ?_⟩
  rw [c_m m, Mod_laysPart_e m hq, bnd_some]
  have m' : MS (sF h 416 (lp h q kind)) := m
  have t' : TM (sF h 416 (lp h q kind)) := t
  obtain ⟨t0, t7⟩ := t
  exact bestFor_L m' t' (π := qp h q kind) (lp_qp h q kind) (tM h) 0 FU (by show ((0 : Nat) : Int) + ((hI h 401 34).toNat : Int) = hI h 401 34; omega) (by have := FU_big; show (hI h 401 34).toNat < _; omega)
end R6
