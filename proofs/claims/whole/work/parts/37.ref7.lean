/-! Level 2: what queries cost by what is taken -/
def svr (T : Nat → Nat → Int) (π : Nat → Int) (n : Nat) (mk : Int) : Int := if bfs T π n = -1 then -1 else if mk ≤ T (bfs T π n).toNat 13 then -1 else bfs T π n
def cst (T : Nat → Nat → Int) (π : Nat → Int) (n : Nat) (mk : Int) : Int := if svr T π n mk = -1 then mk else T (svr T π n mk).toNat 13
/-- what a query asks: parts by kind, source, whether it is void; what its parts cost to make, its pairs -/
def apt (T : Nat → Nat → Int) (n : Nat) (P : Int → Nat → Int) (mk : Int → Int) (pr : Int) : Int := cst T (P 0) n (mk 0) + cst T (P 1) n (mk 1) + pr
def jby (T : Nat → Nat → Int) (n : Nat) (P : Int → Nat → Int) (mk : Int → Int) (pr : Int) : Int := if bfs T (P 2) n = -1 then -1 else if apt T n P mk pr < T (bfs T (P 2) n).toNat 13 then -1 else bfs T (P 2) n
def cNow (T : Nat → Nat → Int) (n : Nat) (P : Int → Nat → Int) (vd : Bool) (src : Int) (mk : Int → Int) (pr : Int) : Int :=
  if vd then 0 else if 2 ≤ src then (if jby T n P mk pr = -1 then apt T n P mk pr else T (jby T n P mk pr).toNat 13) else cst T (P src) n (mk src)
def sby (T : Nat → Nat → Int) (n : Nat) (P : Int → Nat → Int) (vd : Bool) (src : Int) (mk : Int → Int) (pr : Int) (k : Int) : Int :=
  if vd then -1 else if decide (src = 2) || decide (src = k) then (if k = 2 then (if src = 2 then jby T n P mk pr else -1) else if src = 2 ∧ jby T n P mk pr ≠ -1 then -1 else svr T (P k) n (mk k)) else -1
def bsum (on : Nat → Bool) (c : Nat → Int) : Nat → Int
  | 0 => 0
  | q + 1 => bsum on c q + if on q then c q else 0
def TB (T : Nat → Nat → Int) (n : Nat) : Prop := ∀ k, k < n → 0 ≤ T k 13 ∧ T k 13 ≤ 1000
theorem svr_b (T : Nat → Nat → Int) (π : Nat → Int) (n : Nat) (mk : Int) : svr T π n mk = -1 ∨ (0 ≤ svr T π n mk ∧ svr T π n mk < n) := by
  have := bfs_b T π n
  unfold svr
  split
  · exact Or.inl rfl
  · split
    · exact Or.inl rfl
    · omega
theorem cst_b {T : Nat → Nat → Int} {π : Nat → Int} {n : Nat} {mk : Int} (tb : TB T n) (h0 : 0 ≤ mk) (h1 : mk ≤ 1000) : 0 ≤ cst T π n mk ∧ cst T π n mk ≤ 1000 := by
  have := svr_b T π n mk
  unfold cst
  split
  · exact ⟨h0, h1⟩
  · exact tb _ (by omega)
theorem jby_b (T : Nat → Nat → Int) (n : Nat) (P : Int → Nat → Int) (mk : Int → Int) (pr : Int) : jby T n P mk pr = -1 ∨ (0 ≤ jby T n P mk pr ∧ jby T n P mk pr < n) := by
  have := bfs_b T (P 2) n
  unfold jby
  split
  · exact Or.inl rfl
  · split
    · exact Or.inl rfl
    · omega
section R7
variable {h : AH}
def mkL (h : AH) (q : Nat) (k : Int) : Int := hI h 418 (3 * q + k.toNat)
def prL (h : AH) (q : Nat) : Int := hI h 417 (3 * q) * hI h 417 (3 * q + 1)
/-- bounds of what is laid and taken -/
def LB (h : AH) : Prop := TM h ∧ TB (tK h) (tM h) ∧ ∀ q : Nat, (q : Int) < hI h 401 10 → ∀ k, k < 3 → (0 ≤ hI h 417 (3 * q + k) ∧ hI h 417 (3 * q + k) ≤ 100) ∧ (0 ≤ hI h 418 (3 * q + k) ∧ hI h 418 (3 * q + k) ≤ 1000)
theorem pr_b (l : LB h) {q : Nat} (hq : (q : Int) < hI h 401 10) : 0 ≤ prL h q ∧ prL h q ≤ 10000 := by
  obtain ⟨-, -, l3⟩ := l
  have x0 := (l3 q hq 0 (by decide)).1
  have x1 := (l3 q hq 1 (by decide)).1
  rw [Nat.add_zero] at x0
  unfold prL
  refine ⟨Int.mul_nonneg x0.1 x1.1, ?_⟩
  exact Int.le_trans (Int.mul_le_mul x0.2 x1.2 x1.1 (by decide)) (by decide)
theorem Mod_serverOf_e (m : MS h) (t : TM h) {q k : Nat} (hq : q < 8) (hk : k < 3) : ∃ p, Mod_serverOf 401 (q : Int) (k : Int) h = some (svr (tK h) (qp h q k) (tM h) (mkL h q k), sF h 416 p) := by
  obtain ⟨p, e⟩ := Mod_bestFor_e m t hq (k : Int)
  have bb := bfs_b (tK h) (qp h q k) (tM h)
  have tm : (tM h : Int) ≤ 7 := by obtain ⟨t0, t7⟩ := t; unfold tM; omega
  have m' : MS (sF h 416 p) := m
  refine ⟨p, ?_⟩
  unfold Mod_serverOf svr
  rw [c_m m, e, bnd_some]
  by_cases e1 : bfs (tK h) (qp h q k) (tM h) = -1
  · rw [if_pos e1, if_pos e1]
  · rw [if_neg e1, if_neg e1, r_33 m', wr_id (z := 16 * bfs (tK h) (qp h q k) (tM h)) (by omega) (by omega), wr_id (by omega) (by omega), a_421 m' (by omega) (by omega), r_28 m', wr_id (z := 3 * (q : Int)) (by omega) (by omega), wr_id (by omega) (by omega), a_418 m' (by omega) (by omega), tN (16 * bfs (tK h) (qp h q k) (tM h) + 13) (16 * (bfs (tK h) (qp h q k) (tM h)).toNat + 13) (by omega), tN (3 * (q : Int) + k) (3 * q + k) (by omega), hI_sFn h _ (by decide), hI_sFn h _ (by decide)]
    show (if mkL h q k ≤ tK h (bfs (tK h) (qp h q k) (tM h)).toNat 13 then _ else _) = _
    split <;> rfl
theorem Mod_costOf_e (m : MS h) (t : TM h) {q k : Nat} (hq : q < 8) (hk : k < 3) : ∃ p, Mod_costOf 401 (q : Int) (k : Int) h = some (cst (tK h) (qp h q k) (tM h) (mkL h q k), sF h 416 p) := by
  obtain ⟨p, e⟩ := Mod_serverOf_e m t hq hk
  have bb := svr_b (tK h) (qp h q k) (tM h) (mkL h q k)
  have tm : (tM h : Int) ≤ 7 := by obtain ⟨t0, t7⟩ := t; unfold tM; omega
  have m' : MS (sF h 416 p) := m
  refine ⟨p, ?_⟩
  unfold Mod_costOf cst
  rw [c_m m, e, bnd_some]
  by_cases e1 : svr (tK h) (qp h q k) (tM h) (mkL h q k) = -1
  · rw [if_neg (by simpa using e1), if_pos e1, r_28 m', wr_id (z := 3 * (q : Int)) (by omega) (by omega), wr_id (by omega) (by omega), a_418 m' (by omega) (by omega), tN (3 * (q : Int) + k) (3 * q + k) (by omega)]
    rfl
  · rw [if_pos e1, if_neg e1, r_33 m', wr_id (z := 16 * svr (tK h) (qp h q k) (tM h) (mkL h q k)) (by omega) (by omega), wr_id (by omega) (by omega), a_421 m' (by omega) (by omega), tN (16 * svr (tK h) (qp h q k) (tM h) (mkL h q k) + 13) (16 * (svr (tK h) (qp h q k) (tM h) (mkL h q k)).toNat + 13) (by omega)]
    rfl
theorem Mod_apart_e (m : MS h) (l : LB h) {q : Nat} (hq : (q : Int) < hI h 401 10) (hq8 : q < 8) : ∃ p, Mod_apart 401 (q : Int) h = some (apt (tK h) (tM h) (qp h q) (mkL h q) (prL h q), sF h 416 p) := by
  have l' := l
  obtain ⟨t, tb, l3⟩ := l
  have pb := pr_b l' hq
  obtain ⟨p, e⟩ := Mod_costOf_e m t hq8 (k := 0) (by decide)
  have m1 : MS (sF h 416 p) := m
  obtain ⟨p2, e2⟩ := Mod_costOf_e m1 (show TM (sF h 416 p) from t) hq8 (k := 1) (by decide)
  have m2 : MS (sF (sF h 416 p) 416 p2) := m
  refine ⟨p2, ?_⟩
  have c0 := cst_b (π := qp h q 0) tb (l3 q hq 0 (by decide)).2.1 (l3 q hq 0 (by decide)).2.2
  have c1 := cst_b (π := qp h q 1) tb (l3 q hq 1 (by decide)).2.1 (l3 q hq 1 (by decide)).2.2
  unfold Mod_apart
  rw [c_m m, show (0 : Int) = ((0 : Nat) : Int) from rfl, e, bnd_some, c_m m1, show (1 : Int) = ((1 : Nat) : Int) from rfl, e2, bnd_some, r_27 m2, wr_id (z := 3 * (q : Int)) (by omega) (by omega), a_417 m2 (by omega) (by omega), r_27 m2, wr_id (by omega) (by omega), a_417 m2 (by omega) (by omega), tN (3 * (q : Int)) (3 * q) (by omega), tN (3 * (q : Int) + ((1 : Nat) : Int)) (3 * q + 1) (by omega), sF_sF, hI_sFn h _ (by decide)]
  show some (wr (wr (cst (tK h) (qp h q 0) (tM h) (hI h 418 (3 * q + 0)) + cst (tK h) (qp h q 1) (tM h) (hI h 418 (3 * q + 1))) + wr (prL h q)), _) = some (cst (tK h) (qp h q 0) (tM h) (hI h 418 (3 * q + 0)) + cst (tK h) (qp h q 1) (tM h) (hI h 418 (3 * q + 1)) + prL h q, _)
  rw [wr_id (z := prL h q) (by omega) (by omega), wr_id (z := cst (tK h) (qp h q 0) (tM h) (hI h 418 (3 * q + 0)) + cst (tK h) (qp h q 1) (tM h) (hI h 418 (3 * q + 1))) (by omega) (by omega), wr_id (by omega) (by omega)]
theorem apt_b (l : LB h) {q : Nat} (hq : (q : Int) < hI h 401 10) : 0 ≤ apt (tK h) (tM h) (qp h q) (mkL h q) (prL h q) ∧ apt (tK h) (tM h) (qp h q) (mkL h q) (prL h q) ≤ 12000 := by
  have pb := pr_b l hq
  obtain ⟨t, tb, l3⟩ := l
  have c0 : 0 ≤ cst (tK h) (qp h q 0) (tM h) (mkL h q 0) ∧ _ := cst_b (π := qp h q 0) tb (l3 q hq 0 (by decide)).2.1 (l3 q hq 0 (by decide)).2.2
  have c1 : 0 ≤ cst (tK h) (qp h q 1) (tM h) (mkL h q 1) ∧ _ := cst_b (π := qp h q 1) tb (l3 q hq 1 (by decide)).2.1 (l3 q hq 1 (by decide)).2.2
  unfold apt
  omega
theorem Mod_joinedBy_e (m : MS h) (l : LB h) {q : Nat} (hq : (q : Int) < hI h 401 10) (hq8 : q < 8) : ∃ p, Mod_joinedBy 401 (q : Int) h = some (jby (tK h) (tM h) (qp h q) (mkL h q) (prL h q), sF h 416 p) := by
  have l' := l
  obtain ⟨t, tb, l3⟩ := l
  obtain ⟨p, e⟩ := Mod_bestFor_e m t hq8 2
  have bb := bfs_b (tK h) (qp h q 2) (tM h)
  have tm : (tM h : Int) ≤ 7 := by obtain ⟨t0, t7⟩ := t; unfold tM; omega
  have m1 : MS (sF h 416 p) := m
  unfold Mod_joinedBy jby
  rw [c_m m, e, bnd_some]
  by_cases e1 : bfs (tK h) (qp h q 2) (tM h) = -1
  · rw [if_pos e1, if_pos e1]; exact ⟨p, rfl⟩
  · obtain ⟨p2, e2⟩ := Mod_apart_e m1 (show LB (sF h 416 p) from l') hq hq8
    refine ⟨p2, ?_⟩
    rw [if_neg e1, if_neg e1, r_33 m1, wr_id (z := 16 * bfs (tK h) (qp h q 2) (tM h)) (by omega) (by omega), wr_id (by omega) (by omega), a_421 m1 (by omega) (by omega), c_m m1, e2, bnd_some, tN (16 * bfs (tK h) (qp h q 2) (tM h) + 13) (16 * (bfs (tK h) (qp h q 2) (tM h)).toNat + 13) (by omega), hI_sFn h _ (by decide), sF_sF]
    show (if apt (tK h) (tM h) (qp h q) (mkL h q) (prL h q) < tK h (bfs (tK h) (qp h q 2) (tM h)).toNat 13 then _ else _) = _
    split <;> rfl
theorem Mod_costNow_e (m : MS h) (b : MB h) (l : LB h) {q : Nat} (hq : (q : Int) < hI h 401 10) : ∃ p, Mod_costNow 401 (q : Int) h = some (cNow (tK h) (tM h) (qp h q) (rVd h q) (hI h 408 q) (mkL h q) (prL h q), sF h 416 p) := by
  have l' := l
  have b' := b
  obtain ⟨b1, b2, b3, b4, b5⟩ := b
  have hq8 : q < 8 := by omega
  obtain ⟨s1, -⟩ := b5 q hq8 hq
  obtain ⟨t, tb, l3⟩ := l
  have tm : (tM h : Int) ≤ 7 := by obtain ⟨t0, t7⟩ := t; unfold tM; omega
  unfold Mod_costNow cNow
  rw [c_m m, Mod_isVoid_e m (by omega) (by omega), bnd_some, ite_bi]
  cases rVd h q
  · rw [if_neg (by decide), if_neg (by decide), r_11 m, a_408 m (by omega) (by omega), tN (q : Int) q rfl]
    by_cases e2 : 2 ≤ hI h 408 q
    · rw [if_pos e2, if_pos e2]
      obtain ⟨p, e⟩ := Mod_joinedBy_e m l' hq hq8
      have bb := jby_b (tK h) (tM h) (qp h q) (mkL h q) (prL h q)
      have m1 : MS (sF h 416 p) := m
      rw [c_m m, e, bnd_some]
      by_cases e1 : jby (tK h) (tM h) (qp h q) (mkL h q) (prL h q) = -1
      · obtain ⟨p2, e2⟩ := Mod_apart_e m1 (show LB (sF h 416 p) from l') hq hq8
        rw [if_neg (by simpa using e1), if_pos e1, c_m m1, e2, bnd_some, sF_sF]
        exact ⟨p2, rfl⟩
      · refine ⟨p, ?_⟩
        rw [if_pos e1, if_neg e1, r_33 m1, wr_id (z := 16 * jby (tK h) (tM h) (qp h q) (mkL h q) (prL h q)) (by omega) (by omega), wr_id (by omega) (by omega), a_421 m1 (by omega) (by omega), tN (16 * jby (tK h) (tM h) (qp h q) (mkL h q) (prL h q) + 13) (16 * (jby (tK h) (tM h) (qp h q) (mkL h q) (prL h q)).toNat + 13) (by omega)]
        rfl
    · rw [if_neg e2, if_neg e2, r_11 m, a_408 m (by omega) (by omega), tN (q : Int) q rfl, c_m m]
      have hs : hI h 408 q = (((hI h 408 q).toNat : Nat) : Int) := by omega
      obtain ⟨p, e⟩ := Mod_costOf_e m t hq8 (k := (hI h 408 q).toNat) (by omega)
      refine ⟨p, ?_⟩
      rw [← hs] at e
      rw [e, bnd_some]
  · exact ⟨hI h 416, by rw [sF_id]; rfl⟩
theorem cNow_b (l : LB h) (b : MB h) {q : Nat} (hq : (q : Int) < hI h 401 10) : 0 ≤ cNow (tK h) (tM h) (qp h q) (rVd h q) (hI h 408 q) (mkL h q) (prL h q) ∧ cNow (tK h) (tM h) (qp h q) (rVd h q) (hI h 408 q) (mkL h q) (prL h q) ≤ 12000 := by
  have l' := l
  obtain ⟨b1, b2, b3, b4, b5⟩ := b
  obtain ⟨s1, -⟩ := b5 q (by omega) hq
  obtain ⟨t, tb, l3⟩ := l
  unfold cNow
  split
  · omega
  · split
    · have bb := jby_b (tK h) (tM h) (qp h q) (mkL h q) (prL h q)
      split
      · exact apt_b l' hq
      · have := tb (jby (tK h) (tM h) (qp h q) (mkL h q) (prL h q)).toNat (by omega)
        omega
    · have x := (l3 q hq (hI h 408 q).toNat (by omega)).2
      have := cst_b (π := qp h q (hI h 408 q)) (mk := mkL h q (hI h 408 q)) tb x.1 x.2
      omega
/-- what all queries cost by what is taken -/
def btS (h : AH) : Int := bsum (fun q => rOn h q) (fun q => cNow (tK h) (tM h) (qp h q) (rVd h q) (hI h 408 q) (mkL h q) (prL h q)) (hI h 401 10).toNat
theorem bsum_b {on : Nat → Bool} {c : Nat → Int} : ∀ {n : Nat}, (∀ q, q < n → 0 ≤ c q ∧ c q ≤ 12000) → 0 ≤ bsum on c n ∧ bsum on c n ≤ 12000 * n
  | 0, _ => by simp [bsum]
  | n + 1, e => by
    have := bsum_b (on := on) (n := n) (fun q hq => e q (by omega))
    have := e n (by omega)
    rw [bsum]
    split <;> omega
theorem batchNow_L (m : MS h) (b : MB h) (l : LB h) : ∀ (n q fuel : Nat) (p : Nat → Int), (q : Int) + n = hI h 401 10 → n < fuel → ∃ p', Mod_batchNow_L4 fuel 401 (bsum (fun q => rOn h q) (fun q => cNow (tK h) (tM h) (qp h q) (rVd h q) (hI h 408 q) (mkL h q) (prL h q)) q) (q : Int) (sF h 416 p) = some (btS h, sF h 416 p')
  | 0, q, fuel + 1, p, hq, _ => by
    have m1 : MS (sF h 416 p) := m
    refine ⟨p, ?_⟩
    rw [Mod_batchNow_L4, g_m m1, if_pos (by show hI h 401 10 ≤ _; omega)]
    unfold btS
    rw [show (hI h 401 10).toNat = q by omega]
  | n + 1, q, fuel + 1, p, hq, hf => by
    have m1 : MS (sF h 416 p) := m
    have q8 : q < 8 := by obtain ⟨-, -, b3, -⟩ := b; omega
    have sb := bsum_b (on := fun q => rOn h q) (c := fun q => cNow (tK h) (tM h) (qp h q) (rVd h q) (hI h 408 q) (mkL h q) (prL h q)) (n := q) (fun i hi => cNow_b l b (by omega))
    have cb := cNow_b l b (q := q) (by omega)
    have ih := fun p => batchNow_L m b l n (q + 1) fuel p (by omega) (by omega)
    rw [bsum] at ih
    generalize bsum (fun q => rOn h q) (fun q => cNow (tK h) (tM h) (qp h q) (rVd h q) (hI h 408 q) (mkL h q) (prL h q)) q = S at sb ih ⊢
    rw [Mod_batchNow_L4, g_m m1, if_neg (by show ¬ hI h 401 10 ≤ _; omega), c_m m1, Mod_isOn_e m1 (by omega) (by omega), bnd_some, ite_bi, wr_id (z := (q : Int) + 1) (by omega) (by omega), show (q : Int) + 1 = ((q + 1 : Nat) : Int) by omega]
    have eo : rOn (sF h 416 p) q = rOn h q := rfl
    rw [eo]
    cases eq : rOn h q
    · rw [if_neg (by decide), wr_id (by omega) (by omega)]
      obtain ⟨p', e⟩ := ih p
      rw [eq, if_neg (by decide)] at e
      exact ⟨p', e⟩
    · obtain ⟨p2, e2⟩ := Mod_costNow_e m1 (show MB (sF h 416 p) from b) (show LB (sF h 416 p) from l) (q := q) (by show (q : Int) < hI h 401 10; omega)
      rw [if_pos rfl, c_m m1, e2, bnd_some, sF_sF]
      obtain ⟨p', e⟩ := ih p2
      rw [eq, if_pos rfl] at e
      refine ⟨p', ?_⟩
      rw [← e]
      congr 1
      have e9 : wr (S + cNow (tK h) (tM h) (qp h q) (rVd h q) (hI h 408 q) (mkL h q) (prL h q)) = S + cNow (tK h) (tM h) (qp h q) (rVd h q) (hI h 408 q) (mkL h q) (prL h q) := wr_id (by omega) (by omega)
      exact e9
theorem Mod_batchNow_e (m : MS h) (b : MB h) (l : LB h) : ∃ p, Mod_batchNow 401 h = some (btS h, sF h 416 p) := by
  have b3 := b.2.2.1
  have := batchNow_L m b l (hI h 401 10).toNat 0 FU (hI h 416) (by omega) (by have := FU_big; omega)
  rw [sF_id] at this
  exact this
theorem btS_b (l : LB h) (b : MB h) : 0 ≤ btS h ∧ btS h ≤ 96000 := by
  have b3 := b.2.2.1
  have := bsum_b (on := fun q => rOn h q) (c := fun q => cNow (tK h) (tM h) (qp h q) (rVd h q) (hI h 408 q) (mkL h q) (prL h q)) (n := (hI h 401 10).toNat) (fun i hi => cNow_b l b (by omega))
  unfold btS
  omega
theorem Mod_servedBy_e (m : MS h) (b : MB h) (l : LB h) {q k : Nat} (hq : (q : Int) < hI h 401 10) (hk : k < 3) : ∃ p, Mod_servedBy 401 (q : Int) (k : Int) h = some (sby (tK h) (tM h) (qp h q) (rVd h q) (hI h 408 q) (mkL h q) (prL h q) k, sF h 416 p) := by
  have l' := l
  obtain ⟨b1, b2, b3, b4, b5⟩ := b
  have hq8 : q < 8 := by omega
  obtain ⟨s1, -⟩ := b5 q hq8 hq
  obtain ⟨t, tb, l3⟩ := l
  have keep : ∃ p, (h : AH) = sF h 416 p := ⟨hI h 416, (sF_id h 416).symm⟩
  unfold Mod_servedBy sby
  rw [c_m m, Mod_isVoid_e m (by omega) (by omega), bnd_some, ite_nbi]
  cases rVd h q
  · rw [if_neg (by decide), if_neg (by decide), c_m m, Mod_hasKind_e m (by omega) (by omega), bnd_some, ite_nbi]
    have er : rHas h q k = (decide (hI h 408 q = 2) || decide (hI h 408 q = k)) := by unfold rHas; rw [tN (q : Int) q rfl]
    rw [er]
    cases decide (hI h 408 q = 2) || decide (hI h 408 q = k)
    · exact ⟨hI h 416, by rw [sF_id]; rfl⟩
    · rw [if_pos rfl, if_pos rfl, r_11 m, a_408 m (by omega) (by omega), tN (q : Int) q rfl]
      by_cases e2 : hI h 408 q = 2
      · obtain ⟨p, e⟩ := Mod_joinedBy_e m l' hq hq8
        have m1 : MS (sF h 416 p) := m
        rw [if_neg (by simpa using e2), c_m m, e, bnd_some, if_pos e2]
        unfold Mod_servedBy_L38
        by_cases k2 : (k : Int) = 2
        · rw [if_neg (by simpa using k2), if_pos k2]; exact ⟨p, rfl⟩
        · rw [if_pos k2, if_neg k2]
          by_cases e1 : jby (tK h) (tM h) (qp h q) (mkL h q) (prL h q) = -1
          · obtain ⟨p2, e3⟩ := Mod_serverOf_e m1 (show TM (sF h 416 p) from t) hq8 hk
            rw [if_neg (by simpa using e1), c_m m1, e3, bnd_some, if_neg (by simp [e1]), sF_sF]; exact ⟨p2, rfl⟩
          · rw [if_pos e1, if_pos ⟨e2, e1⟩]; exact ⟨p, rfl⟩
      · rw [if_pos e2]
        unfold Mod_servedBy_L38
        by_cases k2 : (k : Int) = 2
        · rw [if_neg (by simpa using k2), if_pos k2, if_neg e2]; exact ⟨hI h 416, by rw [sF_id]⟩
        · obtain ⟨p2, e3⟩ := Mod_serverOf_e m t hq8 hk
          rw [if_pos k2, if_neg k2, if_neg (by decide), c_m m, e3, bnd_some, if_neg (by simp [e2])]; exact ⟨p2, rfl⟩
  · exact ⟨hI h 416, by rw [sF_id]; rfl⟩
end R7
