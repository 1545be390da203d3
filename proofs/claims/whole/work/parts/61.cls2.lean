/-! Level 2: the class: what serves, what it costs -/
def n2 (x : Int) : Int := if x = -1 then -2 else x
section C2
variable {h : AH} {p s R : Nat}
theorem SH.it (sh : SH h s R) {i : Nat} (hi : i < R) : KE h (hR h (s + 1) i) ∧ s + 2 ≤ hR h (s + 1) i ∧ hR h (s + 1) i + 3 ≤ s + 2 + 3 * R := by
  obtain ⟨h1, h2, h3, h4, h5, h6⟩ := sh
  obtain ⟨j, hj, e⟩ := h5 i hi
  rw [e]
  exact ⟨h4 j hj, by omega, by omega⟩
theorem SH.g {β : Type} (sh : SH h s R) {i : Nat} (hi : i < R) (f : Nat → Option β) : (gR h 8 s 0 fun r => aR h 35 r (i : Int) f) = f (hR h (s + 1) i) := by
  rw [gR_k sh.1, sh.2.1, aR_k sh.2.2.1 (by omega) (by omega)]; rfl
theorem kv_13 (h : AH) (s i : Nat) : kv h s i 13 = hI h (hR h (s + 1) i) 1 := rfl
theorem kv_14 (h : AH) (s i : Nat) : kv h s i 14 = hI h (hR h (s + 1) i) 2 := rfl
theorem kv_15 (h : AH) (s i : Nat) : kv h s i 15 = hI h (hR h (s + 1) i) 3 := rfl
theorem kv_lt (h : AH) (s i : Nat) : eq13 (hI h (hR h (s + 1) i + 2)) (kv h s i) := fun t ht => by unfold kv; rw [if_pos ht]
theorem svr_p (F : Nat → Int) (x : Int) (hb : Bool) (k : Nat) (b mk : Int) (bb : b = -1 ∨ (0 ≤ b ∧ b < k)) (b' v v' : Int) (e1 : b' = if (decide (x = 0) && hb) && decide (b = -1 ∨ F k < F b.toNat) then (k : Int) else b) (e2 : v = if b = -1 then -1 else if mk ≤ F b.toNat then -1 else b) (e3 : v' = if b' = -1 then -1 else if mk ≤ F b'.toNat then -1 else b') : (n2 v', if v' = -1 then mk else F v'.toNat) = if x = 0 ∧ F k < (if v = -1 then mk else F v.toNat) ∧ hb = true then ((k : Int), F k) else (n2 v, if v = -1 then mk else F v.toNat) := by
  have tk : ((k : Nat) : Int).toNat = k := rfl
  have kn : ¬ (k : Int) = -1 := by omega
  unfold n2
  by_cases c : ((decide (x = 0) && hb) && decide (b = -1 ∨ F k < F b.toNat)) = true
  · rw [if_pos c] at e1
    subst e1
    simp only [Bool.and_eq_true, decide_eq_true_eq] at c
    rw [if_neg kn, tk] at e3
    obtain ⟨⟨c1, c2⟩, c3⟩ := c
    by_cases d : mk ≤ F k
    · rw [if_pos d] at e3
      subst e3
      have : v = -1 := by
        rw [e2]; split
        · rfl
        · rw [if_pos (by omega)]
      rw [this, if_pos rfl, if_pos rfl, if_neg (by omega)]
    · rw [if_neg d] at e3
      subst e3
      rw [if_neg kn, if_neg kn, tk]
      have : F k < (if v = -1 then mk else F v.toNat) := by
        split
        · omega
        · rename_i hv
          rw [e2] at hv ⊢
          split at hv
          · exact absurd rfl hv
          · split at hv
            · exact absurd rfl hv
            · rename_i n1 n3
              rw [if_neg n1, if_neg n3]; omega
      rw [if_pos ⟨c1, this, c2⟩]
  · rw [if_neg c] at e1
    subst e1
    have vv : v' = v := by rw [e3, e2]
    rw [vv]
    refine (if_neg (c := x = 0 ∧ F k < (if v = -1 then mk else F v.toNat) ∧ hb = true) ?_).symm
    intro ⟨d1, d2, d3⟩
    simp only [Bool.and_eq_true, decide_eq_true_eq, d1, d3, true_and] at c
    have c1 : ¬ b' = -1 := fun z => c (Or.inl z)
    have c2 : ¬ F k < F b'.toNat := fun z => c (Or.inr z)
    rw [if_neg c1] at e2
    by_cases d : mk ≤ F b'.toNat
    · rw [if_pos d] at e2
      rw [e2, if_pos rfl] at d2
      omega
    · rw [if_neg d] at e2
      rw [e2, if_neg c1] at d2
      omega
theorem svr_s (T : Nat → Nat → Int) (π : Nat → Int) (k : Nat) (mk : Int) : (n2 (svr T π (k + 1) mk), if svr T π (k + 1) mk = -1 then mk else T (svr T π (k + 1) mk).toNat 13) = if T k 15 = 0 ∧ T k 13 < (if svr T π k mk = -1 then mk else T (svr T π k mk).toNat 13) ∧ holdF (T k) π = true then ((k : Int), T k 13) else (n2 (svr T π k mk), if svr T π k mk = -1 then mk else T (svr T π k mk).toNat 13) :=
  svr_p (fun i => T i 13) (T k 15) (holdF (T k) π) k (bfs T π k) mk (bfs_b T π k) (bfs T π (k + 1)) _ _ rfl rfl rfl
theorem She_leastHolding_e (sh : SH h s R) (hR1 : R < 100) (h0 : 0 ≤ hI h s 1) (h1 : hI h s 1 ≤ R) (p1 : PA h p) (bound : Int) : She_leastHolding s p bound h = some (n2 (svr (kv h s) (hI h (p + 1)) (hI h s 1).toNat bound), h) := by
  have L : ∀ (n k : Nat), (k : Int) + n = hI h s 1 → ∀ fuel, n < fuel → She_leastHolding_L9 fuel s p (n2 (svr (kv h s) (hI h (p + 1)) k bound)) (if svr (kv h s) (hI h (p + 1)) k bound = -1 then bound else kv h s (svr (kv h s) (hI h (p + 1)) k bound).toNat 13) (k : Int) h = some (n2 (svr (kv h s) (hI h (p + 1)) (hI h s 1).toNat bound), h) := by
    intro n
    induction n with
    | zero =>
      intro k hk fuel hf
      obtain ⟨fuel, rfl⟩ : ∃ j, fuel = j + 1 := ⟨fuel - 1, by omega⟩
      rw [She_leastHolding_L9, gI_k sh.1, if_pos (by omega), show (hI h s 1).toNat = k by omega]
    | succ n ih =>
      intro k hk fuel hf
      obtain ⟨fuel, rfl⟩ : ∃ j, fuel = j + 1 := ⟨fuel - 1, by omega⟩
      obtain ⟨ke, k1, k2⟩ := sh.it (i := k) (by omega)
      obtain ⟨e1, e2, e3⟩ := ke
      have ih := ih (k + 1) (by omega) fuel (by omega)
      have sv := svr_s (kv h s) (hI h (p + 1)) k bound
      generalize n2 (svr (kv h s) (hI h (p + 1)) (k + 1) bound) = A' at *
      generalize (if svr (kv h s) (hI h (p + 1)) (k + 1) bound = -1 then bound else kv h s (svr (kv h s) (hI h (p + 1)) (k + 1) bound).toNat 13) = B' at *
      generalize (if svr (kv h s) (hI h (p + 1)) k bound = -1 then bound else kv h s (svr (kv h s) (hI h (p + 1)) k bound).toNat 13) = B at *
      generalize n2 (svr (kv h s) (hI h (p + 1)) k bound) = A at *
      rw [She_leastHolding_L9, gI_k sh.1, if_neg (by omega), sh.g (by omega), if_neg (by omega), gI_k e1, ← kv_15, gI_k e1, ← kv_13, gR_k e1, e2, rc_k e3.1, Par_holds_e e3 p1, bnd_some, gI_k e1, ← kv_13, ite_bi, wr_id (by omega) (by omega), show (k : Int) + 1 = ((k + 1 : Nat) : Int) by omega]
      have eh : holdF (hI h (hR h (s + 1) k + 1 + 1)) (hI h (p + 1)) = holdF (kv h s k) (hI h (p + 1)) := holdF_c (kv_lt h s k) (fun _ _ => rfl)
      rw [eh]
      by_cases c1 : kv h s k 15 = 0
      · rw [if_neg (by simpa using c1)]
        by_cases c2 : kv h s k 13 < B
        · rw [if_neg (by omega)]
          cases c3 : holdF (kv h s k) (hI h (p + 1))
          · rw [if_neg (by rw [c3]; simp)] at sv
            rw [if_neg (by decide)]
            rw [(Prod.mk.inj sv).1, (Prod.mk.inj sv).2] at ih
            exact ih
          · rw [if_pos ⟨c1, c2, c3⟩] at sv
            rw [if_pos rfl]
            rw [(Prod.mk.inj sv).1, (Prod.mk.inj sv).2] at ih
            exact ih
        · rw [if_pos (by omega)]
          rw [if_neg (fun x => c2 x.2.1)] at sv
          rw [(Prod.mk.inj sv).1, (Prod.mk.inj sv).2] at ih
          exact ih
      · rw [if_pos c1]
        rw [if_neg (fun x => c1 x.1)] at sv
        rw [(Prod.mk.inj sv).1, (Prod.mk.inj sv).2] at ih
        exact ih
  exact L (hI h s 1).toNat 0 (by omega) FU (by have := FU_big; omega)
theorem svr_big {T : Nat → Nat → Int} {π : Nat → Int} {n : Nat} (tb : TB T n) : svr T π n 1000000 = bfs T π n := by
  have bb := bfs_b T π n
  unfold svr
  split
  · rename_i e; exact e.symm
  · have := tb (bfs T π n).toNat (by omega)
    rw [if_neg (by omega)]
end C2
/-! queries and the pricer, as they lie -/
def QA (h : AH) : Prop := hK h 19 = (31, 8) ∧ ∀ q, q < 8 → hR h 19 q = 329 + 9 * q ∧ hK h (329 + 9 * q) = (6, 0) ∧ hR h (329 + 9 * q) 0 = 330 + 9 * q ∧ hR h (329 + 9 * q) 1 = 331 + 9 * q ∧ hK h (330 + 9 * q) = (21, 19) ∧ hK h (331 + 9 * q) = (36, 3) ∧ ∀ k, k < 3 → hR h (331 + 9 * q) k = 332 + 9 * q + 2 * k ∧ PA h (332 + 9 * q + 2 * k)
/-- the class's queries are those of a reference -/
def CQ (h g : AH) : Prop := QA h ∧ ∀ q : Nat, (q : Int) < hI g 401 10 → (∀ w, w < 19 → hI h (330 + 9 * q) w = FM g q w) ∧ hI h (329 + 9 * q) 2 = bi (rVd g q) ∧ ∀ k : Nat, k < 3 → eq13 (hI h (333 + 9 * q + 2 * k)) (qp g q k)
def PS (h : AH) : Prop := hK h 75 = (5, 0) ∧ hR h 75 0 = 19 ∧ hR h 75 1 = 76 ∧ hR h 75 2 = 77 ∧ hR h 75 3 = 78 ∧ hK h 76 = (21, 2) ∧ hK h 77 = (21, 8) ∧ hK h 78 = (21, 3)
/-- the pricer has looked -/
def LK (f : Nat → Nat → Int) (g : AH) : Prop := f 75 4 = hI g 401 10 ∧ f 75 5 = hI g 402 4 ∧ f 76 0 = hI g 402 2 ∧ f 76 1 = hI g 402 3 ∧ ∀ q : Nat, (q : Int) < hI g 401 10 → rVd g q = false → hI g 408 q = 2 → f 77 q = RW g q 0 * RW g q 1
section C3
variable {h g : AH} {f : Nat → Nat → Int} {s R : Nat}
theorem CQ.src (c : CQ h g) {q : Nat} (hq : (q : Int) < hI g 401 10) : hI h (330 + 9 * q) 0 = hI g 408 q := (c.2 q hq).1 0 (by decide)
theorem CQ.has (c : CQ h g) (b : MB g) {q : Nat} (hq : (q : Int) < hI g 401 10) (k : Int) : Que_hasPart (329 + 9 * q) k h = some (bi (!rVd g q && rHas g q k), h) := by
  have b3 := b.2.2.1
  obtain ⟨q1, q2, q3, q4, q5, q6, q7⟩ := c.1.2 q (by omega)
  have sr : Que_source (329 + 9 * q) h = some (hI g 408 q, h) := by
    unfold Que_source
    rw [gR_k q2, q3, aI_k q5 (by decide) (by decide)]
    show some (hI h (330 + 9 * q) 0, h) = _
    rw [c.src hq]
  unfold Que_hasPart rHas
  rw [gI_k q2, (c.2 q hq).2.1, ite_nbi, rc_k q2, sr, bnd_some, rc_k q2, sr, bnd_some, show ((q : Nat) : Int).toNat = q from rfl]
  cases rVd g q
  · rw [if_neg (by decide)]
    by_cases e1 : hI g 408 q = 2 <;> by_cases e2 : hI g 408 q = k <;> simp [e1, e2, bi]
  · rfl
theorem fill3 (k3 : hK h 78 = (21, 3)) (v : Int) : Ary_fill 78 v (WI h f) = some ((), WI h (fun a => if a = 78 then (fun i => if i < 3 then v else f 78 i) else f a)) := by
  have k : ∀ f, hK (WI h f) 78 = (21, 3) := fun _ => k3
  unfold Ary_fill
  rw [aN_k (k _), show FU = 999996 + 1 + 1 + 1 + 1 from rfl, Ary_fill_L5, if_neg (by decide), wI_k (k _) (by decide) (by decide), WI_sI, show wr (0 + 1) = 1 from rfl, Ary_fill_L5, if_neg (by decide), wI_k (k _) (by decide) (by decide), WI_sI, show wr (1 + 1) = 2 from rfl, Ary_fill_L5, if_neg (by decide), wI_k (k _) (by decide) (by decide), WI_sI, show wr (2 + 1) = 3 from rfl, Ary_fill_L5, if_pos (by decide)]
  congr 2
  refine WI_ext h (fun a i => ?_)
  rw [show (0 : Int).toNat = 0 from rfl, show (1 : Int).toNat = 1 from rfl, show (2 : Int).toNat = 2 from rfl]
  simp only [up2_e]
  by_cases e : a = 78
  · subst e
    simp only [true_and, if_true]
    clear k
    grind
  · simp [e]
/-- only what serves is laid anew -/
def s78 (f : Nat → Nat → Int) (v : Nat → Int) : Nat → Nat → Int := fun a => if a = 78 then v else f a
theorem s78_n (f : Nat → Nat → Int) (v : Nat → Int) {a : Nat} (ha : a ≠ 78) : s78 f v a = f a := if_neg ha
theorem kv_78 (sh : SH h s R) (hs : s + 2 + 3 * R ≤ 75 ∨ 78 < s) (v : Nat → Int) {i : Nat} (hi : i < R) : kv (WI h (s78 f v)) s i = kv (WI h f) s i := by
  obtain ⟨-, k1, k2⟩ := sh.it hi
  funext t
  unfold kv
  rw [show hR (WI h (s78 f v)) = hR h from rfl, show hR (WI h f) = hR h from rfl, hI_WI, hI_WI, s78_n _ _ (by omega), s78_n _ _ (by omega)]
theorem MK01 (b : MB g) {q : Nat} {k : Int} (hk : k = 0 ∨ k = 1) (hh : rHas g q k = true) : MK g q k = if k = 0 then hI g 402 2 else hI g 402 3 := by
  obtain ⟨b1, b2, -⟩ := b
  unfold MK makeF
  rw [hh, if_pos rfl, if_neg (by show ¬ 2 ≤ k; omega)]
  have : qp g q k 0 = k := by unfold qp; rw [if_pos rfl]
  rw [this]
  unfold nR nS
  split <;> omega
theorem cstB {T : Nat → Nat → Int} {n : Nat} (b : MB g) (tb : TB T n) (q : Nat) (k : Int) : 0 ≤ cst T (qp g q k) n (MK g q k) ∧ cst T (qp g q k) n (MK g q k) ≤ 1000 := by
  have := MK_b b q k
  exact cst_b tb this.1 (by omega)
theorem prB (b : MB g) (q : Nat) : 0 ≤ RW g q 0 * RW g q 1 ∧ RW g q 0 * RW g q 1 ≤ 10000 := by
  have x0 := RW_b b q 0
  have x1 := RW_b b q 1
  refine ⟨Int.mul_nonneg x0.1 x1.1, ?_⟩
  exact Int.le_trans (Int.mul_le_mul x0.2 x1.2 x1.1 (by decide)) (by decide)
theorem cH_b {T : Nat → Nat → Int} {n : Nat} (b : MB g) (tb : TB T n) {q : Nat} (hq : (q : Int) < hI g 401 10) : 0 ≤ cH g T n q ∧ cH g T n q ≤ 12000 := by
  have p := prB b q
  have c0 := cstB b tb q 0
  have c1 := cstB b tb q 1
  have s1 := (b.2.2.2.2 q (by have := b.2.2.1; omega) hq).1
  have jb := jby_b T n (qp g q) (MK g q) (RW g q 0 * RW g q 1)
  have ap : 0 ≤ apt T n (qp g q) (MK g q) (RW g q 0 * RW g q 1) ∧ apt T n (qp g q) (MK g q) (RW g q 0 * RW g q 1) ≤ 12000 := by unfold apt; omega
  unfold cH cNow
  split
  · omega
  · split
    · split
      · exact ap
      · have := tb (jby T n (qp g q) (MK g q) (RW g q 0 * RW g q 1)).toNat (by omega)
        omega
    · have := cstB b tb q (hI g 408 q)
      omega
end C3
