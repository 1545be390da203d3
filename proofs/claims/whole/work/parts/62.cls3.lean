/-! Level 2: the class: costs -/
section C4
variable {h g : AH} {f : Nat → Nat → Int} {s R q : Nat}
theorem CQ_to {h' : AH} (c : CQ h g) (ek : hK h' = hK h) (er : ∀ a, 19 = a ∨ 329 ≤ a ∧ a < 401 → hR h' a = hR h a) (ei : ∀ a, 329 ≤ a → a < 401 → hI h' a = hI h a) (b : MB g) : CQ h' g := by
  have b3 := b.2.2.1
  obtain ⟨⟨c1, c2⟩, c3⟩ := c
  refine ⟨⟨by rw [ek]; exact c1, fun q hq => ?_⟩, fun q hq => ?_⟩
  · obtain ⟨q1, q2, q3, q4, q5, q6, q7⟩ := c2 q hq
    unfold PA at *
    rw [ek, er 19 (Or.inl rfl), er (329 + 9 * q) (Or.inr (by omega)), er (331 + 9 * q) (Or.inr (by omega))]
    refine ⟨q1, q2, q3, q4, q5, q6, fun k hk => ?_⟩
    rw [er (332 + 9 * q + 2 * k) (Or.inr (by omega))]
    exact q7 k hk
  · obtain ⟨q1, q2, q3⟩ := c3 q hq
    rw [ei (330 + 9 * q) (by omega) (by omega), ei (329 + 9 * q) (by omega) (by omega)]
    refine ⟨q1, q2, fun k hk => ?_⟩
    rw [ei (333 + 9 * q + 2 * k) (by omega) (by omega)]
    exact q3 k hk
theorem CQ_78 (c : CQ (WI h f) g) (b : MB g) (v : Nat → Int) : CQ (WI h (s78 f v)) g :=
  CQ_to c rfl (fun _ _ => rfl) (fun a h1 _ => by rw [hI_WI, hI_WI, s78_n _ _ (by omega)]) b
/-- what pricing needs -/
def PX (h : AH) (f : Nat → Nat → Int) (g : AH) (s R : Nat) : Prop := PS h ∧ CQ (WI h f) g ∧ MB g ∧ LK f g ∧ SH h s R ∧ (s + 2 + 3 * R ≤ 75 ∨ 78 < s) ∧ R < 100 ∧ (0 ≤ f s 1 ∧ f s 1 ≤ R) ∧ TB (kv (WI h f) s) (f s 1).toNat
theorem PX.part (x : PX h f g s R) (hq : (q : Int) < hI g 401 10) {k : Nat} (hk : k < 3) : PA h (332 + 9 * q + 2 * k) ∧ eq13 (f (333 + 9 * q + 2 * k)) (qp g q k) ∧ hR h (331 + 9 * q) k = 332 + 9 * q + 2 * k := by
  have b3 := x.2.2.1.2.2.1
  obtain ⟨q1, q2, q3, q4, q5, q6, q7⟩ := (show QA h from x.2.1.1).2 q (by omega)
  exact ⟨(q7 k hk).2, (x.2.1.2 q hq).2.2 k hk, (q7 k hk).1⟩
theorem PX.least (x : PX h f g s R) (hq : (q : Int) < hI g 401 10) {k : Nat} (hk : k < 3) (v : Nat → Int) (bound : Int) : She_leastHolding s (332 + 9 * q + 2 * k) bound (WI h (s78 f v)) = some (n2 (svr (kv (WI h f) s) (qp g q k) (f s 1).toNat bound), WI h (s78 f v)) := by
  obtain ⟨p1, p2, -⟩ := x.part hq hk
  obtain ⟨-, -, -, -, sh, rg, r1, r2, -⟩ := x
  have s1 : s78 f v s 1 = f s 1 := by rw [s78_n _ _ (by omega)]
  rw [She_leastHolding_e (h := WI h (s78 f v)) sh r1 (by rw [hI_WI, s1]; exact r2.1) (by rw [hI_WI, s1]; exact r2.2) p1, hI_WI, s1, s78_n _ _ (by omega)]
  congr 3
  rw [show 332 + 9 * q + 2 * k + 1 = 333 + 9 * q + 2 * k by omega]
  exact svr_cc (T := kv (WI h (s78 f v)) s) (T' := kv (WI h f) s) p2 (fun i hi t _ => by rw [kv_78 sh rg v (by omega)]) bound
theorem PX.row {β : Type} (x : PX h f g s R) {i : Nat} (hi : (i : Int) < f s 1) (v : Nat → Int) (F : Int → Option β) : (gR (WI h (s78 f v)) 8 s 0 fun r => aR (WI h (s78 f v)) 35 r (i : Int) fun r2 => gI (WI h (s78 f v)) 3 r2 1 F) = F (kv (WI h f) s i 13) := by
  obtain ⟨-, -, -, -, sh, rg, r1, r2, -⟩ := x
  have sh1 : SH (WI h (s78 f v)) s R := sh
  obtain ⟨ke, k1, k2⟩ := sh.it (i := i) (by omega)
  rw [sh1.g (by omega), show hR (WI h (s78 f v)) = hR h from rfl, gI_k (show hK (WI h (s78 f v)) (hR h (s + 1) i) = (3, 0) from ke.1), hI_WI, s78_n _ _ (by omega), kv_13]
  rfl
theorem costBy_y (x : PX h f g s R) (hq : (q : Int) < hI g 401 10) {k : Nat} (hk : k < 2) (hh : (!rVd g q && rHas g q k) = true) {ap : Int} (h0 : 0 ≤ ap) (h1 : ap ≤ 100000) (v : Nat → Int) (n : Nat) : Pri_costBy_L39 (n + 1) 75 s (329 + 9 * q) ap (k : Int) (WI h (s78 f v)) = Pri_costBy_L39 n 75 s (329 + 9 * q) (ap + cst (kv (WI h f) s) (qp g q k) (f s 1).toNat (MK g q k)) ((k + 1 : Nat) : Int) (WI h (s78 f (u1 v k (n2 (svr (kv (WI h f) s) (qp g q k) (f s 1).toNat (MK g q k)))))) := by
  obtain ⟨ps1, ps2, ps3, ps4, ps5, ps6, ps7, ps8⟩ := x.1
  have b := x.2.2.1
  have b3 := b.2.2.1
  obtain ⟨q1, q2, q3, q4, q5, q6, q7⟩ := (show QA h from x.2.1.1).2 q (by omega)
  obtain ⟨p1, p2, p3⟩ := x.part hq (k := k) (by omega)
  have cq := CQ_78 x.2.1 b v
  have w : ∀ F, hK (WI h F) = hK h := fun _ => rfl
  have wr' : ∀ F, hR (WI h F) = hR h := fun _ => rfl
  have cb := cstB b x.2.2.2.2.2.2.2.2 q k
  have hr : rHas g q k = true := by rw [Bool.and_eq_true] at hh; exact hh.2
  have mk : f 76 k = MK g q k := by
    rw [MK01 b (by omega) hr]
    obtain ⟨-, -, l3, l4, -⟩ := x.2.2.2.1
    have : k = 0 ∨ k = 1 := by omega
    rcases this with rfl | rfl
    · rw [l3]; rfl
    · rw [l4]; rfl
  have sb := svr_b (kv (WI h f) s) (qp g q k) (f s 1).toNat (MK g q k)
  have n0 := x.2.2.2.2.2.2.2.1
  rw [Pri_costBy_L39, if_neg (by omega), rc_k (t := 6) (n := 0) (by rw [w]; exact q2), cq.has b hq, bnd_some, hh, bi_t, if_neg (by decide), gR_k (t := 6) (n := 0) (by rw [w]; exact q2), wr', q4, aR_k (n := 3) (by rw [w]; exact q6) (by omega) (by omega), wr', tN (k : Int) k rfl, p3, gR_k (t := 5) (n := 0) (by rw [w]; exact ps1), wr', ps3, aI_k (n := 2) (by rw [w]; exact ps6) (by omega) (by omega), hI_WI, s78_n _ _ (by decide), tN (k : Int) k rfl, mk, rc_k (t := 8) (n := 0) (by rw [w]; exact x.2.2.2.2.1.1), x.least hq (by omega), bnd_some, gR_k (t := 5) (n := 0) (by rw [w]; exact ps1), wr', ps5, wI_k (n := 3) (by rw [w]; exact ps8) (by omega) (by omega), tN (k : Int) k rfl, WI_sI]
  have e78 : up2 (s78 f v) 78 k (n2 (svr (kv (WI h f) s) (qp g q k) (f s 1).toNat (MK g q k))) = s78 f (u1 v k (n2 (svr (kv (WI h f) s) (qp g q k) (f s 1).toNat (MK g q k)))) := by
    funext a i
    rw [up2_e]
    unfold s78 u1
    by_cases e : a = 78
    · simp [e]
    · simp [e]
  rw [e78]
  generalize u1 v k (n2 (svr (kv (WI h f) s) (qp g q k) (f s 1).toNat (MK g q k))) = v'
  unfold cst at *
  by_cases c : svr (kv (WI h f) s) (qp g q k) (f s 1).toNat (MK g q k) = -1
  · rw [if_pos c] at cb ⊢
    rw [c, if_neg (by simp [n2]), gR_k (t := 5) (n := 0) (by rw [w]; exact ps1), wr', ps3, aI_k (n := 2) (by rw [w]; exact ps6) (by omega) (by omega), hI_WI, s78_n _ _ (by decide), tN (k : Int) k rfl, mk, wr_id (by omega) (by omega), wr_id (by omega) (by omega), show (k : Int) + 1 = ((k + 1 : Nat) : Int) by omega]
  · rw [if_neg c] at cb ⊢
    obtain ⟨i, hi⟩ : ∃ i : Nat, svr (kv (WI h f) s) (qp g q k) (f s 1).toNat (MK g q k) = (i : Int) := ⟨(svr (kv (WI h f) s) (qp g q k) (f s 1).toNat (MK g q k)).toNat, by omega⟩
    rw [hi] at sb cb c ⊢
    rw [show n2 ((i : Nat) : Int) = (i : Int) by unfold n2; rw [if_neg (by omega)], if_pos (by omega), x.row (by omega), wr_id (z := ap + kv (WI h f) s i 13) (by have e : ((i : Nat) : Int).toNat = i := rfl; rw [e] at cb; omega) (by have e : ((i : Nat) : Int).toNat = i := rfl; rw [e] at cb; omega), wr_id (by omega) (by omega), show (k : Int) + 1 = ((k + 1 : Nat) : Int) by omega]
    rfl
theorem costBy_n (x : PX h f g s R) (hq : (q : Int) < hI g 401 10) {k : Nat} (hk : k < 2) (hh : (!rVd g q && rHas g q k) = false) (ap : Int) (v : Nat → Int) (n : Nat) : Pri_costBy_L39 (n + 1) 75 s (329 + 9 * q) ap (k : Int) (WI h (s78 f v)) = Pri_costBy_L39 n 75 s (329 + 9 * q) ap ((k + 1 : Nat) : Int) (WI h (s78 f v)) := by
  have b := x.2.2.1
  have b3 := b.2.2.1
  obtain ⟨q1, q2, q3, q4, q5, q6, q7⟩ := (show QA h from x.2.1.1).2 q (by omega)
  have cq := CQ_78 x.2.1 b v
  rw [Pri_costBy_L39, if_neg (by omega), rc_k (h := WI h (s78 f v)) (t := 6) (n := 0) q2, cq.has b hq, bnd_some, hh, bi_f, if_pos rfl, wr_id (by omega) (by omega), show (k : Int) + 1 = ((k + 1 : Nat) : Int) by omega]
theorem costBy_y0 (x : PX h f g s R) (hq : (q : Int) < hI g 401 10) (hh : (!rVd g q && rHas g q 0) = true) {ap : Int} (h0 : 0 ≤ ap) (h1 : ap ≤ 100000) (v : Nat → Int) (n : Nat) : Pri_costBy_L39 (n + 1) 75 s (329 + 9 * q) ap 0 (WI h (s78 f v)) = Pri_costBy_L39 n 75 s (329 + 9 * q) (ap + cst (kv (WI h f) s) (qp g q 0) (f s 1).toNat (MK g q 0)) 1 (WI h (s78 f (u1 v 0 (n2 (svr (kv (WI h f) s) (qp g q 0) (f s 1).toNat (MK g q 0)))))) := costBy_y x hq (k := 0) (by decide) hh h0 h1 v n
theorem costBy_y1 (x : PX h f g s R) (hq : (q : Int) < hI g 401 10) (hh : (!rVd g q && rHas g q 1) = true) {ap : Int} (h0 : 0 ≤ ap) (h1 : ap ≤ 100000) (v : Nat → Int) (n : Nat) : Pri_costBy_L39 (n + 1) 75 s (329 + 9 * q) ap 1 (WI h (s78 f v)) = Pri_costBy_L39 n 75 s (329 + 9 * q) (ap + cst (kv (WI h f) s) (qp g q 1) (f s 1).toNat (MK g q 1)) 2 (WI h (s78 f (u1 v 1 (n2 (svr (kv (WI h f) s) (qp g q 1) (f s 1).toNat (MK g q 1)))))) := costBy_y x hq (k := 1) (by decide) hh h0 h1 v n
theorem costBy_n0 (x : PX h f g s R) (hq : (q : Int) < hI g 401 10) (hh : (!rVd g q && rHas g q 0) = false) (ap : Int) (v : Nat → Int) (n : Nat) : Pri_costBy_L39 (n + 1) 75 s (329 + 9 * q) ap 0 (WI h (s78 f v)) = Pri_costBy_L39 n 75 s (329 + 9 * q) ap 1 (WI h (s78 f v)) := costBy_n x hq (k := 0) (by decide) hh ap v n
theorem costBy_n1 (x : PX h f g s R) (hq : (q : Int) < hI g 401 10) (hh : (!rVd g q && rHas g q 1) = false) (ap : Int) (v : Nat → Int) (n : Nat) : Pri_costBy_L39 (n + 1) 75 s (329 + 9 * q) ap 1 (WI h (s78 f v)) = Pri_costBy_L39 n 75 s (329 + 9 * q) ap 2 (WI h (s78 f v)) := costBy_n x hq (k := 1) (by decide) hh ap v n
theorem Pri_costBy_e (x : PX h f g s R) (hq : (q : Int) < hI g 401 10) : ∃ v, Pri_costBy 75 (q : Int) s (WI h f) = some (cH g (kv (WI h f) s) (f s 1).toNat q, WI h (s78 f v)) ∧ ∀ k : Nat, k < 3 → v k = n2 (sH g (kv (WI h f) s) (f s 1).toNat q k) := by
  obtain ⟨ps1, ps2, ps3, ps4, ps5, ps6, ps7, ps8⟩ := x.1
  have b := x.2.2.1
  have b3 := b.2.2.1
  have tb := x.2.2.2.2.2.2.2.2
  have n0 := x.2.2.2.2.2.2.2.1
  obtain ⟨q1, q2, q3, q4, q5, q6, q7⟩ := (show QA h from x.2.1.1).2 q (by omega)
  have sr := (b.2.2.2.2 q (by omega) hq).1
  have pb := prB b q
  have c0 := cstB b tb q 0
  have c1 := cstB b tb q 1
  have w : ∀ F, hK (WI h F) = hK h := fun _ => rfl
  have wr' : ∀ F, hR (WI h F) = hR h := fun _ => rfl
  have cq := fun v => CQ_78 x.2.1 b v
  have F3 := fill3 (f := f) ps8 (-2)
  have hv : ∀ k : Int, rHas g q k = (decide (hI g 408 q = 2) || decide (hI g 408 q = k)) := fun k => by unfold rHas; rfl
  unfold Pri_costBy
  rw [gR_k (t := 5) (n := 0) (by rw [w]; exact ps1), wr', ps2, aR_k (n := 8) (by rw [w]; exact x.2.1.1.1) (by omega) (by omega), wr', tN (q : Int) q rfl, q1, if_neg (by omega), gR_k (t := 5) (n := 0) (by rw [w]; exact ps1), wr', ps5, F3, bnd_some]
  rw [show (fun a => if a = 78 then (fun i => if i < 3 then (-2 : Int) else f 78 i) else f a) = s78 f (fun i => if i < 3 then (-2 : Int) else f 78 i) from rfl]
  generalize hv0 : (fun i => if i < 3 then (-2 : Int) else f 78 i) = v0
  have v0k : ∀ k, k < 3 → v0 k = -2 := fun k hk => by rw [← hv0]; exact if_pos hk
  rw [rc_k (t := 6) (n := 0) (by rw [w]; exact q2), (cq v0).has b hq, bnd_some, ite_bi]
  unfold cH sH cNow sby
  rw [show FU = 999997 + 1 + 1 + 1 from rfl]
  cases vd : rVd g q
  · simp only [if_neg (show ¬ false = true by decide)]
    by_cases s2 : hI g 408 q = 2
    · have hh : ∀ k : Int, (!rVd g q && rHas g q k) = true := fun k => by rw [vd, hv, decide_eq_true s2]; rfl
      have hh2 : ((!false : Bool) && rHas g q 2) = true := by rw [hv, decide_eq_true s2]; rfl
      have pr := x.2.2.2.1.2.2.2.2 q hq vd s2
      rw [hh2, if_pos rfl, gR_k (t := 5) (n := 0) (by rw [w]; exact ps1), wr', ps4, aI_k (n := 8) (by rw [w]; exact ps7) (by omega) (by omega), hI_WI, s78_n _ _ (by decide), tN (q : Int) q rfl, pr, costBy_y0 x hq (hh _) pb.1 (by omega), costBy_y1 x hq (hh _) (by omega) (by omega)]
      generalize hv2 : u1 (u1 v0 0 (n2 (svr (kv (WI h f) s) (qp g q 0) (f s 1).toNat (MK g q 0)))) 1 (n2 (svr (kv (WI h f) s) (qp g q 1) (f s 1).toNat (MK g q 1))) = v2
      have ea : RW g q 0 * RW g q 1 + cst (kv (WI h f) s) (qp g q 0) (f s 1).toNat (MK g q 0) + cst (kv (WI h f) s) (qp g q 1) (f s 1).toNat (MK g q 1) = apt (kv (WI h f) s) (f s 1).toNat (qp g q) (MK g q) (RW g q 0 * RW g q 1) := by
        unfold apt; omega
      rw [ea, Pri_costBy_L39, if_pos (by decide), rc_k (t := 6) (n := 0) (by rw [w]; exact q2), (cq v2).has b hq, bnd_some, hh, bi_t, if_neg (by decide), gR_k (t := 6) (n := 0) (by rw [w]; exact q2), wr', q4, aR_k (n := 3) (by rw [w]; exact q6) (by omega) (by omega), wr', show hR h (331 + 9 * q) (2 : Int).toNat = 332 + 9 * q + 2 * 2 from (q7 2 (by decide)).1, rc_k (t := 8) (n := 0) (by rw [w]; exact x.2.2.2.2.1.1), x.least hq (by decide), bnd_some, svr_big tb]
      rw [if_pos (show (2 : Int) ≤ hI g 408 q by omega)]
      have bb := bfs_b (kv (WI h f) s) (qp g q 2) (f s 1).toNat
      have z0 : ∀ k : Int, (decide (hI g 408 q = 2) || decide (hI g 408 q = k)) = true := fun k => by rw [decide_eq_true s2]; rfl
      unfold Pri_costBy_L146
      have jb : jby (kv (WI h f) s) (f s 1).toNat (qp g q) (MK g q) (RW g q 0 * RW g q 1) = if bfs (kv (WI h f) s) (qp g q 2) (f s 1).toNat = -1 then -1 else if apt (kv (WI h f) s) (f s 1).toNat (qp g q) (MK g q) (RW g q 0 * RW g q 1) < kv (WI h f) s (bfs (kv (WI h f) s) (qp g q 2) (f s 1).toNat).toNat 13 then -1 else bfs (kv (WI h f) s) (qp g q 2) (f s 1).toNat := rfl
      have v2k : ∀ k : Nat, k < 3 → v2 k = if k = 2 then -2 else n2 (svr (kv (WI h f) s) (qp g q k) (f s 1).toNat (MK g q k)) := fun k hk => by
        rw [← hv2]
        have : k = 0 ∨ k = 1 ∨ k = 2 := by omega
        rcases this with rfl | rfl | rfl
        · rfl
        · rfl
        · show v0 2 = -2; exact v0k 2 (by decide)
      rw [show ((2 : Nat) : Int) = 2 from rfl]
      generalize apt (kv (WI h f) s) (f s 1).toNat (qp g q) (MK g q) (RW g q 0 * RW g q 1) = AP at *
      have done : jby (kv (WI h f) s) (f s 1).toNat (qp g q) (MK g q) (RW g q 0 * RW g q 1) = -1 → ∀ k : Nat, k < 3 → v2 k = n2 (if (decide (hI g 408 q = 2) || decide (hI g 408 q = (k : Int))) = true then (if (k : Int) = 2 then (if hI g 408 q = 2 then jby (kv (WI h f) s) (f s 1).toNat (qp g q) (MK g q) (RW g q 0 * RW g q 1) else -1) else if hI g 408 q = 2 ∧ jby (kv (WI h f) s) (f s 1).toNat (qp g q) (MK g q) (RW g q 0 * RW g q 1) ≠ -1 then -1 else svr (kv (WI h f) s) (qp g q k) (f s 1).toNat (MK g q k)) else -1) := fun j1 k hk => by
        rw [v2k k hk, if_pos (z0 k), j1]
        by_cases k2 : k = 2
        · rw [if_pos k2, if_pos (by omega), if_pos s2]; rfl
        · rw [if_neg k2, if_neg (by omega), if_neg (by simp)]
      by_cases e1 : bfs (kv (WI h f) s) (qp g q 2) (f s 1).toNat = -1
      · rw [if_pos e1] at jb
        rw [e1, if_pos (by rfl), if_pos jb]
        exact ⟨v2, rfl, done jb⟩
      · rw [if_neg e1] at jb
        obtain ⟨i, hi⟩ : ∃ i : Nat, bfs (kv (WI h f) s) (qp g q 2) (f s 1).toNat = (i : Int) := ⟨(bfs (kv (WI h f) s) (qp g q 2) (f s 1).toNat).toNat, by omega⟩
        rw [hi] at bb jb ⊢
        rw [show ((i : Nat) : Int).toNat = i from rfl] at jb
        rw [show n2 ((i : Nat) : Int) = (i : Int) by unfold n2; rw [if_neg (by omega)], if_neg (by omega), x.row (by omega)]
        by_cases e2 : AP < kv (WI h f) s i 13
        · rw [if_pos e2] at jb
          rw [if_neg (by omega), if_pos jb]
          exact ⟨v2, rfl, done jb⟩
        · rw [if_neg e2] at jb
          have F4 := fill3 (f := s78 f v2) ps8 (-2)
          have e4 : (fun a => if a = 78 then (fun i => if i < 3 then (-2 : Int) else s78 f v2 78 i) else s78 f v2 a) = s78 f (fun i => if i < 3 then (-2 : Int) else v2 i) := by
            funext a; unfold s78; by_cases e : a = 78 <;> simp [e]
          rw [e4] at F4
          generalize hv4 : (fun i => if i < 3 then (-2 : Int) else v2 i) = v4 at F4
          have e78 : up2 (s78 f v4) 78 2 (i : Int) = s78 f (u1 v4 2 (i : Int)) := by
            funext a j; rw [up2_e]; unfold s78 u1; by_cases e : a = 78 <;> simp [e]
          rw [if_pos (by omega), gR_k (t := 5) (n := 0) (by rw [w]; exact ps1), wr', ps5, F4, bnd_some, gR_k (t := 5) (n := 0) (by rw [w]; exact ps1), wr', ps5, wI_k (n := 3) (by rw [w]; exact ps8) (by decide) (by decide), show (2 : Int).toNat = 2 from rfl, WI_sI, e78, x.row (by omega), if_neg (by rw [jb]; omega), jb]
          refine ⟨_, rfl, fun k hk => ?_⟩
          rw [if_pos (z0 k)]
          by_cases k2 : k = 2
          · rw [if_pos (by omega), if_pos s2, k2]
            show (i : Int) = n2 (i : Int)
            unfold n2; rw [if_neg (by omega)]
          · rw [if_neg (by omega), if_pos ⟨s2, by omega⟩]
            unfold u1
            rw [if_neg k2, ← hv4]
            exact if_pos hk
    · have hh2 : ((!false : Bool) && rHas g q 2) = false := by rw [hv, decide_eq_false s2]; rfl
      rw [hh2, if_neg (by decide), if_neg (show ¬ (2 : Int) ≤ hI g 408 q by omega)]
      have hf : ∀ k : Int, k = 0 ∨ k = 1 → (!rVd g q && rHas g q k) = decide (hI g 408 q = k) := fun k _ => by rw [vd, hv, decide_eq_false s2]; rfl
      have hh2' : (!rVd g q && rHas g q 2) = false := by rw [vd]; exact hh2
      have dn : ∀ v : Nat → Int, ∀ ap : Int, Pri_costBy_L39 (999997 + 1) 75 s (329 + 9 * q) ap 2 (WI h (s78 f v)) = some (ap, WI h (s78 f v)) := fun v ap => by
        rw [Pri_costBy_L39, if_pos (by decide), rc_k (t := 6) (n := 0) (by rw [w]; exact q2), (cq v).has b hq, bnd_some, hh2', bi_f, if_pos rfl]
        unfold Pri_costBy_L146
        rw [if_pos rfl]
      by_cases s0 : hI g 408 q = 0
      · rw [costBy_y0 x hq (by rw [hf _ (Or.inl rfl)]; exact decide_eq_true s0) (by decide) (by decide), costBy_n1 x hq (by rw [hf _ (Or.inr rfl)]; exact decide_eq_false (by omega)), dn, s0, Int.zero_add]
        refine ⟨_, rfl, fun k hk => ?_⟩
        unfold u1
        have : k = 0 ∨ k = 1 ∨ k = 2 := by omega
        rcases this with rfl | rfl | rfl
        · rw [if_pos rfl, if_pos (by decide), if_neg (by decide), if_neg (by simp)]; rfl
        · rw [if_neg (by decide), if_neg (by decide), v0k 1 (by decide)]; rfl
        · rw [if_neg (by decide), if_neg (by decide), v0k 2 (by decide)]; rfl
      · have s1 : hI g 408 q = 1 := by omega
        rw [costBy_n0 x hq (by rw [hf _ (Or.inl rfl)]; exact decide_eq_false s0), costBy_y1 x hq (by rw [hf _ (Or.inr rfl)]; exact decide_eq_true s1) (by decide) (by decide), dn, s1, Int.zero_add]
        refine ⟨_, rfl, fun k hk => ?_⟩
        · unfold u1
          have : k = 0 ∨ k = 1 ∨ k = 2 := by omega
          rcases this with rfl | rfl | rfl
          · rw [if_neg (by decide), if_neg (by decide), v0k 0 (by decide)]; rfl
          · rw [if_pos rfl, if_pos (by decide), if_neg (by decide), if_neg (by simp)]; rfl
          · rw [if_neg (by decide), if_neg (by decide), v0k 2 (by decide)]; rfl
  · have hz : ∀ k : Int, (!rVd g q && rHas g q k) = false := fun k => by rw [vd]; rfl
    rw [show ((!true : Bool) && rHas g q 2) = false from rfl, if_neg (show ¬ false = true by decide)]
    simp only [if_pos (show true = true from rfl)]
    rw [costBy_n0 x hq (hz _), costBy_n1 x hq (hz _), Pri_costBy_L39, if_pos (by decide), rc_k (t := 6) (n := 0) (by rw [w]; exact q2), (cq v0).has b hq, bnd_some, hz, bi_f, if_pos (show (0 : Int) = 0 from rfl)]
    unfold Pri_costBy_L146
    rw [if_pos (show (-2 : Int) = -2 from rfl)]
    refine ⟨v0, rfl, fun k hk => ?_⟩
    rw [v0k k hk]; rfl
end C4
