/-! Level 2: two never gain more together than each alone; best of the class -/
def wv (T : Nat → Nat → Int) (π : Nat → Int) (n : Nat) : Int := if bfs T π n = -1 then 1000000 else T (bfs T π n).toNat 13
theorem cst_w {T : Nat → Nat → Int} {π : Nat → Int} {n : Nat} {mk : Int} (h1 : mk ≤ 1000) : cst T π n mk = if wv T π n < mk then wv T π n else mk := by
  unfold cst svr wv
  by_cases e : bfs T π n = -1
  · rw [if_pos e, if_pos e, if_pos rfl, if_neg (by omega)]
  · rw [if_neg e, if_neg e]
    by_cases d : mk ≤ T (bfs T π n).toNat 13
    · rw [if_pos d, if_pos rfl, if_neg (by omega)]
    · rw [if_neg d, if_neg e, if_pos (by omega)]
theorem cNow_w {T : Nat → Nat → Int} {n : Nat} {P : Int → Nat → Int} {mk : Int → Int} {pr : Int} (ap : apt T n P mk pr ≤ 12000) : (if jby T n P mk pr = -1 then apt T n P mk pr else T (jby T n P mk pr).toNat 13) = if wv T (P 2) n ≤ apt T n P mk pr then wv T (P 2) n else apt T n P mk pr := by
  unfold jby wv
  by_cases e : bfs T (P 2) n = -1
  · rw [if_pos e, if_pos rfl, if_pos e, if_neg (by omega)]
  · rw [if_neg e, if_neg e]
    by_cases d : apt T n P mk pr < T (bfs T (P 2) n).toNat 13
    · rw [if_pos d, if_pos rfl, if_neg (by omega)]
    · rw [if_neg d, if_neg e, if_pos (by omega)]
theorem wv_0 (T : Nat → Nat → Int) (π : Nat → Int) : wv T π 0 = 1000000 := rfl
theorem wv_1 {x π : Nat → Int} (h15 : x 15 = 0) : wv (app z2 0 x) π 1 = if holdF x π then x 13 else 1000000 := by
  have a0 : app z2 0 x 0 = x := rfl
  unfold wv
  rw [bfs, bfs, a0]
  cases holdF x π
  · simp [h15]
  · simp [h15, a0]
theorem wv_2 {x y π : Nat → Int} (hx : x 15 = 0) (hy : y 15 = 0) (bx : x 13 ≤ 1000) (b_y : y 13 ≤ 1000) : wv (app (app z2 0 x) 1 y) π 2 = if wv (app z2 0 y) π 1 < wv (app z2 0 x) π 1 then wv (app z2 0 y) π 1 else wv (app z2 0 x) π 1 := by
  have a0 : app (app z2 0 x) 1 y 0 = x := rfl
  have a1 : app (app z2 0 x) 1 y 1 = y := rfl
  rw [wv_1 hx, wv_1 hy]
  unfold wv
  rw [bfs, bfs, bfs, a0, a1]
  cases holdF x π <;> cases holdF y π
  · simp [hx, hy]
  · simp [hx, hy, a1]; omega
  · simp [hx, hy, a0]; omega
  · by_cases c : y 13 < x 13
    · simp [hx, hy, a0, a1, c]
    · simp [hx, hy, a0, a1, c]
theorem mod_p (m0 m1 pr a0 a1 a2 b0 b1 b2 : Int) (h0 : m0 ≤ 1000) (h1 : m1 ≤ 1000) (hp : pr ≤ 10000) : (if a2 ≤ (if a0 < m0 then a0 else m0) + (if a1 < m1 then a1 else m1) + pr then a2 else (if a0 < m0 then a0 else m0) + (if a1 < m1 then a1 else m1) + pr) + (if b2 ≤ (if b0 < m0 then b0 else m0) + (if b1 < m1 then b1 else m1) + pr then b2 else (if b0 < m0 then b0 else m0) + (if b1 < m1 then b1 else m1) + pr) ≤ (m0 + m1 + pr) + (if (if b2 < a2 then b2 else a2) ≤ (if (if b0 < a0 then b0 else a0) < m0 then (if b0 < a0 then b0 else a0) else m0) + (if (if b1 < a1 then b1 else a1) < m1 then (if b1 < a1 then b1 else a1) else m1) + pr then (if b2 < a2 then b2 else a2) else (if (if b0 < a0 then b0 else a0) < m0 then (if b0 < a0 then b0 else a0) else m0) + (if (if b1 < a1 then b1 else a1) < m1 then (if b1 < a1 then b1 else a1) else m1) + pr) := by
  have e0 : ∀ x : Int, (if x < m0 then x else m0) ≤ m0 := fun x => by split <;> omega
  have e1 : ∀ x : Int, (if x < m1 then x else m1) ≤ m1 := fun x => by split <;> omega
  have k0 : (if a0 < m0 then a0 else m0) + (if b0 < m0 then b0 else m0) ≤ m0 + (if (if b0 < a0 then b0 else a0) < m0 then (if b0 < a0 then b0 else a0) else m0) := by (repeat' split) <;> omega
  have k1 : (if a1 < m1 then a1 else m1) + (if b1 < m1 then b1 else m1) ≤ m1 + (if (if b1 < a1 then b1 else a1) < m1 then (if b1 < a1 then b1 else a1) else m1) := by (repeat' split) <;> omega
  have p0 := e0 a0
  have q0 := e0 b0
  have p1 := e1 a1
  have q1 := e1 b1
  generalize (if a0 < m0 then a0 else m0) = A0 at *
  generalize (if b0 < m0 then b0 else m0) = B0 at *
  generalize (if a1 < m1 then a1 else m1) = A1 at *
  generalize (if b1 < m1 then b1 else m1) = B1 at *
  generalize (if (if b0 < a0 then b0 else a0) < m0 then (if b0 < a0 then b0 else a0) else m0) = X0 at *
  generalize (if (if b1 < a1 then b1 else a1) < m1 then (if b1 < a1 then b1 else a1) else m1) = X1 at *
  have w : (if b2 < a2 then b2 else a2) = a2 ∨ (if b2 < a2 then b2 else a2) = b2 := by split <;> simp
  generalize (if b2 < a2 then b2 else a2) = W at *
  split <;> split <;> split <;> omega
theorem mod_q (m a b : Int) : (if a < m then a else m) + (if b < m then b else m) ≤ m + (if (if b < a then b else a) < m then (if b < a then b else a) else m) := by (repeat' split) <;> omega
section C9
variable {h g : AH} {f : Nat → Nat → Int} {T : Nat → Nat → Int} {n : Nat}
theorem cH_sub (b : MB g) {x y : Nat → Int} (hx : x 15 = 0) (hy : y 15 = 0) (bx : 0 ≤ x 13 ∧ x 13 ≤ 1000) (b_y : 0 ≤ y 13 ∧ y 13 ≤ 1000) {q : Nat} (hq : (q : Int) < hI g 401 10) : cH g (app z2 0 x) 1 q + cH g (app z2 0 y) 1 q ≤ cH g z2 0 q + cH g (app (app z2 0 x) 1 y) 2 q := by
  have s1 := (b.2.2.2.2 q (by have := b.2.2.1; omega) hq).1
  have pb := prB b q
  have tb0 : TB z2 0 := fun k hk => absurd hk (by omega)
  have tb1 : ∀ x : Nat → Int, 0 ≤ x 13 ∧ x 13 ≤ 1000 → TB (app z2 0 x) 1 := fun x hx k hk => by
    have : k = 0 := by omega
    subst this; exact hx
  have tb2 : TB (app (app z2 0 x) 1 y) 2 := fun k hk => by
    have : k = 0 ∨ k = 1 := by omega
    rcases this with rfl | rfl
    · exact bx
    · exact b_y
  have mkb := fun k => MK_b b q k
  have ap : ∀ {T : Nat → Nat → Int} {n : Nat}, TB T n → apt T n (qp g q) (MK g q) (RW g q 0 * RW g q 1) ≤ 12000 := fun {T n} tb => by
    have c0 := cstB b tb q 0
    have c1 := cstB b tb q 1
    unfold apt; omega
  unfold cH cNow
  cases rVd g q
  · simp only [if_neg (show ¬ false = true by decide)]
    by_cases s2 : 2 ≤ hI g 408 q
    · simp only [if_pos s2]
      rw [cNow_w (ap (tb1 x bx)), cNow_w (ap (tb1 y b_y)), cNow_w (ap tb0), cNow_w (ap tb2)]
      unfold apt
      have m0 := mkb 0
      have m1 := mkb 1
      rw [cst_w (T := app z2 0 x) (π := qp g q 0) (by omega), cst_w (T := app z2 0 x) (π := qp g q 1) (by omega), cst_w (T := app z2 0 y) (π := qp g q 0) (by omega), cst_w (T := app z2 0 y) (π := qp g q 1) (by omega), cst_w (T := z2) (π := qp g q 0) (by omega), cst_w (T := z2) (π := qp g q 1) (by omega), cst_w (T := app (app z2 0 x) 1 y) (π := qp g q 0) (by omega), cst_w (T := app (app z2 0 x) 1 y) (π := qp g q 1) (by omega), wv_0, wv_0, wv_0, wv_2 hx hy bx.2 b_y.2, wv_2 hx hy bx.2 b_y.2, wv_2 hx hy bx.2 b_y.2, if_neg (show ¬ (1000000 : Int) < MK g q 0 by omega), if_neg (show ¬ (1000000 : Int) < MK g q 1 by omega), if_neg (show ¬ (1000000 : Int) ≤ MK g q 0 + MK g q 1 + RW g q 0 * RW g q 1 by omega)]
      exact mod_p _ _ _ _ _ _ _ _ _ (by omega) (by omega) pb.2
    · simp only [if_neg s2]
      have m0 := mkb (hI g 408 q)
      rw [cst_w (T := app z2 0 x) (by omega), cst_w (T := app z2 0 y) (by omega), cst_w (T := z2) (by omega), cst_w (T := app (app z2 0 x) 1 y) (by omega), wv_0, wv_2 hx hy bx.2 b_y.2, if_neg (show ¬ (1000000 : Int) < MK g q (hI g 408 q) by omega)]
      exact mod_q _ _ _
  · simp
theorem bsum_le4 {on : Nat → Bool} {a b c d : Nat → Int} : ∀ {n : Nat}, (∀ q, q < n → a q + b q ≤ c q + d q) → bsum on a n + bsum on b n ≤ bsum on c n + bsum on d n
  | 0, _ => by simp [bsum]
  | n + 1, e => by
    have := bsum_le4 (on := on) (n := n) (fun q hq => e q (by omega))
    have := e n (by omega)
    rw [bsum, bsum, bsum, bsum]
    split <;> omega
theorem gn_sub (b : MB g) (a c : Nat) : gn2 g a c ≤ gn g z2 0 a + gn g z2 0 c := by
  have b3 := b.2.2.1
  have ra := cR_b b a
  have rc := cR_b b c
  have e15 : ∀ k, cT g k 15 = 0 := fun _ => rfl
  have e13 : ∀ k, cT g k 13 = cR g k := fun _ => rfl
  have := bsum_le4 (on := onH g) (a := cH g (app z2 0 (cT g a)) 1) (b := cH g (app z2 0 (cT g c)) 1) (c := cH g z2 0) (d := cH g (app (app z2 0 (cT g a)) 1 (cT g c)) 2) (n := nQ g) (fun q hq => cH_sub b (e15 a) (e15 c) (by rw [e13]; omega) (by rw [e13]; omega) (by unfold nQ at hq; omega))
  unfold gn2 gn bH
  show bsum (onH g) (cH g z2 0) (nQ g) - bsum (onH g) (cH g (app (app z2 0 (cT g a)) 1 (cT g c)) 2) (nQ g) - (cM g a + cM g c) ≤ bsum (onH g) (cH g z2 0) (nQ g) - bsum (onH g) (cH g (app z2 0 (cT g a)) 1) (nQ g) - cM g a + (bsum (onH g) (cH g z2 0) (nQ g) - bsum (onH g) (cH g (app z2 0 (cT g c)) 1) (nQ g) - cM g c)
  omega
theorem fill_e {a n : Nat} (k : hK h a = (21, n)) (hn : n < 1000) (v : Int) : Ary_fill a v (WI h f) = some ((), WI h (fun x => if x = a then (fun i => if i < n then v else f a i) else f x)) := by
  have kk : ∀ F, hK (WI h F) a = (21, n) := fun _ => k
  have L : ∀ (m i : Nat), i + m = n → ∀ (F : Nat), m < F → Ary_fill_L5 F a v (i : Int) (n : Int) (WI h (fun x => if x = a then (fun j => if j < i then v else f a j) else f x)) = some ((), WI h (fun x => if x = a then (fun j => if j < n then v else f a j) else f x)) := by
    intro m
    induction m with
    | zero =>
      intro i hi F hF
      obtain ⟨F, rfl⟩ : ∃ j, F = j + 1 := ⟨F - 1, by omega⟩
      rw [Ary_fill_L5, if_pos (by omega), show i = n by omega]
    | succ m ih =>
      intro i hi F hF
      obtain ⟨F, rfl⟩ : ∃ j, F = j + 1 := ⟨F - 1, by omega⟩
      rw [Ary_fill_L5, if_neg (by omega), wI_k (kk _) (by omega) (by omega), WI_sI, wr_id (by omega) (by omega), show (i : Int) + 1 = ((i + 1 : Nat) : Int) by omega, tN (i : Int) i rfl, ← ih (i + 1) (by omega) F (by omega)]
      congr 1
      refine WI_ext h (fun x j => ?_)
      rw [up2_e]
      by_cases e : x = a
      · subst e
        simp only [true_and, if_true]
        by_cases e2 : j = i
        · rw [if_pos e2, if_pos (by omega)]
        · rw [if_neg e2]
          by_cases e3 : j < i
          · rw [if_pos e3, if_pos (by omega)]
          · rw [if_neg e3, if_neg (by omega)]
      · simp [e]
  unfold Ary_fill
  rw [aN_k (kk _)]
  have := L n 0 (by omega) FU (by have := FU_big; omega)
  have e : (fun x => if x = a then (fun j => if j < 0 then v else f a j) else f x) = f := by
    funext x; by_cases e : x = a
    · rw [if_pos e, e]; funext j; rw [if_neg (by omega)]
    · rw [if_neg e]
  rw [e] at this
  exact this
/-- writes to what is chosen do not matter -/
theorem CX.wr3 (x : CX h f g T n) {f' : Nat → Nat → Int} (e : ∀ y, y ≠ 301 → y ≠ 325 → y ≠ 326 → f' y = f y) : CX h f' g T n := by
  obtain ⟨a1, a4, a5, a6, a7, a8, ⟨⟨c1, c2, c3⟩, c4⟩, a10, a11, a12, a13⟩ := x
  have r7 := a1.2.2.2.2.2.2.2.2.1
  refine ⟨a1, CQ_to a4 rfl (fun _ _ => rfl) (fun w h1 h2 => e w (by omega) (by omega) (by omega)) a5, a5, a6, a7, ?_, ⟨⟨by rw [e 79 (by decide) (by decide) (by decide)]; exact c1, c2, fun i hi => by rw [e _ (by omega) (by omega) (by omega)]; exact c3 i hi⟩, fun i hi => by rw [e 81 (by decide) (by decide) (by decide), e 82 (by decide) (by decide) (by decide)]; exact c4 i hi⟩, by rw [e 302 (by decide) (by decide) (by decide)]; exact a10, a11, fun i hi t ht => ?_, a13⟩
  · unfold LK; rw [e 75 (by decide) (by decide) (by decide), e 76 (by decide) (by decide) (by decide), e 77 (by decide) (by decide) (by decide)]; exact a8
  · obtain ⟨-, m1, m2⟩ := r7.it (i := i) (by omega)
    rw [← a12 i hi t ht]
    unfold kv
    rw [hI_WI, hI_WI, show hR (WI h f') = hR h from rfl, show hR (WI h f) = hR h from rfl, e _ (by omega) (by omega) (by omega), e _ (by omega) (by omega) (by omega)]
theorem CX.clear (x : CX h f g T n) (T' : Nat → Nat → Int) : CX h (up2 f 302 1 0) g T' 0 :=
  x.to (fun y h1 h2 => up2_ne (by omega)) (by rw [up2_e, if_pos ⟨rfl, rfl⟩]; rfl) (by decide) (fun k hk => absurd hk (by omega)) (fun k hk => absurd hk (by omega))
def BS2 (f : Nat → Nat → Int) (s : Int × Int × Int) : Prop := f 301 6 = s.1 ∧ f 326 0 = s.2.1 ∧ f 326 1 = s.2.2
theorem BS2.to {f' : Nat → Nat → Int} {s : Int × Int × Int} (b : BS2 f s) (c : CHG f f') : BS2 f' s := by
  unfold BS2; rw [c 301 (by omega) (by omega), c 326 (by omega) (by omega)]; exact b
theorem bs1_2 (gg : Nat → Int) (ok : Nat → Bool) : ∀ k, (bs1 gg ok k).2.2 = -1
  | 0 => rfl
  | k + 1 => by rw [bs1]; split; rfl; exact bs1_2 gg ok k
theorem bs1_b (gg : Nat → Int) (ok : Nat → Bool) (hg : ∀ k, gg k ≤ 96000) : ∀ k, 0 ≤ (bs1 gg ok k).1 ∧ (bs1 gg ok k).1 ≤ 96000
  | 0 => by simp [bs1]
  | k + 1 => by
    have := bs1_b gg ok hg k
    have := hg k
    rw [bs1]; split
    · rename_i c
      simp only [Bool.and_eq_true, decide_eq_true_eq] at c
      show 0 ≤ gg k ∧ gg k ≤ 96000
      omega
    · omega
/-- from here on, only 78, 301 to 326 change -/
def CH3 (f f' : Nat → Nat → Int) : Prop := ∀ x, x ≠ 78 → ¬ (301 ≤ x ∧ x < 327) → f' x = f x
theorem CH3.trans {f' f'' : Nat → Nat → Int} (a : CH3 f f') (b : CH3 f' f'') : CH3 f f'' := fun x h1 h2 => by rw [b x h1 h2, a x h1 h2]
theorem CHG.c3 {f' : Nat → Nat → Int} (a : CHG f f') : CH3 f f' := fun x h1 h2 => a x h1 (by omega)
theorem CH3_u (f : Nat → Nat → Int) {a k : Nat} (v : Int) (h1 : 301 ≤ a) (h2 : a < 327) : CH3 f (up2 f a k v) := fun x _ hx => up2_ne (by omega)
theorem best_1 (b : MB g) : ∀ (j k F : Nat) (f : Nat → Nat → Int), CX h f g z2 0 → k + j = (cnd g).length → j < F → BS2 f (bs1 (gn g z2 0) (ok1 g) k) → (∀ i, i < k → f 325 i = gn g z2 0 i) → ∃ f', Chr_takeBest_L18 F 301 (hI g 402 1) (bH g z2 0) (k : Int) (WI h f) = Chr_takeBest_L103 FU 301 (hI g 402 1) (bH g z2 0) 0 (WI h f') ∧ CX h f' g z2 0 ∧ BS2 f' (bs1 (gn g z2 0) (ok1 g) (cnd g).length) ∧ (∀ i, i < (cnd g).length → f' 325 i = gn g z2 0 i) ∧ CH3 f f'
  | 0, k, F + 1, f, x, hk, _, bs, sg => by
    refine ⟨f, ?_, x, by rw [← show k = (cnd g).length by omega]; exact bs, fun i hi => sg i (by omega), fun _ _ _ => rfl⟩
    rw [Chr_takeBest_L18, x.sz, if_pos (by omega)]
  | j + 1, k, F + 1, f, x, hk, hF, bs, sg => by
    have len := cnd_len b
    obtain ⟨r1, r2, r3, r4, r5, r6, r7, r8, r9⟩ := id x.1.2.2
    have k301 : ∀ F, hK (WI h F) 301 = (2, 0) := fun _ => r1
    have k325 : ∀ F, hK (WI h F) 325 = (21, 108) := fun _ => r8
    have k326 : ∀ F, hK (WI h F) 326 = (21, 6) := fun _ => r9
    have tb := x.2.2.2.2.2.2.2.2.2.2
    have gbd := gn_bb b tb k
    have bb1 := bH_bb b tb
    have bb2 := bH_bb b (TB_app b tb k)
    have mk := cM_b b k
    obtain ⟨f1, y1, y2, y3⟩ := x.besides (by decide) (k := k) (by omega)
    have bs1' := bs.to y3
    have n2 : f1 325 = f 325 := y3 325 (by omega) (by omega)
    have x3 : CX h (up2 f1 325 k (gn g z2 0 k)) g z2 0 := y2.wr3 (fun y h1 h2 h3 => up2_ne h2)
    have sg3 : ∀ i, i < k + 1 → up2 f1 325 k (gn g z2 0 k) 325 i = gn g z2 0 i := fun i hi => by
      rw [up2_e]; by_cases e : i = k
      · rw [if_pos ⟨rfl, e⟩, e]
      · rw [if_neg (by omega), n2]; exact sg i (by omega)
    have bs3 : BS2 (up2 f1 325 k (gn g z2 0 k)) (bs1 (gn g z2 0) (ok1 g) k) := by
      unfold BS2; rw [up2_ne (by decide), up2_ne (by decide)]; exact bs1'
    have ih := best_1 b j (k + 1) F
    rw [bs1] at ih
    rw [Chr_takeBest_L18, x.sz, if_neg (by omega), gR_k (k301 _), show hR (WI h f) 301 3 = 325 from r5, rc_k (k301 _), y1, bnd_some, y2.mk1 (by omega), wr_id (z := bH g z2 0 - bH g (app z2 0 (cT g k)) (0 + 1)) (by omega) (by omega), wr_id (z := bH g z2 0 - bH g (app z2 0 (cT g k)) (0 + 1) - cM g k) (by omega) (by omega)]
    rw [show bH g z2 0 - bH g (app z2 0 (cT g k)) (0 + 1) - cM g k = gn g z2 0 k from rfl, wI_k (k325 _) (by omega) (by omega), WI_sI, tN (k : Int) k rfl, x3.rw1 (by omega), wr_id (z := (k : Int) + 1) (by omega) (by omega), show (k : Int) + 1 = ((k + 1 : Nat) : Int) by omega]
    have e325 : up2 f1 325 k (gn g z2 0 k) 325 k = gn g z2 0 k := by rw [up2_e, if_pos ⟨rfl, rfl⟩]
    have c3 : CH3 f (up2 f1 325 k (gn g z2 0 k)) := y3.c3.trans (CH3_u _ _ (by decide) (by decide))
    by_cases c1 : hI g 402 1 < cR g k
    · rw [if_pos c1]
      rw [show ok1 g k = false from decide_eq_false (by omega), Bool.false_and, if_neg (by decide)] at ih
      obtain ⟨f', w1, w2, w3, w4, w5⟩ := ih _ x3 (by omega) (by omega) bs3 sg3
      exact ⟨f', w1, w2, w3, w4, c3.trans w5⟩
    · rw [show ok1 g k = true from decide_eq_true (by omega), Bool.true_and] at ih
      rw [if_neg c1, gR_k (k301 _), show hR (WI h (up2 f1 325 k (gn g z2 0 k))) 301 3 = 325 from r5, aI_k (k325 _) (by omega) (by omega), hI_WI, tN (k : Int) k rfl, e325, gI_k (k301 _), hI_WI, bs3.1]
      by_cases c2 : (bs1 (gn g z2 0) (ok1 g) k).1 < gn g z2 0 k
      · rw [if_pos (decide_eq_true c2)] at ih
        rw [if_neg (by omega), gR_k (k301 _), show hR (WI h (up2 f1 325 k (gn g z2 0 k))) 301 3 = 325 from r5, aI_k (k325 _) (by omega) (by omega), hI_WI, tN (k : Int) k rfl, e325, pI_k (k301 _), WI_sI, gR_k (k301 _), show hR (WI h (up2 (up2 f1 325 k (gn g z2 0 k)) 301 6 (gn g z2 0 k))) 301 4 = 326 from r6, wI_k (k326 _) (by decide) (by decide), WI_sI, show (0 : Int).toNat = 0 from rfl]
        obtain ⟨f', w1, w2, w3, w4, w5⟩ := ih (up2 (up2 (up2 f1 325 k (gn g z2 0 k)) 301 6 (gn g z2 0 k)) 326 0 (k : Int)) (x3.wr3 (fun y h1 h2 h3 => by rw [up2_ne h3, up2_ne h1])) (by omega) (by omega) (by
          refine ⟨?_, ?_, ?_⟩
          · rw [up2_ne (by decide), up2_e, if_pos ⟨rfl, rfl⟩]
          · rw [up2_e, if_pos ⟨rfl, rfl⟩]
          · rw [up2_e, if_neg (by omega), up2_ne (by decide), up2_ne (by decide), bs1'.2.2]; exact bs1_2 _ _ _) (fun i hi => by rw [up2_ne (by decide), up2_ne (by decide)]; exact sg3 i hi)
        exact ⟨f', w1, w2, w3, w4, c3.trans ((CH3_u _ _ (by decide) (by decide)).trans ((CH3_u _ _ (by decide) (by decide)).trans w5))⟩
      · rw [if_neg (by simpa using c2)] at ih
        rw [if_pos (by omega)]
        obtain ⟨f', w1, w2, w3, w4, w5⟩ := ih _ x3 (by omega) (by omega) bs3 sg3
        exact ⟨f', w1, w2, w3, w4, c3.trans w5⟩
theorem best_i (b : MB g) {a : Nat} (ha : a < (cnd g).length) : ∀ (j c F : Nat) (f : Nat → Nat → Int) (s : Int × Int × Int), CX h f g (app z2 0 (cT g a)) 1 → c + j = (cnd g).length → j < F → BS2 f s → (0 ≤ s.1 ∧ s.1 ≤ 1000000) → (∀ i, i < (cnd g).length → f 325 i = gn g z2 0 i) → ∃ f', Chr_takeBestPair_L17 F 301 (a : Int) (bH g z2 0) (hI g 402 1) (c : Int) (WI h f) = some ((), WI h f') ∧ (∃ T' n', CX h f' g T' n') ∧ BS2 f' (bsI (gn2 g) (ok2 g) a j c s) ∧ (0 ≤ (bsI (gn2 g) (ok2 g) a j c s).1 ∧ (bsI (gn2 g) (ok2 g) a j c s).1 ≤ 1000000) ∧ (∀ i, i < (cnd g).length → f' 325 i = gn g z2 0 i) ∧ CH3 f f'
  | 0, c, F + 1, f, s, x, hc, _, bs, sb, sg => by
    refine ⟨f, ?_, ⟨_, _, x⟩, bs, sb, sg, fun _ _ _ => rfl⟩
    rw [Chr_takeBestPair_L17, x.sz, if_pos (by omega)]
  | j + 1, c, F + 1, f, s, x, hc, hF, bs, sb, sg => by
    have len := cnd_len b
    obtain ⟨r1, r2, r3, r4, r5, r6, r7, r8, r9⟩ := id x.1.2.2
    have k301 : ∀ F, hK (WI h F) 301 = (2, 0) := fun _ => r1
    have k325 : ∀ F, hK (WI h F) 325 = (21, 108) := fun _ => r8
    have k326 : ∀ F, hK (WI h F) 326 = (21, 6) := fun _ => r9
    have tb0 : TB z2 0 := fun k hk => absurd hk (by omega)
    have tb := x.2.2.2.2.2.2.2.2.2.2
    have ga := gn_bb b tb0 a
    have gc := gn_bb b tb0 c
    have gs := gn_sub b a c
    have bb0 := bH_bb b tb0
    have bb2 := bH_bb b (TB_app b tb c)
    have ma := cM_b b a
    have mc := cM_b b c
    have ra := cR_b b a
    have rc' := cR_b b c
    have ih := best_i b ha j (c + 1) F
    rw [bsI]
    rw [Chr_takeBestPair_L17, x.sz, if_neg (by omega), gR_k (k301 _), show hR (WI h f) 301 3 = 325 from r5, aI_k (k325 _) (by omega) (by omega), hI_WI, tN (a : Int) a rfl, sg a ha, gR_k (k301 _), show hR (WI h f) 301 3 = 325 from r5, aI_k (k325 _) (by omega) (by omega), hI_WI, tN (c : Int) c rfl, sg c (by omega), gI_k (k301 _), hI_WI, bs.1, wr_id (by omega) (by omega)]
    unfold Chr_takeBestPair_L55
    rw [wr_id (z := (c : Int) + 1) (by omega) (by omega), show (c : Int) + 1 = ((c + 1 : Nat) : Int) by omega, if_pos (show ¬ (1 : Int) = 0 by decide), if_neg (show ¬ ¬ (0 : Int) = 0 by decide), x.rw1 ha, x.rw1 (k := c) (by omega), wr_id (z := cR g a + cR g c) (by omega) (by omega)]
    have skip : (ok2 g a c && decide (s.1 < gn2 g a c)) = false → ∃ f', Chr_takeBestPair_L17 F 301 (a : Int) (bH g z2 0) (hI g 402 1) ((c + 1 : Nat) : Int) (WI h f) = some ((), WI h f') ∧ (∃ T' n', CX h f' g T' n') ∧ BS2 f' (bsI (gn2 g) (ok2 g) a j (c + 1) (if ok2 g a c && decide (s.1 < gn2 g a c) then (gn2 g a c, (a : Int), (c : Int)) else s)) ∧ (0 ≤ (bsI (gn2 g) (ok2 g) a j (c + 1) (if ok2 g a c && decide (s.1 < gn2 g a c) then (gn2 g a c, (a : Int), (c : Int)) else s)).1 ∧ (bsI (gn2 g) (ok2 g) a j (c + 1) (if ok2 g a c && decide (s.1 < gn2 g a c) then (gn2 g a c, (a : Int), (c : Int)) else s)).1 ≤ 1000000) ∧ (∀ i, i < (cnd g).length → f' 325 i = gn g z2 0 i) ∧ CH3 f f' := fun e => by
      rw [e, if_neg (by decide)]
      exact ih f s x (by omega) (by omega) bs sb sg
    by_cases c1 : s.1 < gn g z2 0 a + gn g z2 0 c
    · rw [if_pos c1]
      by_cases c2 : cR g a + cR g c ≤ hI g 402 1
      · have okt : ok2 g a c = true := decide_eq_true c2
        obtain ⟨f1, y1, y2, y3⟩ := x.besides (by decide) (k := c) (by omega)
        have bs1' := bs.to y3
        rw [if_pos c2, rc_k (k301 _), y1, bnd_some, y2.mk1 ha, y2.mk1 (k := c) (by omega), gI_k (k301 _), hI_WI, bs1'.1]
        have eg : bH g z2 0 - bH g (app (app z2 0 (cT g a)) 1 (cT g c)) (1 + 1) - cM g a - cM g c = gn2 g a c := by unfold gn2; show _ - bH g (app (app z2 0 (cT g a)) 1 (cT g c)) 2 - _ - _ = _; omega
        rw [wr_id (z := bH g z2 0 - bH g (app (app z2 0 (cT g a)) 1 (cT g c)) (1 + 1)) (by omega) (by omega), wr_id (z := bH g z2 0 - bH g (app (app z2 0 (cT g a)) 1 (cT g c)) (1 + 1) - cM g a) (by omega) (by omega), wr_id (z := bH g z2 0 - bH g (app (app z2 0 (cT g a)) 1 (cT g c)) (1 + 1) - cM g a - cM g c) (by omega) (by omega), eg]
        have sg1 : ∀ i, i < (cnd g).length → f1 325 i = gn g z2 0 i := fun i hi => by rw [y3 325 (by omega) (by omega)]; exact sg i hi
        by_cases c3 : s.1 < gn2 g a c
        · rw [if_neg (by omega), okt, decide_eq_true c3, if_pos (show (true && true) = true from rfl), pI_k (k301 _), WI_sI, gR_k (k301 _), show hR (WI h (up2 f1 301 6 (gn2 g a c))) 301 4 = 326 from r6, wI_k (k326 _) (by decide) (by decide), WI_sI, gR_k (k301 _), show hR (WI h (up2 (up2 f1 301 6 (gn2 g a c)) 326 (0 : Int).toNat (a : Int))) 301 4 = 326 from r6, wI_k (k326 _) (by decide) (by decide), WI_sI, show (0 : Int).toNat = 0 from rfl, show (1 : Int).toNat = 1 from rfl]
          obtain ⟨f', w1, w2, w3, w4, w5, w6⟩ := ih (up2 (up2 (up2 f1 301 6 (gn2 g a c)) 326 0 (a : Int)) 326 1 (c : Int)) (gn2 g a c, (a : Int), (c : Int)) (y2.wr3 (fun y h1 h2 h3 => by rw [up2_ne h3, up2_ne h3, up2_ne h1])) (by omega) (by omega) (by
            refine ⟨?_, ?_, ?_⟩
            · rw [up2_ne (by decide), up2_ne (by decide), up2_e, if_pos ⟨rfl, rfl⟩]
            · rw [up2_e, if_neg (by omega), up2_e, if_pos ⟨rfl, rfl⟩]
            · rw [up2_e, if_pos ⟨rfl, rfl⟩]) (by show 0 ≤ gn2 g a c ∧ gn2 g a c ≤ 1000000; omega) (fun i hi => by rw [up2_ne (by decide), up2_ne (by decide), up2_ne (by decide)]; exact sg1 i hi)
          exact ⟨f', w1, w2, w3, w4, w5, y3.c3.trans ((CH3_u _ _ (by decide) (by decide)).trans ((CH3_u _ _ (by decide) (by decide)).trans ((CH3_u _ _ (by decide) (by decide)).trans w6)))⟩
        · rw [if_pos (by omega), okt, decide_eq_false c3, if_neg (show ¬ (true && false) = true by decide)]
          obtain ⟨f', w1, w2, w3, w4, w5, w6⟩ := ih f1 s y2 (by omega) (by omega) bs1' sb sg1
          exact ⟨f', w1, w2, w3, w4, w5, y3.c3.trans w6⟩
      · rw [if_neg c2]
        exact skip (by rw [show ok2 g a c = false from decide_eq_false c2]; rfl)
    · rw [if_neg c1]
      exact skip (by rw [decide_eq_false (show ¬ s.1 < gn2 g a c by omega), Bool.and_false])
theorem best_o (b : MB g) : ∀ (j a F : Nat) (f : Nat → Nat → Int) (s : Int × Int × Int), (∃ T' n', CX h f g T' n') → a + j = (cnd g).length → j < F → BS2 f s → (0 ≤ s.1 ∧ s.1 ≤ 1000000) → (∀ i, i < (cnd g).length → f 325 i = gn g z2 0 i) → ∃ f', Chr_takeBest_L103 F 301 (hI g 402 1) (bH g z2 0) (a : Int) (WI h f) = some ((), WI h f') ∧ BS2 f' (bsO (gn2 g) (ok2 g) (cnd g).length j a s) ∧ CH3 f f'
  | 0, a, F + 1, f, s, ⟨T', n', x⟩, ha, _, bs, sb, sg => by
    refine ⟨f, ?_, bs, fun _ _ _ => rfl⟩
    rw [Chr_takeBest_L103, x.sz, if_pos (by omega)]
  | j + 1, a, F + 1, f, s, ⟨T', n', x⟩, ha, hF, bs, sb, sg => by
    have len := cnd_len b
    have big := FU_big
    obtain ⟨r1, r2, r3, r4, r5, r6, r7, r8, r9⟩ := id x.1.2.2
    have k301 : ∀ F, hK (WI h F) 301 = (2, 0) := fun _ => r1
    have x0 := x.clear z2
    have c0 : CHG f (up2 f 302 1 0) := fun y h1 h2 => up2_ne (by omega)
    obtain ⟨f1, y1, y2, y3⟩ := x0.add (by decide) (k := a) (by omega)
    obtain ⟨f2, z1, z2', z3, z4, z5, z6⟩ := best_i b (a := a) (by omega) ((cnd g).length - (a + 1)) (a + 1) FU f1 s y2 (by omega) (by omega) (bs.to (c0.trans y3)) sb (fun i hi => by rw [(c0.trans y3) 325 (by omega) (by omega)]; exact sg i hi)
    obtain ⟨f3, w1, w2, w3⟩ := best_o b j (a + 1) F f2 _ z2' (by omega) (by omega) z3 z4 z5
    refine ⟨f3, ?_, by rw [bsO]; exact w2, (c0.trans y3).c3.trans (z6.trans w3)⟩
    rw [Chr_takeBest_L103, x.sz, if_neg (by omega), rc_k (k301 _)]
    unfold Chr_takeBestPair She_clear
    rw [gR_k (k301 _), show hR (WI h f) 301 2 = 302 from r4, rc_k (h := WI h f) r7.1, pI_k (h := WI h f) r7.1, bnd_some, WI_sI, rc_k (k301 _), y1, bnd_some, wr_id (z := (a : Int) + 1) (by omega) (by omega), show (a : Int) + 1 = ((a + 1 : Nat) : Int) by omega, z1, bnd_some, w1]
theorem takeNothing_e (x : CX h f g T n) : ∃ f', Chr_takeNothing 301 (WI h f) = some ((), WI h f') ∧ CX h f' g z2 0 ∧ f' 301 5 = 0 ∧ f' 301 6 = 0 ∧ (∀ i, i < 6 → f' 326 i = -1) ∧ CH3 f f' := by
  obtain ⟨r1, r2, r3, r4, r5, r6, r7, r8, r9⟩ := id x.1.2.2
  have k301 : ∀ F, hK (WI h F) 301 = (2, 0) := fun _ => r1
  have x0 := x.clear z2
  have F3 := fill_e (f := up2 f 302 1 0) r9 (by decide) (-1)
  generalize hF : (fun y => if y = 326 then (fun i => if i < 6 then (-1 : Int) else up2 f 302 1 0 326 i) else up2 f 302 1 0 y) = F at F3
  have fn : ∀ y, y ≠ 326 → F y = up2 f 302 1 0 y := fun y hy => by rw [← hF]; exact if_neg hy
  have f6 : ∀ i, i < 6 → F 326 i = -1 := fun i hi => by rw [← hF]; show (if 326 = 326 then (fun i => if i < 6 then (-1 : Int) else up2 f 302 1 0 326 i) else up2 f 302 1 0 326) i = -1; rw [if_pos rfl, if_pos hi]
  refine ⟨up2 (up2 F 301 5 0) 301 6 0, ?_, x0.wr3 (fun y h1 h2 h3 => by rw [up2_ne h1, up2_ne h1, fn y h3]), ?_, ?_, fun i hi => ?_, fun y h1 h2 => ?_⟩
  · unfold Chr_takeNothing She_clear
    rw [gR_k (k301 _), show hR (WI h f) 301 2 = 302 from r4, rc_k (h := WI h f) r7.1, pI_k (h := WI h f) r7.1, bnd_some, WI_sI, gR_k (k301 _), show hR (WI h (up2 f 302 1 0)) 301 4 = 326 from r6, F3, bnd_some, pI_k (k301 _), WI_sI, pI_k (k301 _), WI_sI]
  · rw [up2_e, if_neg (by omega), up2_e, if_pos ⟨rfl, rfl⟩]
  · rw [up2_e, if_pos ⟨rfl, rfl⟩]
  · rw [up2_ne (by decide), up2_ne (by decide)]; exact f6 i hi
  · rw [up2_ne (by omega), up2_ne (by omega), fn y (by omega), up2_ne (by omega)]
theorem takeBest_e (x : CX h f g T n) : ∃ f', Chr_takeBest 301 (hI g 402 1) (WI h f) = some ((), WI h f') ∧ BS2 f' (bst g) ∧ CH3 f f' := by
  have b := x.2.2.1
  have len := cnd_len b
  have big := FU_big
  obtain ⟨r1, r2, r3, r4, r5, r6, r7, r8, r9⟩ := id x.1.2.2
  have k301 : ∀ F, hK (WI h F) 301 = (2, 0) := fun _ => r1
  have tb0 : TB z2 0 := fun k hk => absurd hk (by omega)
  obtain ⟨f1, y1, y2, y3, y4, y5, y6⟩ := takeNothing_e x
  obtain ⟨f2, z1, z2', z3⟩ := y2.batch
  have bs : BS2 f2 (bs1 (gn g z2 0) (ok1 g) 0) := by
    have : BS2 f1 (0, -1, -1) := ⟨y4, y5 0 (by decide), y5 1 (by decide)⟩
    exact this.to z3
  obtain ⟨f3, w1, w2, w3, w4, w5⟩ := best_1 b (cnd g).length 0 FU f2 z2' (by omega) (by omega) bs (fun i hi => by omega)
  obtain ⟨f4, v1, v2, v3⟩ := best_o b (cnd g).length 0 FU f3 _ ⟨_, _, w2⟩ (by omega) (by omega) w3 (by have := bs1_b (gn g z2 0) (ok1 g) (fun k => (gn_bb b tb0 k).2) (cnd g).length; omega) w4
  refine ⟨f4, ?_, v2, y6.trans (z3.c3.trans (w5.trans v3))⟩
  unfold Chr_takeBest
  rw [show ((0 : Nat) : Int) = 0 from rfl] at w1 v1
  rw [rc_k (k301 _), y1, bnd_some, gR_k (k301 _), show hR (WI h f1) 301 0 = 75 from r2, gR_k (k301 _), show hR (WI h f1) 301 2 = 302 from r4, rc_k (h := WI h f1) x.1.1.1, z1, bnd_some, w1, v1]
theorem takeGreedily_e (x : CX h f g T n) : ∃ f', Chr_takeGreedily 301 (hI g 402 1) (WI h f) = some ((), WI h f') ∧ GS2 f' (grL g 6 [] 0 0).1 (grL g 6 [] 0 0).2 ∧ CH3 f f' := by
  obtain ⟨r1, r2, r3, r4, r5, r6, r7, r8, r9⟩ := id x.1.2.2
  obtain ⟨f1, y1, y2, y3, y4, y5, y6⟩ := takeNothing_e x
  obtain ⟨f2, z1, z2', z3, z4, -⟩ := greedy_c (h := h) (g := g) 6 FU f1 [] 0 0 (by decide) (by decide) (y2.tt (T' := chT g []) (fun k hk => absurd hk (by omega))) ⟨y3, y4, fun i hi => by rw [y5 i hi]; rfl⟩ (by decide) (by decide) (by decide) (by decide)
  refine ⟨f2, ?_, z2', y6.trans (fun w h1 h2 => ?_)⟩
  · unfold Chr_takeGreedily
    rw [rc_k (h := WI h f) r1, y1, bnd_some]
    rw [show hI g 402 1 - 0 = hI g 402 1 by omega] at z1
    exact z1
  · by_cases c : 79 ≤ w ∧ w < 301
    · exact z4 w c.1 c.2
    · exact z3 w (by omega)
/-- what a choice gains beside a shelf -/
theorem gainBesides_e (x : CX h f g T n) {s R m : Nat} (sh : SH h s R) (hs : s + 2 + 3 * R ≤ 75) (hm : f s 1 = m) (hRm : m ≤ R) (h6 : m ≤ 6) (st : ∀ i, i < m → kv (WI h f) s i 15 = 0 ∨ kv (WI h f) s i 15 = 1) {U : Nat → Nat → Int} (eu : eqT (kv (WI h f) s) U m) (tu : TB U m) {k : Nat} (hk : k < (cnd g).length) : ∃ f', Chr_gainBesides 301 (k : Int) s (WI h f) = some (gn g U m k, WI h f') ∧ CH3 f f' := by
  have b := x.2.2.1
  obtain ⟨r1, r2, r3, r4, r5, r6, r7, r8, r9⟩ := id x.1.2.2
  have k301 : ∀ F, hK (WI h F) 301 = (2, 0) := fun _ => r1
  obtain ⟨f1, y1, y2, y3, y4⟩ := She_copy_e (f := f) r7 sh (by omega) hm (by omega) hRm (by omega) (by decide) st
  have c1 : CHG f f1 := fun w h1 h2 => y2 w (by omega)
  have x1 : CX h f1 g U m := x.to c1 y3 (by omega) (fun i hi t ht => by rw [y4 i hi t ht]; exact eu i hi t ht) tu
  obtain ⟨f2, z1, z2', z3⟩ := x1.batch
  obtain ⟨f3, w1, w2, w3⟩ := z2'.besides h6 hk
  have bb1 := bH_bb b tu
  have bb2 := bH_bb b (TB_app b tu k)
  have mk := cM_b b k
  refine ⟨f3, ?_, c1.c3.trans (z3.c3.trans w3.c3)⟩
  unfold Chr_gainBesides
  rw [gR_k (k301 _), show hR (WI h f) 301 2 = 302 from r4, rc_k (h := WI h f) r7.1, y1, bnd_some, gR_k (k301 _), show hR (WI h f1) 301 0 = 75 from r2, gR_k (k301 _), show hR (WI h f1) 301 2 = 302 from r4, rc_k (h := WI h f1) x.1.1.1, z1, bnd_some, rc_k (k301 _), w1, bnd_some, w2.mk1 hk, wr_id (z := bH g U m - bH g (app U m (cT g k)) (m + 1)) (by omega) (by omega), wr_id (by omega) (by omega)]
  rfl
end C9
