/-! Level 2: the class: the chooser -/
def CR2 (h : AH) : Prop := hK h 301 = (2, 0) ∧ hR h 301 0 = 75 ∧ hR h 301 1 = 79 ∧ hR h 301 2 = 302 ∧ hR h 301 3 = 325 ∧ hR h 301 4 = 326 ∧ SH h 302 7 ∧ hK h 325 = (21, 108) ∧ hK h 326 = (21, 6)
section C8
variable {h g : AH} {f : Nat → Nat → Int} {T : Nat → Nat → Int} {n : Nat}
theorem She_add_e {s R p N : Nat} (sh : SH h s R) (hN : N < R) (hR1 : R < 100) (e : f s 1 = N) (p1 : PA h p) (hp : p + 2 ≤ s ∨ s + 2 + 3 * R ≤ p) (rows tm : Int) : ∃ f', She_add s p rows tm (WI h f) = some ((), WI h f') ∧ IN f f' s (s + 2 + 3 * R) ∧ f' s 1 = (N + 1 : Nat) ∧ (∀ i, i < N → kv (WI h f') s i = kv (WI h f) s i) ∧ ∀ u, u < 16 → kv (WI h f') s N u = if u < 13 then f (p + 1) u else if u = 13 then rows else if u = 14 then tm else 0 := by
  obtain ⟨ke, k1, k2⟩ := sh.it (i := N) hN
  obtain ⟨e1, e2, e3⟩ := ke
  have sg : ∀ F, SH (WI h F) s R := fun _ => sh
  have ks : ∀ F, hK (WI h F) s = (8, 0) := fun _ => sh.1
  have kk : ∀ F, hK (WI h F) (hR h (s + 1) N) = (3, 0) := fun _ => e1
  obtain ⟨f1, x1, x2, x3⟩ := Par_copy_e (f := f) e3 p1
  have x2s : f1 s = f s := x2 s (by omega)
  have gN : ∀ (F : Nat → Nat → Int) {β : Type} (k : Nat → Option β), F s 1 = N → (gR (WI h F) 8 s 0 fun r => gI (WI h F) 8 s 1 fun x => aR (WI h F) 35 r x k) = k (hR h (s + 1) N) := fun F β k hF => by
    rw [gR_k (ks F), show hR (WI h F) s 0 = s + 1 from sh.2.1, gI_k (ks F), hI_WI, hF, aR_k (h := WI h F) sh.2.2.1 (by omega) (by omega)]; rfl
  generalize hκ : hR h (s + 1) N = κ at *
  have nk : s ≠ κ := by omega
  unfold She_add
  rw [gI_k (ks _), hI_WI, e, gR_k (ks _), show hR (WI h f) s 0 = s + 1 from sh.2.1, aN_k (h := WI h f) sh.2.2.1, if_pos (by omega), gN f _ e, gR_k (kk _), show hR (WI h f) κ 0 = κ + 1 from e2, rc_k (h := WI h f) e3.1, x1, bnd_some, gN f1 _ (by rw [x2s]; exact e), pI_k (kk _), WI_sI, gN _ _ (by rw [up2_ne nk, x2s]; exact e), pI_k (kk _), WI_sI, gN _ _ (by rw [up2_ne nk, up2_ne nk, x2s]; exact e), pZ_k (kk _) (Or.inl rfl), WI_sI, gI_k (ks _), hI_WI, up2_ne nk, up2_ne nk, up2_ne nk, x2s, e, wr_id (by omega) (by omega), pI_k (ks _), WI_sI]
  generalize hF : up2 (up2 (up2 (up2 f1 κ 1 rows) κ 2 tm) κ 3 0) s 1 ((N : Int) + 1) = F
  have fF : ∀ x, x ≠ s → x ≠ κ → x ≠ κ + 2 → F x = f x := fun x h1 h2 h3 => by rw [← hF, up2_ne h1, up2_ne h2, up2_ne h2, up2_ne h2, x2 x (by omega)]
  refine ⟨F, rfl, fun x hx => fF x (by omega) (by omega) (by omega), ?_, fun i hi => ?_, fun u hu => ?_⟩
  · rw [← hF, up2_e, if_pos ⟨rfl, rfl⟩]; omega
  · obtain ⟨-, m1, m2⟩ := sh.it (i := i) (by omega)
    have ap := kep_apart sh (i := i) (j := N) (by omega) hN (by omega)
    rw [hκ] at ap
    funext t
    unfold kv
    rw [hI_WI, hI_WI, show hR (WI h F) = hR h from rfl, show hR (WI h f) = hR h from rfl, fF _ (by omega) (by omega) (by omega), fF _ (by omega) (by omega) (by omega)]
  · unfold kv
    rw [hI_WI, show hR (WI h F) (s + 1) N = κ from hκ]
    by_cases c : u < 13
    · rw [if_pos c, if_pos c, ← hF, up2_ne (by omega), up2_ne (by omega), up2_ne (by omega), up2_ne (by omega)]
      exact x3 u c
    · rw [if_neg c, if_neg c]
      have : u = 13 ∨ u = 14 ∨ u = 15 := by omega
      rcases this with rfl | rfl | rfl
      · rw [if_pos rfl, ← hF, up2_ne (Ne.symm nk), up2_e, if_neg (by omega), up2_e, if_neg (by omega), up2_e, if_pos ⟨rfl, rfl⟩]
      · rw [if_neg (by decide), if_pos rfl, ← hF, up2_ne (Ne.symm nk), up2_e, if_neg (by omega), up2_e, if_pos ⟨rfl, rfl⟩]
      · rw [if_neg (by decide), if_neg (by decide), ← hF, up2_ne (Ne.symm nk), up2_e, if_pos ⟨rfl, rfl⟩]
theorem sR_id (h : AH) (a k : Nat) : sR h a k (hR h a k) = h := by
  obtain ⟨x1, x2, x3, x4, x5⟩ := h
  show (x1, x2, x3, x4, up2 x5 a k (x5 a k)) = _
  have : up2 x5 a k (x5 a k) = x5 := by
    funext b j; rw [up2_e]; split
    · rename_i c; rw [c.1, c.2]
    · rfl
  rw [this]
theorem She_dropLast {s R N : Nat} (sh : SH h s R) (hN : N < R) (hR1 : R < 100) (e : f s 1 = (N + 1 : Nat)) : She_drop s (N : Int) (WI h f) = some ((), WI h (up2 f s 1 N)) := by
  obtain ⟨ke, k1, k2⟩ := sh.it (i := N) hN
  have ks : ∀ F, hK (WI h F) s = (8, 0) := fun _ => sh.1
  have sg : ∀ F, SH (WI h F) s R := fun _ => sh
  unfold She_drop
  rw [if_neg (by omega), gI_k (ks _), hI_WI, e, if_pos (by omega), (sg f).g hN, if_neg (by show ¬ hR h (s + 1) N = 0; omega), show FU = 999999 + 1 from rfl, She_drop_L22, gI_k (ks _), hI_WI, e, wr_id (by omega) (by omega), if_pos (by omega), gR_k (ks _), show hR (WI h f) s 0 = s + 1 from sh.2.1, gI_k (ks _), hI_WI, e, wr_id (by omega) (by omega), wR_k (h := WI h f) sh.2.2.1 (by omega) (by omega) (show hK (WI h f) (hR (WI h f) (s + 1) N) = (3, 0) from ke.1), tN (((N + 1 : Nat) : Int) - 1) N (by omega), sR_id, gI_k (ks _), hI_WI, e, wr_id (by omega) (by omega), pI_k (ks _), WI_sI, show ((N + 1 : Nat) : Int) - 1 = N by omega]
/-- what the chooser needs; what is on trial -/
def CX (h : AH) (f : Nat → Nat → Int) (g : AH) (T : Nat → Nat → Int) (n : Nat) : Prop := (PS h ∧ CHS h ∧ CR2 h) ∧ CQ (WI h f) g ∧ MB g ∧ MS g ∧ RB (rr (hI g)) ∧ LK f g ∧ CM2 f g ∧ f 302 1 = n ∧ n ≤ 7 ∧ eqT (kv (WI h f) 302) T n ∧ TB T n
def CHG (f f' : Nat → Nat → Int) : Prop := ∀ x, x ≠ 78 → ¬ (302 ≤ x ∧ x < 325) → f' x = f x
theorem CHG.refl (f : Nat → Nat → Int) : CHG f f := fun _ _ _ => rfl
theorem CHG.trans {f' f'' : Nat → Nat → Int} (a : CHG f f') (b : CHG f' f'') : CHG f f'' := fun x h1 h2 => by rw [b x h1 h2, a x h1 h2]
theorem CX.px (x : CX h f g T n) : PX h f g 302 7 := by
  obtain ⟨⟨a1, a2, a3⟩, a4, a5, a6, a7, a8, a9, a10, a11, a12, a13⟩ := x
  refine ⟨a1, a4, a5, a8, a3.2.2.2.2.2.2.1, Or.inr (by decide), by decide, by omega, ?_⟩
  rw [a10]
  intro k hk
  rw [a12 k hk 13 (by decide)]; exact a13 k hk
theorem CX.to {f' : Nat → Nat → Int} {T' : Nat → Nat → Int} {n' : Nat} (x : CX h f g T n) (c : CHG f f') (e1 : f' 302 1 = n') (h7 : n' ≤ 7) (et : eqT (kv (WI h f') 302) T' n') (tb : TB T' n') : CX h f' g T' n' := by
  obtain ⟨a1, a4, a5, a6, a7, a8, a9, a10, a11, a12, a13⟩ := x
  obtain ⟨⟨c1, c2, c3⟩, c4⟩ := a9
  refine ⟨a1, CQ_to a4 rfl (fun _ _ => rfl) (fun x h1 h2 => c x (by omega) (by omega)) a5, a5, a6, a7, ?_, ⟨⟨?_, c2, fun i hi => ?_⟩, fun i hi => ?_⟩, e1, h7, et, tb⟩
  · obtain ⟨l1, l2, l3, l4, l5⟩ := a8
    unfold LK
    rw [c 75 (by omega) (by omega), c 76 (by omega) (by omega), c 77 (by omega) (by omega)]
    exact ⟨l1, l2, l3, l4, l5⟩
  · rw [c 79 (by omega) (by omega)]; exact c1
  · rw [c _ (by omega) (by omega)]; exact c3 i hi
  · rw [c 81 (by omega) (by omega), c 82 (by omega) (by omega)]; exact c4 i hi
theorem CX.batch (x : CX h f g T n) : ∃ f', Pri_batchBy 75 302 (WI h f) = some (bH g T n, WI h f') ∧ CX h f' g T n ∧ CHG f f' := by
  obtain ⟨v, e⟩ := Pri_batchBy_e x.px x.2.2.2.2.1
  have c : CHG f (s78 f v) := fun y h1 _ => s78_n _ _ h1
  obtain ⟨a1, a4, a5, a6, a7, a8, a9, a10, a11, a12, a13⟩ := id x
  rw [a10, show ((n : Nat) : Int).toNat = n from rfl, bH_cc a5 a12] at e
  refine ⟨_, e, x.to c (by rw [s78_n _ _ (by decide)]; exact a10) a11 ?_ a13, c⟩
  intro k hk t ht
  rw [kv_78 a1.2.2.2.2.2.2.2.2.1 (Or.inr (by decide)) v (by omega)]
  exact a12 k hk t ht
theorem TB_app (b : MB g) (tb : TB T n) (k : Nat) : TB (app T n (cT g k)) (n + 1) := fun j hj => by
  unfold app
  by_cases e : j = n
  · rw [if_pos e]
    have := cR_b b k
    show 0 ≤ cR g k ∧ cR g k ≤ 1000
    omega
  · rw [if_neg e]; exact tb j (by omega)
theorem CX.add (x : CX h f g T n) (hn : n ≤ 6) {k : Nat} (hk : k < (cnd g).length) : ∃ f', Chr_addToTrial 301 (k : Int) (WI h f) = some ((), WI h f') ∧ CX h f' g (app T n (cT g k)) (n + 1) ∧ CHG f f' := by
  obtain ⟨⟨a1, a2, a3⟩, a4, a5, a6, a7, a8, ⟨⟨c1, c2, c3⟩, c4⟩, a10, a11, a12, a13⟩ := id x
  obtain ⟨r1, r2, r3, r4, r5, r6, r7, r8, r9⟩ := a3
  have pk := (a2.2.2.2.2.2.2.2.2.2 k (by omega)).2
  obtain ⟨f', y1, y2, y3, y4, y5⟩ := She_add_e (f := f) r7 (N := n) (by omega) (by decide) a10 pk (by omega) (cR g k) 0
  have c : CHG f f' := fun z h1 h2 => y2 z (by omega)
  refine ⟨f', ?_, x.to c y3 (by omega) (fun j hj t ht => ?_) (TB_app a5 a13 k), c⟩
  · have k301 : ∀ F, hK (WI h F) 301 = (2, 0) := fun _ => r1
    have k79 : ∀ F, hK (WI h F) 79 = (1, 0) := fun _ => a2.1
    unfold Chr_addToTrial
    rw [gR_k (k301 _), show hR (WI h f) 301 2 = 302 from r4, gR_k (k301 _), show hR (WI h f) 301 1 = 79 from r3, a2.ix (by omega), gR_k (k301 _), show hR (WI h f) 301 1 = 79 from r3, gR_k (k79 _), show hR (WI h f) 79 1 = 81 from a2.2.2.1, aI_k (h := WI h f) a2.2.2.2.2.2.2.1 (by omega) (by omega), hI_WI, tN (k : Int) k rfl, (c4 k hk).1, rc_k (h := WI h f) r7.1, y1, bnd_some]
  · unfold app
    by_cases e : j = n
    · rw [if_pos e, e, y5 t ht]
      unfold cT
      by_cases d : t < 13
      · rw [if_pos d, if_pos d, show 85 + 2 * k + 1 = 86 + 2 * k by omega]; exact c3 k hk t d
      · rw [if_neg d, if_neg d]
        by_cases d2 : t = 13
        · rw [if_pos d2, if_pos d2]
        · rw [if_neg d2, if_neg d2]; split <;> rfl
    · rw [if_neg e, y4 j (by omega)]; exact a12 j (by omega) t ht
theorem CX.besides (x : CX h f g T n) (hn : n ≤ 6) {k : Nat} (hk : k < (cnd g).length) : ∃ f', Chr_batchBesides 301 (k : Int) (WI h f) = some (bH g (app T n (cT g k)) (n + 1), WI h f') ∧ CX h f' g T n ∧ CHG f f' := by
  obtain ⟨f1, y1, y2, y3⟩ := x.add hn hk
  obtain ⟨f2, z1, z2, z3⟩ := y2.batch
  obtain ⟨⟨a1, a2, a3⟩, -⟩ := id x
  obtain ⟨r1, r2, r3, r4, r5, r6, r7, r8, r9⟩ := a3
  have k301 : ∀ F, hK (WI h F) 301 = (2, 0) := fun _ => r1
  have e2 : f2 302 1 = ((n + 1 : Nat) : Int) := z2.2.2.2.2.2.2.2.1
  have c : CHG f (up2 f2 302 1 n) := fun w h1 h2 => by rw [up2_ne (by omega), z3 w h1 h2, y3 w h1 h2]
  have dl := She_dropLast (f := f2) r7 (N := n) (by omega) (by decide) e2
  refine ⟨up2 f2 302 1 n, ?_, x.to c (by rw [up2_e, if_pos ⟨rfl, rfl⟩]) (by omega) (fun j hj t ht => ?_) x.2.2.2.2.2.2.2.2.2.2, c⟩
  · unfold Chr_batchBesides
    rw [rc_k (k301 _), y1, bnd_some, gR_k (k301 _), show hR (WI h f1) 301 0 = 75 from r2, gR_k (k301 _), show hR (WI h f1) 301 2 = 302 from r4, rc_k (h := WI h f1) a1.1, z1, bnd_some, gR_k (k301 _), show hR (WI h f2) 301 2 = 302 from r4, gR_k (k301 _), show hR (WI h f2) 301 2 = 302 from r4, gI_k (h := WI h f2) r7.1, hI_WI, e2, wr_id (by omega) (by omega), rc_k (h := WI h f2) r7.1, show ((n + 1 : Nat) : Int) - 1 = n by omega, dl, bnd_some]
  · obtain ⟨-, m1, m2⟩ := r7.it (i := j) (by omega)
    have : kv (WI h (up2 f2 302 1 n)) 302 j t = kv (WI h f2) 302 j t := by
      unfold kv
      rw [hI_WI, hI_WI, show hR (WI h (up2 f2 302 1 n)) = hR h from rfl, show hR (WI h f2) = hR h from rfl, up2_ne (by omega), up2_ne (by omega)]
    rw [this, z2.2.2.2.2.2.2.2.2.2.1 j (by omega) t ht]
    unfold app
    rw [if_neg (by omega)]
theorem bH_bb (b : MB g) (tb : TB T n) : 0 ≤ bH g T n ∧ bH g T n ≤ 96000 := by
  have b3 := b.2.2.1
  have := bH_b2 b tb (nQ g) (by unfold nQ; omega)
  unfold bH
  unfold nQ at *
  omega
theorem gn_bb (b : MB g) (tb : TB T n) (k : Nat) : -97000 ≤ gn g T n k ∧ gn g T n k ≤ 96000 := by
  have b1 := bH_bb b tb
  have b2 := bH_bb b (TB_app b tb k)
  have := cM_b b k
  unfold gn; omega
/-- a row or a make of a choice -/
theorem CX.rw1 {β : Type} (x : CX h f g T n) {k : Nat} (hk : k < (cnd g).length) (F : Int → Option β) : (gR (WI h f) 2 301 1 fun r => gR (WI h f) 1 r 1 fun r2 => aI (WI h f) 21 r2 (k : Int) F) = F (cR g k) := by
  obtain ⟨⟨a1, a2, a3⟩, a4, a5, a6, a7, a8, ⟨⟨c1, c2, c3⟩, c4⟩, -⟩ := x
  rw [gR_k (h := WI h f) a3.1, show hR (WI h f) 301 1 = 79 from a3.2.2.1, gR_k (h := WI h f) a2.1, show hR (WI h f) 79 1 = 81 from a2.2.2.1, aI_k (h := WI h f) a2.2.2.2.2.2.2.1 (by omega) (by omega), hI_WI, tN (k : Int) k rfl, (c4 k hk).1]
theorem CX.mk1 {β : Type} (x : CX h f g T n) {k : Nat} (hk : k < (cnd g).length) (F : Int → Option β) : (gR (WI h f) 2 301 1 fun r => gR (WI h f) 1 r 2 fun r2 => aI (WI h f) 21 r2 (k : Int) F) = F (cM g k) := by
  obtain ⟨⟨a1, a2, a3⟩, a4, a5, a6, a7, a8, ⟨⟨c1, c2, c3⟩, c4⟩, -⟩ := x
  rw [gR_k (h := WI h f) a3.1, show hR (WI h f) 301 1 = 79 from a3.2.2.1, gR_k (h := WI h f) a2.1, show hR (WI h f) 79 2 = 82 from a2.2.2.2.1, aI_k (h := WI h f) a2.2.2.2.2.2.2.2.1 (by omega) (by omega), hI_WI, tN (k : Int) k rfl, (c4 k hk).2]
theorem CX.sz {β : Type} (x : CX h f g T n) (F : Int → Option β) : (gR (WI h f) 2 301 1 fun r => gI (WI h f) 1 r 4 F) = F ((cnd g).length : Int) := by
  obtain ⟨⟨a1, a2, a3⟩, a4, a5, a6, a7, a8, ⟨⟨c1, c2, c3⟩, c4⟩, -⟩ := x
  rw [gR_k (h := WI h f) a3.1, show hR (WI h f) 301 1 = 79 from a3.2.2.1, gI_k (h := WI h f) a2.1, hI_WI, c1]
theorem greediest_c {rows : Int} (hr0 : 0 ≤ rows) (hr1 : rows ≤ 1000) {room : Int} (hroom : room = hI g 402 1 - rows) : ∀ (j k F : Nat) (f : Nat → Nat → Int), CX h f g T n → n ≤ 6 → k + j = (cnd g).length → j < F → ∃ f', Chr_greediest_L8 F 301 (bH g T n) room (grH g T n rows k).1 (grH g T n rows k).2 (k : Int) (WI h f) = some ((grH g T n rows (cnd g).length).1, WI h f') ∧ CX h f' g T n ∧ CHG f f'
  | 0, k, F + 1, f, x, hn, hk, _ => by
    refine ⟨f, ?_, x, CHG.refl f⟩
    rw [Chr_greediest_L8, x.sz, if_pos (by omega), show k = (cnd g).length by omega]
  | j + 1, k, F + 1, f, x, hn, hk, hF => by
    have b := x.2.2.1
    have len := cnd_len b
    have rb := cR_b b k
    have gbd := gn_bb b x.2.2.2.2.2.2.2.2.2.2 k
    have bb1 := bH_bb b x.2.2.2.2.2.2.2.2.2.2
    have bb2 := bH_bb b (TB_app b x.2.2.2.2.2.2.2.2.2.2 k)
    have mb := cM_b b k
    have gb := grd_b (gn g T n) (cR g) (fun k => decide (rows + cR g k ≤ hI g 402 1)) k
    have ek : grH g T n rows (k + 1) = if decide (rows + cR g k ≤ hI g 402 1) && (decide ((grH g T n rows k).2 < gn g T n k) || (decide (¬ (grH g T n rows k).1 = -1) && (decide (gn g T n k = (grH g T n rows k).2) && decide (cR g k < cR g (grH g T n rows k).1.toNat)))) then ((k : Int), gn g T n k) else grH g T n rows k := rfl
    have gb' : (grH g T n rows k).1 = -1 ∨ (0 ≤ (grH g T n rows k).1 ∧ (grH g T n rows k).1 < k) := gb
    have ih := greediest_c hr0 hr1 hroom j (k + 1) F
    generalize grH g T n rows (k + 1) = G' at ek ih
    generalize grH g T n rows k = G at ek gb' ⊢
    rw [Chr_greediest_L8, x.sz, if_neg (by omega), x.rw1 (by omega), wr_id (z := (k : Int) + 1) (by omega) (by omega), show (k : Int) + 1 = ((k + 1 : Nat) : Int) by omega]
    by_cases c1 : cR g k ≤ room
    · rw [show decide (rows + cR g k ≤ hI g 402 1) = true from decide_eq_true (by omega), Bool.true_and] at ek
      obtain ⟨f1, y1, y2, y3⟩ := x.besides hn (k := k) (by omega)
      rw [if_pos c1, rc_k (h := WI h f) x.1.2.2.1, y1, bnd_some, y2.mk1 (by omega), wr_id (z := bH g T n - bH g (app T n (cT g k)) (n + 1)) (by omega) (by omega), wr_id (z := bH g T n - bH g (app T n (cT g k)) (n + 1) - cM g k) (by omega) (by omega)]
      rw [show bH g T n - bH g (app T n (cT g k)) (n + 1) - cM g k = gn g T n k from rfl]
      have yes : G' = ((k : Int), gn g T n k) → ∃ f', Chr_greediest_L8 F 301 (bH g T n) room (k : Int) (gn g T n k) ((k + 1 : Nat) : Int) (WI h f1) = some ((grH g T n rows (cnd g).length).1, WI h f') ∧ CX h f' g T n ∧ CHG f f' := fun eG => by
        obtain ⟨f2, z1, z2, z3⟩ := ih f1 y2 hn (by omega) (by omega)
        rw [eG] at z1
        exact ⟨f2, z1, z2, y3.trans z3⟩
      have no : G' = G → ∃ f', Chr_greediest_L8 F 301 (bH g T n) room G.1 G.2 ((k + 1 : Nat) : Int) (WI h f1) = some ((grH g T n rows (cnd g).length).1, WI h f') ∧ CX h f' g T n ∧ CHG f f' := fun eG => by
        obtain ⟨f2, z1, z2, z3⟩ := ih f1 y2 hn (by omega) (by omega)
        rw [eG] at z1
        exact ⟨f2, z1, z2, y3.trans z3⟩
      unfold Chr_greediest_L97
      rw [wr_id (z := (k : Int) + 1) (by omega) (by omega), show (k : Int) + 1 = ((k + 1 : Nat) : Int) by omega]
      by_cases c2 : G.2 < gn g T n k
      · rw [if_pos (by simp [c2])] at ek
        rw [if_pos c2, if_pos c2]
        have Y := yes ek
        by_cases c3 : G.1 = -1
        · rw [if_pos c3]; exact Y
        · rw [if_neg c3, if_pos (show ¬ gn g T n k = G.2 by omega)]; exact Y
      · rw [if_neg c2, if_neg c2, if_pos (show (0 : Int) = 0 from rfl), if_neg (show ¬ (1 : Int) = 0 by decide)]
        by_cases c3 : G.1 = -1
        · rw [if_neg (by simp [c2, c3])] at ek
          rw [if_pos c3]; exact no ek
        · rw [if_neg c3]
          by_cases c4 : gn g T n k = G.2
          · obtain ⟨i, hi⟩ : ∃ i : Nat, G.1 = (i : Int) := ⟨G.1.toNat, by omega⟩
            rw [if_neg (by simpa using c4), y2.rw1 (by omega), hi, y2.rw1 (by omega)]
            rw [hi, show ((i : Nat) : Int).toNat = i from rfl] at ek
            by_cases c5 : cR g i ≤ cR g k
            · rw [if_neg (by simp [c4]; omega)] at ek
              rw [if_pos c5]
              rw [hi] at no
              exact no ek
            · rw [if_pos (by simp [c4]; omega)] at ek
              rw [if_neg c5]; exact yes ek
          · rw [if_neg (by simp [c2, c3, c4])] at ek
            rw [if_pos c4]; exact no ek
    · rw [if_neg c1]
      rw [show decide (rows + cR g k ≤ hI g 402 1) = false from decide_eq_false (by omega), Bool.false_and, if_neg (by decide)] at ek
      rw [ek] at ih
      exact ih f x hn (by omega) (by omega)
theorem grd_val (g R : Nat → Int) (ok : Nat → Bool) : ∀ k : Nat, (grd g R ok k).1 ≠ -1 → (grd g R ok k).2 = g (grd g R ok k).1.toNat
  | 0, e => absurd rfl e
  | k + 1, e => by
    rw [grd] at e ⊢
    split
    · rfl
    · rename_i c; rw [if_neg c] at e; exact grd_val g R ok k e
/-- what greedy has chosen, as the class keeps it -/
def GS2 (f : Nat → Nat → Int) (ch : List Nat) (tot : Int) : Prop := f 301 5 = ch.length ∧ f 301 6 = tot ∧ ∀ i, i < 6 → f 326 i = if i < ch.length then (((ch[i]?).getD 0 : Nat) : Int) else -1
theorem GS2.to {f' : Nat → Nat → Int} {ch : List Nat} {tot : Int} (s : GS2 f ch tot) (c : CHG f f') : GS2 f' ch tot := by
  unfold GS2; rw [c 301 (by omega) (by omega), c 326 (by omega) (by omega)]; exact s
theorem eqT_app {T T' : Nat → Nat → Int} {n : Nat} (e : eqT T T' n) (y : Nat → Int) : eqT (app T n y) (app T' n y) (n + 1) := fun j hj t ht => by
  unfold app; by_cases c : j = n
  · rw [if_pos c, if_pos c]
  · rw [if_neg c, if_neg c]; exact e j (by omega) t ht
theorem CX.tt {T' : Nat → Nat → Int} (x : CX h f g T n) (e : eqT T T' n) : CX h f g T' n := by
  obtain ⟨a1, a4, a5, a6, a7, a8, a9, a10, a11, a12, a13⟩ := x
  exact ⟨a1, a4, a5, a6, a7, a8, a9, a10, a11, fun k hk t ht => by rw [a12 k hk t ht, e k hk t ht], fun k hk => by rw [← e k hk 13 (by decide)]; exact a13 k hk⟩
theorem greedy_c : ∀ (j : Nat) (F : Nat) (f : Nat → Nat → Int) (ch : List Nat) (rows tot : Int), ch.length + j = 6 → j < F → CX h f g (chT g ch) ch.length → GS2 f ch tot → 0 ≤ rows → rows ≤ 96 * ch.length → 0 ≤ tot → tot ≤ 96000 * ch.length → ∃ f', Chr_takeGreedily_L8 F 301 (hI g 402 1 - rows) (ch.length : Int) (WI h f) = some ((), WI h f') ∧ GS2 f' (grL g j ch rows tot).1 (grL g j ch rows tot).2 ∧ IN f f' 78 327 ∧ (∀ x, 79 ≤ x → x < 301 → f' x = f x) ∧ SH h 302 7
  | 0, F + 1, f, ch, rows, tot, hl, _, x, gs, _, _, _, _ => by
    refine ⟨f, ?_, gs, IN.refl _ _ _, fun _ _ _ => rfl, x.1.2.2.2.2.2.2.2.2.1⟩
    rw [Chr_takeGreedily_L8, gR_k (h := WI h f) x.1.2.2.1, show hR (WI h f) 301 4 = 326 from x.1.2.2.2.2.2.2.2.1, aN_k (h := WI h f) x.1.2.2.2.2.2.2.2.2.2.2, if_pos (by omega)]
  | j + 1, F + 1, f, ch, rows, tot, hl, hF, x, gs, hr0, hr1, ht0, ht1 => by
    have b := x.2.2.1
    have mb := x.2.2.2.2.1.m1
    rw [rr_s _ (by decide)] at mb
    have len := cnd_len b
    obtain ⟨r1, r2, r3, r4, r5, r6, r7, r8, r9⟩ := id x.1.2.2
    have k301 : ∀ F, hK (WI h F) 301 = (2, 0) := fun _ => r1
    obtain ⟨f1, y1, y2, y3⟩ := x.batch
    obtain ⟨f2, z1, z2, z3⟩ := greediest_c (h := h) (g := g) (T := chT g ch) (n := ch.length) (rows := rows) hr0 (by omega) (room := hI g 402 1 - rows) rfl (cnd g).length 0 FU f1 y2 (by omega) (by omega) (by have := FU_big; omega)
    have gb : (grH g (chT g ch) ch.length rows (cnd g).length).1 = -1 ∨ (0 ≤ (grH g (chT g ch) ch.length rows (cnd g).length).1 ∧ (grH g (chT g ch) ch.length rows (cnd g).length).1 < (cnd g).length) := grd_b _ _ _ _
    have gv : (grH g (chT g ch) ch.length rows (cnd g).length).1 ≠ -1 → (grH g (chT g ch) ch.length rows (cnd g).length).2 = gn g (chT g ch) ch.length (grH g (chT g ch) ch.length rows (cnd g).length).1.toNat := grd_val _ _ _ _
    have gv2 : 0 ≤ (grH g (chT g ch) ch.length rows (cnd g).length).2 ∧ (grH g (chT g ch) ch.length rows (cnd g).length).2 ≤ 96000 := grd_v _ (cR g) _ (by decide) _ (fun i _ => (gn_bb b x.2.2.2.2.2.2.2.2.2.2 i).2)
    rw [Chr_takeGreedily_L8, gR_k (k301 _), show hR (WI h f) 301 4 = 326 from r6, aN_k (h := WI h f) r9, if_neg (by omega), gR_k (k301 _), show hR (WI h f) 301 0 = 75 from r2, gR_k (k301 _), show hR (WI h f) 301 2 = 302 from r4, rc_k (h := WI h f) x.1.1.1, y1, bnd_some, rc_k (k301 _)]
    unfold Chr_greediest
    rw [show (-1 : Int) = (grH g (chT g ch) ch.length rows 0).1 from rfl]
    rw [show Chr_greediest_L8 FU 301 (bH g (chT g ch) ch.length) (hI g 402 1 - rows) (grH g (chT g ch) ch.length rows 0).1 0 0 (WI h f1) = Chr_greediest_L8 FU 301 (bH g (chT g ch) ch.length) (hI g 402 1 - rows) (grH g (chT g ch) ch.length rows 0).1 (grH g (chT g ch) ch.length rows 0).2 ((0 : Nat) : Int) (WI h f1) from rfl, z1, bnd_some, show (grH g (chT g ch) ch.length rows 0).1 = -1 from rfl, grL]
    generalize hG : grH g (chT g ch) ch.length rows (cnd g).length = G at *
    have c12 : CHG f f2 := y3.trans z3
    have inn : ∀ F, CHG f F → IN f F 78 327 := fun F c z hz => c z (by omega) (by omega)
    by_cases c : G.1 = -1
    · rw [if_neg (by simpa using c), if_pos c]
      exact ⟨f2, rfl, gs.to c12, inn _ c12, fun w h1 h2 => c12 w (by omega) (by omega), r7⟩
    · obtain ⟨k, hk⟩ : ∃ k : Nat, G.1 = (k : Int) := ⟨G.1.toNat, by omega⟩
      have hkl : k < (cnd g).length := by omega
      have gv := gv c
      rw [hk, show ((k : Nat) : Int).toNat = k from rfl] at gv
      have bb1 := bH_bb b x.2.2.2.2.2.2.2.2.2.2
      have bb2 := bH_bb b (TB_app b x.2.2.2.2.2.2.2.2.2.2 k)
      have mk := cM_b b k
      have rk := cR_b b k
      have gs2 := gs.to c12
      obtain ⟨f3, u1', u2, u3⟩ := z2.besides (by omega) hkl
      have gs3 := gs2.to u3
      have x4 : CX h (up2 f3 301 6 (tot + G.2)) g (chT g ch) ch.length := by
        obtain ⟨a1, a4, a5, a6, a7, a8, ⟨⟨c1, c2, c3⟩, c4⟩, a10, a11, a12, a13⟩ := u2
        refine ⟨a1, CQ_to a4 rfl (fun _ _ => rfl) (fun w h1 h2 => by rw [hI_WI, hI_WI, up2_ne (by omega)]) a5, a5, a6, a7, ?_, ⟨⟨by rw [up2_ne (by decide)]; exact c1, c2, fun i hi => by rw [up2_ne (by omega)]; exact c3 i hi⟩, fun i hi => by rw [up2_ne (by decide), up2_ne (by decide)]; exact c4 i hi⟩, by rw [up2_ne (by decide)]; exact a10, a11, fun i hi t ht => ?_, a13⟩
        · unfold LK; rw [up2_ne (by decide), up2_ne (by decide), up2_ne (by decide)]; exact a8
        · obtain ⟨-, m1, m2⟩ := r7.it (i := i) (by omega)
          rw [← a12 i hi t ht]
          unfold kv
          rw [hI_WI, hI_WI, show hR (WI h (up2 f3 301 6 (tot + G.2))) = hR h from rfl, show hR (WI h f3) = hR h from rfl, up2_ne (by omega), up2_ne (by omega)]
      obtain ⟨f5, v1, v2, v3⟩ := x4.add (by omega) hkl
      have e5 : f5 301 5 = ch.length := by rw [v3 301 (by omega) (by omega), up2_e, if_neg (by omega)]; exact gs3.1
      have x6 : CX h (up2 (up2 f5 326 ch.length (k : Int)) 301 5 ((ch.length : Int) + 1)) g (chT g (ch ++ [k])) (ch ++ [k]).length := by
        rw [List.length_append, List.length_singleton]
        have v2' := v2.tt (chT_app g ch k)
        obtain ⟨a1, a4, a5, a6, a7, a8, ⟨⟨c1, c2, c3⟩, c4⟩, a10, a11, a12, a13⟩ := v2'
        refine ⟨a1, CQ_to a4 rfl (fun _ _ => rfl) (fun w h1 h2 => by rw [hI_WI, hI_WI, up2_ne (by omega), up2_ne (by omega)]) a5, a5, a6, a7, ?_, ⟨⟨by rw [up2_ne (by decide), up2_ne (by decide)]; exact c1, c2, fun i hi => by rw [up2_ne (by omega), up2_ne (by omega)]; exact c3 i hi⟩, fun i hi => by rw [up2_ne (by decide), up2_ne (by decide), up2_ne (by decide), up2_ne (by decide)]; exact c4 i hi⟩, by rw [up2_ne (by decide), up2_ne (by decide)]; exact a10, a11, fun i hi t ht => ?_, a13⟩
        · unfold LK; rw [up2_ne (by decide), up2_ne (by decide), up2_ne (by decide), up2_ne (by decide), up2_ne (by decide), up2_ne (by decide)]; exact a8
        · obtain ⟨-, m1, m2⟩ := r7.it (i := i) (by omega)
          rw [← a12 i hi t ht]
          unfold kv
          rw [hI_WI, hI_WI, show hR (WI h (up2 (up2 f5 326 ch.length (k : Int)) 301 5 ((ch.length : Int) + 1))) = hR h from rfl, show hR (WI h f5) = hR h from rfl, up2_ne (by omega), up2_ne (by omega), up2_ne (by omega), up2_ne (by omega)]
      have gs6 : GS2 (up2 (up2 f5 326 ch.length (k : Int)) 301 5 ((ch.length : Int) + 1)) (ch ++ [k]) (tot + G.2) := by
        refine ⟨by rw [up2_e, if_pos ⟨rfl, rfl⟩, List.length_append, List.length_singleton]; omega, ?_, fun i hi => ?_⟩
        · rw [up2_e, if_neg (by omega), up2_ne (by decide), v3 301 (by omega) (by omega), up2_e, if_pos ⟨rfl, rfl⟩]
        · rw [up2_ne (by decide), up2_e, List.length_append, List.length_singleton]
          by_cases ei : i = ch.length
          · rw [if_pos ⟨rfl, ei⟩, if_pos (by omega), ei]; simp
          · rw [if_neg (by omega), v3 326 (by omega) (by omega), up2_ne (by decide), gs3.2.2 i hi]
            by_cases d : i < ch.length
            · rw [if_pos d, if_pos (by omega), List.getElem?_append_left d]
            · rw [if_neg d, if_neg (by omega)]
      obtain ⟨f7, w1, w2, w3, w4, w5⟩ := greedy_c j F _ (ch ++ [k]) (rows + cR g k) (tot + G.2) (by rw [List.length_append, List.length_singleton]; omega) (by omega) x6 gs6 (by omega) (by rw [List.length_append, List.length_singleton]; omega) (by omega) (by rw [List.length_append, List.length_singleton]; omega)
      refine ⟨f7, ?_, ?_, ?_, ?_, r7⟩
      · rw [if_pos c, hk, gI_k (k301 _), hI_WI, gs2.2.1, rc_k (k301 _), u1', bnd_some, u2.mk1 hkl, wr_id (z := bH g (chT g ch) ch.length - bH g (app (chT g ch) ch.length (cT g k)) (ch.length + 1)) (by omega) (by omega), wr_id (z := bH g (chT g ch) ch.length - bH g (app (chT g ch) ch.length (cT g k)) (ch.length + 1) - cM g k) (by omega) (by omega)]
        rw [show bH g (chT g ch) ch.length - bH g (app (chT g ch) ch.length (cT g k)) (ch.length + 1) - cM g k = G.2 from gv.symm, wr_id (z := tot + G.2) (by omega) (by omega), pI_k (k301 _), WI_sI, rc_k (k301 _), v1, bnd_some, v2.rw1 hkl, gR_k (k301 _), show hR (WI h f5) 301 4 = 326 from r6, wI_k (h := WI h f5) r9 (by omega) (by omega), WI_sI, tN (ch.length : Int) ch.length rfl, gI_k (k301 _), hI_WI, up2_ne (by decide), e5, wr_id (z := (ch.length : Int) + 1) (by omega) (by omega), pI_k (k301 _), WI_sI, wr_id (z := hI g 402 1 - rows - cR g k) (by omega) (by omega)]
        rw [List.length_append, List.length_singleton, show hI g 402 1 - (rows + cR g k) = hI g 402 1 - rows - cR g k by omega, show ((ch.length + 1 : Nat) : Int) = (ch.length : Int) + 1 by omega] at w1
        exact w1
      · rw [if_neg c, hk, show ((k : Nat) : Int).toNat = k from rfl]
        exact w2
      · intro z hz
        rw [w3 z hz, up2_ne (by omega), up2_ne (by omega), v3 z (by omega) (by omega), up2_ne (by omega), u3 z (by omega) (by omega), c12 z (by omega) (by omega)]
      · intro z h1 h2
        rw [w4 z h1 h2, up2_ne (by omega), up2_ne (by omega), v3 z (by omega) (by omega), up2_ne (by omega), u3 z (by omega) (by omega), c12 z (by omega) (by omega)]
end C8
