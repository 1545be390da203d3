/-! Level 2: calls that only look -/
def SC (f f' : Nat → Nat → Int) : Prop := ∀ x, ¬ (75 ≤ x ∧ x < 327) → f' x = f x
theorem SC.refl (f : Nat → Nat → Int) : SC f f := fun _ _ => rfl
theorem SC.trans {f f' f'' : Nat → Nat → Int} (a : SC f f') (b : SC f' f'') : SC f f'' := fun x hx => by rw [b x hx, a x hx]
/-- both are in order, and alike -/
def JV (h : AH) (own : Nat → Nat) : Prop := CAS h own h ∧ MR h
/-- what no such call touches -/
def TK (h H : AH) : Prop := hK H 15 = hK h 15 ∧ hI H 15 = hI h 15
/-- seeds, now and of images -/
def SD (h : AH) : Prop := (0 ≤ hI h 402 8 ∧ hI h 402 8 < 2147483648) ∧ ∀ k, k < 4 → 0 ≤ hI h 424 (3278 * k + 1) ∧ hI h 424 (3278 * k + 1) < 2147483648
theorem SD.of {h H : AH} (s : SD h) (e2 : hI H 402 8 = hI h 402 8) (e4 : hI H 424 = hI h 424) : SD H := by unfold SD at *; rw [e2, e4]; exact s
/-- a call of both gives the same, and both stay alike -/
def OKC (B M : AH → Option (Int × AH)) : Prop := ∀ h own, JV h own → SD h → ∃ x H1 H2 own', B h = some (x, H1) ∧ M H1 = some (x, H2) ∧ JV H2 own' ∧ TK h H2 ∧ TK h H1 ∧ hN H2 ≤ hN h + 548 ∧ hS H2 ≤ hS h + 4000 ∧ SD H2 ∧ hK H1 401 = hK h 401
theorem GR_WI {h : AH} {f : Nat → Nat → Int} (e : ∀ x, 401 ≤ x → x < 426 → f x = hI h x) : GR h (WI h f) := ⟨by rw [hI_WI, e 401 (by decide) (by decide)], by rw [hI_WI, e 401 (by decide) (by decide)], by rw [hI_WI, e 401 (by decide) (by decide)], fun a h1 h2 _ => e a (by omega) h2, fun _ _ _ => ⟨rfl, rfl⟩⟩
theorem OKC_look {B M : AH → Option (Int × AH)} {A : AH → Int} (hB : ∀ h own g, CAS h own g → MR g → ∃ f', B h = some (A g, WI h f') ∧ SC (hI h) f') (hM : ∀ h, MR h → ∃ H, M h = some (A h, H) ∧ RF h H) : OKC B M := by
  intro h own ⟨c, m⟩ sd
  obtain ⟨f', x1, x2⟩ := hB h own h c m
  have gr : GR h (WI h f') := GR_WI (fun x h1 h2 => x2 x (by omega))
  have m1 := gr.mr m
  obtain ⟨f'', y1, -⟩ := hB h own (WI h f') (gr.cs c) m1
  have e : A h = A (WI h f') := by rw [x1] at y1; injection y1 with y1; injection y1
  obtain ⟨H, z1, z2⟩ := hM (WI h f') m1
  have c1 : CAS (WI h f') own (WI h f') := (gr.cs c).to m1.2.1 (Nat.le_refl _) (fun _ _ => rfl) (fun _ _ _ => rfl) (fun _ _ _ => rfl) (fun x _ h2 _ => x2 x h2)
  have c2 : CAS H own H := by
    obtain ⟨r1, r2, r3, r4, r5, r6, r7, r8⟩ := id z2
    exact (z2.gr.cs c1).to (z2.gr.mb m1.2.1) (by rw [r1]; exact Nat.le_refl _) (fun _ _ => rfl) (fun x _ _ => by rw [r3]) (fun x _ _ => by rw [r4]) (fun x _ _ h3 => r5 x (by unfold scrA; simp; omega))
  refine ⟨A h, WI h f', H, own, x1, by rw [e]; exact z1, ⟨c2, z2.gr.mr m1⟩, ⟨by rw [z2.2.2.1]; rfl, by rw [z2.i (by decide), hI_WI, x2 15 (by decide)]⟩, ⟨rfl, x2 15 (by decide)⟩, by rw [z2.1]; show hN h ≤ _; omega, by rw [z2.2.1]; show hS h ≤ _; omega, sd.of (by rw [z2.i (by decide), hI_WI, x2 402 (by decide)]) (by rw [z2.i (by decide), hI_WI, x2 424 (by decide)]), rfl⟩
section K1
variable {h g : AH} {own : Nat → Nat}
theorem CAS.fx (c : CAS h own g) : FX h := c.1.1
theorem CAS.ps (c : CAS h own g) : PS h := c.1.2.1
theorem CAS.st (c : CAS h own g) : ST h 21 (rr (hI g)) := by obtain ⟨F, wo⟩ := c.2.2.2.2.1; exact wo.2.2.1
theorem CAS.wh (c : CAS h own g) : hK h 20 = (11, 0) ∧ hR h 20 0 = 21 ∧ hR h 20 1 = 47 := by obtain ⟨F, wo⟩ := c.2.2.2.2.1; exact ⟨wo.1.1, wo.1.2.1, wo.1.2.2.1⟩
/-- the way to the state that is now -/
theorem CAS.now {β : Type} (c : CAS h own g) (f : Nat → Nat → Int) (K : Nat → Option β) : (gR (WI h f) 12 16 5 fun r => gR (WI h f) 11 r 0 K) = K 21 := by
  obtain ⟨x1, x2, x3, x4, x5, -⟩ := c.fx
  rw [gR_k (h := WI h f) x1, show hR (WI h f) 16 5 = 20 from x5, gR_k (h := WI h f) c.wh.1, show hR (WI h f) 20 0 = 21 from c.wh.2.1]
theorem CAS.r8 {β : Type} (c : CAS h own g) (f : Nat → Nat → Int) (K : Nat → Option β) : gR (WI h f) 12 16 8 K = K 75 := by
  obtain ⟨x1, x2, x3, x4, x5, x6, x7, x8, -⟩ := c.fx
  rw [gR_k (h := WI h f) x1, show hR (WI h f) 16 8 = 75 from x8]
theorem CAS.r9 {β : Type} (c : CAS h own g) (f : Nat → Nat → Int) (K : Nat → Option β) : gR (WI h f) 12 16 9 K = K 79 := by
  obtain ⟨x1, x2, x3, x4, x5, x6, x7, x8, x9, -⟩ := c.fx
  rw [gR_k (h := WI h f) x1, show hR (WI h f) 16 9 = 79 from x9]
theorem CAS.r10 {β : Type} (c : CAS h own g) (f : Nat → Nat → Int) (K : Nat → Option β) : gR (WI h f) 12 16 10 K = K 301 := by
  obtain ⟨x1, x2, x3, x4, x5, x6, x7, x8, x9, x10, -⟩ := c.fx
  rw [gR_k (h := WI h f) x1, show hR (WI h f) 16 10 = 301 from x10]
theorem CAS.r11 {β : Type} (c : CAS h own g) (f : Nat → Nat → Int) (K : Nat → Option β) : gR (WI h f) 12 16 11 K = K 327 := by
  obtain ⟨x1, x2, x3, x4, x5, x6, x7, x8, x9, x10, x11, -⟩ := c.fx
  rw [gR_k (h := WI h f) x1, show hR (WI h f) 16 11 = 327 from x11]
theorem CAS.r3 {β : Type} (c : CAS h own g) (f : Nat → Nat → Int) (K : Nat → Option β) : gR (WI h f) 12 16 3 K = K 19 := by
  obtain ⟨x1, x2, x3, x4, x5, -⟩ := c.fx
  rw [gR_k (h := WI h f) x1, show hR (WI h f) 16 3 = 19 from x4]
theorem CAS.nq {β : Type} (c : CAS h own g) {f : Nat → Nat → Int} (s : SC (hI h) f) (K : Int → Option β) : gI (WI h f) 12 16 4 K = K (hI g 401 10) := by
  rw [gI_k (h := WI h f) c.fx.1, hI_WI, s 16 (by decide), c.2.2.1.1]
theorem CAS.sc (c : CAS h own g) (m : MR g) {f : Nat → Nat → Int} (s : SC (hI h) f) : CAS (WI h f) own g := c.to m.2.1 (Nat.le_refl _) (fun _ _ => rfl) (fun _ _ _ => rfl) (fun _ _ _ => rfl) (fun x _ h2 _ => s x h2)
/-- the pricer looks -/
theorem CAS.look (c : CAS h own g) (m : MR g) {f : Nat → Nat → Int} (s : SC (hI h) f) : ∃ f', Pri_look 75 21 (hI g 401 10) (WI h f) = some ((), WI h f') ∧ SC f f' ∧ (∀ x, ¬ (75 ≤ x ∧ x ≤ 78) → f' x = f x) ∧ LK f' g := by
  have c' := c.sc m s
  obtain ⟨f', x1, x2, x3⟩ := Pri_look_e (h := h) (f := f) c.ps c'.2.1 m.2.1 c'.st (Or.inl (by decide)) rfl
  exact ⟨f', x1, fun x hx => x2 x (by omega), x2, x3⟩
theorem CAS.px (c : CAS h own g) (m : MR g) {f : Nat → Nat → Int} (s : SC (hI h) f) (lk : LK f g) : PX h f g 23 6 ∧ eqT (kv (WI h f) 23) (kT g) (nK g) ∧ (f 23 1).toNat = nK g := by
  have c' := c.sc m s
  have st := c'.st
  have b5 := st.2.2.n5
  have e5 : f 23 1 = rr (hI g) 5 := st.2.1.2.2.2.2.2.1
  have n5 : (f 23 1).toNat = nK g := by rw [e5, rr_s _ (by decide)]; rfl
  have et : eqT (kv (WI h f) 23) (kT g) (nK g) := fun k hk t ht => by
    rw [← n5] at hk
    have := st.kk (i := k) (by omega) ht
    rw [kp_rr] at this
    exact this
  refine ⟨⟨c.ps, c'.2.1, m.2.1, lk, st.sh, Or.inl (by decide), by decide, by omega, fun k hk => ?_⟩, et, n5⟩
  rw [n5] at hk
  rw [et k hk 13 (by decide)]
  exact m.2.2.2.1.tb k hk
theorem Bat_batch_e (c : CAS h own g) (m : MR g) : ∃ f', Bat_batch 16 h = some (bH g (kT g) (nK g), WI h f') ∧ SC (hI h) f' := by
  obtain ⟨f1, x1, x2, -, x3⟩ := c.look m (SC.refl _)
  obtain ⟨px, et, n5⟩ := c.px m x2 x3
  obtain ⟨v, y1⟩ := Pri_batchBy_e px m.2.2.2.1
  rw [n5, bH_cc m.2.1 et] at y1
  have sp : hR (WI h f1) 21 1 = 23 := c.st.sp
  refine ⟨_, ?_, x2.trans (fun x hx => s78_n _ v (by omega))⟩
  rw [← WI_id h]
  unfold Bat_batch
  rw [c.r8, c.now, c.nq (SC.refl _), rc_k (h := WI h (hI h)) c.ps.1, x1, bnd_some, c.r8, c.now, gR_k (h := WI h f1) c.st.1.1, sp, rc_k (h := WI h f1) c.ps.1, y1, bnd_some]; rfl
theorem batch_ok : OKC (Bat_batch 16) (Mod_batch 401) := OKC_look (A := fun g => bH g (kT g) (nK g)) (fun _ _ _ c m => Bat_batch_e c m) (fun h m => by
  obtain ⟨H, x1, x2⟩ := Mod_batch_e m.1 m.2.1 m.2.2.2.1.tb
  exact ⟨H, x1, x2.1⟩)
theorem Bat_hasQuery_e (c : CAS h own g) {f : Nat → Nat → Int} (s : SC (hI h) f) (q : Int) : Bat_hasQuery 16 q (WI h f) = some (bi (decide (0 ≤ q ∧ q < hI g 401 10)), WI h f) := by
  unfold Bat_hasQuery
  rw [c.nq s]
  by_cases a : q < 0
  · rw [if_pos a, bi_n (by omega)]
  · rw [if_neg a]
    by_cases b : hI g 401 10 ≤ q
    · rw [if_pos b, bi_n (by omega)]
    · rw [if_neg b, bi_d (by omega)]
theorem Bat_alone_e (c : CAS h own g) (m : MR g) (q : Int) : ∃ f', Bat_alone 16 q h = some (aloneA g q, WI h f') ∧ SC (hI h) f' := by
  have b3 := m.2.1.2.2.1
  rw [← WI_id h]
  unfold Bat_alone aloneA
  rw [rc_k (h := WI h (hI h)) c.fx.1, Bat_hasQuery_e c (SC.refl _), bnd_some, ite_nbi]
  by_cases a : 0 ≤ q ∧ q < hI g 401 10
  · obtain ⟨k, rfl⟩ : ∃ k : Nat, q = (k : Int) := ⟨q.toNat, by omega⟩
    obtain ⟨f1, x1, x2, -, x3⟩ := c.look m (SC.refl _)
    have n0 : f1 327 1 = 0 := by rw [x2 327 (by decide)]; exact c.1.2.2.2.2.1.2
    have px : PX h f1 g 327 0 := ⟨c.ps, (c.sc m x2).2.1, m.2.1, x3, c.1.2.2.2.2.1.1, Or.inr (by decide), by decide, by omega, fun k hk => by rw [n0] at hk; exact absurd hk (by simp)⟩
    obtain ⟨v, y1, -⟩ := Pri_costBy_e px (q := k) (by omega)
    have ec : cH g (kv (WI h f1) 327) (f1 327 1).toNat k = cH g (fun _ _ => 0) 0 k := by
      rw [n0]; exact cH_cc m.2.1 (fun k hk => absurd hk (by simp)) (by omega)
    rw [ec] at y1
    refine ⟨_, ?_, x2.trans (fun x hx => s78_n _ v (by omega))⟩
    rw [decide_eq_true a, if_pos rfl, if_pos a, c.r8, c.now, c.nq (SC.refl _), rc_k (h := WI h (hI h)) c.ps.1, x1, bnd_some, c.r8, c.r11, rc_k (h := WI h f1) c.ps.1, y1, bnd_some]; rfl
  · rw [decide_eq_false a, if_neg (by decide), if_neg a]
    exact ⟨_, rfl, SC.refl _⟩
theorem alone_ok (q : Int) : OKC (Bat_alone 16 q) (Mod_alone 401 q) := OKC_look (A := fun g => aloneA g q) (fun _ _ _ c m => Bat_alone_e c m q) (fun h m => Mod_alone_e m.1 m.2.1 q)
end K1
