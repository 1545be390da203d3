/-! Level 2: feed and end of both sides, on -/
def wb4 (v : Int) (i : Nat) : Int := iAnd (iUshr v ((24 - 8 * i : Nat) : Int)) 255
def rb4 (v : Int) (i : Nat) : Int := b8 (i2b (iShr v ((24 - 8 * i : Nat) : Int)))
/-- the class's tape, m words on -/
def FC (h : AH) (t : Nat) (W : Nat → Int) (m : Nat) (f : Nat → Nat → Int) : Prop := f 16 1 = (t + m : Nat) ∧ (∀ i, i ≠ 1 → f 16 i = hI h 16 i) ∧ (∀ x, x ≠ 16 → x ≠ 17 → f x = hI h x) ∧ ∀ i, f 17 i = if t ≤ i ∧ i < t + m then wb4 (W ((i - t) / 4)) ((i - t) % 4) else hI h 17 i
/-- the reference's tape -/
def FM4 (h : AH) (t : Nat) (W : Nat → Int) (m : Nat) (f : Nat → Nat → Int) : Prop := f 401 18 = (t + m : Nat) ∧ (∀ i, i ≠ 18 → f 401 i = hI h 401 i) ∧ (∀ x, x ≠ 401 → x ≠ 415 → f x = hI h x) ∧ ∀ i, f 415 i = if t ≤ i ∧ i < t + m then rb4 (W ((i - t) / 4)) ((i - t) % 4) else hI h 415 i
section K21
variable {h H K g : AH} {own own' : Nat → Nat} {f : Nat → Nat → Int} {W : Nat → Int} {t m : Nat}
theorem rb_e (v : Int) {i : Nat} (hi : i < 4) : wb4 v i = rb4 v i % 256 ∧ -128 ≤ rb4 v i ∧ rb4 v i ≤ 127 := byte_e v (by omega)
theorem add_s (fx : FX h) {b : Nat} (c : FC h t W (4 * m + b) f) (hb : b < 4) (ht : t + (4 * m + b) < 400) (n : Nat) : ∃ f', Bat_addBytes_L3 (n + 1) 16 (W m) ((24 - 8 * b : Nat) : Int) (WI h f) = Bat_addBytes_L3 n 16 (W m) (((24 - 8 * b : Nat) : Int) - 8) (WI h f') ∧ FC h t W (4 * m + (b + 1)) f' := by
  obtain ⟨c1, c2, c3, c4⟩ := c
  have k16 : ∀ F, hK (WI h F) 16 = (12, 0) := fun _ => fx.1
  have r16 : ∀ F, hR (WI h F) 16 0 = 17 := fun _ => fx.2.1
  have k17 : ∀ F, hK (WI h F) 17 = (21, 400) := fun _ => fx.2.2.2.2.2.2.2.2.2.2.2.1
  refine ⟨up2 (up2 f 17 (t + (4 * m + b)) (wb4 (W m) b)) 16 1 ((t + (4 * m + b) : Nat) + 1), ?_, ?_, ?_, ?_, ?_⟩
  · rw [Bat_addBytes_L3, if_neg (by omega), gI_k (k16 _), hI_WI, c1, gR_k (k16 _), r16, aN_k (k17 _), if_neg (by omega), gR_k (k16 _), r16, gI_k (k16 _), hI_WI, c1, wI_k (k17 _) (by omega) (by omega), WI_sI, tN ((t + (4 * m + b) : Nat) : Int) _ rfl, gI_k (k16 _), hI_WI, up2_ne (by decide), c1, pI_k (k16 _), WI_sI, wr_id (z := ((24 - 8 * b : Nat) : Int) + -8) (by omega) (by omega), wr_id (by omega) (by omega)]
    rfl
  · rw [up2_e, if_pos ⟨rfl, rfl⟩]; omega
  · intro i hi
    rw [up2_e, if_neg (by omega), up2_ne (by decide)]; exact c2 i hi
  · intro x h1 h2
    rw [up2_ne h1, up2_ne h2]; exact c3 x h1 h2
  · intro i
    rw [up2_ne (by decide), up2_e]
    by_cases e : i = t + (4 * m + b)
    · rw [if_pos ⟨rfl, e⟩, if_pos (by omega), show (i - t) / 4 = m by omega, show (i - t) % 4 = b by omega]
    · rw [if_neg (fun x => e x.2), c4 i]
      by_cases q : t ≤ i ∧ i < t + (4 * m + b)
      · rw [if_pos q, if_pos (by omega)]
      · rw [if_neg q, if_neg (by omega)]
theorem add_e (fx : FX h) (c : FC h t W (4 * m) f) (ht : t + 4 * m + 4 ≤ 400) : ∃ f', Bat_addBytes 16 (W m) (WI h f) = some ((), WI h f') ∧ FC h t W (4 * (m + 1)) f' := by
  obtain ⟨f1, x1, x2⟩ := add_s fx (b := 0) c (by decide) (by omega) 999999
  obtain ⟨f2, y1, y2⟩ := add_s fx (b := 1) x2 (by decide) (by omega) 999998
  obtain ⟨f3, z1, z2⟩ := add_s fx (b := 2) y2 (by decide) (by omega) 999997
  obtain ⟨f4, w1, w2⟩ := add_s fx (b := 3) z2 (by decide) (by omega) 999996
  refine ⟨f4, ?_, w2⟩
  unfold Bat_addBytes
  have x1' : Bat_addBytes_L3 FU 16 (W m) 24 (WI h f) = Bat_addBytes_L3 999999 16 (W m) 16 (WI h f1) := x1
  have y1' : Bat_addBytes_L3 999999 16 (W m) 16 (WI h f1) = Bat_addBytes_L3 999998 16 (W m) 8 (WI h f2) := y1
  have z1' : Bat_addBytes_L3 999998 16 (W m) 8 (WI h f2) = Bat_addBytes_L3 999997 16 (W m) 0 (WI h f3) := z1
  have w1' : Bat_addBytes_L3 999997 16 (W m) 0 (WI h f3) = Bat_addBytes_L3 999996 16 (W m) (-8) (WI h f4) := w1
  rw [x1', y1', z1', w1', show 999996 = 999995 + 1 from rfl, Bat_addBytes_L3, if_pos (by decide)]
theorem put_s (ms : MS h) {b : Nat} (c : FM4 h t W (4 * m + b) f) (hb : b < 4) (ht : t + (4 * m + b) < 400) (n : Nat) : ∃ f', Mod_put4_L3 (n + 1) 401 (W m) ((24 - 8 * b : Nat) : Int) (WI h f) = Mod_put4_L3 n 401 (W m) (((24 - 8 * b : Nat) : Int) - 8) (WI h f') ∧ FM4 h t W (4 * m + (b + 1)) f' := by
  obtain ⟨c1, c2, c3, c4⟩ := c
  have m1 : ∀ f, MS (WI h f) := fun _ => ms
  refine ⟨up2 (up2 f 415 (t + (4 * m + b)) (rb4 (W m) b)) 401 18 ((t + (4 * m + b) : Nat) + 1), ?_, ?_, ?_, ?_, ?_⟩
  · rw [Mod_put4_L3, if_neg (by omega), r_21 (m1 _), g_m (m1 _), hI_WI, c1, w_415 (m1 _) (by omega) (by omega), WI_sI, tN ((t + (4 * m + b) : Nat) : Int) _ rfl, g_m (m1 _), hI_WI, up2_ne (by decide), c1, p_m (m1 _), WI_sI, wr_id (z := ((24 - 8 * b : Nat) : Int) + -8) (by omega) (by omega), wr_id (by omega) (by omega)]
    rfl
  · rw [up2_e, if_pos ⟨rfl, rfl⟩]; omega
  · intro i hi
    rw [up2_e, if_neg (by omega), up2_ne (by decide)]; exact c2 i hi
  · intro x h1 h2
    rw [up2_ne h1, up2_ne h2]; exact c3 x h1 h2
  · intro i
    rw [up2_ne (by decide), up2_e]
    by_cases e : i = t + (4 * m + b)
    · rw [if_pos ⟨rfl, e⟩, if_pos (by omega), show (i - t) / 4 = m by omega, show (i - t) % 4 = b by omega]
    · rw [if_neg (fun x => e x.2), c4 i]
      by_cases q : t ≤ i ∧ i < t + (4 * m + b)
      · rw [if_pos q, if_pos (by omega)]
      · rw [if_neg q, if_neg (by omega)]
theorem put4_e (ms : MS h) (c : FM4 h t W (4 * m) f) (ht : t + 4 * m + 4 ≤ 400) : ∃ f', Mod_put4 401 (W m) (WI h f) = some ((), WI h f') ∧ FM4 h t W (4 * (m + 1)) f' := by
  obtain ⟨f1, x1, x2⟩ := put_s ms (b := 0) c (by decide) (by omega) 999999
  obtain ⟨f2, y1, y2⟩ := put_s ms (b := 1) x2 (by decide) (by omega) 999998
  obtain ⟨f3, z1, z2⟩ := put_s ms (b := 2) y2 (by decide) (by omega) 999997
  obtain ⟨f4, w1, w2⟩ := put_s ms (b := 3) z2 (by decide) (by omega) 999996
  refine ⟨f4, ?_, w2⟩
  unfold Mod_put4
  have x1' : Mod_put4_L3 FU 401 (W m) 24 (WI h f) = Mod_put4_L3 999999 401 (W m) 16 (WI h f1) := x1
  have y1' : Mod_put4_L3 999999 401 (W m) 16 (WI h f1) = Mod_put4_L3 999998 401 (W m) 8 (WI h f2) := y1
  have z1' : Mod_put4_L3 999998 401 (W m) 8 (WI h f2) = Mod_put4_L3 999997 401 (W m) 0 (WI h f3) := z1
  have w1' : Mod_put4_L3 999997 401 (W m) 0 (WI h f3) = Mod_put4_L3 999996 401 (W m) (-8) (WI h f4) := w1
  rw [x1', y1', z1', w1', show 999996 = 999995 + 1 from rfl, Mod_put4_L3, if_pos (by decide)]
/-- questions alone -/
def QH (g g' : AH) : Prop := hI g' 401 10 = hI g 401 10 ∧ (∀ a, 408 ≤ a → a ≤ 414 → hI g' a = hI g a)
theorem QH.cq {g' : AH} (r : QH g g') (c : CQ h g) : CQ h g' := by
  obtain ⟨r1, r3⟩ := r
  unfold CQ at *
  have e1 : FM g' = FM g := by
    funext q w; unfold FM
    rw [r3 408 (by decide) (by decide), r3 409 (by decide) (by decide), r3 410 (by decide) (by decide), r3 411 (by decide) (by decide), r3 412 (by decide) (by decide), r3 413 (by decide) (by decide), r3 414 (by decide) (by decide)]
  have e2 : rVd g' = rVd g := by
    funext q; unfold rVd; rw [r3 411 (by decide) (by decide), r3 412 (by decide) (by decide)]
  have e3 : qp g' = qp g := by
    funext x y z; unfold qp; rw [r3 409 (by decide) (by decide), r3 410 (by decide) (by decide), r3 411 (by decide) (by decide), r3 412 (by decide) (by decide)]
  rw [r1, e1, e2, e3]
  exact c
theorem QH.qi {g' : AH} (r : QH g g') (b : QI g) : QI g' := by
  obtain ⟨r1, r3⟩ := r
  unfold QI at *
  rw [r1, r3 408 (by decide) (by decide), r3 409 (by decide) (by decide), r3 410 (by decide) (by decide), r3 411 (by decide) (by decide), r3 412 (by decide) (by decide)]
  exact b
/-- both in order behind a change of tapes alone -/
theorem JV_tape {F : Nat → Nat → Int} (j : JV h own) (n : ∀ x, x ≠ 16 → x ≠ 17 → x ≠ 401 → x ≠ 415 → F x = hI h x) (n16 : ∀ i, i ≠ 1 → F 16 i = hI h 16 i) (n401 : ∀ i, i ≠ 18 → F 401 i = hI h 401 i) (tp : TP (WI h F) (WI h F)) : JV (WI h F) own := by
  obtain ⟨c, m⟩ := id j
  have c7 := c.1.2.2.2.2.2.2.1
  have c8 := c.1.2.2.2.2.2.2.2
  have qh : QH h (WI h F) := ⟨n401 10 (by decide), fun a h1 h2 => n a (by omega) (by omega) (by omega) (by omega)⟩
  have er : rr F = rr (hI h) := by
    funext l; unfold rr
    rw [n 402 (by decide) (by decide) (by decide) (by decide), n 403 (by decide) (by decide) (by decide) (by decide), n 404 (by decide) (by decide) (by decide) (by decide), n 407 (by decide) (by decide) (by decide) (by decide)]
  have mb : MB (WI h F) := MB_of (h := h) m.2.1 (by rw [er]; exact m.2.2.2.1) qh.1 (fun a h1 h2 => qh.2 a h1 h2)
  obtain ⟨F1, wo⟩ := c.2.2.2.2.1
  refine JV_asm2 j (Nat.le_refl _) (fun _ _ => rfl) (fun _ _ => rfl) (fun _ _ _ => rfl) (by rw [hI_WI, n 327 (by decide) (by decide) (by decide) (by decide)]) (SB_to c.1.2.2.2.2.2.1 (fun _ _ _ => rfl) (fun _ _ _ => rfl) (fun _ _ => by rw [hI_WI, n _ (by decide) (by decide) (by decide) (by decide)]) (fun _ _ => by rw [hI_WI, n _ (by decide) (by decide) (by decide) (by decide)])) (qh.cq (CQ_to c.2.1 rfl (fun _ _ => rfl) (fun a h1 h2 => n a (by omega) (by omega) (by omega) (by omega)) m.2.1)) ?_ tp ?_ ⟨F1, ?_⟩ ?_ ?_ mb (qh.qi m.2.2.1)
  · rw [hI_WI, n16 4 (by decide), n401 10 (by decide)]; exact c.2.2.1.1
  · rw [hI_WI, n 20 (by decide) (by decide) (by decide) (by decide), n 402 (by decide) (by decide) (by decide) (by decide)]; exact c.2.2.2.1
  · rw [hI_WI, er, n401 43 (by decide), n 423 (by decide) (by decide) (by decide) (by decide)]
    exact wo.to (Nat.le_refl _) (fun _ _ => rfl) (fun y hy h2 => by
      have : ¬ (y = 16 ∨ y = 17 ∨ y = 401 ∨ y = 415) := by
        rcases h2 with h2 | h2
        · omega
        · intro q
          rw [c7 y (by omega)] at h2; omega
      exact ⟨rfl, n y (by omega) (by omega) (by omega) (by omega), rfl⟩)
  · exact c.imgs (Nat.le_refl _) (fun _ _ => rfl) rfl (fun y h1 h2 h3 => ⟨rfl, n y (by omega) (by omega) (by omega) (by omega), rfl⟩) (n 424 (by decide) (by decide) (by decide) (by decide)) (n 425 (by decide) (by decide) (by decide) (by decide))
  · rw [hI_WI, n401 43 (by decide)]; exact ⟨m.2.2.2.2.1, m.2.2.2.2.2⟩
theorem feed_ok (a b c d e : Int) : OKC (Bat_feed 16 a b c d e) (Mod_feed 401 a b c d e) := by
  intro h own ⟨cc, m⟩ sd
  obtain ⟨t1, t2, t3⟩ := cc.2.2.1.2
  by_cases o : hI h 401 18 + 20 ≤ 400
  · obtain ⟨t, ht⟩ : ∃ t : Nat, hI h 401 18 = (t : Int) := ⟨(hI h 401 18).toNat, by omega⟩
    generalize hW : (fun i : Nat => if i = 0 then a else if i = 1 then b else if i = 2 then c else if i = 3 then d else e) = W
    have Wa : W 0 = a := by rw [← hW]; rfl
    have Wb : W 1 = b := by rw [← hW]; rfl
    have Wc : W 2 = c := by rw [← hW]; rfl
    have Wd : W 3 = d := by rw [← hW]; rfl
    have We : W 4 = e := by rw [← hW]; rfl
    have F0 : FC h t W (4 * 0) (hI h) := ⟨by rw [t1, ht]; rfl, fun _ _ => rfl, fun _ _ _ => rfl, fun i => by rw [if_neg (by omega)]⟩
    obtain ⟨f1, x1, x1'⟩ := add_e cc.fx F0 (by omega)
    obtain ⟨f2, x2, x2'⟩ := add_e cc.fx x1' (by omega)
    obtain ⟨f3, x3, x3'⟩ := add_e cc.fx x2' (by omega)
    obtain ⟨f4, x4, x4'⟩ := add_e cc.fx x3' (by omega)
    obtain ⟨f5, x5, x5'⟩ := add_e cc.fx x4' (by omega)
    rw [WI_id, Wa] at x1
    rw [Wb] at x2
    rw [Wc] at x3
    rw [Wd] at x4
    rw [We] at x5
    have k16 : ∀ F, hK (WI h F) 16 = (12, 0) := fun _ => cc.fx.1
    have m1 : ∀ f, MS (WI h f) := fun _ => m.1
    obtain ⟨p1, p2, p3, p4⟩ := x5'
    have G0 : FM4 (WI h f5) t W (4 * 0) f5 := ⟨by rw [p3 401 (by decide) (by decide), ht]; rfl, fun _ _ => rfl, fun _ _ _ => rfl, fun i => by rw [if_neg (by omega)]; rfl⟩
    obtain ⟨g1, y1, y1'⟩ := put4_e (m1 f5) G0 (by omega)
    obtain ⟨g2, y2, y2'⟩ := put4_e (m1 f5) y1' (by omega)
    obtain ⟨g3, y3, y3'⟩ := put4_e (m1 f5) y2' (by omega)
    obtain ⟨g4, y4, y4'⟩ := put4_e (m1 f5) y3' (by omega)
    obtain ⟨g5, y5, y5'⟩ := put4_e (m1 f5) y4' (by omega)
    rw [Wa, WI_WI, WI_WI] at y1
    rw [Wb, WI_WI, WI_WI] at y2
    rw [Wc, WI_WI, WI_WI] at y3
    rw [Wd, WI_WI, WI_WI] at y4
    rw [We, WI_WI, WI_WI] at y5
    obtain ⟨q1, q2, q3, q4⟩ := y5'
    rw [hI_WI] at q2 q3 q4
    have n : ∀ x, x ≠ 16 → x ≠ 17 → x ≠ 401 → x ≠ 415 → g5 x = hI h x := fun x h1 h2 h3 h4 => by rw [q3 x h3 h4, p3 x h1 h2]
    refine ⟨(t : Int) + 20, WI h f5, WI h g5, own, ?_, ?_, JV_tape ⟨cc, m⟩ n (fun i hi => by rw [q3 16 (by decide) (by decide)]; exact p2 i hi) (fun i hi => by rw [q2 i hi, p3 401 (by decide) (by decide)]) ?_, ⟨rfl, n 15 (by decide) (by decide) (by decide) (by decide)⟩, ⟨rfl, p3 15 (by decide) (by decide)⟩, by show hN h ≤ _; omega, by show hS h ≤ _; omega, sd.of (by rw [hI_WI, n 402 (by decide) (by decide) (by decide) (by decide)]) (n 424 (by decide) (by decide) (by decide) (by decide)), rfl⟩
    · unfold Bat_feed
      rw [gI_k cc.fx.1, t1, wr_id (by omega) (by omega), if_pos o, rc_k cc.fx.1, x1, bnd_some, rc_k (k16 _), x2, bnd_some, rc_k (k16 _), x3, bnd_some, rc_k (k16 _), x4, bnd_some, rc_k (k16 _), x5, bnd_some, gI_k (k16 _), hI_WI, p1]
      rfl
    · unfold Mod_feed
      rw [g_m (m1 _), hI_WI, p3 401 (by decide) (by decide), wr_id (by omega) (by omega), if_pos o, c_m (m1 _), y1, bnd_some, c_m (m1 _), y2, bnd_some, c_m (m1 _), y3, bnd_some, c_m (m1 _), y4, bnd_some, c_m (m1 _), y5, bnd_some, g_m (m1 _), hI_WI, q1]
      rfl
    · unfold TP
      rw [hI_WI, q3 16 (by decide) (by decide), p1, q1, q3 17 (by decide) (by decide)]
      refine ⟨rfl, by omega, fun i hi => ?_⟩
      rw [p4 i, q4 i, p3 415 (by decide) (by decide)]
      by_cases z : t ≤ i ∧ i < t + 4 * (4 + 1)
      · rw [if_pos z, if_pos z]; exact rb_e _ (Nat.mod_lt _ (by decide))
      · rw [if_neg z, if_neg z]; exact t3 i (by omega)
  · refine ⟨-1, h, h, own, ?_, ?_, ⟨cc, m⟩, ⟨rfl, rfl⟩, ⟨rfl, rfl⟩, by omega, by omega, sd, rfl⟩
    · unfold Bat_feed
      rw [gI_k cc.fx.1, t1, wr_id (by omega) (by omega), if_neg o]
    · unfold Mod_feed
      rw [g_m m.1, wr_id (by omega) (by omega), if_neg o]
theorem end_ok (v : Int) : OKC (Bat_end 16 v) (Mod_end 401 v) := by
  intro h own ⟨cc, m⟩ sd
  obtain ⟨t1, t2, t3⟩ := cc.2.2.1.2
  by_cases o : 0 ≤ v ∧ v ≤ hI h 401 18
  · have ms : MS (sI h 16 1 v) := MS_to m.1 (fun _ _ _ => ⟨rfl, rfl⟩)
    have n : ∀ x, x ≠ 16 → x ≠ 17 → x ≠ 401 → x ≠ 415 → up2 (up2 (hI h) 16 1 v) 401 18 v x = hI h x := fun x h1 h2 h3 h4 => by rw [up2_ne h3, up2_ne h1]
    refine ⟨v, sI h 16 1 v, WI h (up2 (up2 (hI h) 16 1 v) 401 18 v), own, ?_, ?_, JV_tape ⟨cc, m⟩ n (fun i hi => by rw [up2_ne (by decide), up2_e, if_neg (by omega)]) (fun i hi => by rw [up2_e, if_neg (by omega), up2_ne (by decide)]) ?_, ⟨rfl, n 15 (by decide) (by decide) (by decide) (by decide)⟩, ⟨rfl, by rw [hI_sIn _ _ (by decide)]⟩, by show hN h ≤ _; omega, by show hS h ≤ _; omega, sd.of (by rw [hI_WI, n 402 (by decide) (by decide) (by decide) (by decide)]) (n 424 (by decide) (by decide) (by decide) (by decide)), rfl⟩
    · unfold Bat_end
      rw [if_neg (by omega), gI_k cc.fx.1, t1, if_pos o.2, pI_k cc.fx.1]
    · unfold Mod_end
      rw [if_neg (by omega), g_m ms, hI_sIn _ _ (by decide), if_pos o.2, p_m ms]
      rfl
    · unfold TP
      rw [hI_WI]
      refine ⟨by rw [up2_ne (by decide), up2_e, if_pos ⟨rfl, rfl⟩, up2_e, if_pos ⟨rfl, rfl⟩], by rw [up2_e, if_pos ⟨rfl, rfl⟩]; omega, fun i hi => ?_⟩
      rw [up2_e, if_pos ⟨rfl, rfl⟩] at hi
      rw [up2_ne (by decide), up2_ne (by decide), up2_ne (by decide), up2_ne (by decide)]
      exact t3 i (by omega)
  · refine ⟨-1, h, h, own, ?_, ?_, ⟨cc, m⟩, ⟨rfl, rfl⟩, ⟨rfl, rfl⟩, by omega, by omega, sd, rfl⟩
    · unfold Bat_end
      by_cases a : v < 0
      · rw [if_pos a]
      · rw [if_neg a, gI_k cc.fx.1, t1, if_neg (by omega)]
    · unfold Mod_end
      by_cases a : v < 0
      · rw [if_pos a]
      · rw [if_neg a, g_m m.1, if_neg (by omega)]
end K21
