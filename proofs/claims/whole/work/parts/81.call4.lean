/-! Level 2: acts of both sides, one by one -/
section K4
variable {h H K g g' : AH} {own own' : Nat → Nat} {ρ σ : Nat → Int}
theorem QG.refl (g : AH) : QG g g := ⟨rfl, rfl, fun _ _ _ => rfl⟩
/-- the class remembers -/
theorem CAS.rem (c : CAS h own g) (m : MR g) : ∃ K own', Wor_remember 20 h = some ((), K) ∧ ACT h own g K own' (rr (hI g)) ∧ (FX K ∧ PS K ∧ CHS K ∧ CR2 K ∧ (SH K 327 0 ∧ hI K 327 1 = 0) ∧ SB K 49 ∧ (∀ c, c < 426 → own' c = 1) ∧ 426 ≤ 16 + hN K) ∧ CQ K g ∧ (hI K 16 4 = hI g 401 10 ∧ TP K g) := by
  obtain ⟨F, wo⟩ := c.2.2.2.2.1
  have c7 := c.1.2.2.2.2.2.2.1
  have c8 := c.1.2.2.2.2.2.2.2
  obtain ⟨K, own', F', x1, x2, x3, x4, x5⟩ := Wor_remember_e wo
  obtain ⟨f1, f2, f3, f4⟩ := id x3
  refine ⟨K, own', x1, ⟨⟨F', x2⟩, ⟨f1, x4, x5⟩, f2, fun x hx ho hw => ⟨(f3 x hx ho).2 (by omega), fun _ => (f3 x hx ho).1 (by omega)⟩, f4 4 (by decide) (by decide)⟩, ?_⟩
  exact c.base m.2.1 f1 (fun x hx => (f2 x hx).1) (fun x hx => (f2 x (by omega)).2) (fun x hx h2 => (f3 x (by omega) (Or.inl (by rw [c7 x (by omega)]; decide))).2 (by omega)) (fun x hx h2 _ => (f3 x (by omega) (Or.inl (by rw [c7 x (by omega)]; decide))).1 (by omega)) (QG.refl g)
theorem ACT.st (a : ACT h own g K own' ρ) : ST K 21 ρ := by obtain ⟨⟨F, wo⟩, -⟩ := a; exact wo.2.2.1
theorem ACT.wh (a : ACT h own g K own' ρ) : hK K 20 = (11, 0) ∧ hR K 20 0 = 21 := by obtain ⟨⟨F, wo⟩, -⟩ := a; exact ⟨wo.1.1, wo.1.2.1⟩
/-- then what is now changes -/
theorem ACT.now (a : ACT h own g K own' ρ) (fr : FR K H 21 47) (st : ST H 21 σ) : ACT h own g H own' σ := by
  obtain ⟨⟨F, wo⟩, ⟨n1, n2, n3⟩, fk, fi, f4⟩ := a
  obtain ⟨r1, r2, r3, r4⟩ := id fr
  refine ⟨⟨F, wo.now fr st⟩, ⟨by rw [r1]; exact n1, by rw [r1]; exact n2, by rw [r2]; exact n3⟩, fun x hx => ⟨(fk x hx).1, by rw [r3]; exact (fk x hx).2⟩, fun x hx ho hw => ?_, by rw [(r4 20 (by decide)).1]; exact f4⟩
  obtain ⟨q1, q2⟩ := fi x hx ho hw
  have q := r4 x (by omega)
  exact ⟨by rw [q.2]; exact q1, fun h2 => by rw [q.1]; exact q2 h2⟩
/-- the way to what is now, in a heap that has the class's head -/
theorem way {β : Type} (fx : FX h) (w : hK h 20 = (11, 0) ∧ hR h 20 0 = 21) (k : Nat → Option β) : (gR h 12 16 5 fun r => gR h 11 r 0 k) = k 21 := by
  rw [gR_k fx.1, fx.2.2.2.2.1, gR_k w.1, w.2]
theorem CAS.way {β : Type} (c : CAS h own g) (k : Nat → Option β) : (gR h 12 16 5 fun r => gR h 11 r 0 k) = k 21 := by
  rw [gR_k c.fx.1, c.fx.2.2.2.2.1, gR_k c.wh.1, c.wh.2.1]
theorem FR.fx (fr : FR K H 21 47) (fx : FX K) : FX H := by
  obtain ⟨r1, r2, r3, r4⟩ := fr
  unfold FX at *
  rw [r3, (r4 16 (by decide)).2, (r4 18 (by decide)).2]
  exact fx
theorem FR.wh (fr : FR K H 21 47) (w : hK K 20 = (11, 0) ∧ hR K 20 0 = 21) : hK H 20 = (11, 0) ∧ hR H 20 0 = 21 := by
  obtain ⟨r1, r2, r3, r4⟩ := fr
  rw [r3, (r4 20 (by decide)).2]; exact w
theorem isBase_01 (m : MR g) : hI g 402 0 = 0 ∨ hI g 402 0 = 1 := by
  have := m.2.2.2.1.1
  rwa [rr_s _ (by decide)] at this
theorem strOk_gr (r : GR g g') (q : Int) : strOk g' q = strOk g q := by
  unfold strOk; rw [r.1, r.i (a := 402) (by decide) (by decide) (by decide)]
theorem strike_ok (q : Int) : OKC (Bat_strike 16 q) (Mod_strike 401 q) := by
  refine OKC_act (A := fun g => bitE (iXor (hI g 402 4) (iShl 1 q)) 16) (ok := fun g => strOk g q = true) (R := fun g => strRow (rr (hI g)) q) (fun g g' r o => by rw [strOk_gr r]; exact o) (fun h own g c m o => ?_) (fun h own g c m o => ?_) (fun h m o => ⟨h, Mod_strike_n m.1 m.2.1 (by simpa using o), RF.refl h⟩) (fun h m o => Mod_strike_y m.1 m.2.1 m.2.2.2.2.1 m.2.2.2.2.2 o)
  · refine ⟨hI h, ?_, SC.refl _⟩
    have e0 : hI h 21 2 = hI g 402 0 := by rw [c.st.2.1.1, rr_s _ (by decide)]
    have hq := Bat_hasQuery_e c (SC.refl _) q
    rw [WI_id] at hq
    unfold Bat_strike
    rw [c.way, gI_k c.st.1.1, e0, rc_k c.fx.1, hq, bnd_some, ite_nbi]
    unfold strOk at o
    by_cases b : hI g 402 0 = 0
    · rw [if_pos b]; rfl
    · have b1 : hI g 402 0 = 1 := by have := isBase_01 m; omega
      rw [decide_eq_true b1, Bool.true_and] at o
      rw [if_neg b, if_neg o]; rfl
  · obtain ⟨K, own', x1, x2, x3, x4, x5⟩ := c.rem m
    unfold strOk at o
    rw [Bool.and_eq_true] at o
    have b1 : hI g 402 0 = 1 := by simpa using o.1
    have hqq : 0 ≤ q ∧ q < hI g 401 10 := by simpa using o.2
    have b3 := m.2.1.2.2.1
    have e0 : hI h 21 2 = hI g 402 0 := by rw [c.st.2.1.1, rr_s _ (by decide)]
    have hq := Bat_hasQuery_e c (SC.refl _) q
    rw [WI_id, o.2] at hq
    obtain ⟨s1, s2, s3⟩ := x2.st.strike hqq.1 (by omega)
    have e4 : hI K 21 4 = hI g 402 4 := by rw [x2.st.2.1.2.2.2.2.1, rr_s _ (by decide)]
    rw [rr_s (hI g) (show 4 < 8 by decide)] at s1 s2 s3
    have fr : FR K (sI K 21 4 (iXor (hI g 402 4) (iShl 1 q))) 21 47 := s2
    refine ⟨_, own', ?_, x2.now fr s1⟩
    unfold Bat_strike
    rw [c.way, gI_k c.st.1.1, e0, if_neg (by omega), rc_k c.fx.1, hq, bnd_some, if_pos (by decide), gR_k c.fx.1, c.fx.2.2.2.2.1, rc_k c.wh.1, x1, bnd_some, way x3.1 x2.wh, gI_k x2.st.1.1, e4, pI_k x2.st.1.1, way (fr.fx x3.1) (fr.wh x2.wh), gI_k s1.1.1, hI_sIs, bitC_e, bnd_some, s3]
theorem Bat_hasKept_e (c : CAS h own g) (k : Int) : Bat_hasKept 16 k h = some (bi (decide (0 ≤ k ∧ k < hI g 402 5)), h) := by
  have e5 : hI h 23 1 = hI g 402 5 := by rw [← rr_s (hI g) (show 5 < 8 by decide)]; exact c.st.2.1.2.2.2.2.2.1
  unfold Bat_hasKept
  rw [c.way, gR_k c.st.1.1, c.st.sp, gI_k c.st.sh.1, e5]
  by_cases a : k < 0
  · rw [if_pos a, bi_n (by omega)]
  · rw [if_neg a]
    by_cases b : hI g 402 5 ≤ k
    · rw [if_pos b, bi_n (by omega)]
    · rw [if_neg b, bi_d (by omega)]
theorem forget_ok (k : Int) : OKC (Bat_forget 16 k) (Mod_forget 401 k) := by
  refine OKC_act (A := fun g => hI g 402 5 - 1) (ok := fun g => 0 ≤ k ∧ k < hI g 402 5) (R := fun g => fgRow (rr (hI g)) k.toNat) (fun g g' r o => by rw [r.i (a := 402) (by decide) (by decide) (by decide)]; exact o) (fun h own g c m o => ?_) (fun h own g c m o => ?_) (fun h m o => ⟨h, Mod_forget_n m.1 m.2.1 o, RF.refl h⟩) (fun h m o => Mod_forget_y m.1 m.2.1 m.2.2.2.2.1 m.2.2.2.2.2 o)
  · refine ⟨hI h, ?_, SC.refl _⟩
    unfold Bat_forget
    rw [rc_k c.fx.1, Bat_hasKept_e c, bnd_some, ite_nbi, decide_eq_false o, if_neg (by decide)]; rfl
  · obtain ⟨K, own', x1, x2, x3, x4, x5⟩ := c.rem m
    obtain ⟨j, rfl⟩ : ∃ j : Nat, k = (j : Int) := ⟨k.toNat, by omega⟩
    obtain ⟨H, y1, y2, y3⟩ := x2.st.fg (k := j) (by rw [rr_s _ (by decide)]; exact o.2)
    have fr : FR K H 21 47 := y2
    have e5 : hI H 23 1 = hI g 402 5 - 1 := by
      have : hI H 23 1 = fgRow (rr (hI g)) j 5 := y3.2.1.2.2.2.2.2.1
      rw [this, fg_5, rr_s _ (by decide)]
    refine ⟨H, own', ?_, x2.now fr y3⟩
    have y1' : She_drop 23 (j : Int) K = some ((), H) := y1
    unfold Bat_forget
    rw [rc_k c.fx.1, Bat_hasKept_e c, bnd_some, ite_nbi, decide_eq_true o, if_pos rfl, gR_k c.fx.1, c.fx.2.2.2.2.1, rc_k c.wh.1, x1, bnd_some, way x3.1 x2.wh, gR_k x2.st.1.1, x2.st.sp, rc_k x2.st.sh.1, y1', bnd_some, way (fr.fx x3.1) (fr.wh x2.wh), gR_k y3.1.1, y3.sp, gI_k y3.sh.1, e5]
end K4
