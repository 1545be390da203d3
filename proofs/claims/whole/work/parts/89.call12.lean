/-! Level 2: run and keep of both sides -/
section K12
variable {h H K g g' : AH} {own own' : Nat → Nat} {ρ σ : Nat → Int}
/-- then what is now changes, and scratch -/
theorem ACT.now2 (c : CAS h own g) (a : ACT h own g K own' ρ) (e1 : hN H = hN K) (e2 : hS H = hS K) (e3 : hK H = hK K) (er : ∀ x, ¬ (21 ≤ x ∧ x < 47) → hR H x = hR K x) (ei : ∀ x, ¬ (21 ≤ x ∧ x < 47) → ¬ (75 ≤ x ∧ x < 327) → hI H x = hI K x) (st : ST H 21 σ) : ACT h own g H own' σ := by
  have c7 := c.1.2.2.2.2.2.2.1
  have c8 := c.1.2.2.2.2.2.2.2
  obtain ⟨⟨F, wo⟩, ⟨n1, n2, n3⟩, fk, fi, f4⟩ := a
  have b : ACT h own g (WI K (fun x => if 75 ≤ x ∧ x < 327 then hI H x else hI K x)) own' ρ := by
    have n : ∀ x, ¬ (75 ≤ x ∧ x < 327) → hI (WI K (fun x => if 75 ≤ x ∧ x < 327 then hI H x else hI K x)) x = hI K x := fun x hx => if_neg hx
    refine ⟨⟨F, wo.to (Nat.le_refl _) (fun _ _ => rfl) (fun x hx h2 => ⟨rfl, n x (fun q => ?_), rfl⟩)⟩, ⟨n1, n2, n3⟩, fk, fun x hx ho hw => ⟨(fi x hx ho hw).1, fun h2 => by rw [n x h2]; exact (fi x hx ho hw).2 h2⟩, by rw [n 20 (by decide)]; exact f4⟩
    rcases h2 with h2 | h2
    · omega
    · have := (fk x (by omega)).1
      have := c7 x (by omega)
      omega
  refine b.now ⟨e1, e2, e3, fun x hx => ⟨?_, er x hx⟩⟩ st
  show hI H x = if 75 ≤ x ∧ x < 327 then hI H x else hI K x
  by_cases q : 75 ≤ x ∧ x < 327
  · rw [if_pos q]
  · rw [if_neg q]; exact ei x hx q
/-- scratch before the act -/
theorem ACT.pre {f : Nat → Nat → Int} (s : SC (hI h) f) (a : ACT (WI h f) own g K own' ρ) : ACT h own g K own' ρ := by
  obtain ⟨w, n, fk, fi, f4⟩ := a
  exact ⟨w, n, fk, fun x hx ho hw => ⟨(fi x hx ho hw).1, fun h2 => by rw [(fi x hx ho hw).2 h2, hI_WI, s x h2]⟩, by rw [f4, hI_WI, s 20 (by decide)]⟩
/-- what remembering leaves -/
theorem CAS.remk (c : CAS h own g) (x1 : Wor_remember 20 h = some ((), K)) : ∀ x, x < 426 → ¬ (20 ≤ x ∧ x < 48) → hI K x = hI h x ∧ hR K x = hR h x ∧ hK K x = hK h x := by
  obtain ⟨F, wo⟩ := c.2.2.2.2.1
  have c7 := c.1.2.2.2.2.2.2.1
  have c8 := c.1.2.2.2.2.2.2.2
  obtain ⟨K', own', F', y1, y2, y3, y4, y5⟩ := Wor_remember_e wo
  rw [x1] at y1
  injection y1 with y1
  injection y1 with _ y1
  subst y1
  obtain ⟨f1, f2, f3, f4⟩ := y3
  intro x hx h2
  have q := f3 x (by omega) (Or.inl (by rw [c7 x hx]; decide))
  exact ⟨q.1 (by omega), q.2 (by omega), (f2 x (by omega)).2⟩
theorem usR_n (on : Nat → Bool) (S : Nat → Int → Int) (tm : Int) {j : Nat} (hj : j < 60) : ∀ (n q : Nat) (ρ : Nat → Int), usR on S tm n q ρ j = ρ j
  | 0, _, _ => rfl
  | n + 1, q, ρ => by
    rw [usR, usR_n on S tm hj n]
    unfold usq
    split
    · rw [us1_n (Or.inl hj), us1_n (Or.inl hj), us1_n (Or.inl hj)]
    · rfl
theorem run_ok : OKC (Bat_run 16) (Mod_run 401) := by
  refine OKC_act (A := fun g => bH g (kT g) (nK g)) (ok := fun g => hI g 402 0 = 1) (R := fun g => rnRow g) (fun g g' r o => by rw [r.i (a := 402) (by decide) (by decide) (by decide)]; exact o) (fun h own g c m o => ?_) (fun h own g c m o => ?_) (fun h m o => ⟨h, Mod_run_n m.1 o, RF.refl h⟩) (fun h m o => Mod_run_y m.1 m.2.1 m.2.2.2.1 m.2.2.2.2.1 m.2.2.2.2.2 o)
  · refine ⟨hI h, ?_, SC.refl _⟩
    have s := c.st
    have e0 : hI h 21 2 = hI g 402 0 := by rw [s.2.1.1, rr_s _ (by decide)]
    have b01 := isBase_01 m
    unfold Bat_run
    rw [c.way, if_neg (by decide), gI_k s.1.1, e0, if_neg (by omega), WI_id]
  · obtain ⟨K, own', x1, x2, x3, x4, x5⟩ := c.rem m
    have s := c.st
    have e0 : hI h 21 2 = hI g 402 0 := by rw [s.2.1.1, rr_s _ (by decide)]
    have s1 := x2.st
    have rb := m.2.2.2.1
    have e7 : hI K 21 6 = hI g 402 7 := by rw [s1.2.1.2.2.2.2.2.2.2.1, rr_s _ (by decide)]
    generalize ht : wr (hI g 402 7 + 1) = tm
    have ba : RB (u1 (rr (hI g)) 7 tm) := RB_67 rb (Or.inr rfl) _
    obtain ⟨s2, fr2⟩ := s1.fld (c := 6) (k := 7) (by omega) (v := tm) ba
    have hma : HM g (sI g 402 7 tm) := HM_WI g (RM_u _ _ (by omega))
    have sqa : SQ g (sI g 402 7 tm) := ⟨by rw [hI_sIn _ _ (by decide)], by rw [hI_sId _ _ (by decide)], by rw [hI_sId _ _ (by decide)], by rw [hI_sId _ _ (by decide)], by rw [hI_sIn _ _ (by decide)], by rw [hI_sIn _ _ (by decide)], fun a h1 h2 => by rw [hI_sIn _ _ (by omega)]⟩
    have qg : QG g (sI g 402 7 tm) := ⟨by rw [hI_sIn _ _ (by decide)], by rw [hI_sIn _ _ (by decide)], fun a h1 h2 => by rw [hI_sIn _ _ (by omega)]⟩
    have ekT : kT (sI g 402 7 tm) = kT g := by funext x y; unfold kT; rw [hI_sIn _ _ (by decide)]
    have enK : nK (sI g 402 7 tm) = nK g := by unfold nK; rw [hI_sId _ _ (by decide)]
    have e5 : hI (sI g 402 7 tm) 402 5 = hI g 402 5 := by rw [hI_sId _ _ (by decide)]
    have er : rr (hI (sI g 402 7 tm)) = u1 (rr (hI g)) 7 tm := by rw [hI_sI, rr_u2 _ (by decide)]
    have eon : onH (sI g 402 7 tm) = onH g := by unfold onH; rw [sqa.on]
    have enq : nQ (sI g 402 7 tm) = nQ g := sqa.nq
    have e10 : hI (sI g 402 7 tm) 401 10 = hI g 401 10 := qg.1
    have mbg : MB (sI g 402 7 tm) := hma.mb m.2.1 (by rw [er]; exact ba)
    have sqb := sqa.bH'
    have sqs := sqa.sH'
    have cq0 : CQ (WI K (up2 (hI K) 21 6 tm)) (sI g 402 7 tm) := CQ_to (qg.cq x4) rfl (fun _ _ => rfl) (fun a h1 h2 => by rw [hI_WI, up2_ne (by omega)]) mbg
    generalize sI g 402 7 tm = g1 at *
    have s2' : ST (WI K (up2 (hI K) 21 6 tm)) 21 (rr (hI g1)) := by rw [er]; exact s2
    obtain ⟨f1, y1, y2, y3⟩ := Pri_look_e (h := K) (f := up2 (hI K) 21 6 tm) x3.2.1 cq0 mbg s2' (Or.inl (by decide)) rfl
    have s3 : ST (WI K f1) 21 (rr (hI g1)) := ST_to s2' (fun _ _ _ => rfl) (fun _ _ _ => rfl) (fun x h1 h2 => y2 x (by omega))
    have cq1 : CQ (WI K f1) g1 := CQ_to cq0 rfl (fun _ _ => rfl) (fun a h1 h2 => y2 a (by omega)) mbg
    obtain ⟨f2, z1, z2, z3⟩ := Pri_batchUsing_e (h := K) (f := f1) (tm := tm) x3.2.1 cq1 mbg (by rw [er]; exact ba) y3 s3 (by decide) (rr_s _ (by decide)) (fun i _ t _ _ => kp_rr _ _ _)
    rw [ekT, enK, sqb] at z1
    rw [ekT, enK, eon, enq, sqs, er] at z3
    have w6 : hI (WI K f2) 21 5 = hI g 402 6 := by
      have : hI (WI K f2) 21 5 = usR (onH g) (sH g (kT g) (nK g)) tm (nQ g) 0 (u1 (rr (hI g)) 7 tm) 6 := z3.2.1.2.2.2.2.2.2.1
      rw [this, usR_n _ _ _ (by decide)]
      unfold u1
      rw [if_neg (by decide), rr_s _ (by decide)]
    obtain ⟨s4, fr4⟩ := z3.fld (c := 5) (k := 6) (by omega) (v := wr (hI g 402 6 + bH g (kT g) (nK g))) (RB_67 z3.2.2 (Or.inl rfl) _)
    have w7 : hI (WI K f1) 21 6 = tm := by rw [hI_WI, y2 21 (by decide), up2_e, if_pos ⟨rfl, rfl⟩]
    refine ⟨sI (WI K f2) 21 5 (wr (hI g 402 6 + bH g (kT g) (nK g))), own', ?_, x2.now2 c rfl rfl rfl (fun _ _ => rfl) (fun x h1 h2 => ?_) ?_⟩
    · unfold Bat_run
      have w4 : hI (WI K (up2 (hI K) 21 6 tm)) 16 4 = hI g1 401 10 := by rw [hI_WI, up2_ne (by decide), e10]; exact x5.1
      have sp : hR (WI K f1) 21 1 = 23 := s1.sp
      rw [c.way, if_neg (by decide), gI_k s.1.1, e0, if_pos (by omega), gR_k c.fx.1, c.fx.2.2.2.2.1, rc_k c.wh.1, x1, bnd_some, gI_k s1.1.1, e7, ht, pI_k s1.1.1, show sI K 21 6 tm = WI K (up2 (hI K) 21 6 tm) from rfl, gR_k (h := WI K (up2 (hI K) 21 6 tm)) x3.1.1, show hR (WI K (up2 (hI K) 21 6 tm)) 16 8 = 75 from x3.1.2.2.2.2.2.2.2.1, gI_k (h := WI K (up2 (hI K) 21 6 tm)) x3.1.1, w4, rc_k (h := WI K (up2 (hI K) 21 6 tm)) x3.2.1.1, y1, bnd_some, gR_k (h := WI K f1) x3.1.1, show hR (WI K f1) 16 8 = 75 from x3.1.2.2.2.2.2.2.2.1, gR_k (h := WI K f1) s1.1.1, sp, gI_k (h := WI K f1) s1.1.1, w7, rc_k (h := WI K f1) x3.2.1.1, z1, bnd_some, gI_k (h := WI K f2) s1.1.1, w6, pI_k (h := WI K f2) s1.1.1]
    · show up2 f2 21 5 _ x = hI K x
      rw [up2_ne (by omega), z2 x (by omega) (by omega), y2 x (by omega), up2_ne (by omega)]
    · have : rnRow g = u1 (usR (onH g) (sH g (kT g) (nK g)) tm (nQ g) 0 (u1 (rr (hI g)) 7 tm)) 6 (wr (hI g 402 6 + bH g (kT g) (nK g))) := by
        unfold rnRow
        rw [ht, usR_6]
      rw [this]
      exact s4
theorem keep_ok (k : Int) : OKC (Bat_keep 16 k) (Mod_keep 401 k) := by
  refine OKC_act (A := fun g => (mkr (cR g k.toNat) 6 (rr (hI g))).2) (ok := fun g => kpOk g k) (R := fun g => kpRow g k.toNat) (fun g g' r o => ?_) (fun h own g c m o => ?_) (fun h own g c m o => ?_) (fun h m o => (Mod_keep_x m.1 m.2.1 m.2.2.2.1 m.2.2.2.2.1 m.2.2.2.2.2 k).1 o) (fun h m o => (Mod_keep_x m.1 m.2.1 m.2.2.2.1 m.2.2.2.2.1 m.2.2.2.2.2 k).2 o)
  · have sq : SQ g g' := ⟨r.1, by rw [r.i (a := 402) (by decide) (by decide) (by decide)], by rw [r.i (a := 402) (by decide) (by decide) (by decide)], by rw [r.i (a := 402) (by decide) (by decide) (by decide)], r.i (by decide) (by decide) (by decide), r.i (by decide) (by decide) (by decide), fun a h1 h2 => r.i (by omega) (by omega) (by unfold scrA; simp; omega)⟩
    have ec : ∀ j, cR g' j = cR g j := fun j => by
      unfold cR nR nS; rw [sq.ecnd, sq.enum, sq.2.1, sq.2.2.1]
    have ea : ∀ j, alr g' j = alr g j := fun j => by
      unfold alr; rw [sq.ecnd, r.row, r.i (a := 402) (by decide) (by decide) (by decide)]
    unfold kpOk at *
    rw [sq.ecnd, ec, ea, r.i (a := 402) (by decide) (by decide) (by decide)]
    exact o
  · have s := c.st
    have e0 : hI h 21 2 = hI g 402 0 := by rw [s.2.1.1, rr_s _ (by decide)]
    have b01 := isBase_01 m
    unfold Bat_keep
    rw [c.way, if_neg (by decide), gI_k s.1.1, e0]
    by_cases b : hI g 402 0 = 0
    · rw [if_neg (by omega)]
      exact ⟨hI h, rfl, SC.refl _⟩
    · obtain ⟨f1, x1, x2, x3⟩ := c.collect m (SC.refl _)
      have st := (c.sc m x2).st
      have nb := nRS m.2.1
      refine ⟨f1, ?_, x2⟩
      rw [if_pos b, ← WI_id h, c.r9, c.r3, c.nq (SC.refl _), rc_k (h := WI h (hI h)) c.1.2.2.1.1, x1, bnd_some, c.r9, rc_k (h := WI h f1) c.1.2.2.1.1, c.hasCh x3, bnd_some, ite_nbi]
      by_cases a : 0 ≤ k ∧ k < (cnd g).length
      · rw [decide_eq_true a, if_pos rfl]
        obtain ⟨j, rfl⟩ : ∃ j : Nat, k = (j : Int) := ⟨k.toNat, by omega⟩
        have l108 := x3.2.1
        obtain ⟨p1, p2⟩ := c.1.2.2.1.2.2.2.2.2.2.2.2.2 j (by omega)
        have k36 : hK (WI h f1) 80 = (36, 108) := c.1.2.2.1.2.2.2.2.2.1
        have e13 : eq13 (hI (WI h f1) (85 + 2 * j + 1)) (pa (cnd g) j) := by rw [hI_WI, show 85 + 2 * j + 1 = 86 + 2 * j by omega]; exact x3.2.2 j (by omega)
        have ok : okP (hI (WI h f1) (85 + 2 * j + 1)) := okP_c (fun t ht => (e13 t ht).symm) (cnd_ok m.1 m.2.1 j (by omega))
        have pp : PA (WI h f1) (85 + 2 * j) := p2
        have e1 : hI (WI h f1) 21 3 = hI g 402 1 := by rw [← rr_s (hI g) (show 1 < 8 by decide)]; exact st.2.1.2.1
        have er : ((rowsF (hI (WI h f1) (85 + 2 * j + 1)) (numr (rr (hI g))) (rr (hI g) 2).toNat (rr (hI g) 3).toNat : Nat) : Int) = cR g j := by
          rw [rowsF_c e13, rr_s _ (by decide), rr_s _ (by decide), rowsF_num _ (cnd_ok m.1 m.2.1 j (by omega)) nb.1 nb.2]; rfl
        have sp : hR (WI h f1) 21 1 = 23 := s.sp
        have hh : She_has 23 (85 + 2 * j) (WI h f1) = some (bi (alr g j), WI h f1) := by
          have q := st.has pp
          rw [rr_s (hI g) (show 5 < 8 by decide)] at q
          rw [show (23 : Nat) = 21 + 2 from rfl, q]
          unfold alr
          rw [allR_c (p := fun i => !sameF (kp (rr (hI g)) i) (hI (WI h f1) (85 + 2 * j + 1))) (q := fun i => !sameF (kp (rr (hI g)) i) (pa (cnd g) j)) (fun i _ _ => by rw [sameF_c (fun _ _ => rfl) e13])]
        have q := st.rowsIn pp ok
        rw [er] at q
        rw [c.r9, gR_k (h := WI h f1) c.1.2.2.1.1, show hR (WI h f1) 79 0 = 80 from c.1.2.2.1.2.1, aR_k k36 (by omega) (by omega), tN (j : Int) j rfl, show hR (WI h f1) 80 j = 85 + 2 * j from p1, if_neg (by omega), rc_k pp.1, q, bnd_some, gI_k st.1.1, e1]
        by_cases d : hI g 402 1 < cR g j
        · rw [if_pos d]; rfl
        · rw [if_neg d, gR_k st.1.1, sp, rc_k (h := WI h f1) s.sh.1, hh, bnd_some, ite_bi]
          have al : alr g j = true := by
            cases q : alr g j
            · exact absurd ⟨by omega, a, by show cR g j ≤ _; omega, q⟩ o
            · rfl
          rw [al, if_pos rfl]; rfl
      · rw [decide_eq_false a, if_neg (by decide)]; rfl
  · obtain ⟨o0, a, o1, o2⟩ := o
    obtain ⟨j, rfl⟩ : ∃ j : Nat, k = (j : Int) := ⟨k.toNat, by omega⟩
    have ej : ((j : Nat) : Int).toNat = j := rfl
    rw [ej] at o1 o2
    rw [ej]
    have s := c.st
    have e0 : hI h 21 2 = hI g 402 0 := by rw [s.2.1.1, rr_s _ (by decide)]
    obtain ⟨f1, x1, x2, x3⟩ := c.collect m (SC.refl _)
    have c' := c.sc m x2
    have st := c'.st
    have nb := nRS m.2.1
    have rb := m.2.2.2.1
    have l108 := x3.2.1
    obtain ⟨p1, p2⟩ := c.1.2.2.1.2.2.2.2.2.2.2.2.2 j (by omega)
    have k36 : hK (WI h f1) 80 = (36, 108) := c.1.2.2.1.2.2.2.2.2.1
    have cok := cnd_ok m.1 m.2.1 j (by omega)
    have e13 : eq13 (hI (WI h f1) (85 + 2 * j + 1)) (pa (cnd g) j) := by rw [hI_WI, show 85 + 2 * j + 1 = 86 + 2 * j by omega]; exact x3.2.2 j (by omega)
    have ok : okP (hI (WI h f1) (85 + 2 * j + 1)) := okP_c (fun t ht => (e13 t ht).symm) cok
    have pp : PA (WI h f1) (85 + 2 * j) := p2
    have e1 : hI (WI h f1) 21 3 = hI g 402 1 := by rw [← rr_s (hI g) (show 1 < 8 by decide)]; exact st.2.1.2.1
    have er : ((rowsF (hI (WI h f1) (85 + 2 * j + 1)) (numr (rr (hI g))) (rr (hI g) 2).toNat (rr (hI g) 3).toNat : Nat) : Int) = cR g j := by
      rw [rowsF_c e13, rr_s _ (by decide), rr_s _ (by decide), rowsF_num _ cok nb.1 nb.2]; rfl
    have sp : hR (WI h f1) 21 1 = 23 := s.sp
    have hh : She_has 23 (85 + 2 * j) (WI h f1) = some (bi (alr g j), WI h f1) := by
      have q := st.has pp
      rw [rr_s (hI g) (show 5 < 8 by decide)] at q
      rw [show (23 : Nat) = 21 + 2 from rfl, q]
      unfold alr
      rw [allR_c (p := fun i => !sameF (kp (rr (hI g)) i) (hI (WI h f1) (85 + 2 * j + 1))) (q := fun i => !sameF (kp (rr (hI g)) i) (pa (cnd g) j)) (fun i _ _ => by rw [sameF_c (fun _ _ => rfl) e13])]
    have q := st.rowsIn pp ok
    rw [er] at q
    have cb := cR_b m.2.1 j
    obtain ⟨K, own', y1, y2, y3, y4, y5⟩ := c'.rem m
    have rk := c'.remk y1
    have sK := y2.st
    obtain ⟨H1, z1, z2, z3, z4, z5⟩ := sK.room (R := cR g j) (by omega) (by omega) (by rw [rr_s _ (by decide)]; exact o1)
    have pK : PA K (85 + 2 * j) := ⟨by rw [(rk _ (by omega) (by omega)).2.2]; exact pp.1, by rw [(rk _ (by omega) (by omega)).2.1]; exact pp.2.1, by rw [(rk _ (by omega) (by omega)).2.2]; exact pp.2.2⟩
    have iK : hI K (85 + 2 * j + 1) = hI (WI h f1) (85 + 2 * j + 1) := (rk _ (by omega) (by omega)).1
    have p1H : PA H1 (85 + 2 * j) := ⟨by rw [z2.2.2.1]; exact pK.1, by rw [(z2.2.2.2 _ (by omega)).2]; exact pK.2.1, by rw [z2.2.2.1]; exact pK.2.2⟩
    have i1H : hI H1 (85 + 2 * j + 1) = hI (WI h f1) (85 + 2 * j + 1) := by rw [(z2.2.2.2 _ (by omega)).1, iK]
    have t13 : ∀ t, t < 13 → cT g j t = pa (cnd g) j t := fun t ht => if_pos ht
    obtain ⟨H2, u1', u2', u3⟩ := z3.add z4 p1H (by omega) (by rw [i1H]; exact ok) (X := cT g j) (fun t ht => by rw [t13 t ht, i1H]; exact (e13 t ht).symm) (show 0 ≤ cR g j ∧ cR g j ≤ 1000 by omega) rfl
    have p2H : PA H2 (85 + 2 * j) := ⟨by rw [u2'.2.2.1]; exact p1H.1, by rw [(u2'.2.2.2 _ (by omega)).2]; exact p1H.2.1, by rw [u2'.2.2.1]; exact p1H.2.2⟩
    have i2H : hI H2 (85 + 2 * j + 1) = hI (WI h f1) (85 + 2 * j + 1) := by rw [(u2'.2.2.2 _ (by omega)).1, i1H]
    generalize hρ : (mkr (cR g j) 6 (rr (hI g))).1 = ρ1 at *
    have ad60 : ∀ i, i < 60 → i ≠ 5 → ad0 ρ1 (cT g j) i = ρ1 i := fun i h1 h2 => by
      unfold ad0; rw [if_neg (by omega), if_neg h2]
    have mk := u3.makeIn p2H (by rw [i2H]; exact ok)
    have em : ((makeF (hI H2 (85 + 2 * j + 1)) (numr (ad0 ρ1 (cT g j))) (ad0 ρ1 (cT g j) 2).toNat (ad0 ρ1 (cT g j) 3).toNat : Nat) : Int) = cM g j := by
      rw [i2H, makeF_c e13, ad60 2 (by decide) (by decide), ad60 3 (by decide) (by decide), z5 2 (by decide) (by decide), z5 3 (by decide) (by decide), makeF_60 rb (σ := ad0 ρ1 (cT g j)) (fun i h1 h2 => by rw [ad60 i h2 (by omega), z5 i h2 (by omega)]), rr_s _ (by decide), rr_s _ (by decide), makeF_num _ _ nb.1 nb.2]; rfl
    rw [em] at mk
    have v6 : hI H2 21 5 = ρ1 6 := by
      have : hI H2 21 5 = ad0 ρ1 (cT g j) 6 := u3.2.1.2.2.2.2.2.2.1
      rw [this, ad60 6 (by decide) (by decide)]
    have v7 : hI H1 21 6 = ρ1 7 := z3.2.1.2.2.2.2.2.2.2.1
    obtain ⟨s4, fr4⟩ := u3.fld (c := 5) (k := 6) (by omega) (v := wr (ρ1 6 + cM g j)) (RB_67 u3.2.2 (Or.inl rfl) _)
    have fr : FR K (sI H2 21 5 (wr (ρ1 6 + cM g j))) 21 47 := (z2.trans u2').trans fr4
    have hr : kpRow g j = u1 (ad0 ρ1 (cT g j)) 6 (wr (ρ1 6 + cM g j)) := by
      unfold kpRow; rw [hρ, add_0]
    refine ⟨sI H2 21 5 (wr (ρ1 6 + cM g j)), own', ?_, by rw [hr]; exact (y2.now fr s4).pre x2⟩
    have z1' : Sta_makeRoom 21 (cR g j) K = some ((mkr (cR g j) 6 (rr (hI g))).2, H1) := z1
    have u1'' : She_add 23 (85 + 2 * j) (cR g j) (ρ1 7) H1 = some ((), H2) := u1'
    unfold Bat_keep
    rw [c.way, if_neg (by decide), gI_k s.1.1, e0, if_pos (by omega), ← WI_id h, c.r9, c.r3, c.nq (SC.refl _), rc_k (h := WI h (hI h)) c.1.2.2.1.1, x1, bnd_some, c.r9, rc_k (h := WI h f1) c.1.2.2.1.1, c.hasCh x3, bnd_some, ite_nbi, decide_eq_true a, if_pos rfl, c.r9, gR_k (h := WI h f1) c.1.2.2.1.1, show hR (WI h f1) 79 0 = 80 from c.1.2.2.1.2.1, aR_k k36 (by omega) (by omega), tN (j : Int) j rfl, show hR (WI h f1) 80 j = 85 + 2 * j from p1, if_neg (by omega), rc_k pp.1, q, bnd_some, gI_k st.1.1, e1, if_neg (by omega), gR_k st.1.1, sp, rc_k (h := WI h f1) s.sh.1, hh, bnd_some, ite_bi, o2, if_neg (by decide), gR_k c'.fx.1, c'.fx.2.2.2.2.1, rc_k c'.wh.1, y1, bnd_some, rc_k sK.1.1, z1', bnd_some, gR_k z3.1.1, z3.sp, gI_k z3.1.1, v7, rc_k z3.sh.1, u1'', bnd_some, gI_k u3.1.1, v6, rc_k p2H.1, mk, bnd_some, pI_k u3.1.1]
end K12
