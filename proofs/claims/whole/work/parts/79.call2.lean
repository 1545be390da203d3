/-! Level 2: calls that only look, on -/
theorem up2_2 {α : Type} (f : Nat → Nat → α) (a k : Nat) (v w : α) : up2 (up2 f a k v) a k w = up2 f a k w := by
  funext b j; rw [up2_e, up2_e, up2_e]; split <;> rfl
section K2
variable {h g : AH} {own : Nat → Nat}
theorem CAS.struck (c : CAS h own g) (m : MR g) {f : Nat → Nat → Int} (s : SC (hI h) f) {q : Nat} (hq : q < 8) : Sta_isStruck 21 (q : Int) (WI h f) = some (bi (hasB (hI g 402 4) q), WI h f) := by
  rw [Sta_isStruck_e (c.sc m s).st hq, rr_s _ (by decide)]
theorem Bat_costs_e (c : CAS h own g) (m : MR g) (q : Int) : ∃ f', Bat_costs 16 q h = some (costsA g q, WI h f') ∧ SC (hI h) f' := by
  have b3 := m.2.1.2.2.1
  rw [← WI_id h]
  unfold Bat_costs costsA askd
  rw [rc_k (h := WI h (hI h)) c.fx.1, Bat_hasQuery_e c (SC.refl _), bnd_some, ite_bi]
  by_cases a : 0 ≤ q ∧ q < hI g 401 10
  · obtain ⟨k, rfl⟩ : ∃ k : Nat, q = (k : Int) := ⟨q.toNat, by omega⟩
    rw [decide_eq_true a, if_pos rfl, Bool.true_and, c.now, rc_k (h := WI h (hI h)) c.st.1.1, c.struck m (SC.refl _) (by omega), bnd_some, ite_bi]
    cases hb : hasB (hI g 402 4) (k : Int)
    · obtain ⟨f1, x1, x2, -, x3⟩ := c.look m (SC.refl _)
      obtain ⟨px, et, n5⟩ := c.px m x2 x3
      obtain ⟨v, y1, -⟩ := Pri_costBy_e px (q := k) (by omega)
      rw [n5, cH_cc m.2.1 et (by omega)] at y1
      have sp : hR (WI h f1) 21 1 = 23 := c.st.sp
      refine ⟨_, ?_, x2.trans (fun x hx => s78_n _ v (by omega))⟩
      rw [if_neg (by decide), c.r8, c.now, c.nq (SC.refl _), rc_k (h := WI h (hI h)) c.ps.1, x1, bnd_some, c.r8, c.now, gR_k (h := WI h f1) c.st.1.1, sp, rc_k (h := WI h f1) c.ps.1, y1, bnd_some]; rfl
    · exact ⟨_, by rw [if_pos rfl]; rfl, SC.refl _⟩
  · rw [decide_eq_false a, if_neg (by decide), Bool.false_and]
    exact ⟨_, rfl, SC.refl _⟩
theorem costs_ok (q : Int) : OKC (Bat_costs 16 q) (Mod_costs 401 q) := OKC_look (A := fun g => costsA g q) (fun _ _ _ c m => Bat_costs_e c m q) (fun h m => Mod_costs_e m.1 m.2.1 m.2.2.2.1.tb q)
theorem Bat_serves_e (c : CAS h own g) (m : MR g) (q w : Int) : ∃ f', Bat_serves 16 q w h = some (servesA g q w, WI h f') ∧ SC (hI h) f' := by
  have b3 := m.2.1.2.2.1
  rw [← WI_id h]
  unfold Bat_serves servesA askd
  rw [rc_k (h := WI h (hI h)) c.fx.1, Bat_hasQuery_e c (SC.refl _), bnd_some, ite_bi]
  by_cases a : 0 ≤ q ∧ q < hI g 401 10
  · obtain ⟨k, rfl⟩ : ∃ k : Nat, q = (k : Int) := ⟨q.toNat, by omega⟩
    rw [decide_eq_true a, if_pos rfl, Bool.true_and, c.now, rc_k (h := WI h (hI h)) c.st.1.1, c.struck m (SC.refl _) (by omega), bnd_some, ite_nbi]
    cases hb : hasB (hI g 402 4) (k : Int)
    · rw [if_neg (by decide), Bool.not_false, Bool.true_and]
      by_cases w0 : w < 0
      · rw [if_pos w0, show inB w 0 2 = false by unfold inB; simp; omega]
        exact ⟨_, rfl, SC.refl _⟩
      · rw [if_neg w0]
        by_cases w3 : w < 3
        · obtain ⟨f1, x1, x2, -, x3⟩ := c.look m (SC.refl _)
          obtain ⟨px, et, n5⟩ := c.px m x2 x3
          obtain ⟨v, y1, y2⟩ := Pri_costBy_e px (q := k) (by omega)
          rw [n5, cH_cc m.2.1 et (by omega)] at y1
          rw [n5] at y2
          have sp : hR (WI h f1) 21 1 = 23 := c.st.sp
          obtain ⟨j, rfl⟩ : ∃ j : Nat, w = (j : Int) := ⟨w.toNat, by omega⟩
          have es : sH g (kv (WI h f1) 23) (nK g) k (j : Int) = sH g (kT g) (nK g) k (j : Int) := by
            unfold sH; exact sby_cc (fun _ _ => rfl) (fun _ _ => rfl) (fun _ _ => rfl) et rfl rfl _ _ _ (by omega)
          have k78 : hK (WI h (s78 f1 v)) 78 = (21, 3) := c.ps.2.2.2.2.2.2.2
          have vj : hI (WI h (s78 f1 v)) 78 j = n2 (sH g (kT g) (nK g) k (j : Int)) := by
            rw [← es, ← y2 j (by omega)]; rfl
          refine ⟨_, ?_, x2.trans (fun x hx => s78_n _ v (by omega))⟩
          rw [if_pos w3, show inB (j : Int) 0 2 = true by unfold inB; simp; omega, if_pos rfl, c.r8, c.now, c.nq (SC.refl _), rc_k (h := WI h (hI h)) c.ps.1, x1, bnd_some, c.r8, c.now, gR_k (h := WI h f1) c.st.1.1, sp, rc_k (h := WI h f1) c.ps.1, y1, bnd_some, c.r8, gR_k (h := WI h (s78 f1 v)) c.ps.1, show hR (WI h (s78 f1 v)) 75 3 = 78 from c.ps.2.2.2.2.1, aI_k k78 (by omega) (by omega), tN (j : Int) j rfl, vj]; rfl
        · rw [if_neg w3, show inB w 0 2 = false by unfold inB; simp; omega]
          exact ⟨_, rfl, SC.refl _⟩
    · exact ⟨_, by rw [if_pos rfl]; rfl, SC.refl _⟩
  · rw [decide_eq_false a, if_neg (by decide), Bool.false_and]
    exact ⟨_, rfl, SC.refl _⟩
theorem serves_ok (q w : Int) : OKC (Bat_serves 16 q w) (Mod_serves 401 q w) := OKC_look (A := fun g => servesA g q w) (fun _ _ _ c m => Bat_serves_e c m q w) (fun h m => Mod_serves_e m.1 m.2.1 m.2.2.2.1.tb q w)
theorem CAS.collect (c : CAS h own g) (m : MR g) {f : Nat → Nat → Int} (s : SC (hI h) f) : ∃ f', Cho_collect 79 19 (hI g 401 10) 21 (WI h f) = some ((), WI h f') ∧ SC f f' ∧ CI2 f' (cnd g) := by
  obtain ⟨f', x1, x2, x3⟩ := Cho_collect_e (h := h) (f := f) c.1.2.2.1 (c.sc m s).2.1 m.2.1 (c.sc m s).st (by decide) rfl
  exact ⟨f', x1, fun x hx => x2 x (by omega), x3⟩
theorem Bat_candidates_e (c : CAS h own g) (m : MR g) : ∃ f', Bat_candidates 16 h = some (((cnd g).length : Int), WI h f') ∧ SC (hI h) f' := by
  obtain ⟨f1, x1, x2, x3⟩ := c.collect m (SC.refl _)
  refine ⟨f1, ?_, x2⟩
  rw [← WI_id h]
  unfold Bat_candidates
  rw [c.r9, c.r3, c.nq (SC.refl _), c.now, rc_k (h := WI h (hI h)) c.1.2.2.1.1, x1, bnd_some, c.r9, gI_k (h := WI h f1) c.1.2.2.1.1, hI_WI, x3.1]; rfl
theorem candidates_ok : OKC (Bat_candidates 16) (Mod_candidates 401) := OKC_look (A := fun g => ((cnd g).length : Int)) (fun _ _ _ c m => Bat_candidates_e c m) (fun h m => by
  obtain ⟨p, cc, k, mm, e⟩ := Mod_candidates_e m.1 m.2.1
  exact ⟨_, e, RF_CD _ _ _ _ _ _⟩)
theorem CAS.hasCh (c : CAS h own g) {f : Nat → Nat → Int} (ci : CI2 f (cnd g)) (i : Int) : Cho_has 79 i (WI h f) = some (bi (decide (0 ≤ i ∧ i < (cnd g).length)), WI h f) := by
  unfold Cho_has
  rw [gI_k (h := WI h f) c.1.2.2.1.1, hI_WI, ci.1]
  by_cases a : i < 0
  · rw [if_pos a, bi_n (by omega)]
  · rw [if_neg a]
    by_cases b : ((cnd g).length : Int) ≤ i
    · rw [if_pos b, bi_n (by omega)]
    · rw [if_neg b, bi_d (by omega)]
theorem Bat_candidate_e (c : CAS h own g) (m : MR g) (i w : Int) : ∃ f', Bat_candidate 16 i w h = some (cndA g i w, WI h f') ∧ SC (hI h) f' := by
  obtain ⟨f1, x1, x2, x3⟩ := c.collect m (SC.refl _)
  have st := (c.sc m x2).st
  have nb := nRS m.2.1
  refine ⟨f1, ?_, x2⟩
  rw [← WI_id h]
  unfold Bat_candidate cndA
  rw [c.r9, c.r3, c.nq (SC.refl _), c.now, rc_k (h := WI h (hI h)) c.1.2.2.1.1, x1, bnd_some, c.r9, rc_k (h := WI h f1) c.1.2.2.1.1, c.hasCh x3, bnd_some, ite_bi]
  by_cases a : 0 ≤ i ∧ i < (cnd g).length
  · rw [decide_eq_true a, if_pos rfl, if_pos a]
    obtain ⟨k, rfl⟩ : ∃ k : Nat, i = (k : Int) := ⟨i.toNat, by omega⟩
    have l108 := x3.2.1
    obtain ⟨p1, p2⟩ := c.1.2.2.1.2.2.2.2.2.2.2.2.2 k (by omega)
    have k36 : hK (WI h f1) 80 = (36, 108) := c.1.2.2.1.2.2.2.2.2.1
    have e13 : eq13 (hI (WI h f1) (85 + 2 * k + 1)) (pa (cnd g) k) := by rw [hI_WI, show 85 + 2 * k + 1 = 86 + 2 * k by omega]; exact x3.2.2 k (by omega)
    have ok : okP (hI (WI h f1) (85 + 2 * k + 1)) := okP_c (fun t ht => (e13 t ht).symm) (cnd_ok m.1 m.2.1 k (by omega))
    have pp : PA (WI h f1) (85 + 2 * k) := p2
    by_cases w0 : w < 0
    · rw [if_pos w0, if_neg (by omega)]; rfl
    · rw [if_neg w0]
      by_cases w14 : w ≤ 14
      · rw [if_pos w14, if_pos (by omega), c.r9, gR_k (h := WI h f1) c.1.2.2.1.1, show hR (WI h f1) 79 0 = 80 from c.1.2.2.1.2.1, aR_k k36 (by omega) (by omega), tN (k : Int) k rfl, show hR (WI h f1) 80 k = 85 + 2 * k from p1, if_neg (by omega), c.now, c.now, rc_k pp.1, rc_k pp.1, st.makeIn pp ok, st.rowsIn pp ok, bnd_some, bnd_some, makeF_c e13, rowsF_c e13, rr_s _ (by decide), rr_s _ (by decide), makeF_num _ _ nb.1 nb.2, rowsF_num _ (cnd_ok m.1 m.2.1 k (by omega)) nb.1 nb.2, gR_k pp.1, pp.2.1]
        by_cases w13 : 13 ≤ w
        · rw [if_pos w13]
          by_cases e : w = 13
          · rw [if_neg (by omega), if_neg (by omega), if_pos e]; rfl
          · rw [if_pos e, if_pos (by omega)]; rfl
        · rw [if_neg w13, if_neg (by omega), if_neg (by omega), aI_k pp.2.2 (by omega) (by omega), e13 _ (by omega)]; rfl
      · rw [if_neg w14, if_neg (by omega)]; rfl
  · rw [decide_eq_false a, if_neg (by decide), if_neg a]; rfl
theorem candidate_ok (i w : Int) : OKC (Bat_candidate 16 i w) (Mod_candidate 401 i w) := OKC_look (A := fun g => cndA g i w) (fun _ _ _ c m => Bat_candidate_e c m i w) (fun h m => by
  obtain ⟨p, cc, k, n, mm, e⟩ := Mod_candidate_e m.1 m.2.1 i w
  exact ⟨_, e, RF_CD _ _ _ _ _ _⟩)
theorem Bat_lookAtChoices_e (c : CAS h own g) (m : MR g) : ∃ f', Bat_lookAtChoices 16 h = some ((), WI h f') ∧ SC (hI h) f' ∧ LK f' g ∧ CM2 f' g := by
  obtain ⟨f1, x1, x2, x3⟩ := c.collect m (SC.refl _)
  obtain ⟨f2, y1, y2, y3⟩ := Cho_measure_e (h := h) (f := f1) c.1.2.2.1 m.2.1 m.1 (c.sc m x2).st (by decide) x3
  have s2 : SC (hI h) f2 := x2.trans (fun x hx => y2 x (by omega))
  obtain ⟨f3, z1, z2, z3, z4⟩ := c.look m s2
  refine ⟨f3, ?_, s2.trans z2, z4, ?_⟩
  · rw [← WI_id h]
    unfold Bat_lookAtChoices
    rw [c.r9, c.r3, c.nq (SC.refl _), c.now, rc_k (h := WI h (hI h)) c.1.2.2.1.1, x1, bnd_some, c.r9, c.now, rc_k (h := WI h f1) c.1.2.2.1.1, y1, bnd_some, c.r8, c.now, c.nq s2, rc_k (h := WI h f2) c.ps.1, z1, bnd_some]; rfl
  · obtain ⟨⟨c1, c2, c3⟩, c4⟩ := y3
    exact ⟨⟨by rw [z3 79 (by decide)]; exact c1, c2, fun i hi => by rw [z3 _ (by omega)]; exact c3 i hi⟩, fun i hi => by rw [z3 81 (by decide), z3 82 (by decide)]; exact c4 i hi⟩
theorem CAS.cx (c : CAS h own g) (m : MR g) {f : Nat → Nat → Int} (s : SC (hI h) f) (lk : LK f g) (cm : CM2 f g) (T : Nat → Nat → Int) : CX h (up2 f 302 1 0) g T 0 := by
  have s1 : SC (hI h) (up2 f 302 1 0) := s.trans (fun x hx => up2_ne (by omega))
  have n : ∀ x, x ≠ 302 → up2 f 302 1 0 x = f x := fun x hx => up2_ne hx
  obtain ⟨⟨c1, c2, c3⟩, c4⟩ := cm
  have l108 := c2
  refine ⟨⟨c.ps, c.1.2.2.1, c.1.2.2.2.1⟩, (c.sc m s1).2.1, m.2.1, m.1, m.2.2.2.1, ?_, ⟨⟨by rw [n 79 (by decide)]; exact c1, c2, fun i hi => by rw [n _ (by omega)]; exact c3 i hi⟩, fun i hi => by rw [n 81 (by decide), n 82 (by decide)]; exact c4 i hi⟩, by rw [up2_e, if_pos ⟨rfl, rfl⟩]; rfl, by decide, fun k hk => absurd hk (by omega), fun k hk => absurd hk (by omega)⟩
  obtain ⟨l1, l2, l3, l4, l5⟩ := lk
  unfold LK
  rw [n 75 (by decide), n 76 (by decide), n 77 (by decide)]
  exact ⟨l1, l2, l3, l4, l5⟩
theorem nothing_0 (r : CR2 h) (f : Nat → Nat → Int) : Chr_takeNothing 301 (WI h f) = Chr_takeNothing 301 (WI h (up2 f 302 1 0)) := by
  obtain ⟨r1, r2, r3, r4, r5, r6, r7, r8, r9⟩ := r
  unfold Chr_takeNothing She_clear
  rw [gR_k (h := WI h f) r1, show hR (WI h f) 301 2 = 302 from r4, rc_k (h := WI h f) r7.1, pI_k (h := WI h f) r7.1, bnd_some, WI_sI, gR_k (h := WI h (up2 f 302 1 0)) (k := 2) r1, show hR (WI h (up2 f 302 1 0)) 301 2 = 302 from r4, rc_k (h := WI h (up2 f 302 1 0)) r7.1, pI_k (h := WI h (up2 f 302 1 0)) r7.1, bnd_some, WI_sI, up2_2]
theorem CH3_sc {f f' : Nat → Nat → Int} (c : CH3 (up2 f 302 1 0) f') : SC f f' := fun x hx => by rw [c x (by omega) (by omega), up2_ne (by omega)]
theorem Bat_greedy_e (c : CAS h own g) (m : MR g) (w : Int) : ∃ f', Bat_greedy 16 w h = some (grA g w, WI h f') ∧ SC (hI h) f' := by
  unfold Bat_greedy grA
  by_cases w0 : w < 0
  · rw [if_pos w0, if_neg (by omega)]; exact ⟨hI h, rfl, SC.refl _⟩
  · rw [if_neg w0]
    by_cases w7 : w ≤ 7
    · rw [if_pos w7, if_pos (by omega)]
      obtain ⟨f1, x1, x2, x3, x4⟩ := Bat_lookAtChoices_e c m
      obtain ⟨f2, y1, y2, y3⟩ := takeGreedily_e (c.cx m x2 x3 x4 (fun _ _ => 0))
      obtain ⟨r1, r2, r3, r4, r5, r6, r7, r8, r9⟩ := id c.1.2.2.2.1
      have e1 : hI (WI h f1) 21 3 = hI g 402 1 := by rw [(c.sc m x2).st.2.1.2.1, rr_s _ (by decide)]
      have y1' : Chr_takeGreedily 301 (hI g 402 1) (WI h f1) = some ((), WI h f2) := by
        rw [← y1]
        unfold Chr_takeGreedily
        rw [rc_k (h := WI h f1) r1, rc_k (h := WI h (up2 f1 302 1 0)) r1, nothing_0 c.1.2.2.2.1]
      refine ⟨f2, ?_, x2.trans (CH3_sc y3)⟩
      obtain ⟨g1, g2, g3⟩ := y2
      rw [rc_k c.fx.1, x1, bnd_some, c.r10, c.now, gI_k (h := WI h f1) c.st.1.1, e1, rc_k (h := WI h f1) r1, y1', bnd_some, c.r10, c.r10, c.r10, gR_k (h := WI h f2) r1, show hR (WI h f2) 301 4 = 326 from r6, gI_k (h := WI h f2) r1, gI_k (h := WI h f2) r1, hI_WI, g1, g2]
      by_cases e : w = 0
      · rw [if_neg (by omega), if_pos e]
      · rw [if_pos e, if_neg e]
        by_cases e' : w = 1
        · rw [if_neg (by omega), if_pos e']
        · rw [if_pos e', if_neg e', wr_id (by omega) (by omega), aI_k (h := WI h f2) r9 (by omega) (by omega), hI_WI, g3 _ (by omega)]
          by_cases l : w - 2 < ((grL g 6 [] 0 0).1.length : Int)
          · rw [if_pos (by omega), if_pos l]
          · rw [if_neg (by omega), if_neg l]
    · rw [if_neg w7, if_neg (by omega)]; exact ⟨hI h, rfl, SC.refl _⟩
theorem greedy_ok (w : Int) : OKC (Bat_greedy 16 w) (Mod_greedy 401 w) := OKC_look (A := fun g => grA g w) (fun _ _ _ c m => Bat_greedy_e c m w) (fun h m => Mod_greedy_e m.1 m.2.1 w)
theorem Bat_best_e (c : CAS h own g) (m : MR g) (w : Int) : ∃ f', Bat_best 16 w h = some (bestA g w, WI h f') ∧ SC (hI h) f' := by
  unfold Bat_best bestA
  by_cases w0 : w < 0
  · rw [if_pos w0, if_neg (by omega)]; exact ⟨hI h, rfl, SC.refl _⟩
  · rw [if_neg w0]
    by_cases w2 : w ≤ 2
    · rw [if_pos w2, if_pos (by omega)]
      obtain ⟨f1, x1, x2, x3, x4⟩ := Bat_lookAtChoices_e c m
      obtain ⟨f2, y1, y2, y3⟩ := takeBest_e (c.cx m x2 x3 x4 (fun _ _ => 0))
      obtain ⟨r1, r2, r3, r4, r5, r6, r7, r8, r9⟩ := id c.1.2.2.2.1
      have e1 : hI (WI h f1) 21 3 = hI g 402 1 := by rw [(c.sc m x2).st.2.1.2.1, rr_s _ (by decide)]
      have y1' : Chr_takeBest 301 (hI g 402 1) (WI h f1) = some ((), WI h f2) := by
        rw [← y1]
        unfold Chr_takeBest
        rw [rc_k (h := WI h f1) r1, rc_k (h := WI h (up2 f1 302 1 0)) r1, nothing_0 c.1.2.2.2.1]
      refine ⟨f2, ?_, x2.trans (CH3_sc y3)⟩
      obtain ⟨g1, g2, g3⟩ := y2
      rw [rc_k c.fx.1, x1, bnd_some, c.r10, c.now, gI_k (h := WI h f1) c.st.1.1, e1, rc_k (h := WI h f1) r1, y1', bnd_some, c.r10, c.r10, gR_k (h := WI h f2) r1, show hR (WI h f2) 301 4 = 326 from r6, gI_k (h := WI h f2) r1, hI_WI, g1]
      by_cases e : w = 0
      · rw [if_neg (by omega), if_pos e]
      · rw [if_pos e, if_neg e, wr_id (by omega) (by omega), aI_k (h := WI h f2) r9 (by omega) (by omega), hI_WI]
        by_cases e' : w = 1
        · rw [if_pos e', e', show ((1 : Int) - 1).toNat = 0 from rfl, g2]
        · rw [if_neg e', show w = 2 by omega, show ((2 : Int) - 1).toNat = 1 from rfl, g3]
    · rw [if_neg w2, if_neg (by omega)]; exact ⟨hI h, rfl, SC.refl _⟩
theorem best_ok (w : Int) : OKC (Bat_best 16 w) (Mod_best 401 w) := OKC_look (A := fun g => bestA g w) (fun _ _ _ c m => Bat_best_e c m w) (fun h m => Mod_best_e m.1 m.2.1 w)
end K2
