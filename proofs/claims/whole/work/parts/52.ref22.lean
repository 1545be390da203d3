/-! Level 2: run -/
/-- the same questions of the same rows -/
def SQ (h H : AH) : Prop := hI H 401 10 = hI h 401 10 ∧ hI H 402 2 = hI h 402 2 ∧ hI H 402 3 = hI h 402 3 ∧ hI H 402 4 = hI h 402 4 ∧ hI H 403 = hI h 403 ∧ hI H 404 = hI h 404 ∧ ∀ a, 408 ≤ a → a ≤ 412 → hI H a = hI h a
section R22
variable {h H : AH} {f f' f1 f2 : Nat → Nat → Int} {ρ ρ' : Nat → Int} {T : Nat → Nat → Int} {n : Nat}
theorem SQ.refl (h : AH) : SQ h h := ⟨rfl, rfl, rfl, rfl, rfl, rfl, fun _ _ _ => rfl⟩
theorem SQ.enum (s : SQ h H) : num H = num h := by
  obtain ⟨s1, s2, s3, s4, s5, s6, s7⟩ := s
  funext x y; unfold num; rw [s5, s6]
theorem SQ.eqp (s : SQ h H) : qp H = qp h := by
  obtain ⟨s1, s2, s3, s4, s5, s6, s7⟩ := s
  funext x y z; unfold qp; rw [s7 409 (by decide) (by decide), s7 410 (by decide) (by decide), s7 411 (by decide) (by decide), s7 412 (by decide) (by decide)]
theorem SQ.vd (s : SQ h H) : rVd H = rVd h := by
  obtain ⟨s1, s2, s3, s4, s5, s6, s7⟩ := s
  funext x; unfold rVd; rw [s7 411 (by decide) (by decide), s7 412 (by decide) (by decide)]
theorem SQ.on (s : SQ h H) : rOn H = rOn h := by
  have v := s.vd
  obtain ⟨s1, s2, s3, s4, s5, s6, s7⟩ := s
  funext x; unfold rOn; rw [s4, v]
theorem SQ.has (s : SQ h H) : rHas H = rHas h := by
  obtain ⟨s1, s2, s3, s4, s5, s6, s7⟩ := s
  funext x y; unfold rHas; rw [s7 408 (by decide) (by decide)]
theorem SQ.rw' (s : SQ h H) : RW H = RW h := by
  funext q k; unfold RW nR nS; rw [s.has, s.eqp, s.enum, s.2.1, s.2.2.1]
theorem SQ.mk' (s : SQ h H) : MK H = MK h := by
  funext q k; unfold MK nR nS; rw [s.has, s.eqp, s.enum, s.2.1, s.2.2.1]
theorem SQ.cH' (s : SQ h H) : cH H = cH h := by
  funext T n q; unfold cH; rw [s.eqp, s.vd, s.rw', s.mk', s.2.2.2.2.2.2 408 (by decide) (by decide)]
theorem SQ.sH' (s : SQ h H) : sH H = sH h := by
  funext T n q k; unfold sH; rw [s.eqp, s.vd, s.rw', s.mk', s.2.2.2.2.2.2 408 (by decide) (by decide)]
theorem SQ.nq (s : SQ h H) : nQ H = nQ h := by unfold nQ; rw [s.1]
theorem SQ.bH' (s : SQ h H) : bH H = bH h := by
  funext T n; unfold bH onH; rw [s.cH', s.on, s.nq]
theorem SQ.ecnd (s : SQ h H) : cnd H = cnd h := by
  unfold cnd onH hasH qpH; rw [s.1, s.on, s.has, s.eqp]
theorem sby_b (T : Nat → Nat → Int) (n : Nat) (P : Int → Nat → Int) (vd : Bool) (src : Int) (mk : Int → Int) (pr k : Int) : sby T n P vd src mk pr k = -1 ∨ (0 ≤ sby T n P vd src mk pr k ∧ sby T n P vd src mk pr k < n) := by
  have j := jby_b T n P mk pr
  have s := svr_b T (P k) n (mk k)
  unfold sby
  split
  · exact Or.inl rfl
  · split
    · split
      · split
        · exact j
        · exact Or.inl rfl
      · split
        · exact Or.inl rfl
        · exact s
    · exact Or.inl rfl
theorem RF.wr2 (r : RF h H) {a : Nat} (ha : scrA a = false) (k : Nat) (v : Int) : RF (sI h a k v) (sI H a k v) := by
  obtain ⟨r1, r2, r3, r4, r5, r6, r7, r8⟩ := r
  have h1 : a ≠ 401 := fun e => by rw [e] at ha; exact absurd ha (by decide)
  refine ⟨r1, r2, r3, r4, fun b hb => ?_, ?_, ?_, ?_⟩
  · rw [hI_sI, hI_sI]
    funext j
    rw [up2_e, up2_e, r5 b hb]
  · rw [hI_sIn _ _ (Ne.symm h1), hI_sIn _ _ (Ne.symm h1)]; exact r6
  · rw [hI_sIn _ _ (Ne.symm h1), hI_sIn _ _ (Ne.symm h1)]; exact r7
  · rw [hI_sIn _ _ (Ne.symm h1), hI_sIn _ _ (Ne.symm h1)]; exact r8
theorem laid_SQ {h' H' : AH} (l : laid h H) (s : SQ h h') (e1 : hI H' 417 = hI H 417) (e2 : hI H' 418 = hI H 418) : laid h' H' := by
  unfold laid at *; rw [e1, e2, s.1, s.rw', s.mk']; exact l
theorem RD.wr2 (r : RD h H T n) {a k : Nat} (ha : a = 407 ∨ a = 402 ∧ (k = 6 ∨ k = 7)) (v : Int) : RD (sI h a k v) (sI H a k v) T n := by
  obtain ⟨r1, r2, r3, r4, r5, r6⟩ := r
  have sa : scrA a = false := by rcases ha with rfl | ⟨rfl, -⟩ <;> decide
  have n1 : a ≠ 401 := by omega
  have sq : SQ h (sI h a k v) := ⟨by rw [hI_sIn _ _ (by omega)], by rw [hI_sI, up2_e, if_neg (by omega)], by rw [hI_sI, up2_e, if_neg (by omega)], by rw [hI_sI, up2_e, if_neg (by omega)], by rw [hI_sIn _ _ (by omega)], by rw [hI_sIn _ _ (by omega)], fun b h1 h2 => by rw [hI_sIn _ _ (by omega)]⟩
  refine ⟨r1.wr2 sa k v, laid_SQ r2 sq (hI_sIn _ _ (by omega)) (hI_sIn _ _ (by omega)), by rw [hI_sIn _ _ (by omega)]; exact r3, r4, fun j hj t ht => ?_, r6⟩
  unfold tK; rw [hI_sIn _ _ (by omega)]; exact r5 j hj t ht
/-- what is used, by what serves -/
def us1 (ρ : Nat → Int) (tm s : Int) : Nat → Int := if s = -1 then ρ else u1 ρ (60 + (16 * s.toNat + 14)) tm
def usq (ρ : Nat → Int) (tm : Int) (on : Bool) (S : Int → Int) : Nat → Int := if on then us1 (us1 (us1 ρ tm (S 0)) tm (S 1)) tm (S 2) else ρ
def usR (on : Nat → Bool) (S : Nat → Int → Int) (tm : Int) : Nat → Nat → (Nat → Int) → (Nat → Int)
  | 0, _, ρ => ρ
  | n + 1, q, ρ => usR on S tm n (q + 1) (usq ρ tm (on q) (S q))
/-- heaps alike but for rows and scratch -/
def HM (h H : AH) : Prop := hN H = hN h ∧ hS H = hS h ∧ hK H = hK h ∧ hR H = hR h ∧ RM (hI h) (hI H)
theorem HM.refl (h : AH) : HM h h := ⟨rfl, rfl, rfl, rfl, RM.refl _⟩
theorem HM.trans {a b c : AH} (x : HM a b) (y : HM b c) : HM a c := by
  obtain ⟨x1, x2, x3, x4, x5⟩ := x
  obtain ⟨y1, y2, y3, y4, y5⟩ := y
  exact ⟨by rw [y1, x1], by rw [y2, x2], by rw [y3, x3], by rw [y4, x4], x5.trans y5⟩
theorem RF.hm (r : RF h H) : HM h H := by
  obtain ⟨r1, r2, r3, r4, r5, r6, r7, r8⟩ := r
  exact ⟨r1, r2, r3, r4, fun a h1 _ _ _ _ => r5 a h1, r6, r7, r8, by rw [r5 402 (by decide)]⟩
theorem HM_WI (h : AH) (e : RM (hI h) f) : HM h (WI h f) := ⟨rfl, rfl, rfl, rfl, e⟩
theorem HM.eta (r : HM h H) : H = WI h (hI H) := by
  obtain ⟨r1, r2, r3, r4, -⟩ := r
  unfold WI; rw [← r1, ← r2, ← r3, ← r4]; rfl
theorem HM.ms (r : HM h H) (m : MS h) : MS H := by
  obtain ⟨r1, r2, r3, r4, -⟩ := r
  unfold MS; rw [r3, r4]; exact m
theorem HM.mb (r : HM h H) (mb : MB h) (b : RB (rr (hI H))) : MB H := by
  have e := r.eta
  have x := r.2.2.2.2
  have : MB (WI h (hI H)) := MB_of mb b x.2.1 (fun a h1 h2 => x.1 a (by unfold scrA; simp; omega) (by omega) (by omega) (by omega) (by omega))
  rw [← e] at this
  exact this
/-- the invariant of a run's loop: base heap g, heap H -/
theorem usesAll_k (m : MS h) (mb : MB h) {g H : AH} {tm : Int} (r : RD g H T n) (hn : n ≤ 6) (hm : HM h g) (sq : SQ h g) (bg : RB (rr (hI g))) (e7 : hI g 402 7 = tm) {q k : Nat} (hq : (q : Int) < hI h 401 10) (hk : k < 3) (on : rOn h q = true) (K : Nat → Int → AH → Option (Unit × AH)) (F : Nat) : ∃ g' H', RD g' H' T n ∧ HM h g' ∧ SQ h g' ∧ RB (rr (hI g')) ∧ hI g' 402 7 = tm ∧ rr (hI g') = us1 (rr (hI g)) tm (sH h T n q k) ∧ Mod_usesAll_L12 K (F + 1) 401 (q : Int) (k : Int) H = Mod_usesAll_L12 K F 401 (q : Int) ((k + 1 : Nat) : Int) H' := by
  have mg := hm.ms m
  have mbg := hm.mb mb bg
  have mH := r.1.ms mg
  have b3 := mb.2.2.1
  have hqg : (q : Int) < hI g 401 10 := by rw [sq.1]; exact hq
  obtain ⟨p, e⟩ := r.served mg mbg (q := q) (k := k) hqg hk
  have eon : rOn H q = true := by rw [r.1.on, sq.on]; exact on
  have es : sH g T n q k = sH h T n q k := by rw [sq.sH']
  rw [es] at e
  have sb : sH h T n q k = -1 ∨ (0 ≤ sH h T n q k ∧ sH h T n q k < n) := sby_b _ _ _ _ _ _ _ _
  rw [Mod_usesAll_L12, if_neg (by omega), c_m mH, Mod_isOn_e mH (by omega) (by omega), bnd_some, eon, bi_t, if_neg (by decide), c_m mH, e, bnd_some, wr_id (z := (k : Int) + 1) (by omega) (by omega), show (k : Int) + 1 = ((k + 1 : Nat) : Int) by omega]
  have rp := r.p p
  have mp := rp.1.ms mg
  unfold us1
  by_cases c : sH h T n q k = -1
  · rw [if_pos c, if_pos c]
    exact ⟨g, _, rp, hm, sq, bg, e7, rfl, rfl⟩
  · obtain ⟨s, hs⟩ : ∃ s : Nat, sH h T n q k = (s : Int) := ⟨(sH h T n q k).toNat, by omega⟩
    rw [hs] at sb c ⊢
    have a7 : hI (sF H 416 p) 402 7 = tm := by rw [rp.1.i (by decide)]; exact e7
    rw [if_neg c, if_neg c, r_9 mp, r_1 mp, a_402 mp (by decide) (by decide), show (7 : Int).toNat = 7 from rfl, a7, wr_id (z := 16 * (s : Int)) (by omega) (by omega), wr_id (z := 16 * (s : Int) + 14) (by omega) (by omega), w_407 mp (by omega) (by omega), tN (16 * (s : Int) + 14) (16 * s + 14) (by omega), show ((s : Nat) : Int).toNat = s from rfl]
    have er : rr (hI (sI g 407 (16 * s + 14) tm)) = u1 (rr (hI g)) (60 + (16 * s + 14)) tm := by rw [hI_sI, rr_u7]
    refine ⟨_, _, rp.wr2 (Or.inl rfl) tm, ?_, ?_, ?_, ?_, er, rfl⟩
    · exact hm.trans (HM_WI g (RM_u _ _ (by omega)))
    · obtain ⟨s1, s2, s3, s4, s5, s6, s7⟩ := sq
      exact ⟨by rw [hI_sIn _ _ (by decide)]; exact s1, by rw [hI_sIn _ _ (by decide)]; exact s2, by rw [hI_sIn _ _ (by decide)]; exact s3, by rw [hI_sIn _ _ (by decide)]; exact s4, by rw [hI_sIn _ _ (by decide)]; exact s5, by rw [hI_sIn _ _ (by decide)]; exact s6, fun a h1 h2 => by rw [hI_sIn _ _ (by omega)]; exact s7 a h1 h2⟩
    · rw [er]
      obtain ⟨b0, b1, b2, b3, b4, b5, b6, b7, b8⟩ := bg
      have z : ∀ j, j ≠ 60 + (16 * s + 14) → u1 (rr (hI g)) (60 + (16 * s + 14)) tm j = rr (hI g) j := fun j hj => if_neg hj
      have zk : ∀ k u, u ≠ 14 → u < 16 → kp (u1 (rr (hI g)) (60 + (16 * s + 14)) tm) k u = kp (rr (hI g)) k u := fun k u h1 h2 => z _ (by omega)
      unfold RB
      rw [z 0 (by omega), z 1 (by omega), z 2 (by omega), z 3 (by omega), z 4 (by omega), z 5 (by omega)]
      refine ⟨b0, b1, b2, b3, b4, b5, fun j hj => by rw [z _ (by omega)]; exact b6 j hj, fun j hj => by rw [z _ (by omega)]; exact b7 j hj, fun k hk => ?_⟩
      rw [zk k 13 (by decide) (by decide), zk k 15 (by decide) (by decide)]
      exact ⟨okP_3 (zk k 0 (by decide) (by decide)).symm (zk k 1 (by decide) (by decide)).symm (zk k 2 (by decide) (by decide)).symm (b8 k hk).1, (b8 k hk).2⟩
    · rw [hI_sIn _ _ (by decide)]; exact e7
theorem usesAll_L (m : MS h) (mb : MB h) (hn : n ≤ 6) {tm : Int} : ∀ (j q fuel : Nat) (g H : AH), RD g H T n → HM h g → SQ h g → RB (rr (hI g)) → hI g 402 7 = tm → (q : Int) + j = hI h 401 10 → j < fuel → ∃ g' H', RF g' H' ∧ HM h g' ∧ SQ h g' ∧ RB (rr (hI g')) ∧ rr (hI g') = usR (onH h) (sH h T n) tm j q (rr (hI g)) ∧ Mod_usesAll_L2 fuel 401 (q : Int) H = some ((), H')
  | 0, q, fuel + 1, g, H, r, hm, sq, bg, e7, hq, _ => by
    have mH := r.1.ms (hm.ms m)
    refine ⟨g, H, r.1, hm, sq, bg, rfl, ?_⟩
    rw [Mod_usesAll_L2, g_m mH, r.1.q, sq.1, if_pos (by omega)]
  | j + 1, q, fuel + 1, g, H, r, hm, sq, bg, e7, hq, hf => by
    have mH := r.1.ms (hm.ms m)
    have b3 := mb.2.2.1
    rw [Mod_usesAll_L2, g_m mH, r.1.q, sq.1, if_neg (by omega), usR]
    unfold usq
    show ∃ g' H', RF g' H' ∧ HM h g' ∧ SQ h g' ∧ RB (rr (hI g')) ∧ rr (hI g') = usR (onH h) (sH h T n) tm j (q + 1) (if rOn h q = true then _ else _) ∧ _
    cases on : rOn h q
    · rw [show FU = 999999 + 1 from rfl, Mod_usesAll_L12, if_neg (by decide), c_m mH, Mod_isOn_e mH (by omega) (by omega), bnd_some, r.1.on, sq.on, on, bi_f, if_pos rfl, wr_id (by omega) (by omega), show (q : Int) + 1 = ((q + 1 : Nat) : Int) by omega, if_neg (by decide)]
      exact usesAll_L m mb hn j (q + 1) fuel g H r hm sq bg e7 (by omega) (by omega)
    · obtain ⟨g1, H1, r1, hm1, sq1, bg1, e71, er1, x1⟩ := usesAll_k m mb r hn hm sq bg e7 (q := q) (k := 0) (by omega) (by decide) on (Mod_usesAll_L2 fuel) 999999
      obtain ⟨g2, H2, r2, hm2, sq2, bg2, e72, er2, x2⟩ := usesAll_k m mb r1 hn hm1 sq1 bg1 e71 (q := q) (k := 1) (by omega) (by decide) on (Mod_usesAll_L2 fuel) 999998
      obtain ⟨g3, H3, r3, hm3, sq3, bg3, e73, er3, x3⟩ := usesAll_k m mb r2 hn hm2 sq2 bg2 e72 (q := q) (k := 2) (by omega) (by decide) on (Mod_usesAll_L2 fuel) 999997
      have m3 := r3.1.ms (hm3.ms m)
      rw [show FU = 999999 + 1 from rfl, show (0 : Int) = ((0 : Nat) : Int) from rfl, x1, show 999999 = 999998 + 1 from rfl, x2, show 999998 = 999997 + 1 from rfl, x3, show 999997 = 999996 + 1 from rfl, Mod_usesAll_L12, if_pos (show (3 : Int) ≤ ((2 + 1 : Nat) : Int) by decide), wr_id (by omega) (by omega), show (q : Int) + 1 = ((q + 1 : Nat) : Int) by omega, if_pos (show true = true from rfl)]
      obtain ⟨g', H', y1, y2, y3, y4, y5, y6⟩ := usesAll_L m mb hn j (q + 1) fuel g3 H3 r3 hm3 sq3 bg3 e73 (by omega) (by omega)
      refine ⟨g', H', y1, y2, y3, y4, ?_, y6⟩
      rw [y5, er3, er2, er1]
      rfl
/-- the row behind a run -/
def rnRow (h : AH) : Nat → Int := usR (onH h) (sH h (kT h) (nK h)) (wr (hI h 402 7 + 1)) (nQ h) 0 (u1 (u1 (rr (hI h)) 7 (wr (hI h 402 7 + 1))) 6 (wr (hI h 402 6 + bH h (kT h) (nK h))))
theorem RB.tb (b : RB (rr (hI h))) : TB (kT h) (nK h) := by
  have b5 := b.n5
  rw [rr_s _ (by decide)] at b5
  intro k hk
  have := (b.k (k := k) (by rw [rr_s _ (by decide)]; unfold nK at hk; omega)).2.1
  rw [kp_rr] at this
  exact this
theorem RB_67 (b : RB ρ) {k : Nat} (hk : k = 6 ∨ k = 7) (v : Int) : RB (u1 ρ k v) := by
  obtain ⟨b0, b1, b2, b3, b4, b5, b6, b7, b8⟩ := b
  have z : ∀ j, j ≠ k → u1 ρ k v j = ρ j := fun j hj => if_neg hj
  have zk : ∀ i u, kp (u1 ρ k v) i u = kp ρ i u := fun i u => z _ (by omega)
  unfold RB
  rw [z 0 (by omega), z 1 (by omega), z 2 (by omega), z 3 (by omega), z 4 (by omega), z 5 (by omega)]
  refine ⟨b0, b1, b2, b3, b4, b5, fun j hj => by rw [z _ (by omega)]; exact b6 j hj, fun j hj => by rw [z _ (by omega)]; exact b7 j hj, fun i hi => ?_⟩
  rw [zk, zk]
  exact ⟨okP_3 (zk i 0).symm (zk i 1).symm (zk i 2).symm (b8 i hi).1, (b8 i hi).2⟩
theorem Mod_runs_e (m : MS h) (mb : MB h) (b : RB (rr (hI h))) : ∃ H, Mod_runs 401 h = some (bH h (kT h) (nK h), H) ∧ HM h H ∧ SQ h H ∧ RB (rr (hI H)) ∧ rr (hI H) = rnRow h := by
  have b5 := b.n5
  rw [rr_s _ (by decide)] at b5
  have r1e : rr (hI (sI h 402 7 (wr (hI h 402 7 + 1)))) = u1 (rr (hI h)) 7 (wr (hI h 402 7 + 1)) := by rw [hI_sI, rr_u2 _ (by decide)]
  have ba : RB (rr (hI (sI h 402 7 (wr (hI h 402 7 + 1))))) := by rw [r1e]; exact RB_67 b (Or.inr rfl) _
  have hma : HM h (sI h 402 7 (wr (hI h 402 7 + 1))) := HM_WI h (RM_u _ _ (by omega))
  have sqa : SQ h (sI h 402 7 (wr (hI h 402 7 + 1))) := ⟨by rw [hI_sIn _ _ (by decide)], by rw [hI_sId _ _ (by decide)], by rw [hI_sId _ _ (by decide)], by rw [hI_sId _ _ (by decide)], by rw [hI_sIn _ _ (by decide)], by rw [hI_sIn _ _ (by decide)], fun a h1 h2 => by rw [hI_sIn _ _ (by omega)]⟩
  have a7 : hI (sI h 402 7 (wr (hI h 402 7 + 1))) 402 7 = wr (hI h 402 7 + 1) := hI_sIs _ _ _ _
  have a6 : hI (sI h 402 7 (wr (hI h 402 7 + 1))) 402 6 = hI h 402 6 := hI_sId _ _ (by decide)
  have ekT : kT (sI h 402 7 (wr (hI h 402 7 + 1))) = kT h := by funext x y; unfold kT; rw [hI_sIn _ _ (by decide)]
  have enK : nK (sI h 402 7 (wr (hI h 402 7 + 1))) = nK h := by unfold nK; rw [hI_sId _ _ (by decide)]
  have ma := hma.ms m
  obtain ⟨H1, x1, rd⟩ := Mod_batch_e ma (hma.mb mb ba) ba.tb
  unfold Mod_runs
  rw [r_1 m, a_402 m (by decide) (by decide), show (7 : Int).toNat = 7 from rfl, w_402 m (by decide) (by decide), show (7 : Int).toNat = 7 from rfl, c_m ma]
  generalize sI h 402 7 (wr (hI h 402 7 + 1)) = g at *
  rw [ekT, enK, sqa.bH'] at x1
  rw [ekT, enK] at rd
  have mH1 := rd.1.ms ma
  have e6 : hI H1 402 6 = hI h 402 6 := by rw [rd.1.i (by decide)]; exact a6
  rw [x1, bnd_some, r_1 mH1, a_402 mH1 (by decide) (by decide), show (6 : Int).toNat = 6 from rfl, e6, w_402 mH1 (by decide) (by decide), show (6 : Int).toNat = 6 from rfl]
  have rd2 := rd.wr2 (a := 402) (k := 6) (Or.inr ⟨rfl, Or.inl rfl⟩) (wr (hI h 402 6 + bH h (kT h) (nK h)))
  have er2 : rr (hI (sI g 402 6 (wr (hI h 402 6 + bH h (kT h) (nK h))))) = u1 (u1 (rr (hI h)) 7 (wr (hI h 402 7 + 1))) 6 (wr (hI h 402 6 + bH h (kT h) (nK h))) := by rw [hI_sI, rr_u2 _ (by decide), r1e]
  have hmb : HM h (sI g 402 6 (wr (hI h 402 6 + bH h (kT h) (nK h)))) := hma.trans (HM_WI g (RM_u _ _ (by omega)))
  have sqb : SQ h (sI g 402 6 (wr (hI h 402 6 + bH h (kT h) (nK h)))) := by
    obtain ⟨s1, s2, s3, s4, s5, s6, s7⟩ := sqa
    exact ⟨by rw [hI_sIn _ _ (by decide)]; exact s1, by rw [hI_sId _ _ (by decide)]; exact s2, by rw [hI_sId _ _ (by decide)]; exact s3, by rw [hI_sId _ _ (by decide)]; exact s4, by rw [hI_sIn _ _ (by decide)]; exact s5, by rw [hI_sIn _ _ (by decide)]; exact s6, fun a h1 h2 => by rw [hI_sIn _ _ (by omega)]; exact s7 a h1 h2⟩
  have bb : RB (rr (hI (sI g 402 6 (wr (hI h 402 6 + bH h (kT h) (nK h)))))) := by rw [er2]; exact RB_67 (RB_67 b (Or.inr rfl) _) (Or.inl rfl) _
  have b3 := mb.2.2.1
  obtain ⟨g', H', y1, y2, y3, y4, y5, y6⟩ := usesAll_L m mb (T := kT h) (n := nK h) (tm := wr (hI h 402 7 + 1)) (by unfold nK; omega) (nQ h) 0 FU _ _ rd2 hmb sqb bb (by rw [hI_sId _ _ (by decide)]; exact a7) (by unfold nQ; omega) (by have := FU_big; unfold nQ; omega)
  rw [c_m (rd2.1.ms (hmb.ms m))]
  unfold Mod_usesAll
  rw [show (0 : Int) = ((0 : Nat) : Int) from rfl, y6, bnd_some]
  refine ⟨H', rfl, y2.trans y1.hm, ?_, ?_, ?_⟩
  · obtain ⟨s1, s2, s3, s4, s5, s6, s7⟩ := y3
    exact ⟨by rw [y1.q]; exact s1, by rw [y1.i (a := 402) (by decide)]; exact s2, by rw [y1.i (a := 402) (by decide)]; exact s3, by rw [y1.i (a := 402) (by decide)]; exact s4, by rw [y1.i (a := 403) (by decide)]; exact s5, by rw [y1.i (a := 404) (by decide)]; exact s6, fun a h1 h2 => by rw [y1.i (by unfold scrA; simp; omega)]; exact s7 a h1 h2⟩
  · rw [y1.row]; exact y4
  · rw [y1.row, y5, er2]; rfl
theorem KA.hm (k : KA (hI h) f1) : SQ h (WI h f1) ∧ kT (WI h f1) = kT h ∧ nK (WI h f1) = nK h := by
  refine ⟨⟨k.1 401 10 (by decide) (by omega), by rw [hI_WI, k.e (by decide) (by decide)], by rw [hI_WI, k.e (by decide) (by decide)], by rw [hI_WI, k.e (by decide) (by decide)], k.e (by decide) (by decide), k.e (by decide) (by decide), fun a h1 h2 => k.e (by omega) (by omega)⟩, ?_, ?_⟩
  · funext x y; unfold kT; rw [hI_WI, k.e (by decide) (by decide)]
  · unfold nK; rw [hI_WI, k.e (by decide) (by decide)]
theorem Mod_run_n (m : MS h) (e : ¬ hI h 402 0 = 1) : Mod_run 401 h = some (-1, h) := by
  unfold Mod_run
  rw [c_m m, Mod_isBase_e m, bnd_some, ite_nbi, if_neg (by simpa using e)]
theorem Mod_run_y (m : MS h) (mb : MB h) (b : RB (rr (hI h))) (h0 : 0 ≤ hI h 401 43) (h1 : hI h 401 43 ≤ 20) (e : hI h 402 0 = 1) : ∃ f', Mod_run 401 h = some (bH h (kT h) (nK h), WI h f') ∧ AC (hI h) f' (rnRow h) := by
  have m1 : ∀ f, MS (WI h f) := fun _ => m
  obtain ⟨f1, x1, ka⟩ := Mod_keepsAct_e m (f := hI h) h0 h1
  rw [WI_id] at x1
  obtain ⟨sq, ek, en⟩ := ka.hm
  obtain ⟨H, x2, hm, -, -, er⟩ := Mod_runs_e (m1 f1) (ka.mb mb b) (by rw [hI_WI, ka.row]; exact b)
  rw [sq.bH', ek, en] at x2
  have eH : H = WI h (hI H) := by have := hm.eta; rw [WI_WI] at this; exact this
  refine ⟨hI H, ?_, AC_of ka hm.2.2.2.2 (fun j _ => ?_)⟩
  · unfold Mod_run
    rw [c_m m, Mod_isBase_e m, bnd_some, ite_nbi, if_pos (decide_eq_true e), c_m m, x1, bnd_some, c_m (m1 _), x2, bnd_some, ← eH]
  · rw [er]
    unfold rnRow onH
    rw [hI_WI, ka.row, ka.e (a := 402) (by decide) (by decide), sq.on, sq.sH', sq.bH', sq.nq, ek, en]
end R22
