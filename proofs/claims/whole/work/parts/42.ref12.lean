/-! Level 2: gain -/
section R12
variable {h H : AH} {T : Nat → Nat → Int} {n : Nat}
theorem RD.bt (r : RD h H T n) (b : MB h) : btS H = bH h T n := by
  unfold btS bH nQ
  rw [r.1.q]
  exact bsum_cc (fun q hq => ⟨by show rOn H q = rOn h q; rw [r.1.on], r.ecH b (by omega)⟩)
theorem RD.b (r : RD h H T n) (b : MB h) : 0 ≤ bH h T n ∧ bH h T n ≤ 96000 := by
  rw [← r.bt b]; exact btS_b (r.lb b) (r.1.mb b)
theorem RD.of {h' : AH} (f : RF h h') (r : RD h' H T n) : RD h H T n := by
  obtain ⟨r1, r2, r3⟩ := r
  exact ⟨f.trans r1, laid_RF f r2, r3⟩
theorem kT_RF (f : RF h H) : kT H = kT h := by funext k t; unfold kT; rw [f.i (a := 407) (by decide)]
theorem nK_RF (f : RF h H) : nK H = nK h := by unfold nK; rw [f.i (a := 402) (by decide)]
/-- a candidate as it is taken -/
def cT (h : AH) (k t : Nat) : Int := if t < 13 then pa (cnd h) k t else if t = 13 then cR h k else 0
def app (T : Nat → Nat → Int) (n : Nat) (x : Nat → Int) : Nat → Nat → Int := fun k => if k = n then x else T k
/-- and the candidates lie there -/
def RC (h H : AH) (T : Nat → Nat → Int) (n : Nat) : Prop := RD h H T n ∧ CI h (hI H 419) (hI H 420) (cnd h) ∧ hI H 401 31 = (cnd h).length
theorem RC.p (r : RC h H T n) (p : Nat → Int) : RC h (sF H 416 p) T n := by
  obtain ⟨r1, r2, r3⟩ := r
  exact ⟨r1.p p, by rw [hI_sFn _ _ (by decide), hI_sFn _ _ (by decide)]; exact r2, by rw [hI_sFn _ _ (by decide)]; exact r3⟩
theorem cR_b (b : MB h) (k : Nat) : 0 ≤ cR h k ∧ cR h k ≤ 96 := by
  have := nRS b
  have := rowsF_b (pa (cnd h) k) (num h) this.1 this.2
  unfold cR; omega
theorem cM_b (b : MB h) (k : Nat) : 0 ≤ cM h k ∧ cM h k ≤ 116 := by
  have := nRS b
  have := makeF_b (pa (cnd h) k) (num h) this.1 this.2
  unfold cM; omega
theorem RC.cell (r : RC h H T n) {k : Nat} (hk : k < (cnd h).length) {t : Nat} (ht : t < 16) : hI H 419 (16 * k + t) = cT h k t := by
  obtain ⟨x1, x2, x3, x4, -⟩ := r.2.1 k hk
  unfold cT
  by_cases e : t < 13
  · rw [if_pos e]; exact x1 t e
  · rw [if_neg e]
    by_cases e2 : t = 13
    · rw [if_pos e2, e2]; exact x2
    · rw [if_neg e2]
      have : t = 14 ∨ t = 15 := by omega
      rcases this with rfl | rfl
      · exact x3
      · exact x4
theorem RC.take (r : RC h H T n) (m : MS h) (b : MB h) (hn : n ≤ 6) {k : Nat} (hk : k < (cnd h).length) : Mod_takesOne 401 (k : Int) H = some ((), tk1 H k) ∧ RC h (tk1 H k) (app T n (cT h k)) (n + 1) := by
  have l := cnd_len b
  have rc := fun {t : Nat} (ht : t < 16) => r.cell hk ht
  obtain ⟨⟨r1, r2, r3, r4, r5, r6⟩, c1, c2⟩ := r
  have en : (hI H 401 34).toNat = n := by omega
  have e1 : ∀ a, a ≠ 421 → a ≠ 401 → hI (tk1 H k) a = hI H a := fun a h1 h2 => by unfold tk1; rw [hI_sIn _ _ h2, hI_sFn _ _ h1]
  refine ⟨Mod_takesOne_e (r1.ms m) (by omega) (by omega) (by omega), ⟨r1.trans (RF_tk1 H k), laid_to r2 (e1 417 (by decide) (by decide)) (e1 418 (by decide) (by decide)), ?_, by omega, fun j hj t ht => ?_, fun j hj => ?_⟩, by rw [e1 419 (by decide) (by decide), e1 420 (by decide) (by decide)]; exact c1, ?_⟩
  · unfold tk1; rw [hI_sIs, r3]; omega
  · unfold tK tk1 app
    rw [hI_sIn _ _ (by decide), hI_sFs, en]
    by_cases e : j = n
    · rw [if_pos (by omega), if_pos e, ← rc ht]; congr 1; omega
    · rw [if_neg (by omega), if_neg e]; exact r5 j (by omega) t ht
  · unfold app
    by_cases e : j = n
    · rw [if_pos e]
      have := cR_b b k
      show 0 ≤ cR h k ∧ cR h k ≤ 1000
      omega
    · rw [if_neg e]; exact r6 j (by omega)
  · unfold tk1; rw [hI_sId _ _ (by decide), hI_sFn _ _ (by decide)]; exact c2
theorem RC.mk (r : RC h H T n) {k : Nat} (hk : k < (cnd h).length) : hI H 420 k = cM h k := (r.2.1 k hk).2.2.2.2.1
/-- candidates are laid, parts too, what is kept is taken -/
theorem layCK (m : MS h) (b : MB h) (tb : TB (kT h) (nK h)) {p c k : Nat → Int} {mm : Int} (ci : CI h c k (cnd h)) : ∃ p' f g, Mod_laysAll 401 (CD h p c k (cnd h).length mm) = some ((), S3 (CD h p c k (cnd h).length mm) p' f g) ∧ Mod_takesKept 401 (S3 (CD h p c k (cnd h).length mm) p' f g) = some ((), tkK (S3 (CD h p c k (cnd h).length mm) p' f g)) ∧ RC h (tkK (S3 (CD h p c k (cnd h).length mm) p' f g)) (kT h) (nK h) := by
  have rf := RF_CD h p c k (cnd h).length mm
  obtain ⟨p', f, g, e1, e2, r⟩ := layK (rf.ms m) (rf.mb b) (by rw [kT_RF rf, nK_RF rf]; exact tb)
  rw [kT_RF rf, nK_RF rf] at r
  refine ⟨p', f, g, e1, e2, RD.of rf r, ?_, ?_⟩
  · rw [hI_tkK _ (by decide) (by decide), hI_S3n _ (by decide) (by decide) (by decide), hI_tkK _ (by decide) (by decide), hI_S3n _ (by decide) (by decide) (by decide)]
    exact ci
  · unfold tkK; rw [hI_sId _ _ (by decide), hI_sFn _ _ (by decide), hI_S3n _ (by decide) (by decide) (by decide)]; rfl
theorem layCN (m : MS h) (b : MB h) {p c k : Nat → Int} {mm : Int} (ci : CI h c k (cnd h)) : ∃ p' f g, Mod_laysAll 401 (CD h p c k (cnd h).length mm) = some ((), S3 (CD h p c k (cnd h).length mm) p' f g) ∧ Mod_takesNone 401 (S3 (CD h p c k (cnd h).length mm) p' f g) = some ((), sI (S3 (CD h p c k (cnd h).length mm) p' f g) 401 34 0) ∧ ∀ T, RC h (sI (S3 (CD h p c k (cnd h).length mm) p' f g) 401 34 0) T 0 := by
  have rf := RF_CD h p c k (cnd h).length mm
  obtain ⟨p', f, g, e1, e2, r⟩ := layN (rf.ms m) (rf.mb b)
  refine ⟨p', f, g, e1, e2, fun T => ⟨RD.of rf (r T), ?_, ?_⟩⟩
  · rw [hI_sIn _ _ (by decide), hI_S3n _ (by decide) (by decide) (by decide), hI_sIn _ _ (by decide), hI_S3n _ (by decide) (by decide) (by decide)]
    exact ci
  · rw [hI_sId _ _ (by decide), hI_S3n _ (by decide) (by decide) (by decide)]; rfl
def gainA (h : AH) (i : Int) : Int := if 0 ≤ i ∧ i < (cnd h).length then 10000 + bH h (kT h) (nK h) - bH h (app (kT h) (nK h) (cT h i.toNat)) (nK h + 1) - cM h i.toNat else -1
theorem Mod_gain_e (m : MS h) (b : MB h) (tb : TB (kT h) (nK h)) (i : Int) : ∃ H, Mod_gain 401 i h = some (gainA h i, H) ∧ RF h H := by
  obtain ⟨p, c, k, mm, e, ci⟩ := Mod_isCandidate_e m b i
  have rf := RF_CD h p c k (cnd h).length mm
  have l := cnd_len b
  unfold Mod_gain gainA
  rw [c_m m, e, bnd_some, ite_nbi]
  by_cases e1 : 0 ≤ i ∧ i < (cnd h).length
  · obtain ⟨p', f, g, e2, e3, r⟩ := layCK m b tb ci
    obtain ⟨p2, e4⟩ := r.1.batch m b
    have r2 := r.p p2
    have n6 : nK h ≤ 6 := by have := b.2.2.2.1; unfold nK; omega
    obtain ⟨e5, r3⟩ := r2.take m b n6 (k := i.toNat) (by omega)
    obtain ⟨p3, e6⟩ := r3.1.batch m b
    have r4 := r3.p p3
    have m4 := r4.1.1.ms m
    have b1 := r2.1.b b
    have b2 := r3.1.b b
    have b3 := cM_b b i.toNat
    refine ⟨_, ?_, r4.1.1⟩
    rw [show ((i.toNat : Nat) : Int) = i by omega] at e5
    rw [if_pos (decide_eq_true e1), if_pos e1, c_m (rf.ms m), e2, bnd_some, c_m ((rf.trans (RF_S3 _ _ _ _)).ms m), e3, bnd_some, c_m (r.1.1.ms m), e4, bnd_some, c_m (r2.1.1.ms m), e5, bnd_some, c_m (r3.1.1.ms m), e6, bnd_some, r_30 m4, a_420 m4 (by omega) (by omega), r4.mk (by omega), wr_id (z := 10000 + bH h (kT h) (nK h)) (by omega) (by omega), wr_id (z := 10000 + bH h (kT h) (nK h) - bH h (app (kT h) (nK h) (cT h i.toNat)) (nK h + 1)) (by omega) (by omega), wr_id (by omega) (by omega)]
  · exact ⟨_, by rw [if_neg (by simpa using e1), if_neg e1], rf⟩
end R12
