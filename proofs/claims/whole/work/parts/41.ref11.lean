/-! Level 2: the reference's scratch; costs by what is kept -/
def scrA (a : Nat) : Bool := a == 401 || a == 405 || a == 406 || (decide (416 ≤ a) && decide (a ≤ 422))
/-- all but scratch is as it was -/
def RF (h H : AH) : Prop := hN H = hN h ∧ hS H = hS h ∧ hK H = hK h ∧ hR H = hR h ∧ (∀ a, scrA a = false → hI H a = hI h a) ∧ hI H 401 10 = hI h 401 10 ∧ hI H 401 18 = hI h 401 18 ∧ hI H 401 43 = hI h 401 43
theorem RF.refl (h : AH) : RF h h := ⟨rfl, rfl, rfl, rfl, fun _ _ => rfl, rfl, rfl, rfl⟩
theorem RF.trans {a b c : AH} (x : RF a b) (y : RF b c) : RF a c := by
  obtain ⟨x1, x2, x3, x4, x5, x6, x7, x8⟩ := x
  obtain ⟨y1, y2, y3, y4, y5, y6, y7, y8⟩ := y
  exact ⟨by rw [y1, x1], by rw [y2, x2], by rw [y3, x3], by rw [y4, x4], fun k hk => by rw [y5 k hk, x5 k hk], by rw [y6, x6], by rw [y7, x7], by rw [y8, x8]⟩
theorem RF_sF (h : AH) {a : Nat} (f : Nat → Int) (ha : scrA a = true) (hn : a ≠ 401) : RF h (sF h a f) :=
  ⟨rfl, rfl, rfl, rfl, fun k hk => hI_sFn h f (fun e => by rw [e, ha] at hk; exact absurd hk (by decide)), by rw [hI_sFn h f (Ne.symm hn)], by rw [hI_sFn h f (Ne.symm hn)], by rw [hI_sFn h f (Ne.symm hn)]⟩
theorem RF_sI (h : AH) {k : Nat} (v : Int) (h1 : k ≠ 10) (h2 : k ≠ 18) (h3 : k ≠ 43) : RF h (sI h 401 k v) :=
  ⟨rfl, rfl, rfl, rfl, fun a ha => hI_sFn h _ (fun e => by rw [e] at ha; exact absurd ha (by decide)), by rw [sI_sF, hI_sFs]; exact if_neg (Ne.symm h1), by rw [sI_sF, hI_sFs]; exact if_neg (Ne.symm h2), by rw [sI_sF, hI_sFs]; exact if_neg (Ne.symm h3)⟩
theorem RF_S3 (h : AH) (p f g : Nat → Int) : RF h (S3 h p f g) := ((RF_sF h p (by decide) (by decide)).trans (RF_sF _ f (by decide) (by decide))).trans (RF_sF _ g (by decide) (by decide))
theorem RF_CD (h : AH) (p c k : Nat → Int) (n m : Int) : RF h (CD h p c k n m) :=
  ⟨rfl, rfl, rfl, rfl, fun a ha => by
    have h1 : a ≠ 401 := fun e => by rw [e] at ha; exact absurd ha (by decide)
    have h2 : a ≠ 416 := fun e => by rw [e] at ha; exact absurd ha (by decide)
    have h3 : a ≠ 419 := fun e => by rw [e] at ha; exact absurd ha (by decide)
    have h4 : a ≠ 420 := fun e => by rw [e] at ha; exact absurd ha (by decide)
    unfold CD; rw [hI_sFn _ _ h1, hI_sFn _ _ h4, hI_sFn _ _ h3, hI_sFn _ _ h2], rfl, rfl, rfl⟩
theorem RF_tkK (h : AH) : RF h (tkK h) := (RF_sF h _ (by decide) (by decide)).trans (RF_sI _ _ (by decide) (by decide) (by decide))
theorem RF_tk1 (h : AH) (k : Nat) : RF h (tk1 h k) := (RF_sF h _ (by decide) (by decide)).trans (RF_sI _ _ (by decide) (by decide) (by decide))
section R11
variable {h H : AH}
theorem RF.ms (r : RF h H) (m : MS h) : MS H := by
  obtain ⟨r1, r2, r3, r4, r5, r6, r7, r8⟩ := r
  unfold MS; rw [r3, r4]; exact m
theorem RF.enum (r : RF h H) : num H = num h := by
  obtain ⟨r1, r2, r3, r4, r5, r6, r7, r8⟩ := r
  funext x y; unfold num; rw [r5 403 (by decide), r5 404 (by decide)]
theorem RF.eqp (r : RF h H) : qp H = qp h := by
  obtain ⟨r1, r2, r3, r4, r5, r6, r7, r8⟩ := r
  funext x y z; unfold qp; rw [r5 409 (by decide), r5 410 (by decide), r5 411 (by decide), r5 412 (by decide)]
theorem RF.vd (r : RF h H) : rVd H = rVd h := by
  obtain ⟨r1, r2, r3, r4, r5, r6, r7, r8⟩ := r
  funext x; unfold rVd; rw [r5 411 (by decide), r5 412 (by decide)]
theorem RF.on (r : RF h H) : rOn H = rOn h := by
  have v := r.vd
  obtain ⟨r1, r2, r3, r4, r5, r6, r7, r8⟩ := r
  funext x; unfold rOn; rw [r5 402 (by decide), v]
theorem RF.has (r : RF h H) : rHas H = rHas h := by
  obtain ⟨r1, r2, r3, r4, r5, r6, r7, r8⟩ := r
  funext x y; unfold rHas; rw [r5 408 (by decide)]
theorem RF.i (r : RF h H) {a : Nat} (ha : scrA a = false) : hI H a = hI h a := r.2.2.2.2.1 a ha
theorem RF.q (r : RF h H) : hI H 401 10 = hI h 401 10 := r.2.2.2.2.2.1
theorem RF.mb (r : RF h H) (b : MB h) : MB H := by
  obtain ⟨r1, r2, r3, r4, r5, r6, r7, r8⟩ := r
  unfold MB at *
  rw [r6, r5 402 (by decide), r5 408 (by decide), r5 409 (by decide), r5 410 (by decide), r5 413 (by decide), r5 414 (by decide)]
  exact b
theorem RF.rw' (r : RF h H) : RW H = RW h := by
  funext q k; unfold RW nR nS; rw [r.has, r.eqp, r.enum, r.i (a := 402) (by decide)]
theorem RF.mk' (r : RF h H) : MK H = MK h := by
  funext q k; unfold MK nR nS; rw [r.has, r.eqp, r.enum, r.i (a := 402) (by decide)]
theorem RF.ecnd (r : RF h H) : cnd H = cnd h := by
  unfold cnd onH hasH qpH; rw [r.q, r.on, r.has, r.eqp]
end R11
/-- the same up to what is looked at -/
def eqT (T T' : Nat → Nat → Int) (n : Nat) : Prop := ∀ k, k < n → ∀ t, t < 16 → T k t = T' k t
theorem bfs_cc {T T' : Nat → Nat → Int} {π σ : Nat → Int} (e : eq13 π σ) : ∀ {n : Nat}, eqT T T' n → bfs T π n = bfs T' σ n
  | 0, _ => rfl
  | n + 1, t => by
    have ih := bfs_cc (T := T) (T' := T') e (n := n) (fun k hk => t k (by omega))
    have bb := bfs_b T' σ n
    rw [bfs, bfs, ih, holdF_c (fun j hj => t n (by omega) j (by omega)) e, t n (by omega) 15 (by decide), t n (by omega) 13 (by decide)]
    by_cases e1 : bfs T' σ n = -1
    · simp [e1]
    · rw [t (bfs T' σ n).toNat (by omega) 13 (by decide)]
theorem svr_cc {T T' : Nat → Nat → Int} {π σ : Nat → Int} {n : Nat} (e : eq13 π σ) (t : eqT T T' n) (mk : Int) : svr T π n mk = svr T' σ n mk := by
  have bb := bfs_b T' σ n
  unfold svr; rw [bfs_cc e t]
  by_cases e1 : bfs T' σ n = -1
  · rw [if_pos e1, if_pos e1]
  · rw [t (bfs T' σ n).toNat (by omega) 13 (by decide)]
theorem cst_cc {T T' : Nat → Nat → Int} {π σ : Nat → Int} {n : Nat} (e : eq13 π σ) (t : eqT T T' n) (mk : Int) : cst T π n mk = cst T' σ n mk := by
  have bb := svr_b T' σ n mk
  unfold cst; rw [svr_cc e t]
  by_cases e1 : svr T' σ n mk = -1
  · rw [if_pos e1, if_pos e1]
  · rw [if_neg e1, if_neg e1, t _ (by omega) 13 (by decide)]
theorem apt_cc {T T' : Nat → Nat → Int} {P P' : Int → Nat → Int} {n : Nat} (e0 : eq13 (P 0) (P' 0)) (e1 : eq13 (P 1) (P' 1)) (t : eqT T T' n) {mk mk' : Int → Int} (h0 : mk 0 = mk' 0) (h1 : mk 1 = mk' 1) (pr : Int) : apt T n P mk pr = apt T' n P' mk' pr := by
  unfold apt; rw [cst_cc e0 t, cst_cc e1 t, h0, h1]
theorem jby_cc {T T' : Nat → Nat → Int} {P P' : Int → Nat → Int} {n : Nat} (e0 : eq13 (P 0) (P' 0)) (e1 : eq13 (P 1) (P' 1)) (e2 : eq13 (P 2) (P' 2)) (t : eqT T T' n) {mk mk' : Int → Int} (h0 : mk 0 = mk' 0) (h1 : mk 1 = mk' 1) (pr : Int) : jby T n P mk pr = jby T' n P' mk' pr := by
  have bb := bfs_b T' (P' 2) n
  unfold jby; rw [bfs_cc e2 t, apt_cc e0 e1 t h0 h1]
  by_cases e1 : bfs T' (P' 2) n = -1
  · rw [if_pos e1, if_pos e1]
  · rw [t (bfs T' (P' 2) n).toNat (by omega) 13 (by decide)]
theorem cNow_cc {T T' : Nat → Nat → Int} {P P' : Int → Nat → Int} {n : Nat} (e0 : eq13 (P 0) (P' 0)) (e1 : eq13 (P 1) (P' 1)) (e2 : eq13 (P 2) (P' 2)) (t : eqT T T' n) {mk mk' : Int → Int} (h0 : mk 0 = mk' 0) (h1 : mk 1 = mk' 1) (pr : Int) (vd : Bool) {src : Int} (hs : src = 0 ∨ src = 1 ∨ src = 2) : cNow T n P vd src mk pr = cNow T' n P' vd src mk' pr := by
  have bb := jby_b T' n P' mk' pr
  unfold cNow
  cases vd
  · rw [if_neg (show ¬ false = true by decide), if_neg (show ¬ false = true by decide), jby_cc e0 e1 e2 t h0 h1, apt_cc e0 e1 t h0 h1]
    rcases hs with rfl | rfl | rfl
    · rw [if_neg (show ¬ (2 : Int) ≤ 0 by decide), if_neg (show ¬ (2 : Int) ≤ 0 by decide), cst_cc e0 t, h0]
    · rw [if_neg (show ¬ (2 : Int) ≤ 1 by decide), if_neg (show ¬ (2 : Int) ≤ 1 by decide), cst_cc e1 t, h1]
    · rw [if_pos (show (2 : Int) ≤ 2 by decide), if_pos (show (2 : Int) ≤ 2 by decide)]
      by_cases ej : jby T' n P' mk' pr = -1
      · rw [if_pos ej, if_pos ej]
      · rw [if_neg ej, if_neg ej, t _ (by omega) 13 (by decide)]
  · rfl
theorem sby_cc {T T' : Nat → Nat → Int} {P P' : Int → Nat → Int} {n : Nat} (e0 : eq13 (P 0) (P' 0)) (e1 : eq13 (P 1) (P' 1)) (e2 : eq13 (P 2) (P' 2)) (t : eqT T T' n) {mk mk' : Int → Int} (h0 : mk 0 = mk' 0) (h1 : mk 1 = mk' 1) (pr : Int) (vd : Bool) (src : Int) {k : Int} (hk : k = 0 ∨ k = 1 ∨ k = 2) : sby T n P vd src mk pr k = sby T' n P' vd src mk' pr k := by
  unfold sby
  cases vd
  · rw [if_neg (show ¬ false = true by decide), if_neg (show ¬ false = true by decide), jby_cc e0 e1 e2 t h0 h1]
    rcases hk with rfl | rfl | rfl
    · rw [svr_cc e0 t, h0]
    · rw [svr_cc e1 t, h1]
    · rw [if_pos (show (2 : Int) = 2 from rfl), if_pos (show (2 : Int) = 2 from rfl)]
  · rfl
theorem bsum_cc {on on' : Nat → Bool} {c c' : Nat → Int} : ∀ {n : Nat}, (∀ q, q < n → on q = on' q ∧ c q = c' q) → bsum on c n = bsum on' c' n
  | 0, _ => rfl
  | n + 1, e => by rw [bsum, bsum, bsum_cc (fun q hq => e q (by omega)), (e n (by omega)).1, (e n (by omega)).2]
theorem sumR_leB {f : Nat → Nat} {B : Nat} (hf : ∀ r, f r ≤ B) : ∀ (n k : Nat), sumR f k n ≤ B * n
  | 0, k => by rw [sumR_0]; omega
  | n + 1, k => by have := sumR_leB hf n (k + 1); have := hf k; rw [sumR_s, Nat.mul_succ]; omega
theorem rowsF_b (π : Nat → Int) (c : Int → Int → Int) {NR NS : Nat} (h1 : NR ≤ 12) (h2 : NS ≤ 8) : rowsF π c NR NS ≤ 96 := by
  unfold rowsF
  split
  · unfold rows2
    refine Nat.le_trans (sumR_leB (B := 8) (fun r => Nat.le_trans (cntR_le _ _ _) h2) NR 0) (by omega)
  · refine Nat.le_trans (cntR_le _ _ _) ?_
    split <;> omega
theorem makeF_b (π : Nat → Int) (c : Int → Int → Int) {NR NS : Nat} (h1 : NR ≤ 12) (h2 : NS ≤ 8) : makeF π c NR NS ≤ 116 := by
  unfold makeF
  split
  · have l1 : rows1 π c 0 NR ≤ 12 := Nat.le_trans (cntR_le _ _ _) h1
    have l2 : rows1 π c 1 NS ≤ 8 := Nat.le_trans (cntR_le _ _ _) h2
    have l3 := Nat.mul_le_mul l1 l2
    omega
  · split <;> omega
section R11b
variable {h H : AH} {T : Nat → Nat → Int} {n : Nat}
theorem nRS (b : MB h) : nR h ≤ 12 ∧ nS h ≤ 8 := by obtain ⟨b1, b2, -⟩ := b; unfold nR nS; omega
theorem RW_b (b : MB h) (q : Nat) (k : Int) : 0 ≤ RW h q k ∧ RW h q k ≤ 96 := by
  have := nRS b
  have := rowsF_b (qp h q k) (num h) this.1 this.2
  unfold RW; split <;> omega
theorem MK_b (b : MB h) (q : Nat) (k : Int) : 0 ≤ MK h q k ∧ MK h q k ≤ 116 := by
  have := nRS b
  have := makeF_b (qp h q k) (num h) this.1 this.2
  unfold MK; split <;> omega
/-- what a query costs by what is taken -/
def cH (h : AH) (T : Nat → Nat → Int) (n q : Nat) : Int := cNow T n (qp h q) (rVd h q) (hI h 408 q) (MK h q) (RW h q 0 * RW h q 1)
def sH (h : AH) (T : Nat → Nat → Int) (n q : Nat) (k : Int) : Int := sby T n (qp h q) (rVd h q) (hI h 408 q) (MK h q) (RW h q 0 * RW h q 1) k
def nQ (h : AH) : Nat := (hI h 401 10).toNat
def bH (h : AH) (T : Nat → Nat → Int) (n : Nat) : Int := bsum (onH h) (cH h T n) (nQ h)
/-- ready to reckon: laid, and taken -/
def RD (h H : AH) (T : Nat → Nat → Int) (n : Nat) : Prop := RF h H ∧ laid h H ∧ hI H 401 34 = n ∧ n ≤ 7 ∧ eqT (tK H) T n ∧ TB T n
theorem RD.lb (r : RD h H T n) (b : MB h) : LB H := by
  obtain ⟨r1, r2, r3, r4, r5, r6⟩ := r
  have en : tM H = n := by unfold tM; omega
  refine ⟨⟨by omega, by omega⟩, ?_, fun q hq k hk => ?_⟩
  · rw [en]; intro k hk; rw [r5 k hk 13 (by decide)]; exact r6 k hk
  · obtain ⟨x1, x2⟩ := r2 q (by rw [← r1.q]; exact hq) k hk
    have := RW_b b q k
    have := MK_b b q k
    rw [x1, x2]; omega
theorem RD.mk (r : RD h H T n) {q : Nat} (hq : (q : Int) < hI h 401 10) {k : Int} (hk : k = 0 ∨ k = 1 ∨ k = 2) : mkL H q k = MK h q k := by
  have := (r.2.1 q hq k.toNat (by omega)).2
  unfold mkL; rw [this]; congr 1; omega
theorem RD.pr (r : RD h H T n) {q : Nat} (hq : (q : Int) < hI h 401 10) : prL H q = RW h q 0 * RW h q 1 := by
  have x0 := (r.2.1 q hq 0 (by decide)).1
  have x1 := (r.2.1 q hq 1 (by decide)).1
  rw [Nat.add_zero] at x0
  unfold prL; rw [x0, x1]; rfl
theorem RD.tm (r : RD h H T n) : tM H = n := by have := r.2.2.1; unfold tM; omega
theorem RD.ecH (r : RD h H T n) (b : MB h) {q : Nat} (hq : (q : Int) < hI h 401 10) : cNow (tK H) (tM H) (qp H q) (rVd H q) (hI H 408 q) (mkL H q) (prL H q) = cH h T n q := by
  have s1 := (b.2.2.2.2 q (by have := b.2.2.1; omega) hq).1
  rw [r.tm, r.pr hq, r.1.eqp, r.1.vd, r.1.i (a := 408) (by decide)]
  exact cNow_cc (fun _ _ => rfl) (fun _ _ => rfl) (fun _ _ => rfl) r.2.2.2.2.1 (r.mk hq (by omega)) (r.mk hq (by omega)) _ _ s1
theorem RD.esH (r : RD h H T n) (b : MB h) {q : Nat} (hq : (q : Int) < hI h 401 10) {k : Int} (hk : k = 0 ∨ k = 1 ∨ k = 2) : sby (tK H) (tM H) (qp H q) (rVd H q) (hI H 408 q) (mkL H q) (prL H q) k = sH h T n q k := by
  rw [r.tm, r.pr hq, r.1.eqp, r.1.vd, r.1.i (a := 408) (by decide)]
  exact sby_cc (fun _ _ => rfl) (fun _ _ => rfl) (fun _ _ => rfl) r.2.2.2.2.1 (r.mk hq (by omega)) (r.mk hq (by omega)) _ _ _ hk
theorem laid_to' {H' : AH} (l : laid h H) (e1 : hI H' 417 = hI H 417) (e2 : hI H' 418 = hI H 418) : laid h H' := by
  unfold laid at *; rw [e1, e2]; exact l
theorem RD.p (r : RD h H T n) (p : Nat → Int) : RD h (sF H 416 p) T n := by
  obtain ⟨r1, r2, r3, r4, r5, r6⟩ := r
  refine ⟨r1.trans (RF_sF H p (by decide) (by decide)), laid_to' r2 (hI_sFn _ _ (by decide)) (hI_sFn _ _ (by decide)), by rw [hI_sFn _ _ (by decide)]; exact r3, r4, fun k hk t ht => ?_, r6⟩
  unfold tK; rw [hI_sFn _ _ (by decide)]; exact r5 k hk t ht
theorem RD.batch (r : RD h H T n) (m : MS h) (b : MB h) : ∃ p, Mod_batchNow 401 H = some (bH h T n, sF H 416 p) := by
  obtain ⟨p, e⟩ := Mod_batchNow_e (r.1.ms m) (r.1.mb b) (r.lb b)
  refine ⟨p, ?_⟩
  rw [e]
  congr 2
  unfold btS bH nQ
  rw [r.1.q]
  refine bsum_cc (fun q hq => ⟨by show rOn H q = rOn h q; rw [r.1.on], r.ecH b (by omega)⟩)
theorem RD.cost (r : RD h H T n) (m : MS h) (b : MB h) {q : Nat} (hq : (q : Int) < hI h 401 10) : ∃ p, Mod_costNow 401 (q : Int) H = some (cH h T n q, sF H 416 p) := by
  obtain ⟨p, e⟩ := Mod_costNow_e (r.1.ms m) (r.1.mb b) (r.lb b) (q := q) (by rw [r.1.q]; exact hq)
  exact ⟨p, by rw [e, r.ecH b hq]⟩
theorem RD.served (r : RD h H T n) (m : MS h) (b : MB h) {q k : Nat} (hq : (q : Int) < hI h 401 10) (hk : k < 3) : ∃ p, Mod_servedBy 401 (q : Int) (k : Int) H = some (sH h T n q k, sF H 416 p) := by
  obtain ⟨p, e⟩ := Mod_servedBy_e (r.1.ms m) (r.1.mb b) (r.lb b) (q := q) (by rw [r.1.q]; exact hq) hk
  exact ⟨p, by rw [e, r.esH b hq (by omega)]⟩
/-- what is kept -/
def kT (h : AH) (k t : Nat) : Int := hI h 407 (16 * k + t)
def nK (h : AH) : Nat := (hI h 402 5).toNat
theorem laid_RF {h1 h2 : AH} (r : RF h1 h2) (l : laid h2 H) : laid h1 H := by
  unfold laid at *
  rw [r.q, r.rw', r.mk'] at l
  exact l
theorem laid_to {H' : AH} (l : laid h H) (e1 : hI H' 417 = hI H 417) (e2 : hI H' 418 = hI H 418) : laid h H' := by
  unfold laid at *; rw [e1, e2]; exact l
theorem hI_sIn (h : AH) {a b k : Nat} (v : Int) (hb : b ≠ a) : hI (sI h a k v) b = hI h b := by rw [sI_sF, hI_sFn _ _ hb]
theorem hI_sIs (h : AH) (a k : Nat) (v : Int) : hI (sI h a k v) a k = v := by rw [sI_sF, hI_sFs, if_pos rfl]
theorem hI_sId (h : AH) {a k j : Nat} (v : Int) (hj : j ≠ k) : hI (sI h a k v) a j = hI h a j := by rw [sI_sF, hI_sFs, if_neg hj]
theorem hI_S3n (h : AH) {p f g : Nat → Int} {a : Nat} (h1 : a ≠ 416) (h2 : a ≠ 417) (h3 : a ≠ 418) : hI (S3 h p f g) a = hI h a := by unfold S3; rw [hI_sFn _ _ h3, hI_sFn _ _ h2, hI_sFn _ _ h1]
theorem hI_tkK (h : AH) {a : Nat} (h1 : a ≠ 421) (h2 : a ≠ 401) : hI (tkK h) a = hI h a := by unfold tkK; rw [hI_sIn _ _ h2, hI_sFn _ _ h1]
/-- laid, and what is kept is taken -/
theorem layK (m : MS h) (b : MB h) (tb : TB (kT h) (nK h)) : ∃ p f g, Mod_laysAll 401 h = some ((), S3 h p f g) ∧ Mod_takesKept 401 (S3 h p f g) = some ((), tkK (S3 h p f g)) ∧ RD h (tkK (S3 h p f g)) (kT h) (nK h) := by
  obtain ⟨p, f, g, e, l⟩ := Mod_laysAll_e m b
  have b4 := b.2.2.2.1
  refine ⟨p, f, g, e, Mod_takesKept_e (show MS (S3 h p f g) from m) (show MB (S3 h p f g) from b), (RF_S3 h p f g).trans (RF_tkK _), laid_to l (hI_tkK _ (by decide) (by decide)) (hI_tkK _ (by decide) (by decide)), ?_, ?_, ?_, tb⟩
  · unfold tkK nK; rw [hI_sIs, hI_S3n h (by decide) (by decide) (by decide)]; omega
  · unfold nK; omega
  · intro k hk t ht
    unfold tK kT tkK
    rw [hI_sIn _ _ (by decide), hI_sFs, hI_S3n h (by decide) (by decide) (by decide), hI_S3n h (by decide) (by decide) (by decide)]
    rw [if_pos (by unfold nK at hk; omega)]
theorem layN (m : MS h) (b : MB h) : ∃ p f g, Mod_laysAll 401 h = some ((), S3 h p f g) ∧ Mod_takesNone 401 (S3 h p f g) = some ((), sI (S3 h p f g) 401 34 0) ∧ ∀ T, RD h (sI (S3 h p f g) 401 34 0) T 0 := by
  obtain ⟨p, f, g, e, l⟩ := Mod_laysAll_e m b
  exact ⟨p, f, g, e, Mod_takesNone_e (show MS (S3 h p f g) from m), fun T => ⟨(RF_S3 h p f g).trans (RF_sI _ _ (by decide) (by decide) (by decide)), laid_to l (hI_sIn _ _ (by decide)) (hI_sIn _ _ (by decide)), hI_sIs _ _ _ _, by decide, fun k hk => by omega, fun k hk => by omega⟩⟩
theorem Mod_batch_e (m : MS h) (b : MB h) (tb : TB (kT h) (nK h)) : ∃ H, Mod_batch 401 h = some (bH h (kT h) (nK h), H) ∧ RD h H (kT h) (nK h) := by
  obtain ⟨p, f, g, e1, e2, r⟩ := layK m b tb
  obtain ⟨p', e3⟩ := r.batch m b
  refine ⟨_, ?_, r.p p'⟩
  unfold Mod_batch
  rw [c_m m, e1, bnd_some, c_m (show MS (S3 h p f g) from m), e2, bnd_some, c_m (r.1.ms m), e3, bnd_some]
def aloneA (h : AH) (q : Int) : Int := if 0 ≤ q ∧ q < hI h 401 10 then cH h (fun _ _ => 0) 0 q.toNat else -1
theorem Mod_alone_e (m : MS h) (b : MB h) (q : Int) : ∃ H, Mod_alone 401 q h = some (aloneA h q, H) ∧ RF h H := by
  unfold Mod_alone aloneA
  rw [c_m m, Mod_isQuery_e m b, bnd_some, ite_nbi]
  by_cases e : 0 ≤ q ∧ q < hI h 401 10
  · obtain ⟨p, f, g, e1, e2, r⟩ := layN m b
    have r := r (fun _ _ => 0)
    obtain ⟨p', e3⟩ := r.cost m b (q := q.toNat) (by omega)
    refine ⟨_, ?_, (r.p p').1⟩
    rw [show ((q.toNat : Nat) : Int) = q by omega] at e3
    rw [if_pos (decide_eq_true e), if_pos e, c_m m, e1, bnd_some, c_m (show MS (S3 h p f g) from m), e2, bnd_some, c_m (r.1.ms m), e3, bnd_some]
  · exact ⟨h, by rw [if_neg (by simpa using e), if_neg e], RF.refl h⟩
def askd (h : AH) (q : Int) : Bool := decide (0 ≤ q ∧ q < hI h 401 10) && !hasB (hI h 402 4) q
theorem Mod_isAsked_e (m : MS h) (b : MB h) (q : Int) : Mod_isAsked 401 q h = some (bi (askd h q), h) := by
  unfold Mod_isAsked askd
  rw [c_m m, Mod_isQuery_e m b, bnd_some, ite_bi, r_1 m, a_402 m (by decide) (by decide), Mod_has_e, bnd_some, ite_nbi]
  show (if decide (0 ≤ q ∧ q < hI h 401 10) = true then (if hasB (hI h 402 4) q = true then _ else _) else _) = _
  cases decide (0 ≤ q ∧ q < hI h 401 10) <;> cases hasB (hI h 402 4) q <;> rfl
def costsA (h : AH) (q : Int) : Int := if askd h q then cH h (kT h) (nK h) q.toNat else -1
theorem askd_q {q : Int} (e : askd h q = true) : 0 ≤ q ∧ q < hI h 401 10 := by
  unfold askd at e
  simp only [Bool.and_eq_true, decide_eq_true_eq] at e
  exact e.1
theorem Mod_costs_e (m : MS h) (b : MB h) (tb : TB (kT h) (nK h)) (q : Int) : ∃ H, Mod_costs 401 q h = some (costsA h q, H) ∧ RF h H := by
  unfold Mod_costs costsA
  rw [c_m m, Mod_isAsked_e m b, bnd_some, ite_nbi]
  cases e : askd h q
  · exact ⟨h, rfl, RF.refl h⟩
  · have eq := askd_q e
    obtain ⟨p, f, g, e1, e2, r⟩ := layK m b tb
    obtain ⟨p', e3⟩ := r.cost m b (q := q.toNat) (by omega)
    refine ⟨_, ?_, (r.p p').1⟩
    rw [show ((q.toNat : Nat) : Int) = q by omega] at e3
    rw [if_pos rfl, if_pos rfl, c_m m, e1, bnd_some, c_m (show MS (S3 h p f g) from m), e2, bnd_some, c_m (r.1.ms m), e3, bnd_some]
def servesA (h : AH) (q k : Int) : Int := if askd h q && inB k 0 2 then (if sH h (kT h) (nK h) q.toNat k = -1 then -2 else sH h (kT h) (nK h) q.toNat k) else -1
theorem Mod_serves_e (m : MS h) (b : MB h) (tb : TB (kT h) (nK h)) (q k : Int) : ∃ H, Mod_serves 401 q k h = some (servesA h q k, H) ∧ RF h H := by
  unfold Mod_serves servesA
  rw [c_m m, Mod_isAsked_e m b, bnd_some, ite_bi, Mod_in_e, bnd_some, ite_nbi]
  cases e : askd h q
  · exact ⟨h, rfl, RF.refl h⟩
  · cases ek : inB k 0 2
    · exact ⟨h, rfl, RF.refl h⟩
    · have eq := askd_q e
      have k2 : 0 ≤ k ∧ k ≤ 2 := by unfold inB at ek; simpa using ek
      obtain ⟨p, f, g, e1, e2, r⟩ := layK m b tb
      obtain ⟨p', e3⟩ := r.served m b (q := q.toNat) (k := k.toNat) (by omega) (by omega)
      refine ⟨_, ?_, (r.p p').1⟩
      rw [show ((q.toNat : Nat) : Int) = q by omega, show ((k.toNat : Nat) : Int) = k by omega] at e3
      rw [if_pos rfl, if_pos rfl, if_pos (by rfl), c_m m, e1, bnd_some, c_m (show MS (S3 h p f g) from m), e2, bnd_some, c_m (r.1.ms m), e3, bnd_some]
      by_cases es : sH h (kT h) (nK h) q.toNat k = -1
      · rw [if_neg (by simpa using es), if_pos es]
      · rw [if_pos es, if_neg es]
end R11b
