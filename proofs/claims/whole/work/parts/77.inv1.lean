/-! Level 2: the class and the reference side by side -/
/-- references alike but for scratch -/
def GR (g g' : AH) : Prop := hI g' 401 10 = hI g 401 10 ∧ hI g' 401 18 = hI g 401 18 ∧ hI g' 401 43 = hI g 401 43 ∧ (∀ a, 401 < a → a < 426 → scrA a = false → hI g' a = hI g a) ∧ ∀ a, 401 ≤ a → a < 426 → hK g' a = hK g a ∧ hR g' a = hR g a
theorem RF.gr {h H : AH} (r : RF h H) : GR h H := by
  obtain ⟨r1, r2, r3, r4, r5, r6, r7, r8⟩ := r
  exact ⟨r6, r7, r8, fun a _ _ ha => r5 a ha, fun a _ _ => ⟨by rw [r3], by rw [r4]⟩⟩
section G1
variable {g g' h H : AH} {own own' : Nat → Nat}
theorem GR.refl (g : AH) : GR g g := ⟨rfl, rfl, rfl, fun _ _ _ _ => rfl, fun _ _ _ => ⟨rfl, rfl⟩⟩
theorem GR.trans {a b c : AH} (x : GR a b) (y : GR b c) : GR a c := by
  obtain ⟨x1, x2, x3, x4, x5⟩ := x
  obtain ⟨y1, y2, y3, y4, y5⟩ := y
  exact ⟨by rw [y1, x1], by rw [y2, x2], by rw [y3, x3], fun k h1 h2 h3 => by rw [y4 k h1 h2 h3, x4 k h1 h2 h3], fun k h1 h2 => ⟨by rw [(y5 k h1 h2).1, (x5 k h1 h2).1], by rw [(y5 k h1 h2).2, (x5 k h1 h2).2]⟩⟩
theorem GR.i (r : GR g g') {a : Nat} (h1 : 401 < a) (h2 : a < 426) (ha : scrA a = false) : hI g' a = hI g a := r.2.2.2.1 a h1 h2 ha
theorem GR.ms (r : GR g g') (m : MS g) : MS g' := by
  obtain ⟨m1, m2⟩ := m
  refine ⟨by rw [(r.2.2.2.2 401 (by decide) (by decide)).1]; exact m1, fun q hq => ?_⟩
  obtain ⟨a1, a2⟩ := m2 q hq
  have b : 401 ≤ q.2.1 ∧ q.2.1 < 426 := by
    have : ∀ q ∈ mArr, 401 ≤ q.2.1 ∧ q.2.1 < 426 := by decide
    exact this q hq
  exact ⟨by rw [(r.2.2.2.2 401 (by decide) (by decide)).2]; exact a1, by rw [(r.2.2.2.2 _ b.1 b.2).1]; exact a2⟩
theorem GR.mb (r : GR g g') (b : MB g) : MB g' := by
  unfold MB at *
  rw [r.1, r.i (a := 402) (by decide) (by decide) (by decide), r.i (a := 408) (by decide) (by decide) (by decide), r.i (a := 409) (by decide) (by decide) (by decide), r.i (a := 410) (by decide) (by decide) (by decide), r.i (a := 413) (by decide) (by decide) (by decide), r.i (a := 414) (by decide) (by decide) (by decide)]
  exact b
theorem GR.qi (r : GR g g') (b : QI g) : QI g' := by
  unfold QI at *
  rw [r.1, r.i (a := 408) (by decide) (by decide) (by decide), r.i (a := 409) (by decide) (by decide) (by decide), r.i (a := 410) (by decide) (by decide) (by decide), r.i (a := 411) (by decide) (by decide) (by decide), r.i (a := 412) (by decide) (by decide) (by decide)]
  exact b
theorem GR.row (r : GR g g') : rr (hI g') = rr (hI g) := by
  funext j; unfold rr
  rw [r.i (a := 402) (by decide) (by decide) (by decide), r.i (a := 403) (by decide) (by decide) (by decide), r.i (a := 404) (by decide) (by decide) (by decide), r.i (a := 407) (by decide) (by decide) (by decide)]
theorem GR.cq (r : GR g g') (c : CQ h g) : CQ h g' := by
  unfold CQ at *
  have e1 : FM g' = FM g := by
    funext q w; unfold FM
    rw [r.i (a := 408) (by decide) (by decide) (by decide), r.i (a := 409) (by decide) (by decide) (by decide), r.i (a := 410) (by decide) (by decide) (by decide), r.i (a := 411) (by decide) (by decide) (by decide), r.i (a := 412) (by decide) (by decide) (by decide), r.i (a := 413) (by decide) (by decide) (by decide), r.i (a := 414) (by decide) (by decide) (by decide)]
  have e2 : rVd g' = rVd g := by
    funext q; unfold rVd; rw [r.i (a := 411) (by decide) (by decide) (by decide), r.i (a := 412) (by decide) (by decide) (by decide)]
  have e3 : qp g' = qp g := by
    funext x y z; unfold qp; rw [r.i (a := 409) (by decide) (by decide) (by decide), r.i (a := 410) (by decide) (by decide) (by decide), r.i (a := 411) (by decide) (by decide) (by decide), r.i (a := 412) (by decide) (by decide) (by decide)]
  rw [r.1, e1, e2, e3]
  exact c
/-- the reference is in order -/
def MR (g : AH) : Prop := MS g ∧ MB g ∧ QI g ∧ RB (rr (hI g)) ∧ 0 ≤ hI g 401 43 ∧ hI g 401 43 ≤ 20
theorem GR.mr (r : GR g g') (m : MR g) : MR g' := by
  obtain ⟨m1, m2, m3, m4, m5, m6⟩ := m
  exact ⟨r.ms m1, r.mb m2, r.qi m3, by rw [r.row]; exact m4, by rw [r.2.2.1]; exact m5, by rw [r.2.2.1]; exact m6⟩
/-- the class as it lies -/
def FX (h : AH) : Prop := hK h 16 = (12, 0) ∧ hR h 16 0 = 17 ∧ hR h 16 2 = 18 ∧ hR h 16 3 = 19 ∧ hR h 16 5 = 20 ∧ hR h 16 6 = 48 ∧ hR h 16 7 = 49 ∧ hR h 16 8 = 75 ∧ hR h 16 9 = 79 ∧ hR h 16 10 = 301 ∧ hR h 16 11 = 327 ∧ hK h 17 = (21, 400) ∧ hK h 18 = (7, 0) ∧ hR h 18 0 = 17 ∧ hK h 48 = (32, 4)
/-- a world stays -/
theorem WOF.to {w u tg F n : Nat} {ρ : Nat → Int} {P : Nat → Nat → Int} (wo : WOF h own w u tg ρ F n P) (hn : hN h ≤ hN H) (ho : ∀ x, x < 16 + hN h → own' x = own x) (e : ∀ x, x < 16 + hN h → (w ≤ x ∧ x < w + 28) ∨ (tg ≤ own x ∧ own x < tg + 20) → hK H x = hK h x ∧ hI H x = hI h x ∧ hR H x = hR h x) : WOF H own' w u tg ρ F n P := by
  obtain ⟨⟨w1, w2, w3, w4⟩, ⟨w5, w6, w7⟩, w8, ⟨w9, w10⟩, ⟨w11, w12⟩, w13, w14⟩ := wo
  have hd : ∀ x, w ≤ x → x < w + 28 → hK H x = hK h x ∧ hI H x = hI h x ∧ hR H x = hR h x := fun x h1 h2 => e x (by omega) (Or.inl ⟨h1, h2⟩)
  have hb : ∀ {p i : Nat}, i < 20 → BLK own p 26 (tg + i) → p + 26 ≤ 16 + hN h → ∀ x, p ≤ x → x < p + 26 → hK H x = hK h x ∧ hI H x = hI h x ∧ hR H x = hR h x := fun {p i} hi b hp x h1 h2 => by
    have o := b x h1 h2
    exact e x (by omega) (Or.inr (by omega))
  have ob : ∀ {p m t : Nat}, BLK own p m t → p + m ≤ 16 + hN h → BLK own' p m t := fun b hp x h1 h2 => by rw [ho x (by omega)]; exact b x h1 h2
  obtain ⟨k0, i0, r0⟩ := hd w (by omega) (by omega)
  obtain ⟨k27, i27, r27⟩ := hd (w + 27) (by omega) (by omega)
  refine ⟨⟨by rw [k0]; exact w1, by rw [r0]; exact w2, by rw [r0]; exact w3, by rw [k27]; exact w4⟩, ⟨ob w5 (by omega), by omega, w7⟩, ST_to w8 (fun x h1 h2 => (hd x (by omega) (by omega)).1) (fun x h1 h2 => (hd x (by omega) (by omega)).2.2) (fun x h1 h2 => (hd x (by omega) (by omega)).2.1), ⟨w9, by rw [i0]; exact w10⟩, ⟨w11, by rw [i0]; exact w12⟩, fun k hk => ?_, fun j hj => ?_⟩
  · obtain ⟨d1, d2⟩ := w13 k hk
    obtain ⟨e1, e2, e3⟩ := (w14 _ (Nat.mod_lt _ (by decide))).resolve_left d1
    have q := hb (Nat.mod_lt _ (by decide)) e3 e1
    rw [r27]
    exact ⟨d1, ST_to d2 (fun x h1 h2 => (q x h1 h2).1) (fun x h1 h2 => (q x h1 h2).2.2) (fun x h1 h2 => (q x h1 h2).2.1)⟩
  · rw [r27]
    by_cases z : hR h (w + 27) j = 0
    · exact Or.inl z
    · obtain ⟨e1, e2, e3⟩ := (w14 j hj).resolve_left z
      have q := hb hj e3 e1
      exact Or.inr ⟨by omega, SB_to e2 (fun x h1 h2 => (q x h1 h2).1) (fun x h1 h2 => (q x h1 h2).2.2) (fun t _ => by rw [(q _ (by omega) (by omega)).2.1]) (fun t _ => by rw [(q _ (by omega) (by omega)).2.1]), ob e3 e1⟩
/-- images of the class as the reference has them -/
def IM (h : AH) (own : Nat → Nat) (g : AH) : Prop := ∀ k, k < 4 → (hR h 48 k = 0 ∧ hI g 425 k = 0) ∨ (hI g 425 k ≠ 0 ∧ hR h 48 k ≠ 0 ∧ (0 ≤ hI g 424 (3278 * k) ∧ hI g 424 (3278 * k) ≤ 20) ∧ hI h (hR h 48 k) 4 = hI g 424 (3278 * k + 1) ∧ ∃ F, WOF h own (hR h 48 k) (50 + k) (200 + 100 * k) (fun j => hI g 424 (3278 * k + 2 + 3120 + j)) F (hI g 424 (3278 * k)).toNat (fun i j => hI g 424 (3278 * k + 2 + (156 * i + j))))
/-- the tape -/
def TP (h g : AH) : Prop := hI h 16 1 = hI g 401 18 ∧ (0 ≤ hI g 401 18 ∧ hI g 401 18 ≤ 400) ∧ ∀ i : Nat, (i : Int) < hI g 401 18 → hI h 17 i = hI g 415 i % 256 ∧ -128 ≤ hI g 415 i ∧ hI g 415 i ≤ 127
/-- the class is as the reference -/
def CAS (h : AH) (own : Nat → Nat) (g : AH) : Prop := (FX h ∧ PS h ∧ CHS h ∧ CR2 h ∧ (SH h 327 0 ∧ hI h 327 1 = 0) ∧ SB h 49 ∧ (∀ c, c < 426 → own c = 1) ∧ 426 ≤ 16 + hN h) ∧ CQ h g ∧ (hI h 16 4 = hI g 401 10 ∧ TP h g) ∧ hI h 20 4 = hI g 402 8 ∧ (∃ F, WOF h own 20 1 100 (rr (hI g)) F (hI g 401 43).toNat (fun i j => hI g 423 (156 * i + j))) ∧ IM h own g
theorem GR.cs (r : GR g g') (c : CAS h own g) : CAS h own g' := by
  obtain ⟨c1, c2, c3, c4, c5, c6⟩ := c
  refine ⟨c1, r.cq c2, ⟨by rw [r.1]; exact c3.1, by unfold TP; rw [r.2.1, r.i (a := 415) (by decide) (by decide) (by decide)]; exact c3.2⟩, by rw [r.i (a := 402) (by decide) (by decide) (by decide)]; exact c4, ?_, ?_⟩
  · rw [r.row, r.2.2.1, r.i (a := 423) (by decide) (by decide) (by decide)]; exact c5
  · unfold IM at *
    rw [r.i (a := 424) (by decide) (by decide) (by decide), r.i (a := 425) (by decide) (by decide) (by decide)]
    exact c6
/-- what is looked at stays -/
theorem CAS.to (c : CAS h own g) (mb : MB g) (hn : hN h ≤ hN H) (ho : ∀ x, x < 16 + hN h → own' x = own x) (ek : ∀ x, x < 16 + hN h → ¬ (401 ≤ x ∧ x < 426) → hK H x = hK h x) (er : ∀ x, x < 16 + hN h → ¬ (401 ≤ x ∧ x < 426) → hR H x = hR h x) (ei : ∀ x, x < 16 + hN h → ¬ (75 ≤ x ∧ x < 327) → ¬ (401 ≤ x ∧ x < 426) → hI H x = hI h x) : CAS H own' g := by
  obtain ⟨⟨c1, c2, c3, c4, c5, c6, c7, c8⟩, d2, d3, d4, ⟨F, d5⟩, d6⟩ := c
  have k : ∀ x, x < 401 → hK H x = hK h x := fun x hx => ek x (by omega) (by omega)
  have r : ∀ x, x < 401 → hR H x = hR h x := fun x hx => er x (by omega) (by omega)
  have i : ∀ x, x < 401 → ¬ (75 ≤ x ∧ x < 327) → hI H x = hI h x := fun x hx h2 => ei x (by omega) h2 (by omega)
  have pa : ∀ {p : Nat}, PA h p → p + 1 < 401 → PA H p := fun q hp => ⟨by rw [k _ (by omega)]; exact q.1, by rw [r _ (by omega)]; exact q.2.1, by rw [k _ (by omega)]; exact q.2.2⟩
  refine ⟨⟨?_, ?_, ?_, ?_, ?_, ?_, fun c hc => by rw [ho c (by omega)]; exact c7 c hc, by omega⟩, ?_, ⟨by rw [i 16 (by decide) (by decide)]; exact d3.1, by unfold TP; rw [i 16 (by decide) (by decide), i 17 (by decide) (by decide)]; exact d3.2⟩, by rw [i 20 (by decide) (by decide)]; exact d4, ⟨F, ?_⟩, ?_⟩
  · unfold FX at *
    rw [k 16 (by decide), r 16 (by decide), k 17 (by decide), k 18 (by decide), r 18 (by decide), k 48 (by decide)]
    exact c1
  · unfold PS at *
    rw [k 75 (by decide), r 75 (by decide), k 76 (by decide), k 77 (by decide), k 78 (by decide)]
    exact c2
  · obtain ⟨a1, a2, a3, a4, a5, a6, a7, a8, a9, a10⟩ := c3
    unfold CHS
    rw [k 79 (by decide), r 79 (by decide), k 80 (by decide), k 81 (by decide), k 82 (by decide), r 80 (by decide)]
    exact ⟨a1, a2, a3, a4, a5, a6, a7, a8, pa a9 (by omega), fun j hj => ⟨(a10 j hj).1, pa (a10 j hj).2 (by omega)⟩⟩
  · obtain ⟨a1, a2, a3, a4, a5, a6, a7, a8, a9⟩ := c4
    unfold CR2
    rw [k 301 (by decide), r 301 (by decide), k 325 (by decide), k 326 (by decide)]
    exact ⟨a1, a2, a3, a4, a5, a6, SH_to a7 (fun x _ h2 => k x (by omega)) (fun x _ h2 => r x (by omega)), a8, a9⟩
  · exact ⟨SH_to c5.1 (fun x _ h2 => k x (by omega)) (fun x _ h2 => r x (by omega)), by rw [i 327 (by decide) (by decide)]; exact c5.2⟩
  · exact SB_to c6 (fun x _ h2 => k x (by omega)) (fun x _ h2 => r x (by omega)) (fun _ _ => by rw [i _ (by decide) (by decide)]) (fun _ _ => by rw [i _ (by decide) (by decide)])
  · obtain ⟨⟨q1, q2⟩, q3⟩ := d2
    have b3 := mb.2.2.1
    refine ⟨⟨by rw [k 19 (by decide)]; exact q1, fun q hq => ?_⟩, fun q hq => ?_⟩
    · obtain ⟨a1, a2, a3, a4, a5, a6, a7⟩ := q2 q hq
      rw [r 19 (by decide), k (329 + 9 * q) (by omega), r (329 + 9 * q) (by omega), k (330 + 9 * q) (by omega), k (331 + 9 * q) (by omega), r (331 + 9 * q) (by omega)]
      exact ⟨a1, a2, a3, a4, a5, a6, fun j hj => ⟨(a7 j hj).1, pa (a7 j hj).2 (by omega)⟩⟩
    · obtain ⟨a1, a2, a3⟩ := q3 q hq
      rw [i (330 + 9 * q) (by omega) (by omega), i (329 + 9 * q) (by omega) (by omega)]
      exact ⟨a1, a2, fun j hj => by rw [i (333 + 9 * q + 2 * j) (by omega) (by omega)]; exact a3 j hj⟩
  · refine d5.to hn ho (fun x hx h2 => ?_)
    have : ¬ (75 ≤ x ∧ x < 327) ∧ ¬ (401 ≤ x ∧ x < 426) := by
      by_cases q : x < 426
      · have := c7 x q; omega
      · omega
    exact ⟨ek x hx this.2, ei x hx this.1 this.2, er x hx this.2⟩
  · intro j hj
    rw [r 48 (by decide)]
    rcases d6 j hj with z | ⟨z1, z2, z3, z4, F', z5⟩
    · exact Or.inl z
    · have b5 := z5.2.1
      have hw : ∀ x, hR h 48 j ≤ x → x < hR h 48 j + 28 → 426 ≤ x := fun x h1 h2 => by
        by_cases q : x < 426
        · have := c7 x q
          have := b5.1 x h1 h2
          omega
        · omega
      have w0 := hw (hR h 48 j) (by omega) (by omega)
      refine Or.inr ⟨z1, z2, z3, by rw [ei (hR h 48 j) (by omega) (by omega) (by omega)]; exact z4, F', z5.to hn ho (fun x hx h2 => ?_)⟩
      have : 426 ≤ x := by
        rcases h2 with h2 | h2
        · exact hw x h2.1 h2.2
        · by_cases q : x < 426
          · have := c7 x q; omega
          · omega
      exact ⟨ek x hx (by omega), ei x hx (by omega) (by omega), er x hx (by omega)⟩
end G1
