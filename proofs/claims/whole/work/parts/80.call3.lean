/-! Level 2: acts of both sides -/
section K3
variable {h H g g' : AH} {own own' : Nat → Nat} {ρ σ : Nat → Int} {P P' : Nat → Nat → Int}
theorem ST_row {a : Nat} (s : ST h a ρ) (e : ∀ j, j < 156 → σ j = ρ j) : ST h a σ := by
  have b5 := s.2.2.n5
  have b2 := s.2.2.2.2.1
  have b3 := s.2.2.2.2.2.1
  obtain ⟨sb, ⟨e0, e1, e2, e3, e4, e5, e6, e7, eR, eS, eK⟩, b⟩ := s
  refine ⟨sb, ?_, RB_of b (fun j h1 _ _ _ => e j h1)⟩
  unfold ER
  rw [e 0 (by decide), e 1 (by decide), e 2 (by decide), e 3 (by decide), e 4 (by decide), e 5 (by decide), e 6 (by decide), e 7 (by decide)]
  refine ⟨e0, e1, e2, e3, e4, e5, e6, e7, fun j hj => by rw [e _ (by omega)]; exact eR j hj, fun j hj => by rw [e _ (by omega)]; exact eS j hj, fun i hi t ht => ?_⟩
  rw [eK i hi t ht]
  unfold kp
  rw [e _ (by omega)]
theorem WOF.row2 {w u tg F n : Nat} (wo : WOF h own w u tg ρ F n P) (e : ∀ j, j < 156 → σ j = ρ j) (e2 : ∀ k, k < n → ∀ j, j < 156 → P' k j = P k j) : WOF h own w u tg σ F n P' := by
  obtain ⟨a1, a2, a3, a4, a5, a6, a7⟩ := wo
  exact ⟨a1, a2, ST_row a3 e, a4, a5, fun k hk => ⟨(a6 k hk).1, ST_row (a6 k hk).2 (e2 k hk)⟩, a7⟩
/-- what an act leaves of the reference -/
def QG (g g' : AH) : Prop := hI g' 401 10 = hI g 401 10 ∧ hI g' 401 18 = hI g 401 18 ∧ (∀ a, 408 ≤ a → a ≤ 415 → hI g' a = hI g a)
theorem QG.cq (r : QG g g') (c : CQ h g) : CQ h g' := by
  obtain ⟨r1, r2, r3⟩ := r
  unfold CQ at *
  have e1 : FM g' = FM g := by
    funext q w; unfold FM
    rw [r3 408 (by decide) (by decide), r3 409 (by decide) (by decide), r3 410 (by decide) (by decide), r3 411 (by decide) (by decide), r3 412 (by decide) (by decide), r3 413 (by decide) (by decide), r3 414 (by decide) (by decide)]
  have e2 : rVd g' = rVd g := by
    funext q; unfold rVd; rw [r3 411 (by decide) (by decide), r3 412 (by decide) (by decide)]
  have e3 : qp g' = qp g := by
    funext x y z; unfold qp; rw [r3 409 (by decide) (by decide), r3 410 (by decide) (by decide), r3 411 (by decide) (by decide), r3 412 (by decide) (by decide)]
  rw [r1, e1, e2, e3]
  exact c
theorem QG.qi (r : QG g g') (b : QI g) : QI g' := by
  obtain ⟨r1, r2, r3⟩ := r
  unfold QI at *
  rw [r1, r3 408 (by decide) (by decide), r3 409 (by decide) (by decide), r3 410 (by decide) (by decide), r3 411 (by decide) (by decide), r3 412 (by decide) (by decide)]
  exact b
/-- all but worlds stays -/
theorem CAS.base (c : CAS h own g) (mb : MB g) (hn : hN h ≤ hN H) (ho : ∀ x, x < 16 + hN h → own' x = own x) (ek : ∀ x, x < 401 → hK H x = hK h x) (er : ∀ x, x < 401 → ¬ (20 ≤ x ∧ x < 49) → hR H x = hR h x) (ei : ∀ x, x < 401 → ¬ (20 ≤ x ∧ x < 49) → ¬ (75 ≤ x ∧ x < 327) → hI H x = hI h x) (q : QG g g') : (FX H ∧ PS H ∧ CHS H ∧ CR2 H ∧ (SH H 327 0 ∧ hI H 327 1 = 0) ∧ SB H 49 ∧ (∀ c, c < 426 → own' c = 1) ∧ 426 ≤ 16 + hN H) ∧ CQ H g' ∧ (hI H 16 4 = hI g' 401 10 ∧ TP H g') := by
  obtain ⟨⟨c1, c2, c3, c4, c5, c6, c7, c8⟩, d2, d3, d4, d5, d6⟩ := c
  have k := ek
  have r := er
  have i := ei
  have pa : ∀ {p : Nat}, PA h p → 49 ≤ p → p + 1 < 401 → PA H p := fun q h49 hp => ⟨by rw [k _ (by omega)]; exact q.1, by rw [r _ (by omega) (by omega)]; exact q.2.1, by rw [k _ (by omega)]; exact q.2.2⟩
  refine ⟨⟨?_, ?_, ?_, ?_, ?_, ?_, fun c hc => by rw [ho c (by omega)]; exact c7 c hc, by omega⟩, ?_, ⟨by rw [i 16 (by decide) (by decide) (by decide), q.1]; exact d3.1, ?_⟩⟩
  · unfold FX at *
    rw [k 16 (by decide), r 16 (by decide) (by decide), k 17 (by decide), k 18 (by decide), r 18 (by decide) (by decide), k 48 (by decide)]
    exact c1
  · unfold PS at *
    rw [k 75 (by decide), r 75 (by decide) (by decide), k 76 (by decide), k 77 (by decide), k 78 (by decide)]
    exact c2
  · obtain ⟨a1, a2, a3, a4, a5, a6, a7, a8, a9, a10⟩ := c3
    unfold CHS
    rw [k 79 (by decide), r 79 (by decide) (by decide), k 80 (by decide), k 81 (by decide), k 82 (by decide), r 80 (by decide) (by decide)]
    exact ⟨a1, a2, a3, a4, a5, a6, a7, a8, pa a9 (by omega) (by omega), fun j hj => ⟨(a10 j hj).1, pa (a10 j hj).2 (by omega) (by omega)⟩⟩
  · obtain ⟨a1, a2, a3, a4, a5, a6, a7, a8, a9⟩ := c4
    unfold CR2
    rw [k 301 (by decide), r 301 (by decide) (by decide), k 325 (by decide), k 326 (by decide)]
    exact ⟨a1, a2, a3, a4, a5, a6, SH_to a7 (fun x _ h2 => k x (by omega)) (fun x _ h2 => r x (by omega) (by omega)), a8, a9⟩
  · exact ⟨SH_to c5.1 (fun x _ h2 => k x (by omega)) (fun x _ h2 => r x (by omega) (by omega)), by rw [i 327 (by decide) (by decide) (by decide)]; exact c5.2⟩
  · exact SB_to c6 (fun x _ h2 => k x (by omega)) (fun x _ h2 => r x (by omega) (by omega)) (fun _ _ => by rw [i _ (by decide) (by decide) (by decide)]) (fun _ _ => by rw [i _ (by decide) (by decide) (by decide)])
  · refine q.cq ?_
    obtain ⟨⟨q1, q2⟩, q3⟩ := d2
    have b3 := mb.2.2.1
    refine ⟨⟨by rw [k 19 (by decide)]; exact q1, fun q hq => ?_⟩, fun q hq => ?_⟩
    · obtain ⟨a1, a2, a3, a4, a5, a6, a7⟩ := q2 q hq
      rw [r 19 (by decide) (by decide), k (329 + 9 * q) (by omega), r (329 + 9 * q) (by omega) (by omega), k (330 + 9 * q) (by omega), k (331 + 9 * q) (by omega), r (331 + 9 * q) (by omega) (by omega)]
      exact ⟨a1, a2, a3, a4, a5, a6, fun j hj => ⟨(a7 j hj).1, pa (a7 j hj).2 (by omega) (by omega)⟩⟩
    · obtain ⟨a1, a2, a3⟩ := q3 q hq
      rw [i (330 + 9 * q) (by omega) (by omega) (by omega), i (329 + 9 * q) (by omega) (by omega) (by omega)]
      exact ⟨a1, a2, fun j hj => by rw [i (333 + 9 * q + 2 * j) (by omega) (by omega) (by omega)]; exact a3 j hj⟩
  · unfold TP
    rw [i 16 (by decide) (by decide) (by decide), i 17 (by decide) (by decide) (by decide), q.2.1, q.2.2 415 (by decide) (by decide)]
    exact d3.2
/-- images stay -/
theorem CAS.imgs (c : CAS h own g) (hn : hN h ≤ hN H) (ho : ∀ x, x < 16 + hN h → own' x = own x) (e48 : hR H 48 = hR h 48) (e : ∀ x, x < 16 + hN h → 426 ≤ x → (own x < 100 ∨ 120 ≤ own x) → hK H x = hK h x ∧ hI H x = hI h x ∧ hR H x = hR h x) (e4 : hI g' 424 = hI g 424) (e5 : hI g' 425 = hI g 425) : IM H own' g' := by
  obtain ⟨⟨c1, c2, c3, c4, c5, c6, c7, c8⟩, d2, d3, d4, d5, d6⟩ := c
  intro j hj
  rw [e48, e4, e5]
  rcases d6 j hj with z | ⟨z1, z2, z3, z4, F', z5⟩
  · exact Or.inl z
  · have b5 := z5.2.1
    have hw : ∀ x, hR h 48 j ≤ x → x < hR h 48 j + 28 → 426 ≤ x := fun x h1 h2 => by
      by_cases q : x < 426
      · have := c7 x q
        have := b5.1 x h1 h2
        omega
      · omega
    have w0 := hw (hR h 48 j) (by omega) (by omega)
    have o0 := b5.1 (hR h 48 j) (by omega) (by omega)
    refine Or.inr ⟨z1, z2, z3, by rw [(e (hR h 48 j) (by omega) w0 (by omega)).2.1]; exact z4, F', z5.to hn ho (fun x hx h2 => ?_)⟩
    rcases h2 with h2 | h2
    · exact e x hx (hw x h2.1 h2.2) (by have := b5.1 x h2.1 h2.2; omega)
    · refine e x hx ?_ (by omega)
      by_cases q : x < 426
      · have := c7 x q; omega
      · omega
/-- an act of the class -/
def ACT (h : AH) (own : Nat → Nat) (g H : AH) (own' : Nat → Nat) (ρ' : Nat → Int) : Prop := (∃ F, WOF H own' 20 1 100 ρ' F (if (hI g 401 43).toNat = 20 then 20 else (hI g 401 43).toNat + 1) (pshP (fun i j => hI g 423 (156 * i + j)) (hI g 401 43).toNat (rr (hI g)))) ∧ (hN h ≤ hN H ∧ hN H ≤ hN h + 26 ∧ hS H ≤ hS h + 185) ∧ (∀ x, x < 16 + hN h → own' x = own x ∧ hK H x = hK h x) ∧ (∀ x, x < 16 + hN h → (own x < 100 ∨ 120 ≤ own x) → ¬ (20 ≤ x ∧ x < 48) → hR H x = hR h x ∧ (¬ (75 ≤ x ∧ x < 327) → hI H x = hI h x)) ∧ hI H 20 4 = hI h 20 4
theorem OKC_act {B M : AH → Option (Int × AH)} {A : AH → Int} {ok : AH → Prop} {R : AH → Nat → Int} (hok : ∀ g g', GR g g' → ok g → ok g') (hn : ∀ h own g, CAS h own g → MR g → ¬ ok g → ∃ f', B h = some (-1, WI h f') ∧ SC (hI h) f') (hy : ∀ h own g, CAS h own g → MR g → ok g → ∃ H own', B h = some (A g, H) ∧ ACT h own g H own' (R g)) (mn : ∀ h, MR h → ¬ ok h → ∃ H, M h = some (-1, H) ∧ RF h H) (my : ∀ h, MR h → ok h → ∃ f', M h = some (A h, WI h f') ∧ AC (hI h) f' (R h)) : OKC B M := by
  intro h own ⟨c, m⟩ sd
  by_cases o : ok h
  · obtain ⟨H, oo, x1, x2⟩ := hy h own h c m o
    have c7 := c.1.2.2.2.2.2.2.1
    have c8 := c.1.2.2.2.2.2.2.2
    have hh : ∀ x, 327 ≤ x → x < 426 → hK H x = hK h x ∧ hR H x = hR h x ∧ hI H x = hI h x := fun x h1 h2 => by
      have q := x2.2.2.2.1 x (by omega) (Or.inl (by rw [c7 x h2]; decide)) (by omega)
      exact ⟨(x2.2.2.1 x (by omega)).2, q.1, q.2 (by omega)⟩
    have gr : GR h H := ⟨by rw [(hh 401 (by decide) (by decide)).2.2], by rw [(hh 401 (by decide) (by decide)).2.2], by rw [(hh 401 (by decide) (by decide)).2.2], fun a h1 h2 _ => (hh a (by omega) h2).2.2, fun a h1 h2 => ⟨(hh a (by omega) h2).1, (hh a (by omega) h2).2.1⟩⟩
    have m1 := gr.mr m
    have c1 := gr.cs c
    have o1 := hok _ _ gr o
    obtain ⟨H', own', y1, y2⟩ := hy h own H c1 m1 o1
    rw [x1] at y1
    injection y1 with y1
    injection y1 with y1 y1'
    subst y1'
    obtain ⟨f', z1, z2⟩ := my H m1 o1
    obtain ⟨⟨F, wo⟩, ⟨n1, n2, n3⟩, fk, fi, f4⟩ := y2
    obtain ⟨a1, a2, a3, a4, a5, a6, a7⟩ := z2
    have ln := m1.2.2.2.2
    have qg : QG H (WI H f') := ⟨a2, a3, fun a h1 h2 => a1 a (by unfold scrA; simp; omega) (by omega) (by omega) (by omega) (by omega) (by omega)⟩
    have rb : RB (rr f') := RB_of wo.2.2.1.2.2 (fun j h1 _ _ _ => a5 j h1)
    have mb' : MB (WI H f') := MB_of m1.2.1 rb a2 (fun a h1 h2 => qg.2.2 a h1 (by omega))
    have ff : ∀ x, ¬ (401 ≤ x ∧ x < 426) → f' x = hI H x := fun x hx => a1 x (by unfold scrA; simp; omega) (by omega) (by omega) (by omega) (by omega) (by omega)
    have bs := c1.base (H := WI H f') (own' := own') m1.2.1 (by show hN h ≤ hN H; exact n1) (fun x hx => (fk x hx).1) (fun x hx => (fk x (by omega)).2) (fun x hx h2 => (fi x (by omega) (Or.inl (by rw [c7 x (by omega)]; decide)) (by omega)).1) (fun x hx h2 h3 => by rw [hI_WI, ff x (by omega)]; exact (fi x (by omega) (Or.inl (by rw [c7 x (by omega)]; decide)) (by omega)).2 h3) qg
    have im := c1.imgs (H := WI H f') (own' := own') (g' := WI H f') n1 (fun x hx => (fk x hx).1) (fi 48 (by omega) (Or.inl (by rw [c7 48 (by decide)]; decide)) (by decide)).1 (fun x hx h2 h3 => ⟨(fk x hx).2, by rw [hI_WI, ff x (by omega)]; exact (fi x hx h3 (by omega)).2 (by omega), (fi x hx h3 (by omega)).1⟩) (a1 424 (by decide) (by decide) (by decide) (by decide) (by decide) (by decide)) (a1 425 (by decide) (by decide) (by decide) (by decide) (by decide) (by decide))
    have wo1 : WOF (WI H f') own' 20 1 100 (R H) F (if (hI H 401 43).toNat = 20 then 20 else (hI H 401 43).toNat + 1) (pshP (fun i j => hI H 423 (156 * i + j)) (hI H 401 43).toNat (rr (hI H))) := wo.to (Nat.le_refl _) (fun _ _ => rfl) (fun x hx h2 => ⟨rfl, by
      rw [hI_WI]
      refine ff x (fun e => ?_)
      rcases h2 with h2 | h2
      · omega
      · have := (fk x (by omega)).1
        rw [c7 x e.2] at this
        omega, rfl⟩)
    have n43 : (f' 401 43).toNat = if (hI H 401 43).toNat = 20 then 20 else (hI H 401 43).toNat + 1 := by
      rw [a6]
      by_cases e : hI H 401 43 = 20
      · rw [if_pos e, if_pos (by omega)]; rfl
      · rw [if_neg e, if_neg (by omega)]; omega
    have wo2 : WOF (WI H f') own' 20 1 100 (rr f') F (f' 401 43).toNat (fun i j => f' 423 (156 * i + j)) := by
      rw [n43]
      refine wo1.row2 a5 (fun k hk j hj => ?_)
      have k43 : (k : Int) < f' 401 43 := by omega
      show f' 423 (156 * k + j) = _
      rw [a7 k j k43 hj]
      unfold pshP psh
      by_cases e : (hI H 401 43).toNat = 20
      · have e43 : f' 401 43 = 20 := by rw [a6, if_pos (by omega)]
        rw [if_pos e, e43]
        show (if (k : Int) + 1 = 20 then rr (hI H) j else if hI H 401 43 = 20 then hI H 423 (156 * (k + 1) + j) else hI H 423 (156 * k + j)) = (if k = 19 then rr (hI H) else fun j => hI H 423 (156 * (k + 1) + j)) j
        by_cases e' : k = 19
        · rw [if_pos (show (k : Int) + 1 = 20 by omega), if_pos e']
        · rw [if_neg (show ¬ (k : Int) + 1 = 20 by omega), if_pos (show hI H 401 43 = 20 by omega), if_neg e']
      · have e43 : f' 401 43 = hI H 401 43 + 1 := by rw [a6, if_neg (by omega)]
        rw [if_neg e, e43]
        show (if (k : Int) + 1 = hI H 401 43 + 1 then rr (hI H) j else if hI H 401 43 = 20 then hI H 423 (156 * (k + 1) + j) else hI H 423 (156 * k + j)) = (if k = (hI H 401 43).toNat then rr (hI H) else fun j => hI H 423 (156 * k + j)) j
        by_cases e' : k = (hI H 401 43).toNat
        · rw [if_pos (show (k : Int) + 1 = hI H 401 43 + 1 by omega), if_pos e']
        · rw [if_neg (show ¬ (k : Int) + 1 = hI H 401 43 + 1 by omega), if_neg (show ¬ hI H 401 43 = 20 by omega), if_neg e']
    have e4 : f' 20 4 = f' 402 8 := by
      rw [ff 20 (by decide), a4, f4]; exact c1.2.2.2.1
    refine ⟨A h, H, WI H f', own', x1, by rw [y1]; exact z1, ⟨⟨bs.1, bs.2.1, bs.2.2, e4, ⟨F, wo2⟩, im⟩, m1.1, mb', qg.qi m1.2.2.1, rb, ?_, ?_⟩, ⟨(fk 15 (by omega)).2, by rw [hI_WI, ff 15 (by decide)]; exact (fi 15 (by omega) (Or.inl (by rw [c7 15 (by decide)]; decide)) (by decide)).2 (by decide)⟩, ⟨(fk 15 (by omega)).2, (fi 15 (by omega) (Or.inl (by rw [c7 15 (by decide)]; decide)) (by decide)).2 (by decide)⟩, by show hN H ≤ _; omega, by show hS H ≤ _; omega, sd.of (by rw [hI_WI, a4, (hh 402 (by decide) (by decide)).2.2]) (by rw [hI_WI, a1 424 (by decide) (by decide) (by decide) (by decide) (by decide) (by decide), (hh 424 (by decide) (by decide)).2.2]), (fk 401 (by omega)).2⟩
    · show 0 ≤ f' 401 43; rw [a6]; split <;> omega
    · show f' 401 43 ≤ 20; rw [a6]; split <;> omega
  · obtain ⟨f', x1, x2⟩ := hn h own h c m o
    have gr : GR h (WI h f') := GR_WI (fun x h1 h2 => x2 x (by omega))
    have gr' : GR (WI h f') h := by
      have := gr
      exact ⟨gr.1.symm, gr.2.1.symm, gr.2.2.1.symm, fun a h1 h2 h3 => (gr.2.2.2.1 a h1 h2 h3).symm, fun a h1 h2 => ⟨(gr.2.2.2.2 a h1 h2).1.symm, (gr.2.2.2.2 a h1 h2).2.symm⟩⟩
    have m1 := gr.mr m
    obtain ⟨H, z1, z2⟩ := mn (WI h f') m1 (fun e => o (hok _ _ gr' e))
    have c1 : CAS (WI h f') own (WI h f') := (gr.cs c).to m1.2.1 (Nat.le_refl _) (fun _ _ => rfl) (fun _ _ _ => rfl) (fun _ _ _ => rfl) (fun x _ h2 _ => x2 x h2)
    have c2 : CAS H own H := by
      obtain ⟨r1, r2, r3, r4, r5, r6, r7, r8⟩ := id z2
      exact (z2.gr.cs c1).to (z2.gr.mb m1.2.1) (by rw [r1]; exact Nat.le_refl _) (fun _ _ => rfl) (fun x _ _ => by rw [r3]) (fun x _ _ => by rw [r4]) (fun x _ _ h3 => r5 x (by unfold scrA; simp; omega))
    exact ⟨-1, WI h f', H, own, x1, z1, ⟨c2, z2.gr.mr m1⟩, ⟨by rw [z2.2.2.1]; rfl, by rw [z2.i (by decide), hI_WI, x2 15 (by decide)]⟩, ⟨rfl, x2 15 (by decide)⟩, by rw [z2.1]; show hN h ≤ _; omega, by rw [z2.2.1]; show hS h ≤ _; omega, sd.of (by rw [z2.i (by decide), hI_WI, x2 402 (by decide)]) (by rw [z2.i (by decide), hI_WI, x2 424 (by decide)]), rfl⟩
end K3
