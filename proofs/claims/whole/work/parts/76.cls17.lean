/-! Level 2: the class: worlds are copied -/
/-- only a world has changed -/
def CF (h H : AH) (own own' : Nat → Nat) (w tg : Nat) : Prop := hN h ≤ hN H ∧ ∀ x, x < 16 + hN h → (own' x = own x ∧ hK H x = hK h x) ∧ ((own x < tg ∨ tg + 20 ≤ own x) → ¬ (w ≤ x ∧ x < w + 28) → hI H x = hI h x ∧ hR H x = hR h x)
theorem CF.trans {a b c : AH} {o1 o2 o3 : Nat → Nat} {w tg : Nat} (x : CF a b o1 o2 w tg) (y : CF b c o2 o3 w tg) : CF a c o1 o3 w tg := by
  obtain ⟨x1, x2⟩ := x
  obtain ⟨y1, y2⟩ := y
  refine ⟨by omega, fun k hk => ?_⟩
  obtain ⟨⟨p1, p2⟩, p3⟩ := x2 k hk
  obtain ⟨⟨q1, q2⟩, q3⟩ := y2 k (by omega)
  refine ⟨⟨by rw [q1, p1], by rw [q2, p2]⟩, fun ho hw => ?_⟩
  obtain ⟨a1, a2⟩ := p3 ho hw
  obtain ⟨b1, b2⟩ := q3 (by rw [p1]; exact ho) hw
  exact ⟨by rw [b1, a1], by rw [b2, a2]⟩
theorem WF.cf {h H : AH} {own own' : Nat → Nat} {w tg : Nat} (x : WF h H own own' w tg) : CF h H own own' w tg := by
  obtain ⟨x1, x2, x3, x4⟩ := x
  exact ⟨x1, fun k hk => ⟨x2 k hk, fun ho hw => ⟨(x3 k hk ho).1 (by omega), (x3 k hk ho).2 (by omega)⟩⟩⟩
/-- a world's shape -/
def WB (h : AH) (own : Nat → Nat) (w u tg : Nat) : Prop :=
  (hK h w = (11, 0) ∧ hR h w 0 = w + 1 ∧ hR h w 1 = w + 27 ∧ hK h (w + 27) = (33, 20)) ∧ (BLK own w 28 u ∧ w + 28 ≤ 16 + hN h ∧ (u < tg ∨ tg + 20 ≤ u)) ∧ SB h (w + 1) ∧ ∀ i, i < 20 → hR h (w + 27) i = 0 ∨ (hR h (w + 27) i + 26 ≤ 16 + hN h ∧ SB h (hR h (w + 27) i) ∧ BLK own (hR h (w + 27) i) 26 (tg + i))
section C17
variable {h H : AH} {own own' : Nat → Nat} {w u tg F n w' u' tg' : Nat} {ρ σ : Nat → Int} {P P' : Nat → Nat → Int}
theorem WOF.wb (wo : WOF h own w u tg ρ F n P) : WB h own w u tg := ⟨wo.1, wo.2.1, wo.2.2.1.1, wo.2.2.2.2.2.2⟩
theorem WOF.rows (wo : WOF h own w u tg ρ F n P) (e : ∀ k, k < n → P k = P' k) : WOF h own w u tg ρ F n P' := by
  obtain ⟨a1, a2, a3, a4, a5, a6, a7⟩ := wo
  exact ⟨a1, a2, a3, a4, a5, fun k hk => by rw [← e k hk]; exact a6 k hk, a7⟩
/-- another world stays -/
theorem WOF.cf (cf : CF h H own own' w tg) (wb : BLK own w 28 u) (wo : WOF h own w' u' tg' ρ F n P) (uu : u ≠ u') (ut : u < tg' ∨ tg' + 20 ≤ u) (ut' : u' < tg ∨ tg + 20 ≤ u') (tt : tg + 20 ≤ tg' ∨ tg' + 20 ≤ tg) : WOF H own' w' u' tg' ρ F n P := by
  obtain ⟨⟨w1, w2, w3, w4⟩, ⟨w5, w6, w7⟩, w8, ⟨w9, w10⟩, ⟨w11, w12⟩, w13, w14⟩ := wo
  obtain ⟨c1, c2⟩ := cf
  have hd : ∀ x, w' ≤ x → x < w' + 28 → hK H x = hK h x ∧ hI H x = hI h x ∧ hR H x = hR h x := fun x h1 h2 => by
    have o := w5 x h1 h2
    obtain ⟨⟨p1, p2⟩, p3⟩ := c2 x (by omega)
    obtain ⟨q1, q2⟩ := p3 (by omega) (fun e => by rw [wb x e.1 e.2] at o; exact uu o)
    exact ⟨p2, q1, q2⟩
  have hb : ∀ {p i : Nat}, i < 20 → BLK own p 26 (tg' + i) → p + 26 ≤ 16 + hN h → ∀ x, p ≤ x → x < p + 26 → hK H x = hK h x ∧ hI H x = hI h x ∧ hR H x = hR h x := fun {p i} hi b hp x h1 h2 => by
    have o := b x h1 h2
    obtain ⟨⟨p1, p2⟩, p3⟩ := c2 x (by omega)
    obtain ⟨q1, q2⟩ := p3 (by omega) (fun e => by rw [wb x e.1 e.2] at o; omega)
    exact ⟨p2, q1, q2⟩
  have ob : ∀ {p m t : Nat}, BLK own p m t → p + m ≤ 16 + hN h → BLK own' p m t := fun b hp x h1 h2 => by rw [(c2 x (by omega)).1.1]; exact b x h1 h2
  obtain ⟨k0, i0, r0⟩ := hd w' (by omega) (by omega)
  obtain ⟨k27, i27, r27⟩ := hd (w' + 27) (by omega) (by omega)
  refine ⟨⟨by rw [k0]; exact w1, by rw [r0]; exact w2, by rw [r0]; exact w3, by rw [k27]; exact w4⟩, ⟨ob w5 (by omega), by omega, w7⟩, ST_to w8 (fun x h1 h2 => (hd x (by omega) (by omega)).1) (fun x h1 h2 => (hd x (by omega) (by omega)).2.2) (fun x h1 h2 => (hd x (by omega) (by omega)).2.1), ⟨w9, by rw [i0]; exact w10⟩, ⟨w11, by rw [i0]; exact w12⟩, fun k hk => ?_, fun j hj => ?_⟩
  · obtain ⟨d1, d2⟩ := w13 k hk
    obtain ⟨e1, e2, e3⟩ := (w14 _ (Nat.mod_lt _ (by decide))).resolve_left d1
    have q := hb (Nat.mod_lt _ (by decide)) e3 e1
    rw [r27]
    exact ⟨d1, ST_to d2 (fun x h1 h2 => (q x h1 h2).1) (fun x h1 h2 => (q x h1 h2).2.2) (fun x h1 h2 => (q x h1 h2).2.1)⟩
  · rw [r27]
    by_cases z : hR h (w' + 27) j = 0
    · exact Or.inl z
    · obtain ⟨e1, e2, e3⟩ := (w14 j hj).resolve_left z
      have q := hb hj e3 e1
      exact Or.inr ⟨by omega, SB_to e2 (fun x h1 h2 => (q x h1 h2).1) (fun x h1 h2 => (q x h1 h2).2.2) (fun t _ => by rw [(q _ (by omega) (by omega)).2.1]) (fun t _ => by rw [(q _ (by omega) (by omega)).2.1]), ob e3 e1⟩
/-- a world is as another -/
theorem Wor_copy_e (wb : WB h own w u tg) (wo : WOF h own w' u' tg' ρ F n P) (uu : u ≠ u') (ut : u < tg' ∨ tg' + 20 ≤ u) (ut' : u' < tg ∨ tg + 20 ≤ u') (tt : tg + 20 ≤ tg' ∨ tg' + 20 ≤ tg) : ∃ H own', Wor_copy w w' h = some ((), H) ∧ WOF H own' w u tg ρ 0 n P ∧ WOF H own' w' u' tg' ρ F n P ∧ CF h H own own' w tg ∧ hI H w 4 = hI h w' 4 ∧ hN H ≤ hN h + 26 * n ∧ hS H ≤ hS h + 185 * n := by
  obtain ⟨⟨w1, w2, w3, w4⟩, ⟨w5, w6, w7⟩, w8, w14⟩ := id wb
  obtain ⟨⟨v1, v2, v3, v4⟩, ⟨v5, v6, v7⟩, v8, ⟨v9, v10⟩, ⟨v11, v12⟩, v13, v14⟩ := id wo
  have ap : w + 28 ≤ w' ∨ w' + 28 ≤ w := by
    by_cases h1 : w ≤ w'
    · by_cases h2 : w' < w + 28
      · exact absurd ((w5 w' h1 h2).symm.trans (v5 w' (by omega) (by omega))) uu
      · exact Or.inl (by omega)
    · by_cases h2 : w < w' + 28
      · exact absurd ((w5 w (by omega) (by omega)).symm.trans (v5 w (by omega) h2)) uu
      · exact Or.inr (by omega)
  obtain ⟨f1, x1, x2, x3⟩ := Sta_copy_e (h := h) (f := hI h) (d := w + 1) (a := w' + 1) w8 v8 (by omega)
  rw [WI_id] at x1
  have f1w : f1 w = hI h w := x2 w (by omega)
  have f1w' : f1 w' = hI h w' := x2 w' (by omega)
  generalize hf : up2 (up2 (up2 f1 w 4 (hI h w' 4)) w 2 0) w 3 0 = f
  have ne1 : ∀ x, x ≠ w → f x = f1 x := fun x hx => by rw [← hf, up2_ne hx, up2_ne hx, up2_ne hx]
  have ne : ∀ x, ¬ (w ≤ x ∧ x < w + 27) → f x = hI h x := fun x hx => by rw [ne1 x (by omega), x2 x (by omega)]
  have cf0 : CF h (WI h f) own own w tg := ⟨Nat.le_refl _, fun x hx => ⟨⟨rfl, rfl⟩, fun _ hw => ⟨ne x (by omega), rfl⟩⟩⟩
  have nsl : ∀ i, i < 20 → hR h (w + 27) i ≠ 0 → ∀ x, hR h (w + 27) i ≤ x → x < hR h (w + 27) i + 26 → f x = hI h x := fun i hi hz x h1 h2 => by
    obtain ⟨c1, c2, c3⟩ := (w14 i hi).resolve_left hz
    refine ne x (fun e => ?_)
    have := c3 x h1 h2
    rw [w5 x (by omega) (by omega)] at this
    omega
  have wa : WOF (WI h f) own w u tg ρ 0 0 P := by
    refine ⟨⟨w1, w2, w3, w4⟩, ⟨w5, w6, w7⟩, ST_to x3 (fun _ _ _ => rfl) (fun _ _ _ => rfl) (fun x h1 h2 => ne1 x (by omega)), ⟨by decide, by rw [hI_WI, ← hf, up2_e, if_pos ⟨rfl, rfl⟩]; rfl⟩, ⟨by decide, by rw [hI_WI, ← hf, up2_e, if_neg (by omega), up2_e, if_pos ⟨rfl, rfl⟩]; rfl⟩, fun k hk => by omega, fun j hj => ?_⟩
    show hR h (w + 27) j = 0 ∨ (hR h (w + 27) j + 26 ≤ 16 + hN h ∧ SB (WI h f) (hR h (w + 27) j) ∧ BLK own (hR h (w + 27) j) 26 (tg + j))
    by_cases z : hR h (w + 27) j = 0
    · exact Or.inl z
    · obtain ⟨c1, c2, c3⟩ := (w14 j hj).resolve_left z
      exact Or.inr ⟨c1, SB_to c2 (fun _ _ _ => rfl) (fun _ _ _ => rfl) (fun t _ => by rw [hI_WI, nsl j hj z _ (by omega) (by omega)]) (fun t _ => by rw [hI_WI, nsl j hj z _ (by omega) (by omega)]), c3⟩
  have wc : WOF (WI h f) own w' u' tg' ρ F n P := wo.cf cf0 w5 uu ut ut' tt
  have L : ∀ (m k : Nat), k + m = n → ∀ (fu : Nat) (H : AH) (o : Nat → Nat), m < fu → WOF H o w u tg ρ 0 k P → WOF H o w' u' tg' ρ F n P → CF h H own o w tg → hI H w 4 = hI h w' 4 → hN H ≤ hN h + 26 * k → hS H ≤ hS h + 185 * k → ∃ H' o', Wor_copy_L31 fu w w' (k : Int) H = some ((), H') ∧ WOF H' o' w u tg ρ 0 n P ∧ WOF H' o' w' u' tg' ρ F n P ∧ CF h H' own o' w tg ∧ hI H' w 4 = hI h w' 4 ∧ hN H' ≤ hN h + 26 * n ∧ hS H' ≤ hS h + 185 * n := by
    intro m
    induction m with
    | zero =>
      intro k hk fu H o hfu a b c d e1 e2
      obtain ⟨fu, rfl⟩ : ∃ j, fu = j + 1 := ⟨fu - 1, by omega⟩
      have kn : k = n := by omega
      subst kn
      refine ⟨H, o, ?_, a, b, c, d, e1, e2⟩
      rw [Wor_copy_L31, gI_k b.1.1, b.2.2.2.1.2, if_pos (by omega)]
    | succ m ih =>
      intro k hk fu H o hfu a b c d e1 e2
      obtain ⟨fu, rfl⟩ : ∃ j, fu = j + 1 := ⟨fu - 1, by omega⟩
      obtain ⟨⟨b1, b2, b3, b4⟩, ⟨b5, b6, b7⟩, b8, ⟨b9, b10⟩, ⟨b11, b12⟩, b13, b14⟩ := id b
      obtain ⟨s1, s2⟩ := b13 k (by omega)
      have il : (F + k) % 20 < 20 := Nat.mod_lt _ (by decide)
      obtain ⟨t1, t2, t3⟩ := (b14 _ il).resolve_left s1
      have a5 := a.2.1.1
      have hw : ¬ (hR H (w' + 27) ((F + k) % 20) ≤ w ∧ w < hR H (w' + 27) ((F + k) % 20) + 26) := BLK_no t3 (by rw [a5 w (by omega) (by omega)]; omega)
      obtain ⟨K, o', y1, y2, y3, y4, y5⟩ := add_32 a (by omega) s2 t1 t3 (by omega)
      have b' : WOF K o' w' u' tg' ρ F n P := b.cf y3.cf a5 uu ut ut' tt
      have ad : Wor_add w (hR H (w' + 27) ((F + k) % 20)) H = some ((), K) := by
        unfold Wor_add
        rw [gI_k a.1.1, a.2.2.2.1.2, if_pos (by omega)]
        exact y1
      rw [Wor_copy_L31, gI_k b1, b10, if_neg (by omega), gR_k b1, b3, gI_k b1, b12, if_neg (by decide), ring_e b11 (by omega), aR_k b4 (by omega) (by omega), tN (((F + k) % 20 : Nat) : Int) _ rfl, if_neg s1, if_neg s1, rc_k a.1.1, ad, bnd_some, wr_id (by omega) (by omega), show (k : Int) + 1 = ((k + 1 : Nat) : Int) by omega]
      refine ih (k + 1) (by omega) fu K o' (by omega) (y2.rows (fun i hi => ?_)) b' (c.trans y3.cf) (by rw [y3.2.2.2 4 (by decide) (by decide)]; exact d) (by omega) (by omega)
      unfold psh
      split
      · rename_i q; rw [q]
      · rfl
  obtain ⟨H, o', z1, z2⟩ := L n 0 (by omega) FU (WI h f) own (by have := FU_big; omega) wa wc cf0 (by rw [hI_WI, ← hf, up2_e, if_neg (by omega), up2_e, if_neg (by omega), up2_e, if_pos ⟨rfl, rfl⟩]) (by show hN h ≤ _; omega) (by show hS h ≤ _; omega)
  refine ⟨H, o', ?_, z2⟩
  unfold Wor_copy
  rw [gR_k w1, w2, gR_k v1, v2, rc_k w8.1, x1, bnd_some, gI_k (h := WI h f1) v1, hI_WI, f1w', pI_k (h := WI h f1) w1, WI_sI, pI_k (h := WI h (up2 f1 w 4 (hI h w' 4))) w1, WI_sI, pI_k (h := WI h (up2 (up2 f1 w 4 (hI h w' 4)) w 2 0)) w1, WI_sI, hf]
  exact z1
/-- a world laid anew -/
theorem Wor_new (h : AH) : ∃ H, Wor_init (16 + hN h) (nw h 11 0 5) = some ((), H) ∧ hN H = hN h + 28 ∧ hS H = hS h + 210 ∧ NX h H ∧ (hK H (16 + hN h) = (11, 0) ∧ hR H (16 + hN h) 0 = 16 + hN h + 1 ∧ hR H (16 + hN h) 1 = 16 + hN h + 27 ∧ hK H (16 + hN h + 27) = (33, 20)) ∧ SB H (16 + hN h + 1) ∧ ∀ i, hR H (16 + hN h + 27) i = 0 := by
  generalize hw : 16 + hN h = w
  obtain ⟨K, x1, x2, x3, x4, x5⟩ := Sta_new (nw h 11 0 5)
  have a1 : 16 + hN (nw h 11 0 5) = w + 1 := by rw [hN_nw]; omega
  rw [a1] at x1 x5
  rw [hN_nw] at x2
  rw [hS_nw] at x3
  have k11 : hK K w = (11, 0) := by rw [(x4.2 w (by omega)).1, hK_nw, if_pos (by omega)]
  have n1 : NX h K := (NX_nw _ _ _ _).trans x4
  generalize hH1 : sR K w 0 (w + 1) = H1
  have N1 : hN H1 = hN h + 27 := by rw [← hH1]; show hN K = _; omega
  have S1 : hS H1 = hS h + 190 := by rw [← hH1]; show hS K = _; omega
  have n2 : NX h H1 := by rw [← hH1]; exact n1.sR (by omega) _ _
  have k1 : hK H1 w = (11, 0) := by rw [← hH1]; exact k11
  have r1 : hR H1 w 0 = w + 1 := by rw [← hH1, hR_sR, up2_e, if_pos ⟨rfl, rfl⟩]
  have sb1 : SB H1 (w + 1) := by rw [← hH1]; exact SB_to x5 (fun _ _ _ => rfl) (fun x h1 h2 => by rw [hR_sR, up2_ne (by omega)]) (fun _ _ => rfl) (fun _ _ => rfl)
  have n3 : NX H1 (nw H1 33 20 20) := NX_nw _ _ _ _
  have a2 : 16 + hN H1 = w + 27 := by omega
  have k2 : hK (nw H1 33 20 20) w = (11, 0) := by rw [(n3.2 w (by omega)).1]; exact k1
  refine ⟨sR (nw H1 33 20 20) w 1 (w + 27), ?_, by show hN H1 + 1 = _; omega, by show hS H1 + 20 = _; omega, (n2.trans n3).sR (by omega) _ _, ⟨k2, ?_, ?_, ?_⟩, ?_, fun i => ?_⟩
  · unfold Wor_init
    rw [oi_k (by omega), nO_k, a1, x1, bnd_some, pR_k k11, hH1, nA_k (by decide) (by decide), a2, show (20 : Int).toNat = 20 from rfl, pR_k k2]
  · rw [hR_sR, up2_e, if_neg (by omega), (n3.2 w (by omega)).2.2]; exact r1
  · rw [hR_sR, up2_e, if_pos ⟨rfl, rfl⟩]
  · show hK (nw H1 33 20 20) (w + 27) = _
    rw [hK_nw, if_pos (by omega)]
  · exact SB_to (sb1.nx n3 (by omega)) (fun _ _ _ => rfl) (fun x h1 h2 => by rw [hR_sR, up2_ne (by omega)]) (fun _ _ => rfl) (fun _ _ => rfl)
  · rw [hR_sR, up2_ne (by omega), hR_nw, if_pos (by omega)]
end C17
