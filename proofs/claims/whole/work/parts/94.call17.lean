/-! Level 2: image of both sides -/
section K17
variable {h H K g : AH} {own own' : Nat → Nat}
/-- what lies ready for an image -/
def IMR (h : AH) (own : Nat → Nat) (k : Nat) (K : AH) (o1 : Nat → Nat) (w : Nat) : Prop := (hN h ≤ hN K ∧ hN K ≤ hN h + 28 ∧ hS K ≤ hS h + 210) ∧ (∀ x, x < 16 + hN h → o1 x = own x ∧ hK K x = hK h x ∧ hI K x = hI h x ∧ (x ≠ 48 → hR K x = hR h x)) ∧ (∀ j, j ≠ k → hR K 48 j = hR h 48 j) ∧ hR K 48 k = w ∧ 426 ≤ w ∧ WB K o1 w (50 + k) (200 + 100 * k)
theorem img_new (c : CAS h own g) {k : Nat} (hk : k < 4) (z : hR h 48 k = 0) : ∃ K o1 w, Bat_image 16 (k : Int) h = Bat_image_L33 16 (k : Int) K ∧ IMR h own k K o1 w := by
  have c8 := c.1.2.2.2.2.2.2.2
  obtain ⟨x1, x2, x3, x4, x5, x6, x7, x8, x9, x10, x11, x12, x13, x14, x15⟩ := c.fx
  obtain ⟨H0, y1, y2, y3, y4, y5, y6, y7⟩ := Wor_new h
  have k48 : hK H0 48 = (32, 4) := by rw [(y4.2 48 (by omega)).1]; exact x15
  generalize hw : 16 + hN h = w at *
  refine ⟨sR H0 48 k w, fun x => if w ≤ x then 50 + k else own x, w, ?_, ⟨by show hN h ≤ hN H0; omega, by show hN H0 ≤ _; omega, by show hS H0 ≤ _; omega⟩, fun x hx => ?_, fun j hj => ?_, ?_, by omega, ⟨y5.1, by rw [hR_sR, up2_ne (by omega)]; exact y5.2.1, by rw [hR_sR, up2_ne (by omega)]; exact y5.2.2.1, y5.2.2.2⟩, ⟨fun x h1 h2 => if_pos h1, by show w + 28 ≤ 16 + hN H0; omega, by omega⟩, ?_, fun i hi => Or.inl ?_⟩
  · unfold Bat_image
    rw [if_neg (by omega), if_pos (by omega), c.img hk, if_neg (by simpa using z), gR_k x1, x6, nO_k, hw, y1, bnd_some, wR_k k48 (by omega) (by omega) y5.1, tN (k : Int) k rfl]
  · obtain ⟨a1, a2, a3⟩ := y4.2 x (by omega)
    exact ⟨if_neg (by omega), a1, a2, fun h48 => by rw [hR_sR, up2_ne h48]; exact a3⟩
  · rw [hR_sR, up2_e, if_neg (by omega), (y4.2 48 (by omega)).2.2]
  · rw [hR_sR, up2_e, if_pos ⟨rfl, rfl⟩]
  · exact SB_to y6 (fun _ _ _ => rfl) (fun x h1 h2 => by rw [hR_sR, up2_ne (by omega)]) (fun _ _ => rfl) (fun _ _ => rfl)
  · rw [hR_sR, up2_ne (by omega)]; exact y7 i
theorem img_old (c : CAS h own h) {k : Nat} (hk : k < 4) (z : hR h 48 k ≠ 0) : Bat_image 16 (k : Int) h = Bat_image_L33 16 (k : Int) h ∧ IMR h own k h own (hR h 48 k) := by
  have c7 := c.1.2.2.2.2.2.2.1
  rcases c.2.2.2.2.2 k hk with q | ⟨z1, z2, z3, z4, F', z5⟩
  · exact absurd q.1 z
  · refine ⟨?_, ⟨Nat.le_refl _, by omega, by omega⟩, fun x _ => ⟨rfl, rfl, rfl, fun _ => rfl⟩, fun _ _ => rfl, rfl, ?_, z5.wb⟩
    · unfold Bat_image
      rw [if_neg (by omega), if_pos (by omega), c.img hk, if_pos z]
    · by_cases q : hR h 48 k < 426
      · have := c7 _ q
        have := z5.2.1.1 (hR h 48 k) (by omega) (by omega)
        omega
      · omega
theorem im_n (f : Nat → Nat → Int) (k : Nat) {a : Nat} (h1 : a ≠ 401) (h2 : a ≠ 424) : imF f k a = f a := by
  funext i
  unfold imF
  rw [if_neg (by omega), if_neg (by omega), if_neg (by omega)]
theorem sv_n (f : Nat → Nat → Int) (k : Nat) {a : Nat} (h1 : a ≠ 401) (h2 : a ≠ 423) : svF f k a = f a := by
  funext i
  unfold svF
  rw [if_neg (by omega), if_neg (by omega), if_neg (by omega)]
theorem image_ok (k : Int) : OKC (Bat_image 16 k) (Mod_image 401 k) := by
  intro h own ⟨c, m⟩ sd
  have c7 := c.1.2.2.2.2.2.2.1
  have c8 := c.1.2.2.2.2.2.2.2
  obtain ⟨F, wo⟩ := c.2.2.2.2.1
  have im := c.2.2.2.2.2
  by_cases kk : 0 ≤ k ∧ k ≤ 3
  · obtain ⟨j, rfl⟩ : ∃ j : Nat, k = (j : Int) := ⟨k.toNat, by omega⟩
    have ej : ((j : Nat) : Int).toNat = j := rfl
    obtain ⟨K, o1, w, x1, ⟨⟨a1, a2, a3⟩, b, d, e, w426, wb⟩⟩ : ∃ K o1 w, Bat_image 16 (j : Int) h = Bat_image_L33 16 (j : Int) K ∧ IMR h own j K o1 w := by
      by_cases z : hR h 48 j = 0
      · exact img_new c (by omega) z
      · obtain ⟨p1, p2⟩ := img_old c (by omega) z
        exact ⟨h, own, _, p1, p2⟩
    have toK : ∀ {v u tg F n : Nat} {ρ : Nat → Int} {P : Nat → Nat → Int}, WOF h own v u tg ρ F n P → (u < 100 ∧ 100 ≤ tg) → ¬ (v ≤ 48 ∧ 48 < v + 28) → WOF K o1 v u tg ρ F n P := fun {v u tg F n ρ P} q ut h48 => q.to a1 (fun x hx => (b x hx).1) (fun x hx h2 => ⟨(b x hx).2.1, (b x hx).2.2.1, (b x hx).2.2.2 (fun e48 => by
      rcases h2 with h2 | h2
      · omega
      · rw [e48, c7 48 (by decide)] at h2; omega)⟩)
    have woK := toK wo (by omega) (by decide)
    obtain ⟨H, o', y1, y2, y3, y4, y5, y6, y7⟩ := Wor_copy_e wb woK (by omega) (by omega) (by omega) (by omega)
    obtain ⟨p1, p2⟩ := id y4
    have wbo : BLK o1 w 28 (50 + j) := wb.2.1.1
    have hh : ∀ x, x < 426 → hK H x = hK h x ∧ hI H x = hI h x ∧ (x ≠ 48 → hR H x = hR h x) ∧ hR H x = hR K x := fun x h1 => by
      obtain ⟨⟨q1, q2⟩, q3⟩ := p2 x (by omega)
      obtain ⟨r1, r2, r3, r4⟩ := b x (by omega)
      obtain ⟨s1, s2⟩ := q3 (Or.inl (by rw [r1, c7 x h1]; omega)) (by omega)
      exact ⟨by rw [q2, r2], by rw [s1, r3], fun h48 => by rw [s2, r4 h48], s2⟩
    have ow : ∀ x, x < 16 + hN h → o' x = own x := fun x hx => by rw [(p2 x (by omega)).1.1, (b x hx).1]
    have ms : MS H := MS_to m.1 (fun a h1 h2 => ⟨(hh a h2).1, (hh a h2).2.2.1 (by omega)⟩)
    have md := Mod_image_e ms (j : Int)
    rw [if_pos kk, ej, (hh 402 (by decide)).2.1] at md
    generalize hG : imgF H j = G at md
    unfold imgF at hG
    have gn : ∀ a, a ≠ 401 → a ≠ 423 → a ≠ 424 → a ≠ 425 → G a = hI H a := fun a h1 h2 h3 h4 => by rw [← hG, im_n _ _ h1 h3, sv_n _ _ h1 h2, up2_ne h4]
    have gh : ∀ a, a < 426 → a ≠ 401 → a ≠ 423 → a ≠ 424 → a ≠ 425 → G a = hI h a := fun a h0 h1 h2 h3 h4 => by rw [gn a h1 h2 h3 h4, (hh a h0).2.1]
    have g1 : ∀ i, i ≠ 44 → i ≠ 45 → i ≠ 48 → i ≠ 49 → G 401 i = hI h 401 i := fun i h1 h2 h3 h4 => by
      rw [← hG, ← (hh 401 (by decide)).2.1]
      unfold imF
      rw [if_neg (by omega), if_neg (by omega), if_neg (by omega)]
      unfold svF
      rw [if_neg (by omega), if_neg (by omega), if_neg (by omega), up2_ne (by decide)]
    have s423 : ∀ i, svF (up2 (hI H) 425 j 1) 20 423 i = if 3120 ≤ i ∧ i < 3276 then rr (hI h) (i - 3120) else hI h 423 i := fun i => by
      have er : rr (up2 (hI H) 425 j 1) = rr (hI h) := by
        funext l; unfold rr
        rw [up2_ne (by decide), up2_ne (by decide), up2_ne (by decide), up2_ne (by decide), (hh 402 (by decide)).2.1, (hh 403 (by decide)).2.1, (hh 404 (by decide)).2.1, (hh 407 (by decide)).2.1]
      unfold svF
      rw [if_neg (by omega), if_neg (by omega), er]
      by_cases q : 3120 ≤ i ∧ i < 3276
      · rw [if_pos (by omega), if_pos q]
      · rw [if_neg (by omega), if_neg q, up2_ne (by decide), (hh 423 (by decide)).2.1]
    have g423 : ∀ i, i < 3120 → G 423 i = hI h 423 i := fun i hi => by
      rw [← hG, im_n _ _ (by decide) (by decide), s423, if_neg (by omega)]
    have g425 : ∀ i, G 425 i = if i = j then 1 else hI h 425 i := fun i => by
      rw [← hG, im_n _ _ (by decide) (by decide), sv_n _ _ (by decide) (by decide), up2_e, (hh 425 (by decide)).2.1]
      by_cases q : i = j
      · rw [if_pos ⟨rfl, q⟩, if_pos q]
      · rw [if_neg (by omega), if_neg q]
    have g424 : ∀ i, G 424 i = if 3278 * j ≤ i ∧ i < 3278 * j + 3278 then (if i = 3278 * j then hI h 401 43 else if i = 3278 * j + 1 then hI h 402 8 else svF (up2 (hI H) 425 j 1) 20 423 (i - (3278 * j + 2))) else hI h 424 i := fun i => by
      rw [← hG]
      have e43 : svF (up2 (hI H) 425 j 1) 20 401 43 = hI h 401 43 := by
        unfold svF
        rw [if_neg (by omega), if_neg (by omega), if_neg (by omega), up2_ne (by decide), (hh 401 (by decide)).2.1]
      have e8 : svF (up2 (hI H) 425 j 1) 20 402 8 = hI h 402 8 := by
        rw [sv_n _ _ (by decide) (by decide), up2_ne (by decide), (hh 402 (by decide)).2.1]
      have e4 : svF (up2 (hI H) 425 j 1) 20 424 i = hI h 424 i := by
        rw [sv_n _ _ (by decide) (by decide), up2_ne (by decide), (hh 424 (by decide)).2.1]
      unfold imF
      rw [if_neg (by omega), if_neg (by omega), e43, e8, e4]
      by_cases q : 3278 * j ≤ i ∧ i < 3278 * j + 3278
      · rw [if_pos ⟨rfl, q.1, q.2⟩, if_pos q]
      · rw [if_neg (fun x => q x.2), if_neg q]
    have nof : ∀ y v u tg, (v ≤ y ∧ y < v + 28) ∨ (tg ≤ o' y ∧ o' y < tg + 20) → y < 16 + hN H → 100 ≤ tg → (v + 28 ≤ 401 ∨ 426 ≤ v) → BLK o' v 28 u → y < 401 ∨ 426 ≤ y := fun y v u tg h2 hy ht hv _ => by
      rcases h2 with h2 | h2
      · omega
      · by_cases q : y < 426
        · rw [ow y (by omega), c7 y q] at h2; omega
        · omega
    have toG : ∀ {v u tg F n : Nat} {ρ : Nat → Int} {P : Nat → Nat → Int}, WOF H o' v u tg ρ F n P → 100 ≤ tg → (v + 28 ≤ 401 ∨ 426 ≤ v) → WOF (WI H G) o' v u tg ρ F n P := fun {v u tg F n ρ P} q ut hv => q.to (Nat.le_refl _) (fun _ _ => rfl) (fun y hy h2 => ⟨rfl, by
      have := nof y v u tg h2 hy ut hv q.2.1.1
      exact gn y (by omega) (by omega) (by omega) (by omega), rfl⟩)
    have n0 := m.2.2.2.2.1
    have n1 := m.2.2.2.2.2
    have e48 : hR H 48 = hR K 48 := (hh 48 (by decide)).2.2.2
    have w2 := toG y3 (by decide) (by decide)
    have w1 := toG y2 (by omega) (by omega)
    have st := y3.2.2.1
    refine ⟨hI h 402 7, H, WI H G, o', ?_, md, JV_asm ⟨c, m⟩ (by show hN h ≤ hN H; omega) ow (fun x hx => (hh x hx).1) (fun x hx h2 => (hh x hx).2.2.1 (by omega)) (fun y h1 h2 _ => gh y (by omega) (by omega) (by omega) (by omega) (by omega)) ⟨g1 10 (by decide) (by decide) (by decide) (by decide), g1 18 (by decide) (by decide) (by decide) (by decide), fun a h1 h2 => gh a (by omega) (by omega) (by omega) (by omega) (by omega)⟩ ?_ ⟨F, ?_⟩ ?_ ?_, ⟨(hh 15 (by decide)).1, gh 15 (by decide) (by decide) (by decide) (by decide) (by decide)⟩, ⟨(hh 15 (by decide)).1, (hh 15 (by decide)).2.1⟩, by show hN H ≤ _; omega, by show hS H ≤ _; omega, ?_, (hh 401 (by decide)).1⟩
    · rw [x1]
      have k16 : hK K 16 = (12, 0) := by rw [(b 16 (by omega)).2.1]; exact c.fx.1
      have r16 : hR K 16 = hR h 16 := (b 16 (by omega)).2.2.2 (by decide)
      have k48 : hK K 48 = (32, 4) := by rw [(b 48 (by omega)).2.1]; exact c.fx.2.2.2.2.2.2.2.2.2.2.2.2.2.2
      have k20 : hK H 20 = (11, 0) := y3.1.1
      have r20 : hR H 20 0 = 21 := y3.1.2.1
      have fx : hK H 16 = (12, 0) ∧ hR H 16 5 = 20 := by rw [(hh 16 (by decide)).1, (hh 16 (by decide)).2.2.1 (by decide)]; exact ⟨c.fx.1, c.fx.2.2.2.2.1⟩
      have t6 : hI H 21 6 = hI h 402 7 := by rw [← rr_s (hI h) (show 7 < 8 by decide)]; exact st.2.1.2.2.2.2.2.2.2.1
      unfold Bat_image_L33
      rw [gR_k k16, r16, c.fx.2.2.2.2.2.1, aR_k k48 (by omega) (by omega), ej, e, gR_k k16, r16, c.fx.2.2.2.2.1, rc_k wb.1.1, y1, bnd_some, gR_k fx.1, fx.2, gR_k k20, r20, gI_k st.1.1, t6]
    · rw [hI_WI, gh 20 (by decide) (by decide) (by decide) (by decide) (by decide), gh 402 (by decide) (by decide) (by decide) (by decide) (by decide)]
      exact c.2.2.2.1
    · rw [hI_WI, g1 43 (by decide) (by decide) (by decide) (by decide)]
      refine w2.row2 (fun i hi => ?_) (fun i hi l hl => g423 _ (by omega))
      unfold rr
      rw [gh 402 (by decide) (by decide) (by decide) (by decide) (by decide), gh 403 (by decide) (by decide) (by decide) (by decide) (by decide), gh 404 (by decide) (by decide) (by decide) (by decide) (by decide), gh 407 (by decide) (by decide) (by decide) (by decide) (by decide)]
    · intro i hi
      show (hR H 48 i = 0 ∧ G 425 i = 0) ∨ (G 425 i ≠ 0 ∧ hR H 48 i ≠ 0 ∧ (0 ≤ G 424 (3278 * i) ∧ G 424 (3278 * i) ≤ 20) ∧ G (hR H 48 i) 4 = G 424 (3278 * i + 1) ∧ ∃ F, WOF (WI H G) o' (hR H 48 i) (50 + i) (200 + 100 * i) (fun l => G 424 (3278 * i + 2 + 3120 + l)) F (G 424 (3278 * i)).toNat (fun r l => G 424 (3278 * i + 2 + (156 * r + l))))
      by_cases q : i = j
      · subst q
        have q43 : G 424 (3278 * i) = hI h 401 43 := by rw [g424, if_pos (by omega), if_pos rfl]
        have q8 : G 424 (3278 * i + 1) = hI h 402 8 := by rw [g424, if_pos (by omega), if_neg (by omega), if_pos rfl]
        refine Or.inr ⟨by rw [g425, if_pos rfl]; decide, by rw [e48, e]; omega, by rw [q43]; exact ⟨n0, n1⟩, ?_, 0, ?_⟩
        · rw [e48, e, q8, gn w (by omega) (by omega) (by omega) (by omega), y5, (b 20 (by omega)).2.2.1]
          exact c.2.2.2.1
        · rw [e48, e, q43]
          refine w1.row2 (fun l hl => ?_) (fun r hr l hl => ?_)
          · rw [g424, if_pos (by omega), if_neg (by omega), if_neg (by omega), s423, if_pos (by omega), show 3278 * i + 2 + 3120 + l - (3278 * i + 2) - 3120 = l by omega]
          · show G 424 (3278 * i + 2 + (156 * r + l)) = hI h 423 (156 * r + l)
            rw [g424, if_pos (by omega), if_neg (by omega), if_neg (by omega), s423, if_neg (by omega), show 3278 * i + 2 + (156 * r + l) - (3278 * i + 2) = 156 * r + l by omega]
      · have qb : ∀ l, l < 3278 → G 424 (3278 * i + l) = hI h 424 (3278 * i + l) := fun l hl => by
          rw [g424, if_neg (by omega)]
        rw [e48, d i q, g425, if_neg q]
        rcases im i hi with z | ⟨z1, z2, z3, z4, F', z5⟩
        · exact Or.inl z
        · have vv : 426 ≤ hR h 48 i := by
            by_cases q : hR h 48 i < 426
            · have := c7 _ q
              have := z5.2.1.1 (hR h 48 i) (by omega) (by omega)
              omega
            · omega
          have zK := toK z5 (by omega) (by omega)
          have zH := zK.cf y4 wbo (by omega) (by omega) (by omega) (by omega)
          have zG := toG zH (by omega) (by omega)
          have c0 := qb 0 (by decide)
          rw [Nat.add_zero] at c0
          have hv := z5.2.1.2.1
          have zv : hI H (hR h 48 i) = hI h (hR h 48 i) := by
            have ob := zK.2.1.1 (hR h 48 i) (by omega) (by omega)
            obtain ⟨⟨r1, r2⟩, r3⟩ := p2 (hR h 48 i) (by omega)
            rw [(r3 (by rw [ob]; omega) (fun x => by have := wbo _ x.1 x.2; omega)).1, (b _ (by omega)).2.2.1]
          refine Or.inr ⟨z1, z2, by rw [c0]; exact z3, ?_, F', ?_⟩
          · rw [qb 1 (by decide), gn _ (by omega) (by omega) (by omega) (by omega), zv]; exact z4
          · rw [c0]
            refine zG.row2 (fun l hl => ?_) (fun r hr l hl => ?_)
            · rw [show 3278 * i + 2 + 3120 + l = 3278 * i + (2 + 3120 + l) by omega, qb _ (by omega)]
            · have n20 := z5.2.2.2.1.1
              show G 424 (3278 * i + 2 + (156 * r + l)) = hI h 424 (3278 * i + 2 + (156 * r + l))
              rw [show 3278 * i + 2 + (156 * r + l) = 3278 * i + (2 + (156 * r + l)) by omega, qb _ (by omega)]
    · rw [hI_WI, g1 43 (by decide) (by decide) (by decide) (by decide)]; exact ⟨n0, n1⟩
    · unfold SD at *
      rw [hI_WI, gh 402 (by decide) (by decide) (by decide) (by decide) (by decide)]
      refine ⟨sd.1, fun i hi => ?_⟩
      rw [g424]
      by_cases q : i = j
      · rw [if_pos (by omega), if_neg (by omega), if_pos (by omega)]; exact sd.1
      · rw [if_neg (by omega)]; exact sd.2 i hi
  · refine ⟨-1, h, h, own, ?_, ?_, ⟨c, m⟩, ⟨rfl, rfl⟩, ⟨rfl, rfl⟩, by omega, by omega, sd, rfl⟩
    · unfold Bat_image
      by_cases a : k < 0
      · rw [if_pos a]
      · rw [if_neg a, if_neg (by omega)]
    · rw [Mod_image_e m.1, if_neg kk]
end K17
