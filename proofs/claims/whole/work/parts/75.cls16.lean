/-! Level 2: the class: worlds remember, go back, are copied -/
/-- the past with one more -/
def pshP (P : Nat → Nat → Int) (n : Nat) (σ : Nat → Int) : Nat → Nat → Int := if n = 20 then psh (fun k => P (k + 1)) 19 σ else psh P n σ
section C16
variable {h : AH} {own : Nat → Nat} {w u tg F n src v : Nat} {ρ σ : Nat → Int} {P : Nat → Nat → Int}
/-- numbers of the world's head are written -/
theorem WOF.head (wo : WOF h own w u tg ρ F n P) {f : Nat → Nat → Int} (e : ∀ x, x ≠ w → f x = hI h x) {F' n' : Nat} {P' : Nat → Nat → Int} (hn : n' ≤ 20) (e3 : f w 3 = n') (hF : F' < 20) (e2 : f w 2 = F') (hp : ∀ k, k < n' → ∃ k', k' < n ∧ (F' + k) % 20 = (F + k') % 20 ∧ P' k = P k') : WOF (WI h f) own w u tg ρ F' n' P' := by
  obtain ⟨⟨w1, w2, w3, w4⟩, ⟨w5, w6, w7⟩, w8, ⟨w9, w10⟩, ⟨w11, w12⟩, w13, w14⟩ := wo
  have ns : ∀ j, j < 20 → hR h (w + 27) j ≠ 0 → ¬ (hR h (w + 27) j ≤ w ∧ w < hR h (w + 27) j + 26) := fun j hj hz => by
    obtain ⟨c1, c2, c3⟩ := (w14 j hj).resolve_left hz
    exact BLK_no c3 (by rw [w5 w (by omega) (by omega)]; omega)
  refine ⟨⟨w1, w2, w3, w4⟩, ⟨w5, w6, w7⟩, ST_to w8 (fun _ _ _ => rfl) (fun _ _ _ => rfl) (fun x h1 h2 => e x (by omega)), ⟨hn, e3⟩, ⟨hF, e2⟩, fun k hk => ?_, fun j hj => ?_⟩
  · obtain ⟨k', q1, q2, q3⟩ := hp k hk
    obtain ⟨c1, c2⟩ := w13 k' q1
    have m := ns _ (Nat.mod_lt _ (by decide)) c1
    show hR h (w + 27) ((F' + k) % 20) ≠ 0 ∧ ST (WI h f) (hR h (w + 27) ((F' + k) % 20)) (P' k)
    rw [q2, q3]
    exact ⟨c1, ST_to c2 (fun _ _ _ => rfl) (fun _ _ _ => rfl) (fun x h1 h2 => e x (by omega))⟩
  · show hR h (w + 27) j = 0 ∨ (hR h (w + 27) j + 26 ≤ 16 + hN h ∧ SB (WI h f) (hR h (w + 27) j) ∧ BLK own (hR h (w + 27) j) 26 (tg + j))
    by_cases z : hR h (w + 27) j = 0
    · exact Or.inl z
    · have m := ns j hj z
      obtain ⟨c1, c2, c3⟩ := (w14 j hj).resolve_left z
      exact Or.inr ⟨c1, SB_to c2 (fun _ _ _ => rfl) (fun _ _ _ => rfl) (fun t _ => by rw [hI_WI, e _ (by omega)]) (fun t _ => by rw [hI_WI, e _ (by omega)]), c3⟩
theorem Wor_add_e (wo : WOF h own w u tg ρ F n P) (st : ST h src σ) (hs : src + 26 ≤ 16 + hN h) (hw : ¬ (src ≤ w ∧ w < src + 26)) (bs : BLK own src 26 v) (vt : v < tg ∨ tg + 20 ≤ v) : ∃ H own' F', Wor_add w src h = some ((), H) ∧ WOF H own' w u tg ρ F' (if n = 20 then 20 else n + 1) (pshP P n σ) ∧ WF h H own own' w tg ∧ hN H ≤ hN h + 26 ∧ hS H ≤ hS h + 185 := by
  obtain ⟨⟨w1, w2, w3, w4⟩, ⟨w5, w6, w7⟩, w8, ⟨w9, w10⟩, ⟨w11, w12⟩, w13, w14⟩ := id wo
  unfold pshP
  by_cases c : n = 20
  · rw [if_pos c, if_pos c]
    generalize hf : up2 (up2 (hI h) w 2 (((F + 1) % 20 : Nat) : Int)) w 3 ((19 : Nat) : Int) = f
    have ne : ∀ x, x ≠ w → f x = hI h x := fun x hx => by rw [← hf, up2_ne hx, up2_ne hx]
    have wo2 : WOF (WI h f) own w u tg ρ ((F + 1) % 20) 19 (fun k => P (k + 1)) := wo.head ne (by decide) (by rw [← hf, up2_e, if_pos ⟨rfl, rfl⟩]) (Nat.mod_lt _ (by decide)) (by rw [← hf, up2_e, if_neg (by omega), up2_e, if_pos ⟨rfl, rfl⟩]) (fun k hk => ⟨k + 1, by omega, by omega, rfl⟩)
    have st2 : ST (WI h f) src σ := ST_to st (fun _ _ _ => rfl) (fun _ _ _ => rfl) (fun x h1 h2 => ne x (by omega))
    obtain ⟨H, own', y1, y2, y3, y4, y5⟩ := add_32 wo2 (by decide) st2 hs bs vt
    refine ⟨H, own', _, ?_, y2, WF.trans (b := WI h f) (o2 := own) ⟨Nat.le_refl _, fun _ _ => ⟨rfl, rfl⟩, fun x _ _ => ⟨fun e => ne x e, fun _ => rfl⟩, fun j h2 h3 => ?_⟩ y3, y4, y5⟩
    · unfold Wor_add
      rw [gI_k w1, w10, if_neg (by omega), gI_k w1, w12, if_neg (by decide), show (F : Int) + 1 = (F : Int) + ((1 : Nat) : Int) from rfl, ring_e w11 (by decide), pI_k w1, sI_WI, gI_k (h := WI h (up2 (hI h) w 2 (((F + 1) % 20 : Nat) : Int))) w1, hI_WI, up2_e, if_neg (by omega), w10, c, wr_id (by decide) (by decide), pI_k (h := WI h (up2 (hI h) w 2 (((F + 1) % 20 : Nat) : Int))) w1, WI_sI, show ((20 : Nat) : Int) - 1 = ((19 : Nat) : Int) from rfl, hf]
      exact y1
    · rw [hI_WI, ← hf, up2_e, if_neg (by omega), up2_e, if_neg (by omega)]
  · rw [if_neg c, if_neg c]
    obtain ⟨H, own', y1, y2, y3, y4, y5⟩ := add_32 wo (by omega) st hs bs vt
    refine ⟨H, own', F, ?_, y2, y3, y4, y5⟩
    unfold Wor_add
    rw [gI_k w1, w10, if_pos (by omega)]
    exact y1
theorem Wor_remember_e (wo : WOF h own w u tg ρ F n P) : ∃ H own' F', Wor_remember w h = some ((), H) ∧ WOF H own' w u tg ρ F' (if n = 20 then 20 else n + 1) (pshP P n ρ) ∧ WF h H own own' w tg ∧ hN H ≤ hN h + 26 ∧ hS H ≤ hS h + 185 := by
  obtain ⟨⟨w1, w2, w3, w4⟩, ⟨w5, w6, w7⟩, w8, -⟩ := id wo
  obtain ⟨H, own', F', x1, x2⟩ := Wor_add_e wo w8 (by omega) (by omega) (v := u) (fun c h1 h2 => w5 c (by omega) (by omega)) w7
  refine ⟨H, own', F', ?_, x2⟩
  unfold Wor_remember
  rw [gR_k w1, w2, rc_k w1, x1, bnd_some]
/-- what is now is written: numbers and kept ones of it -/
theorem WOF.now (wo : WOF h own w u tg ρ F n P) {H : AH} (fr : FR h H (w + 1) (w + 27)) (st : ST H (w + 1) σ) : WOF H own w u tg σ F n P := by
  obtain ⟨⟨w1, w2, w3, w4⟩, ⟨w5, w6, w7⟩, w8, ⟨w9, w10⟩, ⟨w11, w12⟩, w13, w14⟩ := wo
  obtain ⟨r1, r2, r3, r4⟩ := fr
  have q0 := r4 w (by omega)
  have q27 := r4 (w + 27) (by omega)
  have ns : ∀ j, j < 20 → hR h (w + 27) j ≠ 0 → ∀ x, hR h (w + 27) j ≤ x → x < hR h (w + 27) j + 26 → ¬ (w + 1 ≤ x ∧ x < w + 27) := fun j hj hz x h1 h2 e => by
    obtain ⟨c1, c2, c3⟩ := (w14 j hj).resolve_left hz
    have := c3 x h1 h2
    rw [w5 x (by omega) (by omega)] at this
    omega
  refine ⟨⟨by rw [r3]; exact w1, by rw [q0.2]; exact w2, by rw [q0.2]; exact w3, by rw [r3]; exact w4⟩, ⟨w5, by rw [r1]; exact w6, w7⟩, st, ⟨w9, by rw [q0.1]; exact w10⟩, ⟨w11, by rw [q0.1]; exact w12⟩, fun k hk => ?_, fun j hj => ?_⟩
  · obtain ⟨c1, c2⟩ := w13 k hk
    have m := ns _ (Nat.mod_lt _ (by decide)) c1
    rw [q27.2]
    exact ⟨c1, ST_to c2 (fun _ _ _ => by rw [r3]) (fun x h1 h2 => (r4 x (m x h1 h2)).2) (fun x h1 h2 => (r4 x (m x h1 h2)).1)⟩
  · rw [q27.2, r1]
    by_cases z : hR h (w + 27) j = 0
    · exact Or.inl z
    · have m := ns j hj z
      obtain ⟨c1, c2, c3⟩ := (w14 j hj).resolve_left z
      exact Or.inr ⟨c1, SB_to c2 (fun _ _ _ => by rw [r3]) (fun x h1 h2 => (r4 x (m x h1 h2)).2) (fun t _ => by rw [(r4 _ (m _ (by omega) (by omega))).1]) (fun t _ => by rw [(r4 _ (m _ (by omega) (by omega))).1]), c3⟩
/-- back by one -/
theorem Wor_goBack_0 (wo : WOF h own w u tg ρ F 0 P) : Wor_goBack w h = some (-2, h) := by
  obtain ⟨⟨w1, w2, w3, w4⟩, -, -, ⟨w9, w10⟩, -⟩ := wo
  unfold Wor_goBack
  rw [gI_k w1, w10, if_neg (by decide)]
theorem Wor_goBack_e (wo : WOF h own w u tg ρ F (n + 1) P) : ∃ f', Wor_goBack w h = some ((n : Int), WI h f') ∧ WOF (WI h f') own w u tg (P n) F n P ∧ (∀ x, ¬ (w ≤ x ∧ x < w + 27) → f' x = hI h x) ∧ ∀ j, j ≠ 3 → f' w j = hI h w j := by
  obtain ⟨⟨w1, w2, w3, w4⟩, ⟨w5, w6, w7⟩, w8, ⟨w9, w10⟩, ⟨w11, w12⟩, w13, w14⟩ := id wo
  generalize hf : up2 (hI h) w 3 (n : Int) = f
  have ne : ∀ x, x ≠ w → f x = hI h x := fun x hx => by rw [← hf, up2_ne hx]
  have f3 : f w 3 = n := by rw [← hf, up2_e, if_pos ⟨rfl, rfl⟩]
  have f2 : f w 2 = F := by rw [← hf, up2_e, if_neg (by omega)]; exact w12
  have wo2 : WOF (WI h f) own w u tg ρ F n P := wo.head ne (by omega) f3 w11 f2 (fun k hk => ⟨k, by omega, rfl, rfl⟩)
  obtain ⟨c1, c2⟩ := w13 n (by omega)
  obtain ⟨d1, d2, d3⟩ := (w14 _ (Nat.mod_lt _ (by decide))).resolve_left c1
  have nw' := BLK_no d3 (x := w) (by rw [w5 w (by omega) (by omega)]; omega)
  have c2' : ST (WI h f) (hR h (w + 27) ((F + n) % 20)) (P n) := ST_to c2 (fun _ _ _ => rfl) (fun _ _ _ => rfl) (fun x h1 h2 => ne x (by omega))
  have ap : w + 1 + 26 ≤ hR h (w + 27) ((F + n) % 20) ∨ hR h (w + 27) ((F + n) % 20) + 26 ≤ w + 1 := BLK_ap (own := own) (u := u) (fun c h1 h2 => w5 c (by omega) (by omega)) d3 (by omega)
  obtain ⟨f', x1, x2, x3⟩ := Sta_copy_e (h := h) (f := f) (d := w + 1) (a := hR h (w + 27) ((F + n) % 20)) wo2.2.2.1.1 c2' ap
  have fw : f' w = f w := x2 w (by omega)
  refine ⟨f', ?_, wo2.now (H := WI h f') ?_ x3, fun x hx => by rw [x2 x (by omega), ne x (by omega)], fun j hj => by rw [fw, ← hf, up2_e, if_neg (by omega)]⟩
  · unfold Wor_goBack
    rw [gI_k w1, w10, if_pos (by omega), gI_k w1, w10, wr_id (by omega) (by omega), pI_k w1, sI_WI, show ((n + 1 : Nat) : Int) - 1 = (n : Int) by omega, hf, gR_k (h := WI h f) w1, show hR (WI h f) w 1 = w + 27 from w3, gI_k (h := WI h f) w1, hI_WI, f2, gI_k (h := WI h f) w1, hI_WI, f3, if_neg (by decide), ring_e w11 (by omega), aR_k (h := WI h f) w4 (by omega) (by omega), tN (((F + n) % 20 : Nat) : Int) _ rfl, show hR (WI h f) = hR h from rfl, if_neg c1, if_neg c1, gR_k (h := WI h f) w1, show hR (WI h f) w 0 = w + 1 from w2, rc_k (h := WI h f) wo2.2.2.1.1.1, x1, bnd_some, gI_k (h := WI h f') w1, hI_WI, fw, f3]
  · exact ⟨rfl, rfl, rfl, fun x hx => ⟨x2 x (by omega), rfl⟩⟩
end C16
