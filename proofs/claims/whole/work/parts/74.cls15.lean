/-! Level 2: the class: worlds -/
/-- whose cells they are -/
def BLK (own : Nat → Nat) (p n u : Nat) : Prop := ∀ c, p ≤ c → c < p + n → own c = u
def psh (P : Nat → Nat → Int) (n : Nat) (σ : Nat → Int) : Nat → Nat → Int := fun k => if k = n then σ else P k
/-- a world: what is now, what is past -/
def WOF (h : AH) (own : Nat → Nat) (w u tg : Nat) (ρ : Nat → Int) (F n : Nat) (P : Nat → Nat → Int) : Prop :=
  (hK h w = (11, 0) ∧ hR h w 0 = w + 1 ∧ hR h w 1 = w + 27 ∧ hK h (w + 27) = (33, 20)) ∧ (BLK own w 28 u ∧ w + 28 ≤ 16 + hN h ∧ (u < tg ∨ tg + 20 ≤ u)) ∧ ST h (w + 1) ρ ∧ (n ≤ 20 ∧ hI h w 3 = n) ∧ (F < 20 ∧ hI h w 2 = F) ∧ (∀ k, k < n → hR h (w + 27) ((F + k) % 20) ≠ 0 ∧ ST h (hR h (w + 27) ((F + k) % 20)) (P k)) ∧ ∀ i, i < 20 → hR h (w + 27) i = 0 ∨ (hR h (w + 27) i + 26 ≤ 16 + hN h ∧ SB h (hR h (w + 27) i) ∧ BLK own (hR h (w + 27) i) 26 (tg + i))
/-- only the past of a world has changed -/
def WF (h H : AH) (own own' : Nat → Nat) (w tg : Nat) : Prop := hN h ≤ hN H ∧ (∀ x, x < 16 + hN h → own' x = own x ∧ hK H x = hK h x) ∧ (∀ x, x < 16 + hN h → (own x < tg ∨ tg + 20 ≤ own x) → (x ≠ w → hI H x = hI h x) ∧ (x ≠ w + 27 → hR H x = hR h x)) ∧ ∀ j, j ≠ 2 → j ≠ 3 → hI H w j = hI h w j
theorem WF.refl (h : AH) (own : Nat → Nat) (w tg : Nat) : WF h h own own w tg := ⟨Nat.le_refl _, fun _ _ => ⟨rfl, rfl⟩, fun _ _ _ => ⟨fun _ => rfl, fun _ => rfl⟩, fun _ _ _ => rfl⟩
theorem WF.trans {a b c : AH} {o1 o2 o3 : Nat → Nat} {w tg : Nat} (x : WF a b o1 o2 w tg) (y : WF b c o2 o3 w tg) : WF a c o1 o3 w tg := by
  obtain ⟨x1, x2, x3, x4⟩ := x
  obtain ⟨y1, y2, y3, y4⟩ := y
  refine ⟨by omega, fun k hk => ?_, fun k hk ho => ?_, fun j h2 h3 => by rw [y4 j h2 h3, x4 j h2 h3]⟩
  · obtain ⟨p1, p2⟩ := x2 k hk
    obtain ⟨q1, q2⟩ := y2 k (by omega)
    exact ⟨by rw [q1, p1], by rw [q2, p2]⟩
  · obtain ⟨p1, p2⟩ := x3 k hk ho
    obtain ⟨q1, q2⟩ := y3 k (by omega) (by rw [(x2 k hk).1]; exact ho)
    exact ⟨fun e => by rw [q1 e, p1 e], fun e => by rw [q2 e, p2 e]⟩
theorem ring_e {F n : Nat} (h1 : F < 20) (h2 : n ≤ 20) : iRem (wr ((F : Int) + (n : Int))) 20 = (((F + n) % 20 : Nat) : Int) := by
  rw [wr_id (by omega) (by omega), iRem_e (by omega) (by omega) (by decide) (by decide)]; omega
section C15
variable {h : AH} {own : Nat → Nat} {w u tg F n src v : Nat} {ρ σ : Nat → Int} {P : Nat → Nat → Int}
theorem BLK_ap {p q u v : Nat} (b : BLK own p 26 u) (c : BLK own q 26 v) (n : u ≠ v) : p + 26 ≤ q ∨ q + 26 ≤ p := by
  by_cases h1 : p ≤ q
  · by_cases h2 : q < p + 26
    · exact absurd ((b q h1 h2).symm.trans (c q (by omega) (by omega))) n
    · exact Or.inl (by omega)
  · by_cases h2 : p < q + 26
    · exact absurd ((b p (by omega) (by omega)).symm.trans (c p (by omega) h2)) n
    · exact Or.inr (by omega)
theorem BLK_no {p u x : Nat} (b : BLK own p 26 u) (n : own x ≠ u) : ¬ (p ≤ x ∧ x < p + 26) := fun e => n (b x e.1 e.2)
theorem add_67 (wo : WOF h own w u tg ρ F n P) (n20 : n < 20) (pz : hR h (w + 27) ((F + n) % 20) ≠ 0) (st : ST h src σ) (bs : BLK own src 26 v) (vt : v < tg ∨ tg + 20 ≤ v) : ∃ H, Wor_add_L67 w src (((F + n) % 20 : Nat) : Int) h = some ((), H) ∧ WOF H own w u tg ρ F (n + 1) (psh P n σ) ∧ WF h H own own w tg ∧ hN H = hN h ∧ hS H = hS h := by
  obtain ⟨⟨w1, w2, w3, w4⟩, ⟨w5, w6, w7⟩, w8, ⟨w9, w10⟩, ⟨w11, w12⟩, w13, w14⟩ := id wo
  have ix : (F + n) % 20 < 20 := Nat.mod_lt _ (by decide)
  generalize hi : (F + n) % 20 = i at *
  obtain ⟨d1, d2, d3⟩ := (w14 i ix).resolve_left pz
  generalize hd : hR h (w + 27) i = d at *
  have ap := BLK_ap d3 bs (by omega)
  obtain ⟨f', x1, x2, x3⟩ := Sta_copy_e (h := h) (f := hI h) (d := d) (a := src) (ρ := σ) d2 st (by omega)
  rw [WI_id] at x1
  have ow : ∀ x, w ≤ x → x < w + 28 → own x = u := fun x h1 h2 => w5 x h1 h2
  have nd : ∀ x, own x ≠ tg + i → f' x = hI h x := fun x hx => x2 x (BLK_no d3 hx)
  have nw' : ∀ x, w ≤ x → x < w + 28 → f' x = hI h x := fun x h1 h2 => nd x (by rw [ow x h1 h2]; omega)
  generalize hf2 : up2 f' w 3 ((n + 1 : Nat) : Int) = f2
  have n2 : ∀ x, x ≠ w → f2 x = f' x := fun x hx => by rw [← hf2, up2_ne hx]
  have wd : ¬ (d ≤ w ∧ w < d + 26) := BLK_no d3 (by rw [ow w (by omega) (by omega)]; omega)
  have s1 : ST (WI h f2) d σ := ST_to x3 (fun _ _ _ => rfl) (fun _ _ _ => rfl) (fun x h1 h2 => n2 x (by omega))
  have oth : ∀ j, j < 20 → j ≠ i → hR h (w + 27) j ≠ 0 → ∀ x, hR h (w + 27) j ≤ x → x < hR h (w + 27) j + 26 → f2 x = hI h x := fun j hj hji hz x h1 h2 => by
    obtain ⟨c1, c2, c3⟩ := (w14 j hj).resolve_left hz
    have o := c3 x h1 h2
    have xw : x ≠ w := fun e => by rw [e, ow w (by omega) (by omega)] at o; omega
    rw [n2 x xw, nd x (by rw [o]; omega)]
  refine ⟨WI h f2, ?_, ⟨⟨w1, w2, w3, w4⟩, ⟨w5, w6, w7⟩, ?_, ⟨by omega, ?_⟩, ⟨w11, ?_⟩, fun k hk => ?_, fun j hj => ?_⟩, ⟨Nat.le_refl _, fun _ _ => ⟨rfl, rfl⟩, fun x hx ho => ⟨fun hw => ?_, fun _ => rfl⟩, fun j h2 h3 => ?_⟩, rfl, rfl⟩
  · unfold Wor_add_L67
    rw [gR_k w1, w3, aR_k w4 (by omega) (by omega), tN (i : Int) i rfl, hd, rc_k d2.1, x1, bnd_some, gI_k (h := WI h f') w1, hI_WI, nw' w (by omega) (by omega), w10, wr_id (by omega) (by omega), pI_k (h := WI h f') w1, WI_sI, show (n : Int) + 1 = ((n + 1 : Nat) : Int) by omega, hf2]
  · exact ST_to w8 (fun _ _ _ => rfl) (fun _ _ _ => rfl) (fun x h1 h2 => by rw [hI_WI, n2 x (by omega), nw' x (by omega) (by omega)])
  · rw [hI_WI, ← hf2, up2_e, if_pos ⟨rfl, rfl⟩]
  · rw [hI_WI, ← hf2, up2_e, if_neg (by omega), nw' w (by omega) (by omega)]; exact w12
  · show hR h (w + 27) ((F + k) % 20) ≠ 0 ∧ ST (WI h f2) (hR h (w + 27) ((F + k) % 20)) (psh P n σ k)
    unfold psh
    by_cases c : k = n
    · rw [c, hi, hd, if_pos rfl]; exact ⟨pz, s1⟩
    · rw [if_neg c]
      obtain ⟨c1, c2⟩ := w13 k (by omega)
      exact ⟨c1, ST_to c2 (fun _ _ _ => rfl) (fun _ _ _ => rfl) (fun x h1 h2 => oth ((F + k) % 20) (Nat.mod_lt _ (by decide)) (by omega) c1 x h1 h2)⟩
  · show hR h (w + 27) j = 0 ∨ (hR h (w + 27) j + 26 ≤ 16 + hN h ∧ SB (WI h f2) (hR h (w + 27) j) ∧ BLK own (hR h (w + 27) j) 26 (tg + j))
    by_cases c : j = i
    · rw [c, hd]; exact Or.inr ⟨d1, s1.1, d3⟩
    · by_cases z : hR h (w + 27) j = 0
      · exact Or.inl z
      · obtain ⟨c1, c2, c3⟩ := (w14 j hj).resolve_left z
        exact Or.inr ⟨c1, SB_to c2 (fun _ _ _ => rfl) (fun _ _ _ => rfl) (fun t _ => by rw [hI_WI, oth j hj c z _ (by omega) (by omega)]) (fun t _ => by rw [hI_WI, oth j hj c z _ (by omega) (by omega)]), c3⟩
  · rw [hI_WI, n2 x hw, nd x (by omega)]
  · rw [hI_WI, ← hf2, up2_e, if_neg (by omega), nw' w (by omega) (by omega)]
theorem SB.nx {H : AH} {a : Nat} (n : NX h H) (s : SB h a) (ha : a + 26 ≤ 16 + hN h) : SB H a :=
  SB_to s (fun x _ h2 => (n.2 x (by omega)).1) (fun x _ h2 => (n.2 x (by omega)).2.2) (fun _ _ => by rw [(n.2 _ (by omega)).2.1]) (fun _ _ => by rw [(n.2 _ (by omega)).2.1])
theorem ST.nx {H : AH} {a : Nat} (n : NX h H) (s : ST h a ρ) (ha : a + 26 ≤ 16 + hN h) : ST H a ρ :=
  ST_to s (fun x _ h2 => (n.2 x (by omega)).1) (fun x _ h2 => (n.2 x (by omega)).2.2) (fun x _ h2 => (n.2 x (by omega)).2.1)
theorem add_32 (wo : WOF h own w u tg ρ F n P) (n20 : n < 20) (st : ST h src σ) (hs : src + 26 ≤ 16 + hN h) (bs : BLK own src 26 v) (vt : v < tg ∨ tg + 20 ≤ v) : ∃ H own', Wor_add_L32 w src h = some ((), H) ∧ WOF H own' w u tg ρ F (n + 1) (psh P n σ) ∧ WF h H own own' w tg ∧ hN H ≤ hN h + 26 ∧ hS H ≤ hS h + 185 := by
  obtain ⟨⟨w1, w2, w3, w4⟩, ⟨w5, w6, w7⟩, w8, ⟨w9, w10⟩, ⟨w11, w12⟩, w13, w14⟩ := id wo
  have ix : (F + n) % 20 < 20 := Nat.mod_lt _ (by decide)
  by_cases pz : hR h (w + 27) ((F + n) % 20) = 0
  · obtain ⟨K, x1, x2, x3, x4, x5⟩ := Sta_new h
    generalize ha : 16 + hN h = a at *
    generalize hi : (F + n) % 20 = i at *
    have k33 : hK K (w + 27) = (33, 20) := by rw [(x4.2 _ (by omega)).1]; exact w4
    have kr : ∀ x, x < a → x ≠ w + 27 → hR (sR K (w + 27) i a) x = hR h x := fun x h1 h2 => by rw [hR_sR, up2_ne h2, (x4.2 x (by omega)).2.2]
    have ki : ∀ x, x < a → hI (sR K (w + 27) i a) x = hI h x := fun x h1 => (x4.2 x (by omega)).2.1
    have kk : ∀ x, x < a → hK (sR K (w + 27) i a) x = hK h x := fun x h1 => (x4.2 x (by omega)).1
    have k27 : ∀ j, hR (sR K (w + 27) i a) (w + 27) j = if j = i then a else hR h (w + 27) j := fun j => by
      rw [hR_sR, up2_e]
      by_cases c : j = i
      · rw [if_pos ⟨rfl, c⟩, if_pos c]
      · rw [if_neg (by omega), if_neg c, (x4.2 _ (by omega)).2.2]
    have blk : ∀ {p m t : Nat}, BLK own p m t → p + m ≤ a → BLK (fun c => if a ≤ c then tg + i else own c) p m t := fun b hp c h1 h2 => by
      show (if a ≤ c then tg + i else own c) = _
      rw [if_neg (by omega)]; exact b c h1 h2
    have stx : ∀ {p : Nat} {τ : Nat → Int}, ST h p τ → p + 26 ≤ a → ¬ (p ≤ w + 27 ∧ w + 27 < p + 26) → ST (sR K (w + 27) i a) p τ := fun s hp hn => ST_to s (fun x _ h2 => kk x (by omega)) (fun x h1 h2 => kr x (by omega) (by omega)) (fun x _ h2 => ki x (by omega))
    have slot : ∀ j, j < 20 → hR h (w + 27) j ≠ 0 → hR h (w + 27) j + 26 ≤ a ∧ SB h (hR h (w + 27) j) ∧ BLK own (hR h (w + 27) j) 26 (tg + j) ∧ ¬ (hR h (w + 27) j ≤ w + 27 ∧ w + 27 < hR h (w + 27) j + 26) := fun j hj hz => by
      obtain ⟨c1, c2, c3⟩ := (w14 j hj).resolve_left hz
      exact ⟨c1, c2, c3, BLK_no c3 (by rw [w5 (w + 27) (by omega) (by omega)]; omega)⟩
    have wo2 : WOF (sR K (w + 27) i a) (fun c => if a ≤ c then tg + i else own c) w u tg ρ F n P := by
      refine ⟨⟨by rw [kk w (by omega)]; exact w1, by rw [kr w (by omega) (by omega)]; exact w2, by rw [kr w (by omega) (by omega)]; exact w3, k33⟩, ⟨blk w5 (by omega), by show w + 28 ≤ 16 + hN K; omega, w7⟩, stx w8 (by omega) (by omega), ⟨w9, by rw [ki w (by omega)]; exact w10⟩, ⟨w11, by rw [ki w (by omega)]; exact w12⟩, fun k hk => ?_, fun j hj => ?_⟩
      · obtain ⟨c1, c2⟩ := w13 k hk
        obtain ⟨e1, e2, e3, e4⟩ := slot _ (Nat.mod_lt _ (by decide)) c1
        rw [k27, if_neg (by omega)]
        exact ⟨c1, stx c2 e1 e4⟩
      · rw [k27]
        by_cases c : j = i
        · rw [if_pos c, c]
          refine Or.inr ⟨by show a + 26 ≤ 16 + hN K; omega, SB_to x5 (fun _ _ _ => rfl) (fun x h1 h2 => by rw [hR_sR, up2_ne (by omega)]) (fun _ _ => rfl) (fun _ _ => rfl), fun c h1 h2 => by show (if a ≤ c then tg + i else own c) = _; rw [if_pos h1]⟩
        · rw [if_neg c]
          by_cases z : hR h (w + 27) j = 0
          · exact Or.inl z
          · obtain ⟨e1, e2, e3, e4⟩ := slot j hj z
            exact Or.inr ⟨by show hR h (w + 27) j + 26 ≤ 16 + hN K; omega, SB_to e2 (fun x _ h2 => kk x (by omega)) (fun x h1 h2 => kr x (by omega) (by omega)) (fun t _ => by rw [ki _ (by omega)]) (fun t _ => by rw [ki _ (by omega)]), blk e3 e1⟩
    have sx : ¬ (src ≤ w + 27 ∧ w + 27 < src + 26) ∨ (src ≤ w + 27 ∧ w + 27 < src + 26) := by omega
    have st2 : ST (sR K (w + 27) i a) src σ := by
      refine stx st hs (fun c => ?_)
      have k1 := st.1
      have o1 : hK h (w + 27) = (33, 20) := w4
      obtain ⟨s1, s2, s3, s4, s5, s6, ⟨s7, s8, s9, s10, s11⟩, ⟨s12, s13, s14, s15, s16⟩, ⟨s17, s18, s19, s20, s21, s22⟩⟩ := k1
      have : w + 27 = src ∨ w + 27 = src + 1 ∨ w + 27 = src + 2 ∨ w + 27 = src + 2 + 1 ∨ w + 27 = src + 22 ∨ w + 27 = src + 22 + 1 ∨ w + 27 = src + 24 ∨ w + 27 = src + 24 + 1 ∨ ∃ j, j < 6 ∧ (w + 27 = src + 2 + 2 + 3 * j ∨ w + 27 = src + 2 + 2 + 3 * j + 1 ∨ w + 27 = src + 2 + 2 + 3 * j + 1 + 1) := by
        by_cases q : src + 4 ≤ w + 27 ∧ w + 27 < src + 22
        · refine Or.inr (Or.inr (Or.inr (Or.inr (Or.inr (Or.inr (Or.inr (Or.inr ⟨(w + 27 - (src + 4)) / 3, by omega, by omega⟩)))))))
        · omega
      rcases this with e | e | e | e | e | e | e | e | ⟨j, hj, e | e | e⟩
      · rw [e, s1] at o1; simp at o1
      · rw [e, s4] at o1; simp at o1
      · rw [e, s17] at o1; simp at o1
      · rw [e, s19] at o1; simp at o1
      · rw [e, s7] at o1; simp at o1
      · rw [e, s11] at o1; simp at o1
      · rw [e, s12] at o1; simp at o1
      · rw [e, s16] at o1; simp at o1
      · rw [e, (s20 j hj).1] at o1; simp at o1
      · rw [e, (s20 j hj).2.2.1] at o1; simp at o1
      · rw [e, (s20 j hj).2.2.2.2] at o1; simp at o1
    obtain ⟨H, y1, y2, y3, y4, y5⟩ := add_67 wo2 n20 (by rw [hi, k27, if_pos rfl]; omega) st2 (blk bs hs) vt
    rw [hi] at y1
    refine ⟨H, _, ?_, y2, WF.trans ⟨by show hN h ≤ hN K; omega, fun x hx => ⟨?_, kk x (by omega)⟩, fun x hx _ => ⟨fun _ => ki x (by omega), fun e => kr x (by omega) e⟩, fun j _ _ => by rw [ki w (by omega)]⟩ y3, by rw [y4]; show hN K ≤ _; omega, by rw [y5]; show hS K ≤ _; omega⟩
    · unfold Wor_add_L32
      rw [gI_k w1, w12, gI_k w1, w10, if_neg (by decide), gR_k w1, w3, ring_e w11 w9, hi, aR_k w4 (by omega) (by omega), tN (i : Int) i rfl, pz, if_neg (by decide), gR_k w1, w3, nO_k, ha, x1, bnd_some, wR_k k33 (by omega) (by omega) x5.1, tN (i : Int) i rfl]
      exact y1
    · show (if a ≤ x then tg + i else own x) = own x
      rw [if_neg (by omega)]
  · obtain ⟨H, y1, y2, y3, y4, y5⟩ := add_67 wo n20 pz st bs vt
    refine ⟨H, own, ?_, y2, y3, by omega, by omega⟩
    unfold Wor_add_L32
    rw [gI_k w1, w12, gI_k w1, w10, if_neg (by decide), gR_k w1, w3, ring_e w11 w9, aR_k w4 (by omega) (by omega), tN (((F + n) % 20 : Nat) : Int) _ rfl, if_pos pz]
    exact y1
end C15
