/-! Level 2: base of both sides, on -/
section L10
variable {K H h g : AH} {n p : Nat} {φ : Int} {T : Nat → Int} {ρ σ : Nat → Int} {own : Nat → Nat} {f : Nat → Nat → Int}
theorem base_ok : OKC (Bat_base 16) (Mod_base 401) := by
  intro h own j sd
  obtain ⟨cc, mr⟩ := id j
  have m := mr.1
  have big := FU_big
  have c7 := cc.1.2.2.2.2.2.2.1
  have c8 := cc.1.2.2.2.2.2.2.2
  obtain ⟨t1, t2, t3⟩ := cc.2.2.1.2
  obtain ⟨n, ht⟩ : ∃ n : Nat, hI h 401 18 = (n : Int) := ⟨(hI h 401 18).toNat, by omega⟩
  have hn : n ≤ 400 := by omega
  obtain ⟨H1, x1, ⟨x2, x3, x4⟩, x5, x6, ⟨x7, x8⟩, x9, x10, x11, x12⟩ := base_C cc ht hn
  have k0 := bsS_k (T := hI h 17) (n := n) (j := 0) (by omega) 41 0 0 (fun _ => 0)
  have k4 := bsS_k (T := hI h 17) (n := n) (j := 4) (by omega) 41 0 0 (fun _ => 0)
  have k5 := bsS_k (T := hI h 17) (n := n) (j := 5) (by omega) 41 0 0 (fun _ => 0)
  have k6 := bsS_k (T := hI h 17) (n := n) (j := 6) (by omega) 41 0 0 (fun _ => 0)
  have k7 := bsS_k (T := hI h 17) (n := n) (j := 7) (by omega) 41 0 0 (fun _ => 0)
  have mH1 : MS H1 := MS_to m (fun a h1 h2 => ⟨by rw [x4], by rw [x5 a (by omega)]⟩)
  generalize hKK : WI H1 (up2 (up2 (hI H1) 401 7 0) 401 8 0) = KK
  have iK : ∀ a, a ≠ 401 → hI KK a = hI H1 a := fun a ha => by rw [← hKK, hI_WI, up2_ne ha, up2_ne ha]
  have iK1 : ∀ i, i ≠ 7 → i ≠ 8 → hI KK 401 i = hI H1 401 i := fun i h7 h8 => by rw [← hKK, hI_WI, up2_e, if_neg (by omega), up2_e, if_neg (by omega)]
  have mK : MS KK := by rw [← hKK]; exact mH1
  have rK : RDM KK n (hI h 17) := ⟨mK, by rw [iK1 18 (by decide) (by decide), x6 401 (by decide) (by decide) (by decide) (by decide)]; exact ht, hn, fun i hi => by
    rw [iK 415 (by decide), x6 415 (by decide) (by decide) (by decide) (by decide)]
    exact t3 i (by omega)⟩
  have nK : NRR KK (fun _ => 0) := ⟨by rw [← hKK, hI_WI, up2_e, if_neg (by decide), up2_e, if_pos ⟨rfl, rfl⟩], by rw [← hKK, hI_WI, up2_e, if_pos ⟨rfl, rfl⟩], fun j hj => absurd hj (by simp), fun j hj => absurd hj (by simp)⟩
  have bl := base_L hn 40 0 0 FU KK (fun _ => 0) (by omega) (by omega) (by omega) rK nK RB_z (fun e => absurd e (by decide))
  rw [show (40 + 1 : Nat) = 41 from rfl] at bl
  obtain ⟨H2, p', y1, y2, y3, y4⟩ := bl
  generalize hB : bsS (hI h 17) n 41 0 0 (fun _ => 0) = B at *
  have y1' : Mod_base_L24 FU 401 0 1 (S41 KK 0 0) = Mod_base_L24 1 401 0 0 (S41 H2 p' B.1) := y1
  obtain ⟨⟨v1, v2, v3, v4⟩, v5, v6⟩ := y2
  have m2 : MS H2 := MS_to mK (fun a _ _ => ⟨by rw [v3], by rw [v4]⟩)
  have k2 : hK H2 = hK h := by rw [v3, ← hKK]; exact x4
  have n2 : hN H2 = hN h := by rw [v1, ← hKK]; exact x2
  have s2 : hS H2 = hS h := by rw [v2, ← hKK]; exact x3
  have r2 : ∀ x, ¬ (49 ≤ x ∧ x < 75) → hR H2 x = hR h x := fun x hx => by rw [v4, ← hKK]; exact x5 x hx
  have i2 : ∀ x, x ≠ 401 → x ≠ 405 → x ≠ 406 → hI H2 x = hI H1 x := fun x h1 h2 h3 => by rw [v5 x h1 h2 h3, iK x h1]
  have o2 : ∀ x, ¬ (49 ≤ x ∧ x < 75) → x ≠ 18 → x ≠ 16 → ¬ (20 ≤ x ∧ x < 47) → x ≠ 401 → x ≠ 405 → x ≠ 406 → hI H2 x = hI h x := fun x h1 h2 h3 h4 h5 h6 h7 => by rw [i2 x h5 h6 h7, x6 x h1 h2 h3 h4]
  have q2 : ∀ i, i ≠ 6 → i ≠ 7 → i ≠ 8 → i ≠ 19 → i ≠ 20 → hI H2 401 i = hI h 401 i := fun i h6 h7 h8 h9 h10 => by rw [v6 i h6 h7 h8 h9 h10, iK1 i h7 h8, x6 401 (by decide) (by decide) (by decide) (by decide)]
  have sb2 : SB H2 49 := SB_to x9 (fun x _ _ => by rw [v3, ← hKK]; rfl) (fun x _ _ => by rw [v4, ← hKK]; rfl) (fun i _ => by rw [i2 _ (by decide) (by decide) (by decide)]) (fun i _ => by rw [i2 _ (by decide) (by decide) (by decide)])
  have mo : Mod_base 401 H1 = Mod_base_L24 1 401 0 0 (S41 H2 p' B.1) := by
    unfold Mod_base
    have ma : ∀ f, MS (WI H1 f) := fun _ => mH1
    rw [p_m mH1, show sI H1 401 19 0 = WI H1 (up2 (hI H1) 401 19 0) from rfl, p_m (ma _), WI_sI, p_m (ma _), WI_sI, p_m (ma _), WI_sI, ← y1']
    congr 1
    rw [← hKK]
    unfold S41
    rw [WI_WI, hI_WI]
    refine WI_ext H1 (fun a i => ?_)
    unfold r41
    simp only [up2_e]
    grind
  have ms : ∀ f, MS (WI H2 f) := fun _ => m2
  -- what follows of numbers f behind it
  have asm : ∀ f : Nat → Nat → Int, f 401 18 = 0 → (∀ i, i ≠ 6 → i ≠ 7 → i ≠ 8 → i ≠ 18 → i ≠ 19 → i ≠ 20 → i ≠ 43 → f 401 i = hI H2 401 i) → (∀ x, x ≠ 401 → x ≠ 402 → x ≠ 403 → x ≠ 404 → f x = hI H2 x) → f 402 8 = hI h 402 8 → (0 ≤ f 401 43 ∧ f 401 43 ≤ 20) → (∃ F, WOF (WI H2 f) own 20 1 100 (rr f) F (f 401 43).toNat (fun i j => f 423 (156 * i + j))) → JV (WI H2 f) own ∧ SD (WI H2 f) ∧ TK h (WI H2 f) := fun f f18 f401 fx f8 f43 wo => by
    have o3 : ∀ x, ¬ (49 ≤ x ∧ x < 75) → x ≠ 18 → x ≠ 16 → ¬ (20 ≤ x ∧ x < 47) → x ≠ 401 → x ≠ 402 → x ≠ 403 → x ≠ 404 → x ≠ 405 → x ≠ 406 → f x = hI h x := fun x h1 h2 h3 h4 h5 h6 h7 h8 h9 h10 => by rw [fx x h5 h6 h7 h8, o2 x h1 h2 h3 h4 h5 h9 h10]
    have q10 : f 401 10 = hI h 401 10 := by rw [f401 10 (by decide) (by decide) (by decide) (by decide) (by decide) (by decide) (by decide), q2 10 (by decide) (by decide) (by decide) (by decide) (by decide)]
    have qh : QH h (WI H2 f) := ⟨q10, fun a h1 h2 => o3 a (by omega) (by omega) (by omega) (by omega) (by omega) (by omega) (by omega) (by omega) (by omega) (by omega)⟩
    have rb : RB (rr f) := by obtain ⟨F, wo⟩ := wo; exact wo.2.2.1.2.2
    have mb : MB (WI h f) := MB_of (h := h) mr.2.1 rb q10 (fun a h1 h2 => qh.2 a h1 h2)
    have i20 : hI H2 20 = hI H1 20 := i2 20 (by decide) (by decide) (by decide)
    have i16 : hI H2 16 = hI H1 16 := i2 16 (by decide) (by decide) (by decide)
    have e20 : f 20 = hI H1 20 := by rw [fx 20 (by decide) (by decide) (by decide) (by decide), i20]
    have e16 : f 16 = hI H1 16 := by rw [fx 16 (by decide) (by decide) (by decide) (by decide), i16]
    have sd2 : SD (WI H2 f) := sd.of (by rw [hI_WI]; exact f8) (by rw [hI_WI]; exact o3 424 (by decide) (by decide) (by decide) (by decide) (by decide) (by decide) (by decide) (by decide) (by decide) (by decide))
    refine ⟨?_, sd2, ⟨by show hK H2 15 = _; rw [k2], o3 15 (by decide) (by decide) (by decide) (by decide) (by decide) (by decide) (by decide) (by decide) (by decide) (by decide)⟩⟩
    refine JV_asm2 j (by show hN h ≤ hN H2; omega) (fun _ _ => rfl) (fun x _ => by show hK H2 x = _; rw [k2]) (fun x _ h2 => by show hR H2 x = _; rw [r2 x (by omega)]) ?_ (SB_to sb2 (fun _ _ _ => rfl) (fun _ _ _ => rfl) (fun i _ => by rw [hI_WI, fx _ (by decide) (by decide) (by decide) (by decide)]) (fun i _ => by rw [hI_WI, fx _ (by decide) (by decide) (by decide) (by decide)])) (qh.cq (CQ_to cc.2.1 k2 (fun a ha => r2 a (by omega)) (fun a h1 h2 => o3 a (by omega) (by omega) (by omega) (by omega) (by omega) (by omega) (by omega) (by omega) (by omega) (by omega)) mr.2.1)) ?_ ?_ ?_ wo ?_ f43 mb (qh.qi mr.2.2.1)
    · rw [hI_WI, o3 327 (by decide) (by decide) (by decide) (by decide) (by decide) (by decide) (by decide) (by decide) (by decide) (by decide)]
    · rw [hI_WI, e16, x8 4 (by decide), q10]; exact cc.2.2.1.1
    · unfold TP
      rw [hI_WI, e16, x7, f18]
      exact ⟨rfl, by decide, fun i hi => by omega⟩
    · rw [hI_WI, e20, x10 4 (by decide) (by decide), f8]; exact cc.2.2.2.1
    · exact cc.imgs (by show hN h ≤ hN H2; omega) (fun _ _ => rfl) (r2 48 (by decide)) (fun y h1 h2 h3 => ⟨by show hK H2 y = _; rw [k2], o3 y (by omega) (by omega) (by omega) (by omega) (by omega) (by omega) (by omega) (by omega) (by omega) (by omega), r2 y (by omega)⟩) (o3 424 (by decide) (by decide) (by decide) (by decide) (by decide) (by decide) (by decide) (by decide) (by decide) (by decide)) (o3 425 (by decide) (by decide) (by decide) (by decide) (by decide) (by decide) (by decide) (by decide) (by decide) (by decide))
  have tk1 : TK h H1 := ⟨by rw [x4], x6 15 (by decide) (by decide) (by decide) (by decide)⟩
  obtain ⟨F0, wo0⟩ := cc.2.2.2.2.1
  have cells : ∀ (f : Nat → Nat → Int), (∀ x, 426 ≤ x → f x = hI h x) → ∀ i, i < 20 → hR (WI H2 f) (20 + 27) i = 0 ∨ (hR (WI H2 f) (20 + 27) i + 26 ≤ 16 + hN (WI H2 f) ∧ SB (WI H2 f) (hR (WI H2 f) (20 + 27) i) ∧ BLK own (hR (WI H2 f) (20 + 27) i) 26 (100 + i)) := fun f e i hi => by
    have w := wo0.2.2.2.2.2.2 i hi
    have e47 : hR (WI H2 f) (20 + 27) i = hR h (20 + 27) i := by show hR H2 (20 + 27) i = _; rw [r2 (20 + 27) (by decide)]
    rw [e47]
    rcases w with w | ⟨w1, w2, w3⟩
    · exact Or.inl w
    · refine Or.inr ⟨by show _ ≤ 16 + hN H2; omega, ?_, w3⟩
      have big : 426 ≤ hR h (20 + 27) i := by
        by_cases z : 426 ≤ hR h (20 + 27) i
        · exact z
        · have a := c7 (hR h (20 + 27) i) (by omega)
          have b := w3 (hR h (20 + 27) i) (by omega) (by omega)
          omega
      exact SB_to w2 (fun x h1 h2 => by show hK H2 x = _; rw [k2]) (fun x h1 h2 => by show hR H2 x = _; rw [r2 x (by omega)]) (fun _ _ => by rw [hI_WI, e _ (by omega)]) (fun _ _ => by rw [hI_WI, e _ (by omega)])
  by_cases b : B.1 = 0
  · obtain ⟨z1, z2, z3⟩ := y4 b
    obtain ⟨w1, w2, w3⟩ := x12 b
    obtain ⟨a7, a8, aR, aS⟩ := z1
    have b2 := z3.2.2.1
    have b3 := z3.2.2.2.1
    generalize hf3 : up2 (r41 (hI H2) p' B.1) 401 18 0 = f3
    have g3 : ∀ a, a ≠ 401 → f3 a = hI H2 a := fun a ha => by
      funext i
      rw [← hf3, up2_e, if_neg (by omega)]
      unfold r41
      rw [if_neg (by omega), if_neg (by omega)]
    have g31 : ∀ i, i ≠ 18 → i ≠ 19 → i ≠ 20 → f3 401 i = hI H2 401 i := fun i h1 h2 h3 => by
      rw [← hf3, up2_e, if_neg (by omega)]
      unfold r41
      rw [if_neg (by omega), if_neg (by omega)]
    have g318 : f3 401 18 = 0 := by rw [← hf3, up2_e, if_pos ⟨rfl, rfl⟩]
    have mo2 : Mod_base 401 H1 = some (wr (B.2 2 + B.2 3), WI H2 (bsF f3)) := by
      rw [mo, show (1 : Nat) = 0 + 1 from rfl, Mod_base_L24, if_pos rfl, p_m (s41_m m2 _ _), show sI (S41 H2 p' B.1) 401 18 0 = WI H2 (up2 (r41 (hI H2) p' B.1) 401 18 0) from rfl, hf3, g_m (ms _), hI_WI, show f3 401 20 = 0 from by
        rw [← hf3, up2_e, if_neg (by decide)]
        unfold r41
        rw [if_neg (by decide), if_pos ⟨rfl, rfl⟩]; exact b, if_pos (by decide), base_T m2, g31 7 (by decide) (by decide) (by decide), g31 8 (by decide) (by decide) (by decide), a7, a8]
    have s0 : ∀ j, j < 8 → rr (bsF f3) j = u1 B.2 0 1 j := fun j hj => by
      rw [rr_s _ hj, bsF_e, if_pos ⟨rfl, hj⟩, g31 6 (by decide) (by decide) (by decide), g31 7 (by decide) (by decide) (by decide), g31 8 (by decide) (by decide) (by decide), a7, a8, z2]
      have : j = 0 ∨ j = 1 ∨ j = 2 ∨ j = 3 ∨ j = 4 ∨ j = 5 ∨ j = 6 ∨ j = 7 := by omega
      rcases this with rfl | rfl | rfl | rfl | rfl | rfl | rfl | rfl
      · rfl
      · rfl
      · rfl
      · rfl
      · exact k4.symm
      · exact k5.symm
      · exact k6.symm
      · exact k7.symm
    have sR : ∀ j, j < 3 * (u1 B.2 0 1 2).toNat → rr (bsF f3) (8 + j) = u1 B.2 0 1 (8 + j) := fun j hj => by
      rw [u1_n (by decide)] at hj
      rw [rr_R _ (by omega), bsF_e, if_neg (by omega), if_pos ⟨rfl, by omega⟩, g3 405 (by decide), aR j hj, u1_n (by omega)]
    have sS : ∀ j, j < 2 * (u1 B.2 0 1 3).toNat → rr (bsF f3) (44 + j) = u1 B.2 0 1 (44 + j) := fun j hj => by
      rw [u1_n (by decide)] at hj
      rw [rr_S _ (by omega), bsF_e, if_neg (by omega), if_neg (by omega), if_pos ⟨rfl, by omega⟩, g3 406 (by decide), aS j hj, u1_n (by omega)]
    have fx3 : ∀ x, x ≠ 401 → x ≠ 402 → x ≠ 403 → x ≠ 404 → bsF f3 x = hI H2 x := fun x h1 h2 h3 h4 => by
      funext i
      rw [bsF_e, if_neg (by omega), if_neg (by omega), if_neg (by omega), if_neg (by omega), g3 x h1]
    have f43 : bsF f3 401 43 = 0 := by rw [bsF_e, if_neg (by decide), if_neg (by decide), if_neg (by decide), if_pos ⟨rfl, rfl⟩]
    have f401 : ∀ i, i ≠ 43 → bsF f3 401 i = f3 401 i := fun i hi => by rw [bsF_e, if_neg (by omega), if_neg (by omega), if_neg (by omega), if_neg (by omega)]
    have st : ST (WI H2 (bsF f3)) 21 (rr (bsF f3)) := ST_cg (ρ := u1 B.2 0 1) (ST_to w1 (fun x _ _ => by show hK H2 x = _; rw [v3, ← hKK]; rfl) (fun x _ _ => by show hR H2 x = _; rw [v4, ← hKK]; rfl) (fun x h1 h2 => by rw [hI_WI, fx3 x (by omega) (by omega) (by omega) (by omega), i2 x (by omega) (by omega) (by omega)])) s0 sR sS (by rw [u1_n (by decide), k5])
    have e20 : bsF f3 20 = hI H1 20 := by rw [fx3 20 (by decide) (by decide) (by decide) (by decide), i2 20 (by decide) (by decide) (by decide)]
    have wo : WOF (WI H2 (bsF f3)) own 20 1 100 (rr (bsF f3)) 0 0 (fun i j => bsF f3 423 (156 * i + j)) := by
      obtain ⟨⟨u1', u2, u3, u4⟩, ⟨u5, u6, u7⟩, -⟩ := wo0
      refine ⟨⟨by show hK H2 20 = _; rw [k2]; exact u1', by show hR H2 20 0 = _; rw [r2 20 (by decide)]; exact u2, by show hR H2 20 1 = _; rw [r2 20 (by decide)]; exact u3, by show hK H2 (20 + 27) = _; rw [k2]; exact u4⟩, ⟨u5, by show _ ≤ 16 + hN H2; omega, u7⟩, st, ⟨by decide, by rw [hI_WI, e20, w3]; rfl⟩, ⟨by decide, by rw [hI_WI, e20, w2]; rfl⟩, fun k hk => absurd hk (Nat.not_lt_zero _), cells _ (fun x hx => by rw [fx3 x (by omega) (by omega) (by omega) (by omega), o2 x (by omega) (by omega) (by omega) (by omega) (by omega) (by omega) (by omega)])⟩
    obtain ⟨J, S, TT⟩ := asm (bsF f3) (by rw [f401 18 (by decide), g318]) (fun i h6 h7 h8 h18 h19 h20 h43 => by rw [f401 i h43, g31 i h18 h19 h20]) fx3 (by rw [bsF_e, if_neg (by decide), if_neg (by decide), if_neg (by decide), if_neg (by decide), g3 402 (by decide), o2 402 (by decide) (by decide) (by decide) (by decide) (by decide) (by decide) (by decide)]) (by rw [f43]; decide) ⟨0, by rw [f43]; exact wo⟩
    refine ⟨wr (B.2 2 + B.2 3), H1, WI H2 (bsF f3), own, ?_, mo2, J, TT, tk1, by show hN H2 ≤ _; omega, by show hS H2 ≤ _; omega, S, by rw [x4]⟩
    rw [x1, if_pos b]
  · generalize hf3 : up2 (r41 (hI H2) p' B.1) 401 18 0 = f3
    have g3 : ∀ a, a ≠ 401 → f3 a = hI H2 a := fun a ha => by
      funext i
      rw [← hf3, up2_e, if_neg (by omega)]
      unfold r41
      rw [if_neg (by omega), if_neg (by omega)]
    have g31 : ∀ i, i ≠ 18 → i ≠ 19 → i ≠ 20 → f3 401 i = hI H2 401 i := fun i h1 h2 h3 => by
      rw [← hf3, up2_e, if_neg (by omega)]
      unfold r41
      rw [if_neg (by omega), if_neg (by omega)]
    have g318 : f3 401 18 = 0 := by rw [← hf3, up2_e, if_pos ⟨rfl, rfl⟩]
    have g320 : f3 401 20 = B.1 := by
      rw [← hf3, up2_e, if_neg (by decide)]
      unfold r41
      rw [if_neg (by decide), if_pos ⟨rfl, rfl⟩]
    have mo2 : Mod_base 401 H1 = some (wr (-2 - B.1), WI H2 f3) := by
      rw [mo, show (1 : Nat) = 0 + 1 from rfl, Mod_base_L24, if_pos rfl, p_m (s41_m m2 _ _), show sI (S41 H2 p' B.1) 401 18 0 = WI H2 (up2 (r41 (hI H2) p' B.1) 401 18 0) from rfl, hf3, g_m (ms _), hI_WI, g320, if_neg (by omega), g_m (ms _), hI_WI, g320]
    have e43 : f3 401 43 = hI h 401 43 := by rw [g31 43 (by decide) (by decide) (by decide), q2 43 (by decide) (by decide) (by decide) (by decide) (by decide)]
    have o4 : ∀ x, ¬ (49 ≤ x ∧ x < 75) → x ≠ 18 → x ≠ 16 → x ≠ 401 → x ≠ 405 → x ≠ 406 → f3 x = hI h x := fun x h1 h2 h3 h5 h6 h7 => by
      rw [g3 x h5]
      by_cases z : 20 ≤ x ∧ x < 47
      · rw [i2 x h5 h6 h7, x11 b x z.1 z.2]
      · exact o2 x h1 h2 h3 z h5 h6 h7
    have er : rr f3 = rr (hI h) := by
      funext l; unfold rr
      rw [o4 402 (by decide) (by decide) (by decide) (by decide) (by decide) (by decide), o4 403 (by decide) (by decide) (by decide) (by decide) (by decide) (by decide), o4 404 (by decide) (by decide) (by decide) (by decide) (by decide) (by decide), o4 407 (by decide) (by decide) (by decide) (by decide) (by decide) (by decide)]
    have wo : WOF (WI H2 f3) own 20 1 100 (rr f3) F0 (f3 401 43).toNat (fun i j => f3 423 (156 * i + j)) := by
      rw [er, e43, o4 423 (by decide) (by decide) (by decide) (by decide) (by decide) (by decide)]
      exact wo0.to (by show hN h ≤ hN H2; omega) (fun _ _ => rfl) (fun y hy h2 => by
        have : ¬ (49 ≤ y ∧ y < 75) ∧ y ≠ 18 ∧ y ≠ 16 ∧ y ≠ 401 ∧ y ≠ 405 ∧ y ≠ 406 := by
          rcases h2 with h2 | h2
          · omega
          · by_cases z : y < 426
            · rw [c7 y z] at h2; omega
            · omega
        exact ⟨by show hK H2 y = _; rw [k2], o4 y this.1 this.2.1 this.2.2.1 this.2.2.2.1 this.2.2.2.2.1 this.2.2.2.2.2, by show hR H2 y = _; rw [r2 y this.1]⟩)
    obtain ⟨J, S, TT⟩ := asm f3 g318 (fun i h6 h7 h8 h18 h19 h20 h43 => g31 i h18 h19 h20) (fun x h1 _ _ _ => g3 x h1) (by rw [o4 402 (by decide) (by decide) (by decide) (by decide) (by decide) (by decide)]) (by rw [e43]; exact ⟨mr.2.2.2.2.1, mr.2.2.2.2.2⟩) ⟨F0, wo⟩
    refine ⟨wr (-2 - B.1), H1, WI H2 f3, own, ?_, mo2, J, TT, tk1, by show hN H2 ≤ _; omega, by show hS H2 ≤ _; omega, S, by rw [x4]⟩
    rw [x1, if_neg b]
end L10
