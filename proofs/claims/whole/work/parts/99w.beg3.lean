/-! Level 2: the start: the class as it is made -/
def EX (h H : AH) : Prop := hN h ≤ hN H ∧ ∀ x, x < 16 + hN h → hK H x = hK h x ∧ hI H x = hI h x ∧ (x ≠ 16 → x ≠ 19 → hR H x = hR h x)
def QF (H : AH) (Q : Nat) : Prop := hK H Q = (6, 0) ∧ hR H Q 0 = Q + 1 ∧ hR H Q 1 = Q + 2 ∧ hK H (Q + 1) = (21, 19) ∧ hK H (Q + 2) = (36, 3) ∧ ∀ k, k < 3 → hR H (Q + 2) k = Q + 3 + 2 * k ∧ PA H (Q + 3 + 2 * k)
section P3
variable {β : Type} {X K h H : AH} {a t n k v Q : Nat}
theorem EX.refl (h : AH) : EX h h := ⟨Nat.le_refl _, fun _ _ => ⟨rfl, rfl, fun _ _ => rfl⟩⟩
theorem EX.trans {a b c : AH} (x : EX a b) (y : EX b c) : EX a c := by
  obtain ⟨x1, x2⟩ := x
  obtain ⟨y1, y2⟩ := y
  refine ⟨by omega, fun k hk => ?_⟩
  obtain ⟨p1, p2, p3⟩ := x2 k hk
  obtain ⟨q1, q2, q3⟩ := y2 k (by omega)
  exact ⟨by rw [q1, p1], by rw [q2, p2], fun h1 h2 => by rw [q3 h1 h2, p3 h1 h2]⟩
theorem EX_md (X : AH) (t n k : Nat) : EX X (md X 16 t n k) := by
  refine ⟨by show hN X ≤ hN X + 1; omega, fun x hx => ⟨by rw [md_K, if_neg (by omega)], by rw [md_I, if_neg (by omega)], fun h1 h2 => ?_⟩⟩
  funext j
  rw [md_R, if_neg (by omega), if_neg (by omega)]
theorem EX_b (nx : NX X K) (k v : Nat) : EX X (sR K 16 k v) := ⟨by rw [hN_sR]; exact nx.1, fun x hx => ⟨by rw [hK_sR]; exact (nx.2 x hx).1, by rw [hI_sR]; exact (nx.2 x hx).2.1, fun h1 _ => by rw [hR_sR, up2_ne h1]; exact (nx.2 x hx).2.2⟩⟩
theorem EX_q (nx : NX X K) (k v : Nat) : EX X (sR K 19 k v) := ⟨by rw [hN_sR]; exact nx.1, fun x hx => ⟨by rw [hK_sR]; exact (nx.2 x hx).1, by rw [hI_sR]; exact (nx.2 x hx).2.1, fun _ h1 => by rw [hR_sR, up2_ne h1]; exact (nx.2 x hx).2.2⟩⟩
theorem md_16 (h1 : 0 < hN X) : hR (md X 16 t n k) 16 k = 16 + hN X ∧ ∀ j, j ≠ k → hR (md X 16 t n k) 16 j = hR X 16 j := ⟨by rw [md_R, if_pos ⟨rfl, rfl⟩], fun j hj => by rw [md_R, if_neg (by omega), if_neg (by omega)]⟩
theorem b_16 (nx : NX X K) (h1 : 0 < hN X) (k v : Nat) : hR (sR K 16 k v) 16 k = v ∧ ∀ j, j ≠ k → hR (sR K 16 k v) 16 j = hR X 16 j := ⟨by rw [hR_sR, up2_e, if_pos ⟨rfl, rfl⟩], fun j hj => by rw [hR_sR, up2_e, if_neg (by omega), (nx.2 16 (by omega)).2.2]⟩
theorem Rea_new (h : AH) (v : Nat) : ∃ H, Rea_init (16 + hN h) v (nw h 7 0 5) = some ((), H) ∧ hN H = hN h + 1 ∧ hS H = hS h + 5 ∧ NX h H ∧ hK H (16 + hN h) = (7, 0) ∧ hR H (16 + hN h) 0 = v := by
  have k7 : hK (nw h 7 0 5) (16 + hN h) = (7, 0) := by rw [hK_nw, if_pos rfl]
  refine ⟨sR (nw h 7 0 5) (16 + hN h) 0 v, ?_, by rw [hN_sR, hN_nw], by rw [hS_sR, hS_nw], (NX_nw _ _ _ _).sR (by omega) _ _, by rw [hK_sR]; exact k7, by rw [hR_sR, up2_e, if_pos ⟨rfl, rfl⟩]⟩
  unfold Rea_init
  rw [oi_k (by omega), pR_k k7]
theorem QF_to (q : QF h Q) (e : ∀ x, Q ≤ x → x < Q + 9 → hK H x = hK h x ∧ hR H x = hR h x) : QF H Q := by
  obtain ⟨q1, q2, q3, q4, q5, q6⟩ := q
  refine ⟨by rw [(e Q (by omega) (by omega)).1]; exact q1, by rw [(e Q (by omega) (by omega)).2]; exact q2, by rw [(e Q (by omega) (by omega)).2]; exact q3, by rw [(e (Q + 1) (by omega) (by omega)).1]; exact q4, by rw [(e (Q + 2) (by omega) (by omega)).1]; exact q5, fun k hk => ?_⟩
  obtain ⟨p1, p2, p3, p4⟩ := q6 k hk
  refine ⟨by rw [(e (Q + 2) (by omega) (by omega)).2]; exact p1, by rw [(e (Q + 3 + 2 * k) (by omega) (by omega)).1]; exact p2, by rw [(e (Q + 3 + 2 * k) (by omega) (by omega)).2]; exact p3, by rw [(e (Q + 3 + 2 * k + 1) (by omega) (by omega)).1]; exact p4⟩
/-- the queries -/
theorem Bat_L (X : AH) : ∀ (m i F : Nat) (H : AH), i + m = 8 → m < F → EX X H → hN X = 313 → hN H = 313 + 9 * i → hS H = hS X + 67 * i → hK H 16 = (12, 0) → hR H 16 3 = 19 → hK H 19 = (31, 8) → (∀ q, q < i → hR H 19 q = 329 + 9 * q ∧ QF H (329 + 9 * q)) → ∃ H', Bat_init_L126 F 16 (i : Int) H = some ((), H') ∧ hN H' = 385 ∧ hS H' = hS X + 536 ∧ EX X H' ∧ hR H' 16 = hR H 16 ∧ hK H' 19 = (31, 8) ∧ ∀ q, q < 8 → hR H' 19 q = 329 + 9 * q ∧ QF H' (329 + 9 * q) := by
  intro m
  induction m with
  | zero =>
    intro i F H hi hF ex hX hn hs k16 r3 k19 qs
    obtain ⟨F, rfl⟩ : ∃ j, F = j + 1 := ⟨F - 1, by omega⟩
    have : i = 8 := by omega
    subst this
    exact ⟨H, by rw [Bat_init_L126, gR_k k16, r3, aN_k k19, if_pos (by decide)], by omega, by omega, ex, rfl, k19, qs⟩
  | succ m ih =>
    intro i F H hi hF ex hX hn hs k16 r3 k19 qs
    obtain ⟨F, rfl⟩ : ∃ j, F = j + 1 := ⟨F - 1, by omega⟩
    obtain ⟨K, x1, x2, x3, x4, x5⟩ := Que_new H
    have a1 : 16 + hN H = 329 + 9 * i := by omega
    rw [a1] at x1 x5
    have k19' : hK K 19 = (31, 8) := by rw [(x4.2 19 (by omega)).1]; exact k19
    have k16' : hK K 16 = (12, 0) := by rw [(x4.2 16 (by omega)).1]; exact k16
    have qK : QF K (329 + 9 * i) := x5
    obtain ⟨H', y1, y2, y3, y4, y5, y6, y7⟩ := ih (i + 1) F (sR K 19 i (329 + 9 * i)) (by omega) (by omega) (ex.trans (EX_q x4 _ _)) hX (by rw [hN_sR]; omega) (by rw [hS_sR]; omega) (by rw [hK_sR]; exact k16') (by rw [hR_sR, up2_ne (by decide), (x4.2 16 (by omega)).2.2]; exact r3) (by rw [hK_sR]; exact k19') (fun q hq => by
      by_cases c : q = i
      · rw [c, hR_sR, up2_e, if_pos ⟨rfl, rfl⟩]
        exact ⟨rfl, QF_to qK (fun x h1 h2 => ⟨by rw [hK_sR], by rw [hR_sR, up2_ne (by omega)]⟩)⟩
      · obtain ⟨p1, p2⟩ := qs q (by omega)
        rw [hR_sR, up2_e, if_neg (by omega), (x4.2 19 (by omega)).2.2]
        exact ⟨p1, QF_to p2 (fun x h1 h2 => ⟨by rw [hK_sR, (x4.2 x (by omega)).1], by rw [hR_sR, up2_ne (by omega), (x4.2 x (by omega)).2.2]⟩)⟩)
    refine ⟨H', ?_, y2, y3, y4, ?_, y6, y7⟩
    · rw [Bat_init_L126, gR_k k16, r3, aN_k k19, if_neg (by omega), gR_k k16, r3, nO_k, a1, x1, bnd_some, wR_k k19' (by omega) (by omega) x5.1, tN (i : Int) i rfl, wr_id (by omega) (by omega), show (i : Int) + 1 = ((i + 1 : Nat) : Int) by omega, y1]
    · rw [y5, hR_sR, up2_ne (by decide), (x4.2 16 (by omega)).2.2]

/-- the class as it is made -/
theorem Bat_new (h : AH) (hz : hN h = 0) : ∃ H, Bat_init 16 (nw h 12 0 12) = some ((), H) ∧ hN H = 385 ∧ hS H = hS h + 3492 ∧ (∀ x, x < 16 → hK H x = hK h x ∧ hI H x = hI h x) ∧ FX H ∧ PS H ∧ CHS H ∧ CR2 H ∧ SH H 327 0 ∧ SB H 49 ∧ QA H ∧ (hK H 20 = (11, 0) ∧ hR H 20 0 = 21 ∧ hR H 20 1 = 47 ∧ hK H 47 = (33, 20)) ∧ SB H 21 ∧ (∀ i, hR H 47 i = 0) ∧ ∀ i, hR H 48 i = 0 := by
  have big := FU_big
  have k16_0 : hK (nw h 12 0 12) 16 = (12, 0) := by rw [hK_nw, if_pos (by omega)]
  have N0 : hN (nw h 12 0 12) = 1 := by rw [hN_nw, hz]
  have S0 : hS (nw h 12 0 12) = hS h + 12 := by rw [hS_nw]
  have B0 : ∀ x, x < 16 → hK (nw h 12 0 12) x = hK h x ∧ hI (nw h 12 0 12) x = hI h x := fun x hx => by rw [hK_nw, hI_nw, if_neg (by omega), if_neg (by omega)]; exact ⟨rfl, rfl⟩
  generalize nw h 12 0 12 = X0 at *
  -- stage 1: an array at 17
  have e1 := fun f : AH → Option (Unit × AH) => md_s k16_0 (by omega) 21 (i := 400) (by decide) (by decide) 0 f
  rw [show (400 : Int).toNat = 400 from rfl] at e1
  have N1 : hN (md X0 16 21 400 0) = 2 := by show hN X0 + 1 = _; omega
  have S1 : hS (md X0 16 21 400 0) = hS h + 412 := by show hS X0 + 400 = _; omega
  have E1 : EX X0 (md X0 16 21 400 0) := EX_md _ _ _ _
  have R1 := md_16 (X := X0) (t := 21) (n := 400) (k := 0) (by omega)
  have A1 : hK (md X0 16 21 400 0) 17 = (21, 400) ∧ ∀ j, hR (md X0 16 21 400 0) 17 j = 0 := ⟨by rw [md_K, if_pos (by omega)], fun j => by rw [md_R, if_neg (by omega), if_pos (by omega)]⟩
  generalize md X0 16 21 400 0 = X1 at *
  have k16_1 : hK X1 16 = (12, 0) := by rw [(E1.2 16 (by omega)).1]; exact k16_0
  have r0_1 : hR X1 16 0 = 17 := by rw [R1.1]; omega
  -- stage 2: Rea_new at 18
  obtain ⟨K2, i2, m2, s2, x2, f2_0, f2_1⟩ := Rea_new X1 17
  have a2 : 16 + hN X1 = 18 := by omega
  rw [a2] at i2 f2_0 f2_1
  have kk2 : hK K2 16 = (12, 0) := by rw [(x2.2 16 (by omega)).1]; exact k16_1
  have N2 : hN (sR K2 16 2 18) = 3 := by rw [hN_sR]; omega
  have S2 : hS (sR K2 16 2 18) = hS h + 417 := by rw [hS_sR]; omega
  have E2 : EX X1 (sR K2 16 2 18) := EX_b x2 _ _
  have R2 := b_16 x2 (by omega) 2 18
  have T2 : ∀ x, hK (sR K2 16 2 18) x = hK K2 x ∧ hI (sR K2 16 2 18) x = hI K2 x ∧ (x ≠ 16 → hR (sR K2 16 2 18) x = hR K2 x) := fun x => ⟨by rw [hK_sR], by rw [hI_sR], fun ne => by rw [hR_sR, up2_ne ne]⟩
  generalize hX2 : sR K2 16 2 18 = X2 at *
  have k16_2 : hK X2 16 = (12, 0) := by rw [(T2 16).1]; exact kk2
  have r0_2 : hR X2 16 0 = 17 := by rw [R2.2 0 (by decide)]; exact r0_1
  have r2_2 : hR X2 16 2 = 18 := R2.1
  -- stage 3: an array at 19
  have e3 := fun f : AH → Option (Unit × AH) => md_s k16_2 (by omega) 31 (i := 8) (by decide) (by decide) 3 f
  rw [show (8 : Int).toNat = 8 from rfl] at e3
  have N3 : hN (md X2 16 31 8 3) = 4 := by show hN X2 + 1 = _; omega
  have S3 : hS (md X2 16 31 8 3) = hS h + 425 := by show hS X2 + 8 = _; omega
  have E3 : EX X2 (md X2 16 31 8 3) := EX_md _ _ _ _
  have R3 := md_16 (X := X2) (t := 31) (n := 8) (k := 3) (by omega)
  have A3 : hK (md X2 16 31 8 3) 19 = (31, 8) ∧ ∀ j, hR (md X2 16 31 8 3) 19 j = 0 := ⟨by rw [md_K, if_pos (by omega)], fun j => by rw [md_R, if_neg (by omega), if_pos (by omega)]⟩
  generalize md X2 16 31 8 3 = X3 at *
  have k16_3 : hK X3 16 = (12, 0) := by rw [(E3.2 16 (by omega)).1]; exact k16_2
  have r0_3 : hR X3 16 0 = 17 := by rw [R3.2 0 (by decide)]; exact r0_2
  have r2_3 : hR X3 16 2 = 18 := by rw [R3.2 2 (by decide)]; exact r2_2
  have r3_3 : hR X3 16 3 = 19 := by rw [R3.1]; omega
  -- stage 4: Wor_new at 20
  obtain ⟨K4, i4, m4, s4, x4, f4_0, f4_1, f4_2⟩ := Wor_new X3
  have a4 : 16 + hN X3 = 20 := by omega
  rw [a4] at i4 f4_0 f4_1 f4_2
  have kk4 : hK K4 16 = (12, 0) := by rw [(x4.2 16 (by omega)).1]; exact k16_3
  have N4 : hN (sR K4 16 5 20) = 32 := by rw [hN_sR]; omega
  have S4 : hS (sR K4 16 5 20) = hS h + 635 := by rw [hS_sR]; omega
  have E4 : EX X3 (sR K4 16 5 20) := EX_b x4 _ _
  have R4 := b_16 x4 (by omega) 5 20
  have T4 : ∀ x, hK (sR K4 16 5 20) x = hK K4 x ∧ hI (sR K4 16 5 20) x = hI K4 x ∧ (x ≠ 16 → hR (sR K4 16 5 20) x = hR K4 x) := fun x => ⟨by rw [hK_sR], by rw [hI_sR], fun ne => by rw [hR_sR, up2_ne ne]⟩
  generalize hX4 : sR K4 16 5 20 = X4 at *
  have k16_4 : hK X4 16 = (12, 0) := by rw [(T4 16).1]; exact kk4
  have r0_4 : hR X4 16 0 = 17 := by rw [R4.2 0 (by decide)]; exact r0_3
  have r2_4 : hR X4 16 2 = 18 := by rw [R4.2 2 (by decide)]; exact r2_3
  have r3_4 : hR X4 16 3 = 19 := by rw [R4.2 3 (by decide)]; exact r3_3
  have r5_4 : hR X4 16 5 = 20 := R4.1
  -- stage 5: an array at 48
  have e5 := fun f : AH → Option (Unit × AH) => md_s k16_4 (by omega) 32 (i := 4) (by decide) (by decide) 6 f
  rw [show (4 : Int).toNat = 4 from rfl] at e5
  have N5 : hN (md X4 16 32 4 6) = 33 := by show hN X4 + 1 = _; omega
  have S5 : hS (md X4 16 32 4 6) = hS h + 639 := by show hS X4 + 4 = _; omega
  have E5 : EX X4 (md X4 16 32 4 6) := EX_md _ _ _ _
  have R5 := md_16 (X := X4) (t := 32) (n := 4) (k := 6) (by omega)
  have A5 : hK (md X4 16 32 4 6) 48 = (32, 4) ∧ ∀ j, hR (md X4 16 32 4 6) 48 j = 0 := ⟨by rw [md_K, if_pos (by omega)], fun j => by rw [md_R, if_neg (by omega), if_pos (by omega)]⟩
  generalize md X4 16 32 4 6 = X5 at *
  have k16_5 : hK X5 16 = (12, 0) := by rw [(E5.2 16 (by omega)).1]; exact k16_4
  have r0_5 : hR X5 16 0 = 17 := by rw [R5.2 0 (by decide)]; exact r0_4
  have r2_5 : hR X5 16 2 = 18 := by rw [R5.2 2 (by decide)]; exact r2_4
  have r3_5 : hR X5 16 3 = 19 := by rw [R5.2 3 (by decide)]; exact r3_4
  have r5_5 : hR X5 16 5 = 20 := by rw [R5.2 5 (by decide)]; exact r5_4
  have r6_5 : hR X5 16 6 = 48 := by rw [R5.1]; omega
  -- stage 6: Sta_new at 49
  obtain ⟨K6, i6, m6, s6, x6, f6_0⟩ := Sta_new X5
  have a6 : 16 + hN X5 = 49 := by omega
  rw [a6] at i6 f6_0
  have kk6 : hK K6 16 = (12, 0) := by rw [(x6.2 16 (by omega)).1]; exact k16_5
  have N6 : hN (sR K6 16 7 49) = 59 := by rw [hN_sR]; omega
  have S6 : hS (sR K6 16 7 49) = hS h + 824 := by rw [hS_sR]; omega
  have E6 : EX X5 (sR K6 16 7 49) := EX_b x6 _ _
  have R6 := b_16 x6 (by omega) 7 49
  have T6 : ∀ x, hK (sR K6 16 7 49) x = hK K6 x ∧ hI (sR K6 16 7 49) x = hI K6 x ∧ (x ≠ 16 → hR (sR K6 16 7 49) x = hR K6 x) := fun x => ⟨by rw [hK_sR], by rw [hI_sR], fun ne => by rw [hR_sR, up2_ne ne]⟩
  generalize hX6 : sR K6 16 7 49 = X6 at *
  have k16_6 : hK X6 16 = (12, 0) := by rw [(T6 16).1]; exact kk6
  have r0_6 : hR X6 16 0 = 17 := by rw [R6.2 0 (by decide)]; exact r0_5
  have r2_6 : hR X6 16 2 = 18 := by rw [R6.2 2 (by decide)]; exact r2_5
  have r3_6 : hR X6 16 3 = 19 := by rw [R6.2 3 (by decide)]; exact r3_5
  have r5_6 : hR X6 16 5 = 20 := by rw [R6.2 5 (by decide)]; exact r5_5
  have r6_6 : hR X6 16 6 = 48 := by rw [R6.2 6 (by decide)]; exact r6_5
  have r7_6 : hR X6 16 7 = 49 := R6.1
  -- stage 7: Pri_new at 75
  obtain ⟨K7, i7, m7, s7, x7, f7_0, f7_1, f7_2, f7_3, f7_4, f7_5, f7_6, f7_7⟩ := Pri_new X6 19
  have a7 : 16 + hN X6 = 75 := by omega
  rw [a7] at i7 f7_0 f7_1 f7_2 f7_3 f7_4 f7_5 f7_6 f7_7
  have kk7 : hK K7 16 = (12, 0) := by rw [(x7.2 16 (by omega)).1]; exact k16_6
  have N7 : hN (sR K7 16 8 75) = 63 := by rw [hN_sR]; omega
  have S7 : hS (sR K7 16 8 75) = hS h + 843 := by rw [hS_sR]; omega
  have E7 : EX X6 (sR K7 16 8 75) := EX_b x7 _ _
  have R7 := b_16 x7 (by omega) 8 75
  have T7 : ∀ x, hK (sR K7 16 8 75) x = hK K7 x ∧ hI (sR K7 16 8 75) x = hI K7 x ∧ (x ≠ 16 → hR (sR K7 16 8 75) x = hR K7 x) := fun x => ⟨by rw [hK_sR], by rw [hI_sR], fun ne => by rw [hR_sR, up2_ne ne]⟩
  generalize hX7 : sR K7 16 8 75 = X7 at *
  have k16_7 : hK X7 16 = (12, 0) := by rw [(T7 16).1]; exact kk7
  have r0_7 : hR X7 16 0 = 17 := by rw [R7.2 0 (by decide)]; exact r0_6
  have r2_7 : hR X7 16 2 = 18 := by rw [R7.2 2 (by decide)]; exact r2_6
  have r3_7 : hR X7 16 3 = 19 := by rw [R7.2 3 (by decide)]; exact r3_6
  have r5_7 : hR X7 16 5 = 20 := by rw [R7.2 5 (by decide)]; exact r5_6
  have r6_7 : hR X7 16 6 = 48 := by rw [R7.2 6 (by decide)]; exact r6_6
  have r7_7 : hR X7 16 7 = 49 := by rw [R7.2 7 (by decide)]; exact r7_6
  have r8_7 : hR X7 16 8 = 75 := R7.1
  -- stage 8: Cho_new at 79
  obtain ⟨K8, i8, m8, s8, x8, f8_0, f8_1, f8_2, f8_3, f8_4, f8_5, f8_6, f8_7, f8_8, f8_9⟩ := Cho_new X7
  have a8 : 16 + hN X7 = 79 := by omega
  rw [a8] at i8 f8_0 f8_1 f8_2 f8_3 f8_4 f8_5 f8_6 f8_7 f8_8 f8_9
  have kk8 : hK K8 16 = (12, 0) := by rw [(x8.2 16 (by omega)).1]; exact k16_7
  have N8 : hN (sR K8 16 9 79) = 285 := by rw [hN_sR]; omega
  have S8 : hS (sR K8 16 9 79) = hS h + 2698 := by rw [hS_sR]; omega
  have E8 : EX X7 (sR K8 16 9 79) := EX_b x8 _ _
  have R8 := b_16 x8 (by omega) 9 79
  have T8 : ∀ x, hK (sR K8 16 9 79) x = hK K8 x ∧ hI (sR K8 16 9 79) x = hI K8 x ∧ (x ≠ 16 → hR (sR K8 16 9 79) x = hR K8 x) := fun x => ⟨by rw [hK_sR], by rw [hI_sR], fun ne => by rw [hR_sR, up2_ne ne]⟩
  generalize hX8 : sR K8 16 9 79 = X8 at *
  have k16_8 : hK X8 16 = (12, 0) := by rw [(T8 16).1]; exact kk8
  have r0_8 : hR X8 16 0 = 17 := by rw [R8.2 0 (by decide)]; exact r0_7
  have r2_8 : hR X8 16 2 = 18 := by rw [R8.2 2 (by decide)]; exact r2_7
  have r3_8 : hR X8 16 3 = 19 := by rw [R8.2 3 (by decide)]; exact r3_7
  have r5_8 : hR X8 16 5 = 20 := by rw [R8.2 5 (by decide)]; exact r5_7
  have r6_8 : hR X8 16 6 = 48 := by rw [R8.2 6 (by decide)]; exact r6_7
  have r7_8 : hR X8 16 7 = 49 := by rw [R8.2 7 (by decide)]; exact r7_7
  have r8_8 : hR X8 16 8 = 75 := by rw [R8.2 8 (by decide)]; exact r8_7
  have r9_8 : hR X8 16 9 = 79 := R8.1
  -- stage 9: Chr_new at 301
  obtain ⟨K9, i9, m9, s9, x9, f9_0, f9_1, f9_2, f9_3, f9_4, f9_5, f9_6, f9_7, f9_8⟩ := Chr_new X8 75 79
  have a9 : 16 + hN X8 = 301 := by omega
  rw [a9] at i9 f9_0 f9_1 f9_2 f9_3 f9_4 f9_5 f9_6 f9_7 f9_8
  have kk9 : hK K9 16 = (12, 0) := by rw [(x9.2 16 (by omega)).1]; exact k16_8
  have N9 : hN (sR K9 16 10 301) = 311 := by rw [hN_sR]; omega
  have S9 : hS (sR K9 16 10 301) = hS h + 2954 := by rw [hS_sR]; omega
  have E9 : EX X8 (sR K9 16 10 301) := EX_b x9 _ _
  have R9 := b_16 x9 (by omega) 10 301
  have T9 : ∀ x, hK (sR K9 16 10 301) x = hK K9 x ∧ hI (sR K9 16 10 301) x = hI K9 x ∧ (x ≠ 16 → hR (sR K9 16 10 301) x = hR K9 x) := fun x => ⟨by rw [hK_sR], by rw [hI_sR], fun ne => by rw [hR_sR, up2_ne ne]⟩
  generalize hX9 : sR K9 16 10 301 = X9 at *
  have k16_9 : hK X9 16 = (12, 0) := by rw [(T9 16).1]; exact kk9
  have r0_9 : hR X9 16 0 = 17 := by rw [R9.2 0 (by decide)]; exact r0_8
  have r2_9 : hR X9 16 2 = 18 := by rw [R9.2 2 (by decide)]; exact r2_8
  have r3_9 : hR X9 16 3 = 19 := by rw [R9.2 3 (by decide)]; exact r3_8
  have r5_9 : hR X9 16 5 = 20 := by rw [R9.2 5 (by decide)]; exact r5_8
  have r6_9 : hR X9 16 6 = 48 := by rw [R9.2 6 (by decide)]; exact r6_8
  have r7_9 : hR X9 16 7 = 49 := by rw [R9.2 7 (by decide)]; exact r7_8
  have r8_9 : hR X9 16 8 = 75 := by rw [R9.2 8 (by decide)]; exact r8_8
  have r9_9 : hR X9 16 9 = 79 := by rw [R9.2 9 (by decide)]; exact r9_8
  have r10_9 : hR X9 16 10 = 301 := R9.1
  have sn := She_new X9 (R := 0) (by decide)
  obtain ⟨K10, i10, m10, s10, x10, f10_0⟩ := sn
  have a10 : 16 + hN X9 = 327 := by omega
  rw [a10] at i10 f10_0
  have i10' : She_init 327 0 (nw X9 8 0 2) = some ((), K10) := i10
  have kk10 : hK K10 16 = (12, 0) := by rw [(x10.2 16 (by omega)).1]; exact k16_9
  have N10 : hN (sR K10 16 11 327) = 313 := by rw [hN_sR]; omega
  have S10 : hS (sR K10 16 11 327) = hS h + 2956 := by rw [hS_sR]; omega
  have E10 : EX X9 (sR K10 16 11 327) := EX_b x10 _ _
  have R10 := b_16 x10 (by omega) 11 327
  have T10 : ∀ x, hK (sR K10 16 11 327) x = hK K10 x ∧ hI (sR K10 16 11 327) x = hI K10 x ∧ (x ≠ 16 → hR (sR K10 16 11 327) x = hR K10 x) := fun x => ⟨by rw [hK_sR], by rw [hI_sR], fun ne => by rw [hR_sR, up2_ne ne]⟩
  generalize hX10 : sR K10 16 11 327 = X10 at *
  have k16_10 : hK X10 16 = (12, 0) := by rw [(T10 16).1]; exact kk10
  have r0_10 : hR X10 16 0 = 17 := by rw [R10.2 0 (by decide)]; exact r0_9
  have r2_10 : hR X10 16 2 = 18 := by rw [R10.2 2 (by decide)]; exact r2_9
  have r3_10 : hR X10 16 3 = 19 := by rw [R10.2 3 (by decide)]; exact r3_9
  have r5_10 : hR X10 16 5 = 20 := by rw [R10.2 5 (by decide)]; exact r5_9
  have r6_10 : hR X10 16 6 = 48 := by rw [R10.2 6 (by decide)]; exact r6_9
  have r7_10 : hR X10 16 7 = 49 := by rw [R10.2 7 (by decide)]; exact r7_9
  have r8_10 : hR X10 16 8 = 75 := by rw [R10.2 8 (by decide)]; exact r8_9
  have r9_10 : hR X10 16 9 = 79 := by rw [R10.2 9 (by decide)]; exact r9_9
  have r10_10 : hR X10 16 10 = 301 := by rw [R10.2 10 (by decide)]; exact r10_9
  have r11_10 : hR X10 16 11 = 327 := R10.1
  have F10 : EX X10 X10 := EX.refl _
  have F9 : EX X9 X10 := E10.trans F10
  have F8 : EX X8 X10 := E9.trans F9
  have F7 : EX X7 X10 := E8.trans F8
  have F6 : EX X6 X10 := E7.trans F7
  have F5 : EX X5 X10 := E6.trans F6
  have F4 : EX X4 X10 := E5.trans F5
  have F3 : EX X3 X10 := E4.trans F4
  have F2 : EX X2 X10 := E3.trans F3
  have F1 : EX X1 X10 := E2.trans F2
  have k19 : hK X10 19 = (31, 8) := by rw [(F3.2 19 (by omega)).1]; exact A3.1
  obtain ⟨H, q1, q2, q3, q4, q5, q6, q7⟩ := Bat_L X10 8 0 FU X10 (by omega) (by omega) (EX.refl _) N10 (by omega) (by omega) k16_10 r3_10 k19 (fun q hq => absurd hq (Nat.not_lt_zero _))
  have q1' : Bat_init_L126 FU 16 0 X10 = some ((), H) := q1
  have G1 : EX X1 H := F1.trans q4
  have G2 : EX X2 H := F2.trans q4
  have G3 : EX X3 H := F3.trans q4
  have G4 : EX X4 H := F4.trans q4
  have G5 : EX X5 H := F5.trans q4
  have G6 : EX X6 H := F6.trans q4
  have G7 : EX X7 H := F7.trans q4
  have G8 : EX X8 H := F8.trans q4
  have G9 : EX X9 H := F9.trans q4
  have G10 : EX X10 H := F10.trans q4
  have E0 : EX X0 H := E1.trans G1
  have k16H : hK H 16 = (12, 0) := by rw [(G1.2 16 (by omega)).1]; exact k16_1
  have rH0 : hR H 16 0 = 17 := by rw [q5]; exact r0_10
  have rH2 : hR H 16 2 = 18 := by rw [q5]; exact r2_10
  have rH3 : hR H 16 3 = 19 := by rw [q5]; exact r3_10
  have rH5 : hR H 16 5 = 20 := by rw [q5]; exact r5_10
  have rH6 : hR H 16 6 = 48 := by rw [q5]; exact r6_10
  have rH7 : hR H 16 7 = 49 := by rw [q5]; exact r7_10
  have rH8 : hR H 16 8 = 75 := by rw [q5]; exact r8_10
  have rH9 : hR H 16 9 = 79 := by rw [q5]; exact r9_10
  have rH10 : hR H 16 10 = 301 := by rw [q5]; exact r10_10
  have rH11 : hR H 16 11 = 327 := by rw [q5]; exact r11_10
  have t4 : ∀ x, 20 ≤ x → x < 48 → hK H x = hK K4 x ∧ hI H x = hI K4 x ∧ hR H x = hR K4 x := fun x h1 h2 => by
    obtain ⟨g1, g2, g3⟩ := G4.2 x (by omega)
    obtain ⟨t1, t2, t3⟩ := T4 x
    exact ⟨by rw [g1, t1], by rw [g2, t2], by rw [g3 (by omega) (by omega), t3 (by omega)]⟩
  have t6 : ∀ x, 49 ≤ x → x < 75 → hK H x = hK K6 x ∧ hI H x = hI K6 x ∧ hR H x = hR K6 x := fun x h1 h2 => by
    obtain ⟨g1, g2, g3⟩ := G6.2 x (by omega)
    obtain ⟨t1, t2, t3⟩ := T6 x
    exact ⟨by rw [g1, t1], by rw [g2, t2], by rw [g3 (by omega) (by omega), t3 (by omega)]⟩
  have t7 : ∀ x, 75 ≤ x → x < 79 → hK H x = hK K7 x ∧ hI H x = hI K7 x ∧ hR H x = hR K7 x := fun x h1 h2 => by
    obtain ⟨g1, g2, g3⟩ := G7.2 x (by omega)
    obtain ⟨t1, t2, t3⟩ := T7 x
    exact ⟨by rw [g1, t1], by rw [g2, t2], by rw [g3 (by omega) (by omega), t3 (by omega)]⟩
  have t8 : ∀ x, 79 ≤ x → x < 301 → hK H x = hK K8 x ∧ hI H x = hI K8 x ∧ hR H x = hR K8 x := fun x h1 h2 => by
    obtain ⟨g1, g2, g3⟩ := G8.2 x (by omega)
    obtain ⟨t1, t2, t3⟩ := T8 x
    exact ⟨by rw [g1, t1], by rw [g2, t2], by rw [g3 (by omega) (by omega), t3 (by omega)]⟩
  have t9 : ∀ x, 301 ≤ x → x < 327 → hK H x = hK K9 x ∧ hI H x = hI K9 x ∧ hR H x = hR K9 x := fun x h1 h2 => by
    obtain ⟨g1, g2, g3⟩ := G9.2 x (by omega)
    obtain ⟨t1, t2, t3⟩ := T9 x
    exact ⟨by rw [g1, t1], by rw [g2, t2], by rw [g3 (by omega) (by omega), t3 (by omega)]⟩
  have t10 : ∀ x, 327 ≤ x → x < 329 → hK H x = hK K10 x ∧ hI H x = hI K10 x ∧ hR H x = hR K10 x := fun x h1 h2 => by
    obtain ⟨g1, g2, g3⟩ := G10.2 x (by omega)
    obtain ⟨t1, t2, t3⟩ := T10 x
    exact ⟨by rw [g1, t1], by rw [g2, t2], by rw [g3 (by omega) (by omega), t3 (by omega)]⟩
  have k18 : hK H 18 = (7, 0) := by rw [(G2.2 18 (by omega)).1, (T2 18).1]; exact f2_0
  have r18' : hR H 18 0 = 17 := by rw [(G2.2 18 (by omega)).2.2 (by decide) (by decide), (T2 18).2.2 (by decide)]; exact f2_1
  have k17 : hK H 17 = (21, 400) := by rw [(G1.2 17 (by omega)).1]; exact A1.1
  have k48 : hK H 48 = (32, 4) := by rw [(G5.2 48 (by omega)).1]; exact A5.1
  have kH19 : hK H 19 = (31, 8) := q6
  obtain ⟨w1, w2, w3, w4⟩ := f4_0
  have pa8 : ∀ p, 79 ≤ p → p + 1 < 301 → PA K8 p → PA H p := fun p h1 h2 q => ⟨by rw [(t8 p (by omega) (by omega)).1]; exact q.1, by rw [(t8 p (by omega) (by omega)).2.2]; exact q.2.1, by rw [(t8 (p + 1) (by omega) (by omega)).1]; exact q.2.2⟩
  have run : Bat_init 16 X0 = some ((), H) := by
    have g0 : hR (nw X1 7 0 5) 16 0 = 17 := by rw [hR_nw, if_neg (by omega)]; exact r0_1
    have kn1 : hK (nw X1 7 0 5) 16 = (12, 0) := by rw [hK_nw, if_neg (by omega)]; exact k16_1
    have g3 : hR (nw X6 5 0 6) 16 3 = 19 := by rw [hR_nw, if_neg (by omega)]; exact r3_6
    have kn6 : hK (nw X6 5 0 6) 16 = (12, 0) := by rw [hK_nw, if_neg (by omega)]; exact k16_6
    have g8 : hR (nw X8 2 0 7) 16 8 = 75 := by rw [hR_nw, if_neg (by omega)]; exact r8_8
    have g9 : hR (nw X8 2 0 7) 16 9 = 79 := by rw [hR_nw, if_neg (by omega)]; exact r9_8
    have kn8 : hK (nw X8 2 0 7) 16 = (12, 0) := by rw [hK_nw, if_neg (by omega)]; exact k16_8
    unfold Bat_init
    rw [oi_k (by omega), e1, nO_k, a2, gR_k kn1, g0, i2, bnd_some, pR_k kk2, hX2, e3, nO_k, a4, i4, bnd_some, pR_k kk4, hX4, e5, nO_k, a6, i6, bnd_some, pR_k kk6, hX6, nO_k, a7, gR_k kn6, g3, i7, bnd_some, pR_k kk7, hX7, nO_k, a8, i8, bnd_some, pR_k kk8, hX8, nO_k, a9, gR_k kn8, g8, gR_k kn8, g9, i9, bnd_some, pR_k kk9, hX9, nO_k, a10, i10', bnd_some, pR_k kk10, hX10]
    exact q1'
  refine ⟨H, run, q2, by omega, fun x hx => ?_, ⟨k16H, rH0, rH2, rH3, rH5, rH6, rH7, rH8, rH9, rH10, rH11, k17, k18, r18', k48⟩, ?_, ?_, ?_, ?_, ?_, ?_, ?_, ?_, fun i => ?_, fun i => ?_⟩
  · obtain ⟨g1, g2, -⟩ := E0.2 x (by omega)
    obtain ⟨b1, b2⟩ := B0 x hx
    exact ⟨by rw [g1, b1], by rw [g2, b2]⟩
  · unfold PS
    rw [(t7 75 (by omega) (by omega)).1, (t7 75 (by omega) (by omega)).2.2, (t7 76 (by omega) (by omega)).1, (t7 77 (by omega) (by omega)).1, (t7 78 (by omega) (by omega)).1]
    exact ⟨f7_0, f7_1, f7_2, f7_3, f7_4, f7_5, f7_6, f7_7⟩
  · unfold CHS
    rw [(t8 79 (by omega) (by omega)).1, (t8 79 (by omega) (by omega)).2.2, (t8 80 (by omega) (by omega)).1, (t8 80 (by omega) (by omega)).2.2, (t8 81 (by omega) (by omega)).1, (t8 82 (by omega) (by omega)).1]
    exact ⟨f8_0, f8_1, f8_2, f8_3, f8_4, f8_5, f8_6, f8_7, pa8 83 (by omega) (by omega) f8_8, fun i hi => ⟨(f8_9 i hi).1, pa8 (85 + 2 * i) (by omega) (by omega) (f8_9 i hi).2⟩⟩
  · unfold CR2
    rw [(t9 301 (by omega) (by omega)).1, (t9 301 (by omega) (by omega)).2.2, (t9 325 (by omega) (by omega)).1, (t9 326 (by omega) (by omega)).1]
    exact ⟨f9_0, f9_1, f9_2, f9_3, f9_4, f9_5, SH_to f9_6 (fun x h1 h2 => (t9 x (by omega) (by omega)).1) (fun x h1 h2 => (t9 x (by omega) (by omega)).2.2), f9_7, f9_8⟩
  · exact SH_to f10_0 (fun x h1 h2 => (t10 x (by omega) (by omega)).1) (fun x h1 h2 => (t10 x (by omega) (by omega)).2.2)
  · exact SB_to f6_0 (fun x h1 h2 => (t6 x (by omega) (by omega)).1) (fun x h1 h2 => (t6 x (by omega) (by omega)).2.2) (fun j _ => by rw [(t6 _ (by omega) (by omega)).2.1]) (fun j _ => by rw [(t6 _ (by omega) (by omega)).2.1])
  · refine ⟨kH19, fun q hq => ?_⟩
    obtain ⟨p1, p2, p3, p4, p5, p6, p7⟩ := q7 q hq
    refine ⟨p1, p2, by rw [p3]; omega, by rw [p4]; omega, by rw [show 330 + 9 * q = 329 + 9 * q + 1 by omega]; exact p5, by rw [show 331 + 9 * q = 329 + 9 * q + 2 by omega]; exact p6, fun k hk => ?_⟩
    rw [show 331 + 9 * q = 329 + 9 * q + 2 by omega, show 332 + 9 * q + 2 * k = 329 + 9 * q + 3 + 2 * k by omega]
    exact p7 k hk
  · exact ⟨by rw [(t4 20 (by omega) (by omega)).1]; exact w1, by rw [(t4 20 (by omega) (by omega)).2.2]; exact w2, by rw [(t4 20 (by omega) (by omega)).2.2]; exact w3, by rw [(t4 47 (by omega) (by omega)).1]; exact w4⟩
  · exact SB_to f4_1 (fun x h1 h2 => (t4 x (by omega) (by omega)).1) (fun x h1 h2 => (t4 x (by omega) (by omega)).2.2) (fun j _ => by rw [(t4 _ (by omega) (by omega)).2.1]) (fun j _ => by rw [(t4 _ (by omega) (by omega)).2.1])
  · rw [(t4 47 (by omega) (by omega)).2.2]; exact f4_2 i
  · rw [(G5.2 48 (by omega)).2.2 (by decide) (by decide)]; exact A5.2 i
end P3
