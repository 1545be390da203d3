/-! ===== BatchShare$Pricer.<init>([LBatchShare$Query;)V ===== -/
abbrev M_Pri_init : AMt := (yX4_init, cX4_init, 2, none)
def T_Pri_init : List (Nat × Instr × Nat) := [(0, .aload_n 0, 1), (1, .invokespecial 3, 3), (4, .aload_n 0, 1), (5, .iconst 2, 1), (6, .newarray .int, 2), (8, .putfield 9, 3), (11, .aload_n 0, 1), (12, .bipush 8, 2), (14, .newarray .int, 2), (16, .putfield 15, 3), (19, .aload_n 0, 1), (20, .iconst 3, 1), (21, .newarray .int, 2), (23, .putfield 18, 3), (26, .aload_n 0, 1), (27, .aload_n 1, 1), (28, .putfield 21, 3), (31, .return_, 1)]
set_option maxRecDepth 20000 in
theorem D_Pri_init : (T_Pri_init.all fun q => decide (decode M_Pri_init.2.1 q.1 = .ok q.2)) = true := by decide +kernel
def Pri_init (v0 : Nat) (v1 : Nat) (h : AH) : Option (Unit × AH) := oi v0 <| nA h 21 2 fun r1 h2 => pR h2 5 v0 1 r1 fun h3 => nA h3 21 8 fun r4 h5 => pR h5 5 v0 2 r4 fun h6 => nA h6 21 3 fun r7 h8 => pR h8 5 v0 3 r7 fun h9 => pR h9 5 v0 0 v1 fun h10 => some ((), h10)
set_option maxHeartbeats 4000000 in
set_option maxRecDepth 20000 in
theorem s_Pri_init (v0 : Nat) (v1 : Nat) (h : AH) : CS M_Pri_init 1 20 emV [vr v0, vr v1] h (Pri_init v0 v1 h) := by
  refine CS.of (by decide) (Nat.le_of_ble_eq_true rfl) ?_
  show Sd M_Pri_init 1 20 emV 0 [(0, vr v0), (1, vr v1)] [] h _
  unfold Pri_init
  refine Sd_aload_n (pc' := 1) (dc D_Pri_init 0 rfl) rfl 0 rfl rfl ?_
  refine Sd_oi (pc' := 4) (dc D_Pri_init 1 rfl) rfl L_Pri_3 W_obj2 W_obj3 (by decide) (Nat.le_of_ble_eq_true rfl) ?_
  refine Sd_aload_n (pc' := 5) (dc D_Pri_init 2 rfl) rfl 0 rfl rfl ?_
  refine Sd_iconst (pc' := 6) (dc D_Pri_init 3 rfl) rfl ⟨by decide, by decide⟩ ?_
  refine Sd_newarray (t := 21) (j := 0) (ty := .int) (pc' := 8) (dc D_Pri_init 4 rfl) rfl rfl (by decide) rfl W_aI (by decide) rfl (fun _ _ h => h) ?_
  refine Sd_putR (pc' := 11) (dc D_Pri_init 5 rfl) rfl F_Pri_9 rfl rfl rfl (finOk.yes rfl rfl) (by decide) ?_
  refine Sd_aload_n (pc' := 12) (dc D_Pri_init 6 rfl) rfl 0 rfl rfl ?_
  refine Sd_bipush (pc' := 14) (dc D_Pri_init 7 rfl) rfl ⟨by decide, by decide⟩ (by decide) ?_
  refine Sd_newarray (t := 21) (j := 0) (ty := .int) (pc' := 16) (dc D_Pri_init 8 rfl) rfl rfl (by decide) rfl W_aI (by decide) rfl (fun _ _ h => h) ?_
  refine Sd_putR (pc' := 19) (dc D_Pri_init 9 rfl) rfl F_Pri_15 rfl rfl rfl (finOk.yes rfl rfl) (by decide) ?_
  refine Sd_aload_n (pc' := 20) (dc D_Pri_init 10 rfl) rfl 0 rfl rfl ?_
  refine Sd_iconst (pc' := 21) (dc D_Pri_init 11 rfl) rfl ⟨by decide, by decide⟩ ?_
  refine Sd_newarray (t := 21) (j := 0) (ty := .int) (pc' := 23) (dc D_Pri_init 12 rfl) rfl rfl (by decide) rfl W_aI (by decide) rfl (fun _ _ h => h) ?_
  refine Sd_putR (pc' := 26) (dc D_Pri_init 13 rfl) rfl F_Pri_18 rfl rfl rfl (finOk.yes rfl rfl) (by decide) ?_
  refine Sd_aload_n (pc' := 27) (dc D_Pri_init 14 rfl) rfl 0 rfl rfl ?_
  refine Sd_aload_n (pc' := 28) (dc D_Pri_init 15 rfl) rfl 1 rfl rfl ?_
  refine Sd_putR (pc' := 31) (dc D_Pri_init 16 rfl) rfl F_Pri_21 rfl rfl rfl (finOk.yes rfl rfl) (by decide) ?_
  exact Sd_vret (dc D_Pri_init 17 rfl) rfl
theorem K_Pri_init : MOk M_Pri_init 1 := ⟨Tb_at 129 (by decide +kernel) rfl, Tb_at 342 (by decide +kernel) rfl, by decide +kernel, by decide +kernel, by decide +kernel⟩
theorem Ks_Pri_init : Cond.instanceMethod yX4_init ∈ Tb := Tb_at 341 (by decide +kernel) rfl
/-! ===== BatchShare$Choices.<init>()V ===== -/
abbrev M_Cho_init : AMt := (yX0_init, cX0_init, 2, none)
def T_Cho_init : List (Nat × Instr × Nat) := [(0, .aload_n 0, 1), (1, .invokespecial 3, 3), (4, .aload_n 0, 1), (5, .bipush 108, 2), (7, .anewarray 9, 3), (10, .putfield 11, 3), (13, .aload_n 0, 1), (14, .bipush 108, 2), (16, .newarray .int, 2), (18, .putfield 17, 3), (21, .aload_n 0, 1), (22, .bipush 108, 2), (24, .newarray .int, 2), (26, .putfield 21, 3), (29, .aload_n 0, 1), (30, .new 9, 3), (33, .dup, 1), (34, .invokespecial 24, 3), (37, .putfield 25, 3), (40, .iconst 0, 1), (41, .istore_n 1, 1), (42, .iload_n 1, 1), (43, .bipush 108, 2), (45, .if_icmp .ge 22, 3), (48, .aload_n 0, 1), (49, .getfield 11, 3), (52, .iload_n 1, 1), (53, .new 9, 3), (56, .dup, 1), (57, .invokespecial 24, 3), (60, .aastore, 1), (61, .iinc 1 1, 3), (64, .goto (-22), 3), (67, .return_, 1)]
set_option maxRecDepth 20000 in
theorem D_Cho_init : (T_Cho_init.all fun q => decide (decode M_Cho_init.2.1 q.1 = .ok q.2)) = true := by decide +kernel
def Cho_init_L42 : Nat → Nat → Int → AH → Option (Unit × AH)
  | 0, _, _, _ => none
  | n + 1, v0, v1, h => if (108 : Int) ≤ v1 then (some ((), h)) else (gR h 1 v0 0 fun r1 => nO h 4 1 fun r2 h3 => bnd (Par_init r2 h3) fun _ h4 => wR h4 36 r1 v1 4 r2 fun h7 => Cho_init_L42 n v0 ((wr (v1 + 1))) h7)
set_option maxHeartbeats 4000000 in
set_option maxRecDepth 20000 in
theorem s_Cho_init_L42 : ∀ (n : Nat) (v0 : Nat) (v1 : Int) (h : AH), Sd M_Cho_init 2 40 emV 42 [(0, vr v0), (1, vi v1)] [] h (Cho_init_L42 n v0 v1 h)
  | 0, _, _, _ => Sd.none
  | n + 1, v0, v1, h => by
    rw [Cho_init_L42]
    refine Sd_iload_n (pc' := 43) (dc D_Cho_init 21 rfl) rfl 1 rfl rfl ?_
    refine Sd_bipush (pc' := 45) (dc D_Cho_init 22 rfl) rfl ⟨by decide, by decide⟩ (by decide) ?_
    refine Sd_icmp_ge (tgt := 67) (pc' := 48) (dc D_Cho_init 23 rfl) (by decide) rfl (fun _ => ?_) (fun _ => ?_)
    · exact Sd_vret (dc D_Cho_init 33 rfl) rfl
    · refine Sd_aload_n (pc' := 49) (dc D_Cho_init 24 rfl) rfl 0 rfl rfl ?_
      refine Sd_getR (pc' := 52) (dc D_Cho_init 25 rfl) rfl F_Cho_11 rfl rfl ?_
      refine Sd_iload_n (pc' := 53) (dc D_Cho_init 26 rfl) rfl 1 rfl rfl ?_
      refine Sd_new (ci := 3) (t := 4) (sl := 1) RX3 (pc' := 56) (dc D_Cho_init 27 rfl) rfl rfl rfl C_Cho_9 Ni_Par Nz_Par ?_
      refine Sd_dup (pc' := 57) (dc D_Cho_init 28 rfl) rfl (cat_r _) ?_
      refine Sd.callNV (as := []) (pc' := 60) (dc D_Cho_init 29 rfl) rfl (Nat.le_add_right 16 _) K_Par_init (List.mem_of_getElem? (i := 3) rfl) Ks_Par_init rfl rfl ⟨by decide, by decide⟩ rfl rfl (Nat.le_of_ble_eq_true rfl) (s_Par_init _ _) (fun _ h4 => ?_)
      refine Sd_aastore (t := 36) (j := 8) (ci := 3) (tv := 4) (C0 := RX3) (pc' := 61) (dc D_Cho_init 30 rfl) rfl (by decide) rfl rfl rfl (by decide) ?_
      refine Sd_iinc (pc' := 64) (l' := [(1, _), (0, _)]) (dc D_Cho_init 31 rfl) rfl 1 rfl (by decide) rfl ?_
      refine Sd_goto (tgt := 42) (dc D_Cho_init 32 rfl) (by decide) ?_
      refine Sd.sub (l' := [(0, _), (1, _)]) [1, 0] rfl ?_
      exact s_Cho_init_L42 n _ _ _
def Cho_init (v0 : Nat) (h : AH) : Option (Unit × AH) := oi v0 <| nA h 36 108 fun r1 h2 => pR h2 1 v0 0 r1 fun h3 => nA h3 21 108 fun r4 h5 => pR h5 1 v0 1 r4 fun h6 => nA h6 21 108 fun r7 h8 => pR h8 1 v0 2 r7 fun h9 => nO h9 4 1 fun r10 h11 => bnd (Par_init r10 h11) fun _ h12 => pR h12 1 v0 3 r10 fun h15 => Cho_init_L42 FU v0 0 h15
set_option maxHeartbeats 4000000 in
set_option maxRecDepth 20000 in
theorem s_Cho_init (v0 : Nat) (h : AH) : CS M_Cho_init 2 40 emV [vr v0] h (Cho_init v0 h) := by
  refine CS.of (by decide) (Nat.le_of_ble_eq_true rfl) ?_
  show Sd M_Cho_init 2 40 emV 0 [(0, vr v0)] [] h _
  unfold Cho_init
  refine Sd_aload_n (pc' := 1) (dc D_Cho_init 0 rfl) rfl 0 rfl rfl ?_
  refine Sd_oi (pc' := 4) (dc D_Cho_init 1 rfl) rfl L_Cho_3 W_obj2 W_obj3 (by decide) (Nat.le_of_ble_eq_true rfl) ?_
  refine Sd_aload_n (pc' := 5) (dc D_Cho_init 2 rfl) rfl 0 rfl rfl ?_
  refine Sd_bipush (pc' := 7) (dc D_Cho_init 3 rfl) rfl ⟨by decide, by decide⟩ (by decide) ?_
  refine Sd_anewarray (t := 36) (j := 8) (C0 := RX3) (pc' := 10) (dc D_Cho_init 4 rfl) rfl (by decide) rfl C_Cho_9 (List.mem_of_getElem? (i := 5) rfl) ?_
  refine Sd_putR (pc' := 13) (dc D_Cho_init 5 rfl) rfl F_Cho_11 rfl rfl rfl (finOk.yes rfl rfl) (by decide) ?_
  refine Sd_aload_n (pc' := 14) (dc D_Cho_init 6 rfl) rfl 0 rfl rfl ?_
  refine Sd_bipush (pc' := 16) (dc D_Cho_init 7 rfl) rfl ⟨by decide, by decide⟩ (by decide) ?_
  refine Sd_newarray (t := 21) (j := 0) (ty := .int) (pc' := 18) (dc D_Cho_init 8 rfl) rfl rfl (by decide) rfl W_aI (by decide) rfl (fun _ _ h => h) ?_
  refine Sd_putR (pc' := 21) (dc D_Cho_init 9 rfl) rfl F_Cho_17 rfl rfl rfl (finOk.yes rfl rfl) (by decide) ?_
  refine Sd_aload_n (pc' := 22) (dc D_Cho_init 10 rfl) rfl 0 rfl rfl ?_
  refine Sd_bipush (pc' := 24) (dc D_Cho_init 11 rfl) rfl ⟨by decide, by decide⟩ (by decide) ?_
  refine Sd_newarray (t := 21) (j := 0) (ty := .int) (pc' := 26) (dc D_Cho_init 12 rfl) rfl rfl (by decide) rfl W_aI (by decide) rfl (fun _ _ h => h) ?_
  refine Sd_putR (pc' := 29) (dc D_Cho_init 13 rfl) rfl F_Cho_21 rfl rfl rfl (finOk.yes rfl rfl) (by decide) ?_
  refine Sd_aload_n (pc' := 30) (dc D_Cho_init 14 rfl) rfl 0 rfl rfl ?_
  refine Sd_new (ci := 3) (t := 4) (sl := 1) RX3 (pc' := 33) (dc D_Cho_init 15 rfl) rfl rfl rfl C_Cho_9 Ni_Par Nz_Par ?_
  refine Sd_dup (pc' := 34) (dc D_Cho_init 16 rfl) rfl (cat_r _) ?_
  refine Sd.callNV (as := []) (pc' := 37) (dc D_Cho_init 17 rfl) rfl (Nat.le_add_right 16 _) K_Par_init (List.mem_of_getElem? (i := 3) rfl) Ks_Par_init rfl rfl ⟨by decide, by decide⟩ rfl rfl (Nat.le_of_ble_eq_true rfl) (s_Par_init _ _) (fun _ h12 => ?_)
  refine Sd_putR (pc' := 40) (dc D_Cho_init 18 rfl) rfl F_Cho_25 rfl rfl rfl (finOk.yes rfl rfl) (by decide) ?_
  refine Sd_iconst (pc' := 41) (dc D_Cho_init 19 rfl) rfl ⟨by decide, by decide⟩ ?_
  refine Sd_istore_n (pc' := 42) (l' := [(1, _), (0, _)]) (dc D_Cho_init 20 rfl) rfl rfl (by decide) rfl ?_
  refine Sd.sub (l' := [(0, _), (1, _)]) [1, 0] rfl ?_
  exact s_Cho_init_L42 FU _ _ _
theorem K_Cho_init : MOk M_Cho_init 0 := ⟨Tb_at 130 (by decide +kernel) rfl, Tb_at 368 (by decide +kernel) rfl, by decide +kernel, by decide +kernel, by decide +kernel⟩
theorem Ks_Cho_init : Cond.instanceMethod yX0_init ∈ Tb := Tb_at 367 (by decide +kernel) rfl
/-! ===== BatchShare$Chooser.<init>(LBatchShare$Pricer;LBatchShare$Choices;)V ===== -/
abbrev M_Chr_init : AMt := (yX1_init, cX1_init, 3, none)
def T_Chr_init : List (Nat × Instr × Nat) := [(0, .aload_n 0, 1), (1, .invokespecial 3, 3), (4, .aload_n 0, 1), (5, .new 9, 3), (8, .dup, 1), (9, .bipush 7, 2), (11, .invokespecial 11, 3), (14, .putfield 14, 3), (17, .aload_n 0, 1), (18, .bipush 108, 2), (20, .newarray .int, 2), (22, .putfield 20, 3), (25, .aload_n 0, 1), (26, .bipush 6, 2), (28, .newarray .int, 2), (30, .putfield 24, 3), (33, .aload_n 0, 1), (34, .aload_n 1, 1), (35, .putfield 27, 3), (38, .aload_n 0, 1), (39, .aload_n 2, 1), (40, .putfield 31, 3), (43, .return_, 1)]
set_option maxRecDepth 20000 in
theorem D_Chr_init : (T_Chr_init.all fun q => decide (decode M_Chr_init.2.1 q.1 = .ok q.2)) = true := by decide +kernel
def Chr_init (v0 : Nat) (v1 : Nat) (v2 : Nat) (h : AH) : Option (Unit × AH) := oi v0 <| nO h 8 2 fun r1 h2 => bnd (She_init r1 7 h2) fun _ h3 => pR h3 2 v0 2 r1 fun h6 => nA h6 21 108 fun r7 h8 => pR h8 2 v0 3 r7 fun h9 => nA h9 21 6 fun r10 h11 => pR h11 2 v0 4 r10 fun h12 => pR h12 2 v0 0 v1 fun h13 => pR h13 2 v0 1 v2 fun h14 => some ((), h14)
set_option maxHeartbeats 4000000 in
set_option maxRecDepth 20000 in
theorem s_Chr_init (v0 : Nat) (v1 : Nat) (v2 : Nat) (h : AH) : CS M_Chr_init 4 82 emV [vr v0, vr v1, vr v2] h (Chr_init v0 v1 v2 h) := by
  refine CS.of (by decide) (Nat.le_of_ble_eq_true rfl) ?_
  show Sd M_Chr_init 4 82 emV 0 [(0, vr v0), (1, vr v1), (2, vr v2)] [] h _
  unfold Chr_init
  refine Sd_aload_n (pc' := 1) (dc D_Chr_init 0 rfl) rfl 0 rfl rfl ?_
  refine Sd_oi (pc' := 4) (dc D_Chr_init 1 rfl) rfl L_Chr_3 W_obj2 W_obj3 (by decide) (Nat.le_of_ble_eq_true rfl) ?_
  refine Sd_aload_n (pc' := 5) (dc D_Chr_init 2 rfl) rfl 0 rfl rfl ?_
  refine Sd_new (ci := 7) (t := 8) (sl := 2) RX7 (pc' := 8) (dc D_Chr_init 3 rfl) rfl rfl rfl C_Chr_9 Ni_She Nz_She ?_
  refine Sd_dup (pc' := 9) (dc D_Chr_init 4 rfl) rfl (cat_r _) ?_
  refine Sd_bipush (pc' := 11) (dc D_Chr_init 5 rfl) rfl ⟨by decide, by decide⟩ (by decide) ?_
  refine Sd.callIV (as := [_]) (pc' := 14) (dc D_Chr_init 6 rfl) rfl (Nat.le_add_right 16 _) K_She_init L_Chr_11 Ks_She_init rfl rfl ⟨by decide, by decide⟩ rfl rfl (Nat.le_of_ble_eq_true rfl) (s_She_init _ _ _) (fun _ h3 => ?_)
  refine Sd_putR (pc' := 17) (dc D_Chr_init 7 rfl) rfl F_Chr_14 rfl rfl rfl (finOk.yes rfl rfl) (by decide) ?_
  refine Sd_aload_n (pc' := 18) (dc D_Chr_init 8 rfl) rfl 0 rfl rfl ?_
  refine Sd_bipush (pc' := 20) (dc D_Chr_init 9 rfl) rfl ⟨by decide, by decide⟩ (by decide) ?_
  refine Sd_newarray (t := 21) (j := 0) (ty := .int) (pc' := 22) (dc D_Chr_init 10 rfl) rfl rfl (by decide) rfl W_aI (by decide) rfl (fun _ _ h => h) ?_
  refine Sd_putR (pc' := 25) (dc D_Chr_init 11 rfl) rfl F_Chr_20 rfl rfl rfl (finOk.yes rfl rfl) (by decide) ?_
  refine Sd_aload_n (pc' := 26) (dc D_Chr_init 12 rfl) rfl 0 rfl rfl ?_
  refine Sd_bipush (pc' := 28) (dc D_Chr_init 13 rfl) rfl ⟨by decide, by decide⟩ (by decide) ?_
  refine Sd_newarray (t := 21) (j := 0) (ty := .int) (pc' := 30) (dc D_Chr_init 14 rfl) rfl rfl (by decide) rfl W_aI (by decide) rfl (fun _ _ h => h) ?_
  refine Sd_putR (pc' := 33) (dc D_Chr_init 15 rfl) rfl F_Chr_24 rfl rfl rfl (finOk.yes rfl rfl) (by decide) ?_
  refine Sd_aload_n (pc' := 34) (dc D_Chr_init 16 rfl) rfl 0 rfl rfl ?_
  refine Sd_aload_n (pc' := 35) (dc D_Chr_init 17 rfl) rfl 1 rfl rfl ?_
  refine Sd_putR (pc' := 38) (dc D_Chr_init 18 rfl) rfl F_Chr_27 rfl rfl rfl (finOk.yes rfl rfl) (by decide) ?_
  refine Sd_aload_n (pc' := 39) (dc D_Chr_init 19 rfl) rfl 0 rfl rfl ?_
  refine Sd_aload_n (pc' := 40) (dc D_Chr_init 20 rfl) rfl 2 rfl rfl ?_
  refine Sd_putR (pc' := 43) (dc D_Chr_init 21 rfl) rfl F_Chr_31 rfl rfl rfl (finOk.yes rfl rfl) (by decide) ?_
  exact Sd_vret (dc D_Chr_init 22 rfl) rfl
theorem K_Chr_init : MOk M_Chr_init 2 := ⟨Tb_at 131 (by decide +kernel) rfl, Tb_at 399 (by decide +kernel) rfl, by decide +kernel, by decide +kernel, by decide +kernel⟩
theorem Ks_Chr_init : Cond.instanceMethod yX1_init ∈ Tb := Tb_at 398 (by decide +kernel) rfl
/-! ===== BatchShare$Pricer.look(LBatchShare$State;I)V ===== -/
abbrev M_Pri_look : AMt := (yX4_look, cX4_look, 4, none)
def T_Pri_look : List (Nat × Instr × Nat) := [(0, .aload_n 0, 1), (1, .iload_n 2, 1), (2, .aload_n 0, 1), (3, .getfield 15, 3), (6, .arraylength, 1), (7, .invokestatic 25, 3), (10, .putfield 31, 3), (13, .aload_n 0, 1), (14, .aload_n 1, 1), (15, .getfield 35, 3), (18, .putfield 40, 3), (21, .aload_n 0, 1), (22, .getfield 9, 3), (25, .iconst 0, 1), (26, .aload_n 1, 1), (27, .getfield 41, 3), (30, .iconst 0, 1), (31, .aaload, 1), (32, .getfield 45, 3), (35, .iastore, 1), (36, .aload_n 0, 1), (37, .getfield 9, 3), (40, .iconst 1, 1), (41, .aload_n 1, 1), (42, .getfield 41, 3), (45, .iconst 1, 1), (46, .aaload, 1), (47, .getfield 45, 3), (50, .iastore, 1), (51, .iconst 0, 1), (52, .istore_n 3, 1), (53, .iload_n 3, 1), (54, .aload_n 0, 1), (55, .getfield 31, 3), (58, .if_icmp .ge 69, 3), (61, .aload_n 0, 1), (62, .getfield 21, 3), (65, .iload_n 3, 1), (66, .aaload, 1), (67, .iconst 2, 1), (68, .invokevirtual 48, 3), (71, .ifCond .eq 50, 3), (74, .aload_n 0, 1), (75, .getfield 15, 3), (78, .iload_n 3, 1), (79, .aload_n 0, 1), (80, .getfield 21, 3), (83, .iload_n 3, 1), (84, .aaload, 1), (85, .getfield 54, 3), (88, .iconst 0, 1), (89, .aaload, 1), (90, .aload_n 1, 1), (91, .getfield 41, 3), (94, .iconst 0, 1), (95, .aaload, 1), (96, .invokevirtual 58, 3), (99, .aload_n 0, 1), (100, .getfield 21, 3), (103, .iload_n 3, 1), (104, .aaload, 1), (105, .getfield 54, 3), (108, .iconst 1, 1), (109, .aaload, 1), (110, .aload_n 1, 1), (111, .getfield 41, 3), (114, .iconst 1, 1), (115, .aaload, 1), (116, .invokevirtual 58, 3), (119, .imul, 1), (120, .iastore, 1), (121, .iinc 3 1, 3), (124, .goto (-71), 3), (127, .return_, 1)]
set_option maxRecDepth 20000 in
theorem D_Pri_look : (T_Pri_look.all fun q => decide (decode M_Pri_look.2.1 q.1 = .ok q.2)) = true := by decide +kernel
def Pri_look_L53 : Nat → Nat → Nat → Int → AH → Option (Unit × AH)
  | 0, _, _, _, _ => none
  | n + 1, v0, v1, v3, h => gI h 5 v0 4 fun x1 => if (x1 : Int) ≤ v3 then (some ((), h)) else (gR h 5 v0 0 fun r2 => aR h 31 r2 v3 fun r3 => rc h 6 r3 <| bnd (Que_hasPart r3 2 h) fun x5 h4 => if (x5 : Int) = 0 then (Pri_look_L53 n v0 v1 ((wr (v3 + 1))) h4) else (gR h4 5 v0 2 fun r7 => gR h4 5 v0 0 fun r8 => aR h4 31 r8 v3 fun r9 => gR h4 6 r9 1 fun r10 => aR h4 36 r10 0 fun r11 => gR h4 9 v1 0 fun r12 => aR h4 34 r12 0 fun r13 => rc h4 4 r11 <| bnd (Par_rowsOf r11 r13 h4) fun x15 h14 => gR h14 5 v0 0 fun r17 => aR h14 31 r17 v3 fun r18 => gR h14 6 r18 1 fun r19 => aR h14 36 r19 1 fun r20 => gR h14 9 v1 0 fun r21 => aR h14 34 r21 1 fun r22 => rc h14 4 r20 <| bnd (Par_rowsOf r20 r22 h14) fun x24 h23 => wI h23 21 r7 v3 (wr (x15 * x24)) fun h26 => Pri_look_L53 n v0 v1 ((wr (v3 + 1))) h26))
set_option maxHeartbeats 4000000 in
set_option maxRecDepth 20000 in
theorem s_Pri_look_L53 : ∀ (n : Nat) (v0 : Nat) (v1 : Nat) (v3 : Int) (h : AH), Sd M_Pri_look 4 70 emV 53 [(0, vr v0), (1, vr v1), (3, vi v3)] [] h (Pri_look_L53 n v0 v1 v3 h)
  | 0, _, _, _, _ => Sd.none
  | n + 1, v0, v1, v3, h => by
    rw [Pri_look_L53]
    refine Sd_iload_n (pc' := 54) (dc D_Pri_look 31 rfl) rfl 2 rfl rfl ?_
    refine Sd_aload_n (pc' := 55) (dc D_Pri_look 32 rfl) rfl 0 rfl rfl ?_
    refine Sd_getI (pc' := 58) (dc D_Pri_look 33 rfl) rfl F_Pri_31 rfl rfl ?_
    refine Sd_icmp_ge (tgt := 127) (pc' := 61) (dc D_Pri_look 34 rfl) (by decide) rfl (fun _ => ?_) (fun _ => ?_)
    · exact Sd_vret (dc D_Pri_look 73 rfl) rfl
    · refine Sd_aload_n (pc' := 62) (dc D_Pri_look 35 rfl) rfl 0 rfl rfl ?_
      refine Sd_getR (pc' := 65) (dc D_Pri_look 36 rfl) rfl F_Pri_21 rfl rfl ?_
      refine Sd_iload_n (pc' := 66) (dc D_Pri_look 37 rfl) rfl 2 rfl rfl ?_
      refine Sd_aaload (t := 31) (j := 3) (C0 := RX5) (pc' := 67) (dc D_Pri_look 38 rfl) rfl rfl (by decide) ?_
      refine Sd_iconst (pc' := 68) (dc D_Pri_look 39 rfl) rfl ⟨by decide, by decide⟩ ?_
      refine Sd.callVI (ci := 5) (t := 6) (as := [_]) RX5 (pc' := 71) (dc D_Pri_look 40 rfl) rfl rfl rfl rfl K_Que_hasPart L_Pri_48 Ks_Que_hasPart Kv_Que_hasPart ⟨by decide, by decide⟩ rfl rfl (Nat.le_of_ble_eq_true rfl) (s_Que_hasPart _ _ _) (fun x5 h4 => ?_)
      refine Sd_if_eq (tgt := 121) (pc' := 74) (dc D_Pri_look 41 rfl) (by decide) rfl (fun _ => ?_) (fun _ => ?_)
      · refine Sd_iinc (pc' := 124) (l' := [(3, _), (0, _), (1, _)]) (dc D_Pri_look 71 rfl) rfl 2 rfl (by decide) rfl ?_
        refine Sd_goto (tgt := 53) (dc D_Pri_look 72 rfl) (by decide) ?_
        refine Sd.sub (l' := [(0, _), (1, _), (3, _)]) [1, 2, 0] rfl ?_
        exact s_Pri_look_L53 n _ _ _ _
      · refine Sd_aload_n (pc' := 75) (dc D_Pri_look 42 rfl) rfl 0 rfl rfl ?_
        refine Sd_getR (pc' := 78) (dc D_Pri_look 43 rfl) rfl F_Pri_15 rfl rfl ?_
        refine Sd_iload_n (pc' := 79) (dc D_Pri_look 44 rfl) rfl 2 rfl rfl ?_
        refine Sd_aload_n (pc' := 80) (dc D_Pri_look 45 rfl) rfl 0 rfl rfl ?_
        refine Sd_getR (pc' := 83) (dc D_Pri_look 46 rfl) rfl F_Pri_21 rfl rfl ?_
        refine Sd_iload_n (pc' := 84) (dc D_Pri_look 47 rfl) rfl 2 rfl rfl ?_
        refine Sd_aaload (t := 31) (j := 3) (C0 := RX5) (pc' := 85) (dc D_Pri_look 48 rfl) rfl rfl (by decide) ?_
        refine Sd_getR (pc' := 88) (dc D_Pri_look 49 rfl) rfl F_Pri_54 rfl rfl ?_
        refine Sd_iconst (pc' := 89) (dc D_Pri_look 50 rfl) rfl ⟨by decide, by decide⟩ ?_
        refine Sd_aaload (t := 36) (j := 8) (C0 := RX3) (pc' := 90) (dc D_Pri_look 51 rfl) rfl rfl (by decide) ?_
        refine Sd_aload_n (pc' := 91) (dc D_Pri_look 52 rfl) rfl 1 rfl rfl ?_
        refine Sd_getR (pc' := 94) (dc D_Pri_look 53 rfl) rfl F_Pri_41 rfl rfl ?_
        refine Sd_iconst (pc' := 95) (dc D_Pri_look 54 rfl) rfl ⟨by decide, by decide⟩ ?_
        refine Sd_aaload (t := 34) (j := 6) (C0 := RX9) (pc' := 96) (dc D_Pri_look 55 rfl) rfl rfl (by decide) ?_
        refine Sd.callVI (ci := 3) (t := 4) (as := [_]) RX3 (pc' := 99) (dc D_Pri_look 56 rfl) rfl rfl rfl rfl K_Par_rowsOf L_Pri_58 Ks_Par_rowsOf Kv_Par_rowsOf ⟨by decide, by decide⟩ rfl rfl (Nat.le_of_ble_eq_true rfl) (s_Par_rowsOf _ _ _) (fun x15 h14 => ?_)
        refine Sd_aload_n (pc' := 100) (dc D_Pri_look 57 rfl) rfl 0 rfl rfl ?_
        refine Sd_getR (pc' := 103) (dc D_Pri_look 58 rfl) rfl F_Pri_21 rfl rfl ?_
        refine Sd_iload_n (pc' := 104) (dc D_Pri_look 59 rfl) rfl 2 rfl rfl ?_
        refine Sd_aaload (t := 31) (j := 3) (C0 := RX5) (pc' := 105) (dc D_Pri_look 60 rfl) rfl rfl (by decide) ?_
        refine Sd_getR (pc' := 108) (dc D_Pri_look 61 rfl) rfl F_Pri_54 rfl rfl ?_
        refine Sd_iconst (pc' := 109) (dc D_Pri_look 62 rfl) rfl ⟨by decide, by decide⟩ ?_
        refine Sd_aaload (t := 36) (j := 8) (C0 := RX3) (pc' := 110) (dc D_Pri_look 63 rfl) rfl rfl (by decide) ?_
        refine Sd_aload_n (pc' := 111) (dc D_Pri_look 64 rfl) rfl 1 rfl rfl ?_
        refine Sd_getR (pc' := 114) (dc D_Pri_look 65 rfl) rfl F_Pri_41 rfl rfl ?_
        refine Sd_iconst (pc' := 115) (dc D_Pri_look 66 rfl) rfl ⟨by decide, by decide⟩ ?_
        refine Sd_aaload (t := 34) (j := 6) (C0 := RX9) (pc' := 116) (dc D_Pri_look 67 rfl) rfl rfl (by decide) ?_
        refine Sd.callVI (ci := 3) (t := 4) (as := [_]) RX3 (pc' := 119) (dc D_Pri_look 68 rfl) rfl rfl rfl rfl K_Par_rowsOf L_Pri_58 Ks_Par_rowsOf Kv_Par_rowsOf ⟨by decide, by decide⟩ rfl rfl (Nat.le_of_ble_eq_true rfl) (s_Par_rowsOf _ _ _) (fun x24 h23 => ?_)
        refine Sd_imul (pc' := 120) (dc D_Pri_look 69 rfl) rfl ?_
        refine Sd_iastore (pc' := 121) (dc D_Pri_look 70 rfl) rfl (by decide) ?_
        refine Sd_iinc (pc' := 124) (l' := [(3, _), (0, _), (1, _)]) (dc D_Pri_look 71 rfl) rfl 2 rfl (by decide) rfl ?_
        refine Sd_goto (tgt := 53) (dc D_Pri_look 72 rfl) (by decide) ?_
        refine Sd.sub (l' := [(0, _), (1, _), (3, _)]) [1, 2, 0] rfl ?_
        exact s_Pri_look_L53 n _ _ _ _
def Pri_look (v0 : Nat) (v1 : Nat) (v2 : Int) (h : AH) : Option (Unit × AH) := gR h 5 v0 2 fun r1 => aN h 21 r1 fun x2 => pI h 5 v0 4 (mMin v2 x2) fun h3 => gI h3 9 v1 4 fun x4 => pI h3 5 v0 5 x4 fun h5 => gR h5 5 v0 1 fun r6 => gR h5 9 v1 0 fun r7 => aR h5 34 r7 0 fun r8 => gI h5 10 r8 3 fun x9 => wI h5 21 r6 0 x9 fun h10 => gR h10 5 v0 1 fun r11 => gR h10 9 v1 0 fun r12 => aR h10 34 r12 1 fun r13 => gI h10 10 r13 3 fun x14 => wI h10 21 r11 1 x14 fun h15 => Pri_look_L53 FU v0 v1 0 h15
set_option maxHeartbeats 4000000 in
set_option maxRecDepth 20000 in
theorem s_Pri_look (v0 : Nat) (v1 : Nat) (v2 : Int) (h : AH) : CS M_Pri_look 4 70 emV [vr v0, vr v1, vi v2] h (Pri_look v0 v1 v2 h) := by
  refine CS.of (by decide) (Nat.le_of_ble_eq_true rfl) ?_
  show Sd M_Pri_look 4 70 emV 0 [(0, vr v0), (1, vr v1), (2, vi v2)] [] h _
  unfold Pri_look
  refine Sd_aload_n (pc' := 1) (dc D_Pri_look 0 rfl) rfl 0 rfl rfl ?_
  refine Sd_iload_n (pc' := 2) (dc D_Pri_look 1 rfl) rfl 2 rfl rfl ?_
  refine Sd_aload_n (pc' := 3) (dc D_Pri_look 2 rfl) rfl 0 rfl rfl ?_
  refine Sd_getR (pc' := 6) (dc D_Pri_look 3 rfl) rfl F_Pri_15 rfl rfl ?_
  refine Sd_alen (t := 21) (j := 0) (pc' := 7) (dc D_Pri_look 4 rfl) rfl rfl (by decide) (by decide) ?_
  refine Sd_mmin (pc' := 10) (dc D_Pri_look 5 rfl) rfl L_Pri_25 W_mmin1 W_m2 W_mmin3 (by decide) (Nat.le_of_ble_eq_true rfl) ?_
  refine Sd_putI (pc' := 13) (dc D_Pri_look 6 rfl) rfl F_Pri_31 rfl rfl rfl (finOk.no rfl) (by decide) ?_
  refine Sd_aload_n (pc' := 14) (dc D_Pri_look 7 rfl) rfl 0 rfl rfl ?_
  refine Sd_aload_n (pc' := 15) (dc D_Pri_look 8 rfl) rfl 1 rfl rfl ?_
  refine Sd_getI (pc' := 18) (dc D_Pri_look 9 rfl) rfl F_Pri_35 rfl rfl ?_
  refine Sd_putI (pc' := 21) (dc D_Pri_look 10 rfl) rfl F_Pri_40 rfl rfl rfl (finOk.no rfl) (by decide) ?_
  refine Sd_aload_n (pc' := 22) (dc D_Pri_look 11 rfl) rfl 0 rfl rfl ?_
  refine Sd_getR (pc' := 25) (dc D_Pri_look 12 rfl) rfl F_Pri_9 rfl rfl ?_
  refine Sd_iconst (pc' := 26) (dc D_Pri_look 13 rfl) rfl ⟨by decide, by decide⟩ ?_
  refine Sd_aload_n (pc' := 27) (dc D_Pri_look 14 rfl) rfl 1 rfl rfl ?_
  refine Sd_getR (pc' := 30) (dc D_Pri_look 15 rfl) rfl F_Pri_41 rfl rfl ?_
  refine Sd_iconst (pc' := 31) (dc D_Pri_look 16 rfl) rfl ⟨by decide, by decide⟩ ?_
  refine Sd_aaload (t := 34) (j := 6) (C0 := RX9) (pc' := 32) (dc D_Pri_look 17 rfl) rfl rfl (by decide) ?_
  refine Sd_getI (pc' := 35) (dc D_Pri_look 18 rfl) rfl F_Pri_45 rfl rfl ?_
  refine Sd_iastore (pc' := 36) (dc D_Pri_look 19 rfl) rfl (by decide) ?_
  refine Sd_aload_n (pc' := 37) (dc D_Pri_look 20 rfl) rfl 0 rfl rfl ?_
  refine Sd_getR (pc' := 40) (dc D_Pri_look 21 rfl) rfl F_Pri_9 rfl rfl ?_
  refine Sd_iconst (pc' := 41) (dc D_Pri_look 22 rfl) rfl ⟨by decide, by decide⟩ ?_
  refine Sd_aload_n (pc' := 42) (dc D_Pri_look 23 rfl) rfl 1 rfl rfl ?_
  refine Sd_getR (pc' := 45) (dc D_Pri_look 24 rfl) rfl F_Pri_41 rfl rfl ?_
  refine Sd_iconst (pc' := 46) (dc D_Pri_look 25 rfl) rfl ⟨by decide, by decide⟩ ?_
  refine Sd_aaload (t := 34) (j := 6) (C0 := RX9) (pc' := 47) (dc D_Pri_look 26 rfl) rfl rfl (by decide) ?_
  refine Sd_getI (pc' := 50) (dc D_Pri_look 27 rfl) rfl F_Pri_45 rfl rfl ?_
  refine Sd_iastore (pc' := 51) (dc D_Pri_look 28 rfl) rfl (by decide) ?_
  refine Sd_iconst (pc' := 52) (dc D_Pri_look 29 rfl) rfl ⟨by decide, by decide⟩ ?_
  refine Sd_istore_n (pc' := 53) (l' := [(3, _), (0, _), (1, _), (2, _)]) (dc D_Pri_look 30 rfl) rfl rfl (by decide) rfl ?_
  refine Sd.sub (l' := [(0, _), (1, _), (3, _)]) [1, 2, 0] rfl ?_
  exact s_Pri_look_L53 FU _ _ _ _
theorem K_Pri_look : MOk M_Pri_look 2 := ⟨Tb_at 129 (by decide +kernel) rfl, Tb_at 843 (by decide +kernel) rfl, by decide +kernel, by decide +kernel, by decide +kernel⟩
theorem Ks_Pri_look : Cond.instanceMethod yX4_look ∈ Tb := Tb_at 841 (by decide +kernel) rfl
theorem Kv_Pri_look : Cond.selects RX4 yX4_look yX4_look ∈ Tb := Tb_at 842 (by decide +kernel) rfl
/-! ===== BatchShare$Pricer.costBy(ILBatchShare$Shelf;)I ===== -/
abbrev M_Pri_costBy : AMt := (yX4_costBy, cX4_costBy, 7, (some .int))
def T_Pri_costBy : List (Nat × Instr × Nat) := [(0, .aload_n 0, 1), (1, .getfield 21, 3), (4, .iload_n 1, 1), (5, .aaload, 1), (6, .astore_n 3, 1), (7, .aload_n 0, 1), (8, .getfield 18, 3), (11, .bipush (-2), 2), (13, .invokestatic 84, 3), (16, .aload_n 3, 1), (17, .iconst 2, 1), (18, .invokevirtual 48, 3), (21, .ifCond .eq 12, 3), (24, .aload_n 0, 1), (25, .getfield 15, 3), (28, .iload_n 1, 1), (29, .iaload, 1), (30, .goto 4, 3), (33, .iconst 0, 1), (34, .istore 4, 2), (36, .iconst 0, 1), (37, .istore 5, 2), (39, .iload 5, 2), (41, .iconst 1, 1), (42, .if_icmp .gt 79, 3), (45, .aload_n 3, 1), (46, .iload 5, 2), (48, .invokevirtual 48, 3), (51, .ifCond .eq 64, 3), (54, .aload_n 2, 1), (55, .aload_n 3, 1), (56, .getfield 54, 3), (59, .iload 5, 2), (61, .aaload, 1), (62, .aload_n 0, 1), (63, .getfield 9, 3), (66, .iload 5, 2), (68, .iaload, 1), (69, .invokevirtual 90, 3), (72, .istore 6, 2), (74, .aload_n 0, 1), (75, .getfield 18, 3), (78, .iload 5, 2), (80, .iload 6, 2), (82, .iastore, 1), (83, .iload 4, 2), (85, .iload 6, 2), (87, .bipush (-2), 2), (89, .if_icmp .ne 13, 3), (92, .aload_n 0, 1), (93, .getfield 9, 3), (96, .iload 5, 2), (98, .iaload, 1), (99, .goto 13, 3), (102, .aload_n 2, 1), (103, .getfield 75, 3), (106, .iload 6, 2), (108, .aaload, 1), (109, .getfield 94, 3), (112, .iadd, 1), (113, .istore 4, 2), (115, .iinc 5 1, 3), (118, .goto (-79), 3), (121, .aload_n 3, 1), (122, .iconst 2, 1), (123, .invokevirtual 48, 3), (126, .ifCond .eq 18, 3), (129, .aload_n 2, 1), (130, .aload_n 3, 1), (131, .getfield 54, 3), (134, .iconst 2, 1), (135, .aaload, 1), (136, .ldc 97, 2), (138, .invokevirtual 90, 3), (141, .goto 5, 3), (144, .bipush (-2), 2), (146, .istore 5, 2), (148, .iload 5, 2), (150, .bipush (-2), 2), (152, .if_icmp .eq 18, 3), (155, .aload_n 2, 1), (156, .getfield 75, 3), (159, .iload 5, 2), (161, .aaload, 1), (162, .getfield 94, 3), (165, .iload 4, 2), (167, .if_icmp .le 6, 3), (170, .iload 4, 2), (172, .ireturn, 1), (173, .aload_n 0, 1), (174, .getfield 18, 3), (177, .bipush (-2), 2), (179, .invokestatic 84, 3), (182, .aload_n 0, 1), (183, .getfield 18, 3), (186, .iconst 2, 1), (187, .iload 5, 2), (189, .iastore, 1), (190, .aload_n 2, 1), (191, .getfield 75, 3), (194, .iload 5, 2), (196, .aaload, 1), (197, .getfield 94, 3), (200, .ireturn, 1)]
set_option maxRecDepth 20000 in
theorem D_Pri_costBy : (T_Pri_costBy.all fun q => decide (decode M_Pri_costBy.2.1 q.1 = .ok q.2)) = true := by decide +kernel
def Pri_costBy_L146 (v0 : Nat) (v2 : Nat) (v4 : Int) (s0 : Int) (h : AH) : Option (Int × AH) := if (s0 : Int) = (-2) then (some (v4, h)) else (gR h 8 v2 0 fun r1 => aR h 35 r1 s0 fun r2 => gI h 3 r2 1 fun x3 => if (x3 : Int) ≤ v4 then (gR h 5 v0 3 fun r4 => bnd (Ary_fill r4 (-2) h) fun _ h5 => gR h5 5 v0 3 fun r8 => wI h5 21 r8 2 s0 fun h9 => gR h9 8 v2 0 fun r10 => aR h9 35 r10 s0 fun r11 => gI h9 3 r11 1 fun x12 => some (x12, h9)) else (some (v4, h)))
set_option maxHeartbeats 4000000 in
set_option maxRecDepth 20000 in
theorem s_Pri_costBy_L146 (v0 : Nat) (v2 : Nat) (v4 : Int) (s0 : Int) (h : AH) : Sd M_Pri_costBy 3 49 emI 146 [(0, vr v0), (2, vr v2), (4, vi v4)] [vi s0] h (Pri_costBy_L146 v0 v2 v4 s0 h) := by
  unfold Pri_costBy_L146
  refine Sd_istore (pc' := 148) (l' := [(5, _), (0, _), (2, _), (4, _)]) (dc D_Pri_costBy 76 rfl) rfl (by decide) rfl ?_
  refine Sd_iload (pc' := 150) (dc D_Pri_costBy 77 rfl) rfl 0 rfl ?_
  refine Sd_bipush (pc' := 152) (dc D_Pri_costBy 78 rfl) rfl ⟨by decide, by decide⟩ (by decide) ?_
  refine Sd_icmp_eq (tgt := 170) (pc' := 155) (dc D_Pri_costBy 79 rfl) (by decide) rfl (fun _ => ?_) (fun _ => ?_)
  · refine Sd_iload (pc' := 172) (dc D_Pri_costBy 87 rfl) rfl 3 rfl ?_
    exact Sd_iret (dc D_Pri_costBy 88 rfl) rfl
  · refine Sd_aload_n (pc' := 156) (dc D_Pri_costBy 80 rfl) rfl 2 rfl rfl ?_
    refine Sd_getR (pc' := 159) (dc D_Pri_costBy 81 rfl) rfl F_Pri_75 rfl rfl ?_
    refine Sd_iload (pc' := 161) (dc D_Pri_costBy 82 rfl) rfl 0 rfl ?_
    refine Sd_aaload (t := 35) (j := 7) (C0 := RX2) (pc' := 162) (dc D_Pri_costBy 83 rfl) rfl rfl (by decide) ?_
    refine Sd_getI (pc' := 165) (dc D_Pri_costBy 84 rfl) rfl F_Pri_94 rfl rfl ?_
    refine Sd_iload (pc' := 167) (dc D_Pri_costBy 85 rfl) rfl 3 rfl ?_
    refine Sd_icmp_le (tgt := 173) (pc' := 170) (dc D_Pri_costBy 86 rfl) (by decide) rfl (fun _ => ?_) (fun _ => ?_)
    · refine Sd_aload_n (pc' := 174) (dc D_Pri_costBy 89 rfl) rfl 1 rfl rfl ?_
      refine Sd_getR (pc' := 177) (dc D_Pri_costBy 90 rfl) rfl F_Pri_18 rfl rfl ?_
      refine Sd_bipush (pc' := 179) (dc D_Pri_costBy 91 rfl) rfl ⟨by decide, by decide⟩ (by decide) ?_
      refine Sd.callSV (as := [_, _]) (pc' := 182) (dc D_Pri_costBy 92 rfl) rfl K_Ary_fill L_Pri_84 Ks_Ary_fill ⟨by decide, by decide⟩ rfl rfl (Nat.le_of_ble_eq_true rfl) (s_Ary_fill _ _ _) (fun _ h5 => ?_)
      refine Sd_aload_n (pc' := 183) (dc D_Pri_costBy 93 rfl) rfl 1 rfl rfl ?_
      refine Sd_getR (pc' := 186) (dc D_Pri_costBy 94 rfl) rfl F_Pri_18 rfl rfl ?_
      refine Sd_iconst (pc' := 187) (dc D_Pri_costBy 95 rfl) rfl ⟨by decide, by decide⟩ ?_
      refine Sd_iload (pc' := 189) (dc D_Pri_costBy 96 rfl) rfl 0 rfl ?_
      refine Sd_iastore (pc' := 190) (dc D_Pri_costBy 97 rfl) rfl (by decide) ?_
      refine Sd_aload_n (pc' := 191) (dc D_Pri_costBy 98 rfl) rfl 2 rfl rfl ?_
      refine Sd_getR (pc' := 194) (dc D_Pri_costBy 99 rfl) rfl F_Pri_75 rfl rfl ?_
      refine Sd_iload (pc' := 196) (dc D_Pri_costBy 100 rfl) rfl 0 rfl ?_
      refine Sd_aaload (t := 35) (j := 7) (C0 := RX2) (pc' := 197) (dc D_Pri_costBy 101 rfl) rfl rfl (by decide) ?_
      refine Sd_getI (pc' := 200) (dc D_Pri_costBy 102 rfl) rfl F_Pri_94 rfl rfl ?_
      exact Sd_iret (dc D_Pri_costBy 103 rfl) rfl
    · refine Sd_iload (pc' := 172) (dc D_Pri_costBy 87 rfl) rfl 3 rfl ?_
      exact Sd_iret (dc D_Pri_costBy 88 rfl) rfl
def Pri_costBy_L39 : Nat → Nat → Nat → Nat → Int → Int → AH → Option (Int × AH)
  | 0, _, _, _, _, _, _ => none
  | n + 1, v0, v2, v3, v4, v5, h => if (1 : Int) < v5 then (rc h 6 v3 <| bnd (Que_hasPart v3 2 h) fun x2 h1 => if (x2 : Int) = 0 then (Pri_costBy_L146 v0 v2 v4 (-2) h1) else (gR h1 6 v3 1 fun r4 => aR h1 36 r4 2 fun r5 => rc h1 8 v2 <| bnd (She_leastHolding v2 r5 1000000 h1) fun x7 h6 => Pri_costBy_L146 v0 v2 v4 x7 h6)) else (rc h 6 v3 <| bnd (Que_hasPart v3 v5 h) fun x10 h9 => if (x10 : Int) = 0 then (Pri_costBy_L39 n v0 v2 v3 v4 ((wr (v5 + 1))) h9) else (gR h9 6 v3 1 fun r12 => aR h9 36 r12 v5 fun r13 => gR h9 5 v0 1 fun r14 => aI h9 21 r14 v5 fun x15 => rc h9 8 v2 <| bnd (She_leastHolding v2 r13 x15 h9) fun x17 h16 => gR h16 5 v0 3 fun r19 => wI h16 21 r19 v5 x17 fun h20 => if ¬ (x17 : Int) = (-2) then (gR h20 8 v2 0 fun r21 => aR h20 35 r21 x17 fun r22 => gI h20 3 r22 1 fun x23 => Pri_costBy_L39 n v0 v2 v3 ((wr (v4 + x23))) ((wr (v5 + 1))) h20) else (gR h20 5 v0 1 fun r24 => aI h20 21 r24 v5 fun x25 => Pri_costBy_L39 n v0 v2 v3 ((wr (v4 + x25))) ((wr (v5 + 1))) h20)))
set_option maxHeartbeats 4000000 in
set_option maxRecDepth 20000 in
theorem s_Pri_costBy_L39 : ∀ (n : Nat) (v0 : Nat) (v2 : Nat) (v3 : Nat) (v4 : Int) (v5 : Int) (h : AH), Sd M_Pri_costBy 3 49 emI 39 [(0, vr v0), (2, vr v2), (3, vr v3), (4, vi v4), (5, vi v5)] [] h (Pri_costBy_L39 n v0 v2 v3 v4 v5 h)
  | 0, _, _, _, _, _, _ => Sd.none
  | n + 1, v0, v2, v3, v4, v5, h => by
    rw [Pri_costBy_L39]
    refine Sd_iload (pc' := 41) (dc D_Pri_costBy 22 rfl) rfl 4 rfl ?_
    refine Sd_iconst (pc' := 42) (dc D_Pri_costBy 23 rfl) rfl ⟨by decide, by decide⟩ ?_
    refine Sd_icmp_gt (tgt := 121) (pc' := 45) (dc D_Pri_costBy 24 rfl) (by decide) rfl (fun _ => ?_) (fun _ => ?_)
    · refine Sd_aload_n (pc' := 122) (dc D_Pri_costBy 63 rfl) rfl 2 rfl rfl ?_
      refine Sd_iconst (pc' := 123) (dc D_Pri_costBy 64 rfl) rfl ⟨by decide, by decide⟩ ?_
      refine Sd.callVI (ci := 5) (t := 6) (as := [_]) RX5 (pc' := 126) (dc D_Pri_costBy 65 rfl) rfl rfl rfl rfl K_Que_hasPart L_Pri_48 Ks_Que_hasPart Kv_Que_hasPart ⟨by decide, by decide⟩ rfl rfl (Nat.le_of_ble_eq_true rfl) (s_Que_hasPart _ _ _) (fun x2 h1 => ?_)
      refine Sd_if_eq (tgt := 144) (pc' := 129) (dc D_Pri_costBy 66 rfl) (by decide) rfl (fun _ => ?_) (fun _ => ?_)
      · refine Sd_bipush (pc' := 146) (dc D_Pri_costBy 75 rfl) rfl ⟨by decide, by decide⟩ (by decide) ?_
        refine Sd.sub (l' := [(0, _), (2, _), (4, _)]) [0, 1, 3] rfl ?_
        exact s_Pri_costBy_L146 _ _ _ _ _
      · refine Sd_aload_n (pc' := 130) (dc D_Pri_costBy 67 rfl) rfl 1 rfl rfl ?_
        refine Sd_aload_n (pc' := 131) (dc D_Pri_costBy 68 rfl) rfl 2 rfl rfl ?_
        refine Sd_getR (pc' := 134) (dc D_Pri_costBy 69 rfl) rfl F_Pri_54 rfl rfl ?_
        refine Sd_iconst (pc' := 135) (dc D_Pri_costBy 70 rfl) rfl ⟨by decide, by decide⟩ ?_
        refine Sd_aaload (t := 36) (j := 8) (C0 := RX3) (pc' := 136) (dc D_Pri_costBy 71 rfl) rfl rfl (by decide) ?_
        refine Sd_ldc (n := 1000000) (pc' := 138) (dc D_Pri_costBy 72 rfl) rfl ⟨by decide, by decide⟩ Q_Pri_97 ?_
        refine Sd.callVI (ci := 7) (t := 8) (as := [_, _]) RX7 (pc' := 141) (dc D_Pri_costBy 73 rfl) rfl rfl rfl rfl K_She_leastHolding L_Pri_90 Ks_She_leastHolding Kv_She_leastHolding ⟨by decide, by decide⟩ rfl rfl (Nat.le_of_ble_eq_true rfl) (s_She_leastHolding _ _ _ _) (fun x7 h6 => ?_)
        refine Sd_goto (tgt := 146) (dc D_Pri_costBy 74 rfl) (by decide) ?_
        refine Sd.sub (l' := [(0, _), (2, _), (4, _)]) [0, 1, 3] rfl ?_
        exact s_Pri_costBy_L146 _ _ _ _ _
    · refine Sd_aload_n (pc' := 46) (dc D_Pri_costBy 25 rfl) rfl 2 rfl rfl ?_
      refine Sd_iload (pc' := 48) (dc D_Pri_costBy 26 rfl) rfl 4 rfl ?_
      refine Sd.callVI (ci := 5) (t := 6) (as := [_]) RX5 (pc' := 51) (dc D_Pri_costBy 27 rfl) rfl rfl rfl rfl K_Que_hasPart L_Pri_48 Ks_Que_hasPart Kv_Que_hasPart ⟨by decide, by decide⟩ rfl rfl (Nat.le_of_ble_eq_true rfl) (s_Que_hasPart _ _ _) (fun x10 h9 => ?_)
      refine Sd_if_eq (tgt := 115) (pc' := 54) (dc D_Pri_costBy 28 rfl) (by decide) rfl (fun _ => ?_) (fun _ => ?_)
      · refine Sd_iinc (pc' := 118) (l' := [(5, _), (0, _), (2, _), (3, _), (4, _)]) (dc D_Pri_costBy 61 rfl) rfl 4 rfl (by decide) rfl ?_
        refine Sd_goto (tgt := 39) (dc D_Pri_costBy 62 rfl) (by decide) ?_
        refine Sd.sub (l' := [(0, _), (2, _), (3, _), (4, _), (5, _)]) [1, 2, 3, 4, 0] rfl ?_
        exact s_Pri_costBy_L39 n _ _ _ _ _ _
      · refine Sd_aload_n (pc' := 55) (dc D_Pri_costBy 29 rfl) rfl 1 rfl rfl ?_
        refine Sd_aload_n (pc' := 56) (dc D_Pri_costBy 30 rfl) rfl 2 rfl rfl ?_
        refine Sd_getR (pc' := 59) (dc D_Pri_costBy 31 rfl) rfl F_Pri_54 rfl rfl ?_
        refine Sd_iload (pc' := 61) (dc D_Pri_costBy 32 rfl) rfl 4 rfl ?_
        refine Sd_aaload (t := 36) (j := 8) (C0 := RX3) (pc' := 62) (dc D_Pri_costBy 33 rfl) rfl rfl (by decide) ?_
        refine Sd_aload_n (pc' := 63) (dc D_Pri_costBy 34 rfl) rfl 0 rfl rfl ?_
        refine Sd_getR (pc' := 66) (dc D_Pri_costBy 35 rfl) rfl F_Pri_9 rfl rfl ?_
        refine Sd_iload (pc' := 68) (dc D_Pri_costBy 36 rfl) rfl 4 rfl ?_
        refine Sd_iaload (pc' := 69) (dc D_Pri_costBy 37 rfl) rfl ?_
        refine Sd.callVI (ci := 7) (t := 8) (as := [_, _]) RX7 (pc' := 72) (dc D_Pri_costBy 38 rfl) rfl rfl rfl rfl K_She_leastHolding L_Pri_90 Ks_She_leastHolding Kv_She_leastHolding ⟨by decide, by decide⟩ rfl rfl (Nat.le_of_ble_eq_true rfl) (s_She_leastHolding _ _ _ _) (fun x17 h16 => ?_)
        refine Sd_istore (pc' := 74) (l' := [(6, _), (0, _), (2, _), (3, _), (4, _), (5, _)]) (dc D_Pri_costBy 39 rfl) rfl (by decide) rfl ?_
        refine Sd_aload_n (pc' := 75) (dc D_Pri_costBy 40 rfl) rfl 1 rfl rfl ?_
        refine Sd_getR (pc' := 78) (dc D_Pri_costBy 41 rfl) rfl F_Pri_18 rfl rfl ?_
        refine Sd_iload (pc' := 80) (dc D_Pri_costBy 42 rfl) rfl 5 rfl ?_
        refine Sd_iload (pc' := 82) (dc D_Pri_costBy 43 rfl) rfl 0 rfl ?_
        refine Sd_iastore (pc' := 83) (dc D_Pri_costBy 44 rfl) rfl (by decide) ?_
        refine Sd_iload (pc' := 85) (dc D_Pri_costBy 45 rfl) rfl 4 rfl ?_
        refine Sd_iload (pc' := 87) (dc D_Pri_costBy 46 rfl) rfl 0 rfl ?_
        refine Sd_bipush (pc' := 89) (dc D_Pri_costBy 47 rfl) rfl ⟨by decide, by decide⟩ (by decide) ?_
        refine Sd_icmp_ne (tgt := 102) (pc' := 92) (dc D_Pri_costBy 48 rfl) (by decide) rfl (fun _ => ?_) (fun _ => ?_)
        · refine Sd_aload_n (pc' := 103) (dc D_Pri_costBy 54 rfl) rfl 2 rfl rfl ?_
          refine Sd_getR (pc' := 106) (dc D_Pri_costBy 55 rfl) rfl F_Pri_75 rfl rfl ?_
          refine Sd_iload (pc' := 108) (dc D_Pri_costBy 56 rfl) rfl 0 rfl ?_
          refine Sd_aaload (t := 35) (j := 7) (C0 := RX2) (pc' := 109) (dc D_Pri_costBy 57 rfl) rfl rfl (by decide) ?_
          refine Sd_getI (pc' := 112) (dc D_Pri_costBy 58 rfl) rfl F_Pri_94 rfl rfl ?_
          refine Sd_iadd (pc' := 113) (dc D_Pri_costBy 59 rfl) rfl ?_
          refine Sd_istore (pc' := 115) (l' := [(4, _), (6, _), (0, _), (2, _), (3, _), (5, _)]) (dc D_Pri_costBy 60 rfl) rfl (by decide) rfl ?_
          refine Sd_iinc (pc' := 118) (l' := [(5, _), (4, _), (6, _), (0, _), (2, _), (3, _)]) (dc D_Pri_costBy 61 rfl) rfl 5 rfl (by decide) rfl ?_
          refine Sd_goto (tgt := 39) (dc D_Pri_costBy 62 rfl) (by decide) ?_
          refine Sd.sub (l' := [(0, _), (2, _), (3, _), (4, _), (5, _)]) [3, 4, 5, 1, 0] rfl ?_
          exact s_Pri_costBy_L39 n _ _ _ _ _ _
        · refine Sd_aload_n (pc' := 93) (dc D_Pri_costBy 49 rfl) rfl 1 rfl rfl ?_
          refine Sd_getR (pc' := 96) (dc D_Pri_costBy 50 rfl) rfl F_Pri_9 rfl rfl ?_
          refine Sd_iload (pc' := 98) (dc D_Pri_costBy 51 rfl) rfl 5 rfl ?_
          refine Sd_iaload (pc' := 99) (dc D_Pri_costBy 52 rfl) rfl ?_
          refine Sd_goto (tgt := 112) (dc D_Pri_costBy 53 rfl) (by decide) ?_
          refine Sd_iadd (pc' := 113) (dc D_Pri_costBy 59 rfl) rfl ?_
          refine Sd_istore (pc' := 115) (l' := [(4, _), (6, _), (0, _), (2, _), (3, _), (5, _)]) (dc D_Pri_costBy 60 rfl) rfl (by decide) rfl ?_
          refine Sd_iinc (pc' := 118) (l' := [(5, _), (4, _), (6, _), (0, _), (2, _), (3, _)]) (dc D_Pri_costBy 61 rfl) rfl 5 rfl (by decide) rfl ?_
          refine Sd_goto (tgt := 39) (dc D_Pri_costBy 62 rfl) (by decide) ?_
          refine Sd.sub (l' := [(0, _), (2, _), (3, _), (4, _), (5, _)]) [3, 4, 5, 1, 0] rfl ?_
          exact s_Pri_costBy_L39 n _ _ _ _ _ _
def Pri_costBy (v0 : Nat) (v1 : Int) (v2 : Nat) (h : AH) : Option (Int × AH) := gR h 5 v0 0 fun r1 => aR h 31 r1 v1 fun r2 => if r2 = 0 then none else gR h 5 v0 3 fun r3 => bnd (Ary_fill r3 (-2) h) fun _ h4 => rc h4 6 r2 <| bnd (Que_hasPart r2 2 h4) fun x8 h7 => if (x8 : Int) = 0 then (Pri_costBy_L39 FU v0 v2 r2 0 0 h7) else (gR h7 5 v0 2 fun r10 => aI h7 21 r10 v1 fun x11 => Pri_costBy_L39 FU v0 v2 r2 x11 0 h7)
set_option maxHeartbeats 4000000 in
set_option maxRecDepth 20000 in
theorem s_Pri_costBy (v0 : Nat) (v1 : Int) (v2 : Nat) (h : AH) : CS M_Pri_costBy 3 49 emI [vr v0, vi v1, vr v2] h (Pri_costBy v0 v1 v2 h) := by
  refine CS.of (by decide) (Nat.le_of_ble_eq_true rfl) ?_
  show Sd M_Pri_costBy 3 49 emI 0 [(0, vr v0), (1, vi v1), (2, vr v2)] [] h _
  unfold Pri_costBy
  refine Sd_aload_n (pc' := 1) (dc D_Pri_costBy 0 rfl) rfl 0 rfl rfl ?_
  refine Sd_getR (pc' := 4) (dc D_Pri_costBy 1 rfl) rfl F_Pri_21 rfl rfl ?_
  refine Sd_iload_n (pc' := 5) (dc D_Pri_costBy 2 rfl) rfl 1 rfl rfl ?_
  refine Sd_aaload (t := 31) (j := 3) (C0 := RX5) (pc' := 6) (dc D_Pri_costBy 3 rfl) rfl rfl (by decide) ?_
  refine Sd_astore_n (pc' := 7) (l' := [(3, _), (0, _), (1, _), (2, _)]) (dc D_Pri_costBy 4 rfl) rfl rfl (by decide) rfl (fun _ => ?_)
  refine Sd_aload_n (pc' := 8) (dc D_Pri_costBy 5 rfl) rfl 1 rfl rfl ?_
  refine Sd_getR (pc' := 11) (dc D_Pri_costBy 6 rfl) rfl F_Pri_18 rfl rfl ?_
  refine Sd_bipush (pc' := 13) (dc D_Pri_costBy 7 rfl) rfl ⟨by decide, by decide⟩ (by decide) ?_
  refine Sd.callSV (as := [_, _]) (pc' := 16) (dc D_Pri_costBy 8 rfl) rfl K_Ary_fill L_Pri_84 Ks_Ary_fill ⟨by decide, by decide⟩ rfl rfl (Nat.le_of_ble_eq_true rfl) (s_Ary_fill _ _ _) (fun _ h4 => ?_)
  refine Sd_aload_n (pc' := 17) (dc D_Pri_costBy 9 rfl) rfl 0 rfl rfl ?_
  refine Sd_iconst (pc' := 18) (dc D_Pri_costBy 10 rfl) rfl ⟨by decide, by decide⟩ ?_
  refine Sd.callVI (ci := 5) (t := 6) (as := [_]) RX5 (pc' := 21) (dc D_Pri_costBy 11 rfl) rfl rfl rfl rfl K_Que_hasPart L_Pri_48 Ks_Que_hasPart Kv_Que_hasPart ⟨by decide, by decide⟩ rfl rfl (Nat.le_of_ble_eq_true rfl) (s_Que_hasPart _ _ _) (fun x8 h7 => ?_)
  refine Sd_if_eq (tgt := 33) (pc' := 24) (dc D_Pri_costBy 12 rfl) (by decide) rfl (fun _ => ?_) (fun _ => ?_)
  · refine Sd_iconst (pc' := 34) (dc D_Pri_costBy 18 rfl) rfl ⟨by decide, by decide⟩ ?_
    refine Sd_istore (pc' := 36) (l' := [(4, _), (3, _), (0, _), (1, _), (2, _)]) (dc D_Pri_costBy 19 rfl) rfl (by decide) rfl ?_
    refine Sd_iconst (pc' := 37) (dc D_Pri_costBy 20 rfl) rfl ⟨by decide, by decide⟩ ?_
    refine Sd_istore (pc' := 39) (l' := [(5, _), (4, _), (3, _), (0, _), (1, _), (2, _)]) (dc D_Pri_costBy 21 rfl) rfl (by decide) rfl ?_
    refine Sd.sub (l' := [(0, _), (2, _), (3, _), (4, _), (5, _)]) [3, 5, 2, 1, 0] rfl ?_
    exact s_Pri_costBy_L39 FU _ _ _ _ _ _
  · refine Sd_aload_n (pc' := 25) (dc D_Pri_costBy 13 rfl) rfl 1 rfl rfl ?_
    refine Sd_getR (pc' := 28) (dc D_Pri_costBy 14 rfl) rfl F_Pri_15 rfl rfl ?_
    refine Sd_iload_n (pc' := 29) (dc D_Pri_costBy 15 rfl) rfl 2 rfl rfl ?_
    refine Sd_iaload (pc' := 30) (dc D_Pri_costBy 16 rfl) rfl ?_
    refine Sd_goto (tgt := 34) (dc D_Pri_costBy 17 rfl) (by decide) ?_
    refine Sd_istore (pc' := 36) (l' := [(4, _), (3, _), (0, _), (1, _), (2, _)]) (dc D_Pri_costBy 19 rfl) rfl (by decide) rfl ?_
    refine Sd_iconst (pc' := 37) (dc D_Pri_costBy 20 rfl) rfl ⟨by decide, by decide⟩ ?_
    refine Sd_istore (pc' := 39) (l' := [(5, _), (4, _), (3, _), (0, _), (1, _), (2, _)]) (dc D_Pri_costBy 21 rfl) rfl (by decide) rfl ?_
    refine Sd.sub (l' := [(0, _), (2, _), (3, _), (4, _), (5, _)]) [3, 5, 2, 1, 0] rfl ?_
    exact s_Pri_costBy_L39 FU _ _ _ _ _ _
theorem K_Pri_costBy : MOk M_Pri_costBy 2 := ⟨Tb_at 129 (by decide +kernel) rfl, Tb_at 853 (by decide +kernel) rfl, by decide +kernel, by decide +kernel, by decide +kernel⟩
theorem Ks_Pri_costBy : Cond.instanceMethod yX4_costBy ∈ Tb := Tb_at 851 (by decide +kernel) rfl
theorem Kv_Pri_costBy : Cond.selects RX4 yX4_costBy yX4_costBy ∈ Tb := Tb_at 852 (by decide +kernel) rfl
/-! ===== BatchShare$Choices.addUnlike(LBatchShare$Part;)V ===== -/
abbrev M_Cho_addUnlike : AMt := (yX0_addUnlike, cX0_addUnlike, 3, none)
def T_Cho_addUnlike : List (Nat × Instr × Nat) := [(0, .iconst 0, 1), (1, .istore_n 2, 1), (2, .iload_n 2, 1), (3, .aload_n 0, 1), (4, .getfield 29, 3), (7, .if_icmp .ge 23, 3), (10, .aload_n 0, 1), (11, .getfield 11, 3), (14, .iload_n 2, 1), (15, .aaload, 1), (16, .aload_n 1, 1), (17, .invokevirtual 61, 3), (20, .ifCond .eq 4, 3), (23, .return_, 1), (24, .iinc 2 1, 3), (27, .goto (-25), 3), (30, .aload_n 0, 1), (31, .getfield 29, 3), (34, .bipush 108, 2), (36, .if_icmp .ge 26, 3), (39, .aload_n 0, 1), (40, .getfield 11, 3), (43, .aload_n 0, 1), (44, .getfield 29, 3), (47, .aaload, 1), (48, .aload_n 1, 1), (49, .invokevirtual 64, 3), (52, .aload_n 0, 1), (53, .dup, 1), (54, .getfield 29, 3), (57, .iconst 1, 1), (58, .iadd, 1), (59, .putfield 29, 3), (62, .return_, 1)]
set_option maxRecDepth 20000 in
theorem D_Cho_addUnlike : (T_Cho_addUnlike.all fun q => decide (decode M_Cho_addUnlike.2.1 q.1 = .ok q.2)) = true := by decide +kernel
def Cho_addUnlike_L2 : Nat → Nat → Nat → Int → AH → Option (Unit × AH)
  | 0, _, _, _, _ => none
  | n + 1, v0, v1, v2, h => gI h 1 v0 4 fun x1 => if (x1 : Int) ≤ v2 then (gI h 1 v0 4 fun x2 => if (108 : Int) ≤ x2 then (some ((), h)) else (gR h 1 v0 0 fun r3 => gI h 1 v0 4 fun x4 => aR h 36 r3 x4 fun r5 => rc h 4 r5 <| bnd (Par_copy r5 v1 h) fun _ h6 => gI h6 1 v0 4 fun x9 => pI h6 1 v0 4 (wr (x9 + 1)) fun h10 => some ((), h10))) else (gR h 1 v0 0 fun r11 => aR h 36 r11 v2 fun r12 => rc h 4 r12 <| bnd (Par_isLike r12 v1 h) fun x14 h13 => if (x14 : Int) = 0 then (Cho_addUnlike_L2 n v0 v1 ((wr (v2 + 1))) h13) else (some ((), h13)))
set_option maxHeartbeats 4000000 in
set_option maxRecDepth 20000 in
theorem s_Cho_addUnlike_L2 : ∀ (n : Nat) (v0 : Nat) (v1 : Nat) (v2 : Int) (h : AH), Sd M_Cho_addUnlike 2 47 emV 2 [(0, vr v0), (1, vr v1), (2, vi v2)] [] h (Cho_addUnlike_L2 n v0 v1 v2 h)
  | 0, _, _, _, _ => Sd.none
  | n + 1, v0, v1, v2, h => by
    rw [Cho_addUnlike_L2]
    refine Sd_iload_n (pc' := 3) (dc D_Cho_addUnlike 2 rfl) rfl 2 rfl rfl ?_
    refine Sd_aload_n (pc' := 4) (dc D_Cho_addUnlike 3 rfl) rfl 0 rfl rfl ?_
    refine Sd_getI (pc' := 7) (dc D_Cho_addUnlike 4 rfl) rfl F_Cho_29 rfl rfl ?_
    refine Sd_icmp_ge (tgt := 30) (pc' := 10) (dc D_Cho_addUnlike 5 rfl) (by decide) rfl (fun _ => ?_) (fun _ => ?_)
    · refine Sd_aload_n (pc' := 31) (dc D_Cho_addUnlike 16 rfl) rfl 0 rfl rfl ?_
      refine Sd_getI (pc' := 34) (dc D_Cho_addUnlike 17 rfl) rfl F_Cho_29 rfl rfl ?_
      refine Sd_bipush (pc' := 36) (dc D_Cho_addUnlike 18 rfl) rfl ⟨by decide, by decide⟩ (by decide) ?_
      refine Sd_icmp_ge (tgt := 62) (pc' := 39) (dc D_Cho_addUnlike 19 rfl) (by decide) rfl (fun _ => ?_) (fun _ => ?_)
      · exact Sd_vret (dc D_Cho_addUnlike 33 rfl) rfl
      · refine Sd_aload_n (pc' := 40) (dc D_Cho_addUnlike 20 rfl) rfl 0 rfl rfl ?_
        refine Sd_getR (pc' := 43) (dc D_Cho_addUnlike 21 rfl) rfl F_Cho_11 rfl rfl ?_
        refine Sd_aload_n (pc' := 44) (dc D_Cho_addUnlike 22 rfl) rfl 0 rfl rfl ?_
        refine Sd_getI (pc' := 47) (dc D_Cho_addUnlike 23 rfl) rfl F_Cho_29 rfl rfl ?_
        refine Sd_aaload (t := 36) (j := 8) (C0 := RX3) (pc' := 48) (dc D_Cho_addUnlike 24 rfl) rfl rfl (by decide) ?_
        refine Sd_aload_n (pc' := 49) (dc D_Cho_addUnlike 25 rfl) rfl 1 rfl rfl ?_
        refine Sd.callVV (ci := 3) (t := 4) (as := [_]) RX3 (pc' := 52) (dc D_Cho_addUnlike 26 rfl) rfl rfl rfl rfl K_Par_copy L_Cho_64 Ks_Par_copy Kv_Par_copy ⟨by decide, by decide⟩ rfl rfl (Nat.le_of_ble_eq_true rfl) (s_Par_copy _ _ _) (fun _ h6 => ?_)
        refine Sd_aload_n (pc' := 53) (dc D_Cho_addUnlike 27 rfl) rfl 0 rfl rfl ?_
        refine Sd_dup (pc' := 54) (dc D_Cho_addUnlike 28 rfl) rfl (cat_r _) ?_
        refine Sd_getI (pc' := 57) (dc D_Cho_addUnlike 29 rfl) rfl F_Cho_29 rfl rfl ?_
        refine Sd_iconst (pc' := 58) (dc D_Cho_addUnlike 30 rfl) rfl ⟨by decide, by decide⟩ ?_
        refine Sd_iadd (pc' := 59) (dc D_Cho_addUnlike 31 rfl) rfl ?_
        refine Sd_putI (pc' := 62) (dc D_Cho_addUnlike 32 rfl) rfl F_Cho_29 rfl rfl rfl (finOk.no rfl) (by decide) ?_
        exact Sd_vret (dc D_Cho_addUnlike 33 rfl) rfl
    · refine Sd_aload_n (pc' := 11) (dc D_Cho_addUnlike 6 rfl) rfl 0 rfl rfl ?_
      refine Sd_getR (pc' := 14) (dc D_Cho_addUnlike 7 rfl) rfl F_Cho_11 rfl rfl ?_
      refine Sd_iload_n (pc' := 15) (dc D_Cho_addUnlike 8 rfl) rfl 2 rfl rfl ?_
      refine Sd_aaload (t := 36) (j := 8) (C0 := RX3) (pc' := 16) (dc D_Cho_addUnlike 9 rfl) rfl rfl (by decide) ?_
      refine Sd_aload_n (pc' := 17) (dc D_Cho_addUnlike 10 rfl) rfl 1 rfl rfl ?_
      refine Sd.callVI (ci := 3) (t := 4) (as := [_]) RX3 (pc' := 20) (dc D_Cho_addUnlike 11 rfl) rfl rfl rfl rfl K_Par_isLike L_Cho_61 Ks_Par_isLike Kv_Par_isLike ⟨by decide, by decide⟩ rfl rfl (Nat.le_of_ble_eq_true rfl) (s_Par_isLike _ _ _) (fun x14 h13 => ?_)
      refine Sd_if_eq (tgt := 24) (pc' := 23) (dc D_Cho_addUnlike 12 rfl) (by decide) rfl (fun _ => ?_) (fun _ => ?_)
      · refine Sd_iinc (pc' := 27) (l' := [(2, _), (0, _), (1, _)]) (dc D_Cho_addUnlike 14 rfl) rfl 2 rfl (by decide) rfl ?_
        refine Sd_goto (tgt := 2) (dc D_Cho_addUnlike 15 rfl) (by decide) ?_
        refine Sd.sub (l' := [(0, _), (1, _), (2, _)]) [1, 2, 0] rfl ?_
        exact s_Cho_addUnlike_L2 n _ _ _ _
      · exact Sd_vret (dc D_Cho_addUnlike 13 rfl) rfl
def Cho_addUnlike (v0 : Nat) (v1 : Nat) (h : AH) : Option (Unit × AH) := Cho_addUnlike_L2 FU v0 v1 0 h
set_option maxHeartbeats 4000000 in
set_option maxRecDepth 20000 in
theorem s_Cho_addUnlike (v0 : Nat) (v1 : Nat) (h : AH) : CS M_Cho_addUnlike 2 47 emV [vr v0, vr v1] h (Cho_addUnlike v0 v1 h) := by
  refine CS.of (by decide) (Nat.le_of_ble_eq_true rfl) ?_
  show Sd M_Cho_addUnlike 2 47 emV 0 [(0, vr v0), (1, vr v1)] [] h _
  unfold Cho_addUnlike
  refine Sd_iconst (pc' := 1) (dc D_Cho_addUnlike 0 rfl) rfl ⟨by decide, by decide⟩ ?_
  refine Sd_istore_n (pc' := 2) (l' := [(2, _), (0, _), (1, _)]) (dc D_Cho_addUnlike 1 rfl) rfl rfl (by decide) rfl ?_
  refine Sd.sub (l' := [(0, _), (1, _), (2, _)]) [1, 2, 0] rfl ?_
  exact s_Cho_addUnlike_L2 FU _ _ _ _
theorem K_Cho_addUnlike : MOk M_Cho_addUnlike 1 := ⟨Tb_at 130 (by decide +kernel) rfl, Tb_at 879 (by decide +kernel) rfl, by decide +kernel, by decide +kernel, by decide +kernel⟩
theorem Ks_Cho_addUnlike : Cond.instanceMethod yX0_addUnlike ∈ Tb := Tb_at 878 (by decide +kernel) rfl
theorem Kv_Cho_addUnlike : Cond.selects RX0 yX0_addUnlike yX0_addUnlike ∈ Tb := Tb_at 21 (by decide +kernel) rfl
/-! ===== BatchShare$Choices.addWideOnes(I)V ===== -/
abbrev M_Cho_addWideOnes : AMt := (yX0_addWideOnes, cX0_addWideOnes, 4, none)
def T_Cho_addWideOnes : List (Nat × Instr × Nat) := [(0, .iconst 0, 1), (1, .istore_n 2, 1), (2, .iload_n 2, 1), (3, .iload_n 1, 1), (4, .if_icmp .ge 69, 3), (7, .iload_n 2, 1), (8, .iconst 1, 1), (9, .iadd, 1), (10, .istore_n 3, 1), (11, .iload_n 3, 1), (12, .iload_n 1, 1), (13, .if_icmp .ge 54, 3), (16, .aload_n 0, 1), (17, .getfield 11, 3), (20, .iload_n 2, 1), (21, .aaload, 1), (22, .aload_n 0, 1), (23, .getfield 11, 3), (26, .iload_n 3, 1), (27, .aaload, 1), (28, .invokevirtual 53, 3), (31, .ifCond .eq 30, 3), (34, .aload_n 0, 1), (35, .getfield 25, 3), (38, .aload_n 0, 1), (39, .getfield 11, 3), (42, .iload_n 2, 1), (43, .aaload, 1), (44, .aload_n 0, 1), (45, .getfield 11, 3), (48, .iload_n 3, 1), (49, .aaload, 1), (50, .invokevirtual 57, 3), (53, .aload_n 0, 1), (54, .aload_n 0, 1), (55, .getfield 25, 3), (58, .invokevirtual 45, 3), (61, .iinc 3 1, 3), (64, .goto (-53), 3), (67, .iinc 2 1, 3), (70, .goto (-68), 3), (73, .return_, 1)]
set_option maxRecDepth 20000 in
theorem D_Cho_addWideOnes : (T_Cho_addWideOnes.all fun q => decide (decode M_Cho_addWideOnes.2.1 q.1 = .ok q.2)) = true := by decide +kernel
def Cho_addWideOnes_L11 (k2 : Nat → Int → Int → AH → Option (Unit × AH)) : Nat → Nat → Int → Int → Int → AH → Option (Unit × AH)
  | 0, _, _, _, _, _ => none
  | n + 1, v0, v1, v2, v3, h => if (v1 : Int) ≤ v3 then (k2 v0 v1 ((wr (v2 + 1))) h) else (gR h 1 v0 0 fun r1 => aR h 36 r1 v2 fun r2 => gR h 1 v0 0 fun r3 => aR h 36 r3 v3 fun r4 => rc h 4 r2 <| bnd (Par_isOfSort r2 r4 h) fun x6 h5 => if (x6 : Int) = 0 then (Cho_addWideOnes_L11 k2 n v0 v1 v2 ((wr (v3 + 1))) h5) else (gR h5 1 v0 3 fun r8 => gR h5 1 v0 0 fun r9 => aR h5 36 r9 v2 fun r10 => gR h5 1 v0 0 fun r11 => aR h5 36 r11 v3 fun r12 => rc h5 4 r8 <| bnd (Par_widen r8 r10 r12 h5) fun _ h13 => gR h13 1 v0 3 fun r16 => rc h13 1 v0 <| bnd (Cho_addUnlike v0 r16 h13) fun _ h17 => Cho_addWideOnes_L11 k2 n v0 v1 v2 ((wr (v3 + 1))) h17))
set_option maxHeartbeats 4000000 in
set_option maxRecDepth 20000 in
theorem s_Cho_addWideOnes_L11 (k2 : Nat → Int → Int → AH → Option (Unit × AH)) (hk2 : ∀ v0 v1 v2 h, Sd M_Cho_addWideOnes 3 70 emV 2 [(0, vr v0), (1, vi v1), (2, vi v2)] [] h (k2 v0 v1 v2 h)) : ∀ (n : Nat) (v0 : Nat) (v1 : Int) (v2 : Int) (v3 : Int) (h : AH), Sd M_Cho_addWideOnes 3 70 emV 11 [(0, vr v0), (1, vi v1), (2, vi v2), (3, vi v3)] [] h (Cho_addWideOnes_L11 k2 n v0 v1 v2 v3 h)
  | 0, _, _, _, _, _ => Sd.none
  | n + 1, v0, v1, v2, v3, h => by
    rw [Cho_addWideOnes_L11]
    refine Sd_iload_n (pc' := 12) (dc D_Cho_addWideOnes 9 rfl) rfl 3 rfl rfl ?_
    refine Sd_iload_n (pc' := 13) (dc D_Cho_addWideOnes 10 rfl) rfl 1 rfl rfl ?_
    refine Sd_icmp_ge (tgt := 67) (pc' := 16) (dc D_Cho_addWideOnes 11 rfl) (by decide) rfl (fun _ => ?_) (fun _ => ?_)
    · refine Sd_iinc (pc' := 70) (l' := [(2, _), (0, _), (1, _), (3, _)]) (dc D_Cho_addWideOnes 39 rfl) rfl 2 rfl (by decide) rfl ?_
      refine Sd_goto (tgt := 2) (dc D_Cho_addWideOnes 40 rfl) (by decide) ?_
      refine Sd.sub (l' := [(0, _), (1, _), (2, _)]) [1, 2, 0] rfl ?_
      exact hk2 _ _ _ _
    · refine Sd_aload_n (pc' := 17) (dc D_Cho_addWideOnes 12 rfl) rfl 0 rfl rfl ?_
      refine Sd_getR (pc' := 20) (dc D_Cho_addWideOnes 13 rfl) rfl F_Cho_11 rfl rfl ?_
      refine Sd_iload_n (pc' := 21) (dc D_Cho_addWideOnes 14 rfl) rfl 2 rfl rfl ?_
      refine Sd_aaload (t := 36) (j := 8) (C0 := RX3) (pc' := 22) (dc D_Cho_addWideOnes 15 rfl) rfl rfl (by decide) ?_
      refine Sd_aload_n (pc' := 23) (dc D_Cho_addWideOnes 16 rfl) rfl 0 rfl rfl ?_
      refine Sd_getR (pc' := 26) (dc D_Cho_addWideOnes 17 rfl) rfl F_Cho_11 rfl rfl ?_
      refine Sd_iload_n (pc' := 27) (dc D_Cho_addWideOnes 18 rfl) rfl 3 rfl rfl ?_
      refine Sd_aaload (t := 36) (j := 8) (C0 := RX3) (pc' := 28) (dc D_Cho_addWideOnes 19 rfl) rfl rfl (by decide) ?_
      refine Sd.callVI (ci := 3) (t := 4) (as := [_]) RX3 (pc' := 31) (dc D_Cho_addWideOnes 20 rfl) rfl rfl rfl rfl K_Par_isOfSort L_Cho_53 Ks_Par_isOfSort Kv_Par_isOfSort ⟨by decide, by decide⟩ rfl rfl (Nat.le_of_ble_eq_true rfl) (s_Par_isOfSort _ _ _) (fun x6 h5 => ?_)
      refine Sd_if_eq (tgt := 61) (pc' := 34) (dc D_Cho_addWideOnes 21 rfl) (by decide) rfl (fun _ => ?_) (fun _ => ?_)
      · refine Sd_iinc (pc' := 64) (l' := [(3, _), (0, _), (1, _), (2, _)]) (dc D_Cho_addWideOnes 37 rfl) rfl 3 rfl (by decide) rfl ?_
        refine Sd_goto (tgt := 11) (dc D_Cho_addWideOnes 38 rfl) (by decide) ?_
        refine Sd.sub (l' := [(0, _), (1, _), (2, _), (3, _)]) [1, 2, 3, 0] rfl ?_
        exact s_Cho_addWideOnes_L11 k2 hk2 n _ _ _ _ _
      · refine Sd_aload_n (pc' := 35) (dc D_Cho_addWideOnes 22 rfl) rfl 0 rfl rfl ?_
        refine Sd_getR (pc' := 38) (dc D_Cho_addWideOnes 23 rfl) rfl F_Cho_25 rfl rfl ?_
        refine Sd_aload_n (pc' := 39) (dc D_Cho_addWideOnes 24 rfl) rfl 0 rfl rfl ?_
        refine Sd_getR (pc' := 42) (dc D_Cho_addWideOnes 25 rfl) rfl F_Cho_11 rfl rfl ?_
        refine Sd_iload_n (pc' := 43) (dc D_Cho_addWideOnes 26 rfl) rfl 2 rfl rfl ?_
        refine Sd_aaload (t := 36) (j := 8) (C0 := RX3) (pc' := 44) (dc D_Cho_addWideOnes 27 rfl) rfl rfl (by decide) ?_
        refine Sd_aload_n (pc' := 45) (dc D_Cho_addWideOnes 28 rfl) rfl 0 rfl rfl ?_
        refine Sd_getR (pc' := 48) (dc D_Cho_addWideOnes 29 rfl) rfl F_Cho_11 rfl rfl ?_
        refine Sd_iload_n (pc' := 49) (dc D_Cho_addWideOnes 30 rfl) rfl 3 rfl rfl ?_
        refine Sd_aaload (t := 36) (j := 8) (C0 := RX3) (pc' := 50) (dc D_Cho_addWideOnes 31 rfl) rfl rfl (by decide) ?_
        refine Sd.callVV (ci := 3) (t := 4) (as := [_, _]) RX3 (pc' := 53) (dc D_Cho_addWideOnes 32 rfl) rfl rfl rfl rfl K_Par_widen L_Cho_57 Ks_Par_widen Kv_Par_widen ⟨by decide, by decide⟩ rfl rfl (Nat.le_of_ble_eq_true rfl) (s_Par_widen _ _ _ _) (fun _ h13 => ?_)
        refine Sd_aload_n (pc' := 54) (dc D_Cho_addWideOnes 33 rfl) rfl 0 rfl rfl ?_
        refine Sd_aload_n (pc' := 55) (dc D_Cho_addWideOnes 34 rfl) rfl 0 rfl rfl ?_
        refine Sd_getR (pc' := 58) (dc D_Cho_addWideOnes 35 rfl) rfl F_Cho_25 rfl rfl ?_
        refine Sd.callVV (ci := 0) (t := 1) (as := [_]) RX0 (pc' := 61) (dc D_Cho_addWideOnes 36 rfl) rfl rfl rfl rfl K_Cho_addUnlike L_Cho_45 Ks_Cho_addUnlike Kv_Cho_addUnlike ⟨by decide, by decide⟩ rfl rfl (Nat.le_of_ble_eq_true rfl) (s_Cho_addUnlike _ _ _) (fun _ h17 => ?_)
        refine Sd_iinc (pc' := 64) (l' := [(3, _), (0, _), (1, _), (2, _)]) (dc D_Cho_addWideOnes 37 rfl) rfl 3 rfl (by decide) rfl ?_
        refine Sd_goto (tgt := 11) (dc D_Cho_addWideOnes 38 rfl) (by decide) ?_
        refine Sd.sub (l' := [(0, _), (1, _), (2, _), (3, _)]) [1, 2, 3, 0] rfl ?_
        exact s_Cho_addWideOnes_L11 k2 hk2 n _ _ _ _ _
def Cho_addWideOnes_L2 : Nat → Nat → Int → Int → AH → Option (Unit × AH)
  | 0, _, _, _, _ => none
  | n + 1, v0, v1, v2, h => if (v1 : Int) ≤ v2 then (some ((), h)) else (Cho_addWideOnes_L11 (Cho_addWideOnes_L2 n) FU v0 v1 v2 ((wr (v2 + 1))) h)
set_option maxHeartbeats 4000000 in
set_option maxRecDepth 20000 in
theorem s_Cho_addWideOnes_L2 : ∀ (n : Nat) (v0 : Nat) (v1 : Int) (v2 : Int) (h : AH), Sd M_Cho_addWideOnes 3 70 emV 2 [(0, vr v0), (1, vi v1), (2, vi v2)] [] h (Cho_addWideOnes_L2 n v0 v1 v2 h)
  | 0, _, _, _, _ => Sd.none
  | n + 1, v0, v1, v2, h => by
    rw [Cho_addWideOnes_L2]
    refine Sd_iload_n (pc' := 3) (dc D_Cho_addWideOnes 2 rfl) rfl 2 rfl rfl ?_
    refine Sd_iload_n (pc' := 4) (dc D_Cho_addWideOnes 3 rfl) rfl 1 rfl rfl ?_
    refine Sd_icmp_ge (tgt := 73) (pc' := 7) (dc D_Cho_addWideOnes 4 rfl) (by decide) rfl (fun _ => ?_) (fun _ => ?_)
    · exact Sd_vret (dc D_Cho_addWideOnes 41 rfl) rfl
    · refine Sd_iload_n (pc' := 8) (dc D_Cho_addWideOnes 5 rfl) rfl 2 rfl rfl ?_
      refine Sd_iconst (pc' := 9) (dc D_Cho_addWideOnes 6 rfl) rfl ⟨by decide, by decide⟩ ?_
      refine Sd_iadd (pc' := 10) (dc D_Cho_addWideOnes 7 rfl) rfl ?_
      refine Sd_istore_n (pc' := 11) (l' := [(3, _), (0, _), (1, _), (2, _)]) (dc D_Cho_addWideOnes 8 rfl) rfl rfl (by decide) rfl ?_
      refine Sd.sub (l' := [(0, _), (1, _), (2, _), (3, _)]) [1, 2, 3, 0] rfl ?_
      exact s_Cho_addWideOnes_L11 (Cho_addWideOnes_L2 n) (s_Cho_addWideOnes_L2 n) FU _ _ _ _ _
def Cho_addWideOnes (v0 : Nat) (v1 : Int) (h : AH) : Option (Unit × AH) := Cho_addWideOnes_L2 FU v0 v1 0 h
set_option maxHeartbeats 4000000 in
set_option maxRecDepth 20000 in
theorem s_Cho_addWideOnes (v0 : Nat) (v1 : Int) (h : AH) : CS M_Cho_addWideOnes 3 70 emV [vr v0, vi v1] h (Cho_addWideOnes v0 v1 h) := by
  refine CS.of (by decide) (Nat.le_of_ble_eq_true rfl) ?_
  show Sd M_Cho_addWideOnes 3 70 emV 0 [(0, vr v0), (1, vi v1)] [] h _
  unfold Cho_addWideOnes
  refine Sd_iconst (pc' := 1) (dc D_Cho_addWideOnes 0 rfl) rfl ⟨by decide, by decide⟩ ?_
  refine Sd_istore_n (pc' := 2) (l' := [(2, _), (0, _), (1, _)]) (dc D_Cho_addWideOnes 1 rfl) rfl rfl (by decide) rfl ?_
  refine Sd.sub (l' := [(0, _), (1, _), (2, _)]) [1, 2, 0] rfl ?_
  exact s_Cho_addWideOnes_L2 FU _ _ _ _
theorem K_Cho_addWideOnes : MOk M_Cho_addWideOnes 1 := ⟨Tb_at 130 (by decide +kernel) rfl, Tb_at 888 (by decide +kernel) rfl, by decide +kernel, by decide +kernel, by decide +kernel⟩
theorem Ks_Cho_addWideOnes : Cond.instanceMethod yX0_addWideOnes ∈ Tb := Tb_at 887 (by decide +kernel) rfl
theorem Kv_Cho_addWideOnes : Cond.selects RX0 yX0_addWideOnes yX0_addWideOnes ∈ Tb := Tb_at 22 (by decide +kernel) rfl
/-! ===== BatchShare$Choices.collect([LBatchShare$Query;ILBatchShare$State;)V ===== -/
abbrev M_Cho_collect : AMt := (yX0_collect, cX0_collect, 6, none)
def T_Cho_collect : List (Nat × Instr × Nat) := [(0, .aload_n 0, 1), (1, .iconst 0, 1), (2, .putfield 29, 3), (5, .iconst 0, 1), (6, .istore 4, 2), (8, .iload 4, 2), (10, .iload_n 2, 1), (11, .if_icmp .ge 66, 3), (14, .iload 4, 2), (16, .aload_n 1, 1), (17, .arraylength, 1), (18, .if_icmp .ge 59, 3), (21, .iconst 0, 1), (22, .istore 5, 2), (24, .iload 5, 2), (26, .iconst 3, 1), (27, .if_icmp .ge 44, 3), (30, .aload_n 3, 1), (31, .iload 4, 2), (33, .invokevirtual 33, 3), (36, .ifCond .ne 29, 3), (39, .aload_n 1, 1), (40, .iload 4, 2), (42, .aaload, 1), (43, .iload 5, 2), (45, .invokevirtual 39, 3), (48, .ifCond .eq 17, 3), (51, .aload_n 0, 1), (52, .aload_n 1, 1), (53, .iload 4, 2), (55, .aaload, 1), (56, .getfield 44, 3), (59, .iload 5, 2), (61, .aaload, 1), (62, .invokevirtual 45, 3), (65, .iinc 5 1, 3), (68, .goto (-44), 3), (71, .iinc 4 1, 3), (74, .goto (-66), 3), (77, .aload_n 0, 1), (78, .aload_n 0, 1), (79, .getfield 29, 3), (82, .invokevirtual 49, 3), (85, .return_, 1)]
set_option maxRecDepth 20000 in
theorem D_Cho_collect : (T_Cho_collect.all fun q => decide (decode M_Cho_collect.2.1 q.1 = .ok q.2)) = true := by decide +kernel
def Cho_collect_L24 (k8 : Nat → Nat → Int → Nat → Int → AH → Option (Unit × AH)) : Nat → Nat → Nat → Int → Nat → Int → Int → AH → Option (Unit × AH)
  | 0, _, _, _, _, _, _, _ => none
  | n + 1, v0, v1, v2, v3, v4, v5, h => if (3 : Int) ≤ v5 then (k8 v0 v1 v2 v3 ((wr (v4 + 1))) h) else (rc h 9 v3 <| bnd (Sta_isStruck v3 v4 h) fun x2 h1 => if ¬ (x2 : Int) = 0 then (Cho_collect_L24 k8 n v0 v1 v2 v3 v4 ((wr (v5 + 1))) h1) else (aR h1 31 v1 v4 fun r4 => rc h1 6 r4 <| bnd (Que_hasPart r4 v5 h1) fun x6 h5 => if (x6 : Int) = 0 then (Cho_collect_L24 k8 n v0 v1 v2 v3 v4 ((wr (v5 + 1))) h5) else (aR h5 31 v1 v4 fun r8 => gR h5 6 r8 1 fun r9 => aR h5 36 r9 v5 fun r10 => rc h5 1 v0 <| bnd (Cho_addUnlike v0 r10 h5) fun _ h11 => Cho_collect_L24 k8 n v0 v1 v2 v3 v4 ((wr (v5 + 1))) h11)))
set_option maxHeartbeats 4000000 in
set_option maxRecDepth 20000 in
theorem s_Cho_collect_L24 (k8 : Nat → Nat → Int → Nat → Int → AH → Option (Unit × AH)) (hk8 : ∀ v0 v1 v2 v3 v4 h, Sd M_Cho_collect 4 93 emV 8 [(0, vr v0), (1, vr v1), (2, vi v2), (3, vr v3), (4, vi v4)] [] h (k8 v0 v1 v2 v3 v4 h)) : ∀ (n : Nat) (v0 : Nat) (v1 : Nat) (v2 : Int) (v3 : Nat) (v4 : Int) (v5 : Int) (h : AH), Sd M_Cho_collect 4 93 emV 24 [(0, vr v0), (1, vr v1), (2, vi v2), (3, vr v3), (4, vi v4), (5, vi v5)] [] h (Cho_collect_L24 k8 n v0 v1 v2 v3 v4 v5 h)
  | 0, _, _, _, _, _, _, _ => Sd.none
  | n + 1, v0, v1, v2, v3, v4, v5, h => by
    rw [Cho_collect_L24]
    refine Sd_iload (pc' := 26) (dc D_Cho_collect 14 rfl) rfl 5 rfl ?_
    refine Sd_iconst (pc' := 27) (dc D_Cho_collect 15 rfl) rfl ⟨by decide, by decide⟩ ?_
    refine Sd_icmp_ge (tgt := 71) (pc' := 30) (dc D_Cho_collect 16 rfl) (by decide) rfl (fun _ => ?_) (fun _ => ?_)
    · refine Sd_iinc (pc' := 74) (l' := [(4, _), (0, _), (1, _), (2, _), (3, _), (5, _)]) (dc D_Cho_collect 37 rfl) rfl 4 rfl (by decide) rfl ?_
      refine Sd_goto (tgt := 8) (dc D_Cho_collect 38 rfl) (by decide) ?_
      refine Sd.sub (l' := [(0, _), (1, _), (2, _), (3, _), (4, _)]) [1, 2, 3, 4, 0] rfl ?_
      exact hk8 _ _ _ _ _ _
    · refine Sd_aload_n (pc' := 31) (dc D_Cho_collect 17 rfl) rfl 3 rfl rfl ?_
      refine Sd_iload (pc' := 33) (dc D_Cho_collect 18 rfl) rfl 4 rfl ?_
      refine Sd.callVI (ci := 8) (t := 9) (as := [_]) RX8 (pc' := 36) (dc D_Cho_collect 19 rfl) rfl rfl rfl rfl K_Sta_isStruck L_Cho_33 Ks_Sta_isStruck Kv_Sta_isStruck ⟨by decide, by decide⟩ rfl rfl (Nat.le_of_ble_eq_true rfl) (s_Sta_isStruck _ _ _) (fun x2 h1 => ?_)
      refine Sd_if_ne (tgt := 65) (pc' := 39) (dc D_Cho_collect 20 rfl) (by decide) rfl (fun _ => ?_) (fun _ => ?_)
      · refine Sd_iinc (pc' := 68) (l' := [(5, _), (0, _), (1, _), (2, _), (3, _), (4, _)]) (dc D_Cho_collect 35 rfl) rfl 5 rfl (by decide) rfl ?_
        refine Sd_goto (tgt := 24) (dc D_Cho_collect 36 rfl) (by decide) ?_
        refine Sd.sub (l' := [(0, _), (1, _), (2, _), (3, _), (4, _), (5, _)]) [1, 2, 3, 4, 5, 0] rfl ?_
        exact s_Cho_collect_L24 k8 hk8 n _ _ _ _ _ _ _
      · refine Sd_aload_n (pc' := 40) (dc D_Cho_collect 21 rfl) rfl 1 rfl rfl ?_
        refine Sd_iload (pc' := 42) (dc D_Cho_collect 22 rfl) rfl 4 rfl ?_
        refine Sd_aaload (t := 31) (j := 3) (C0 := RX5) (pc' := 43) (dc D_Cho_collect 23 rfl) rfl rfl (by decide) ?_
        refine Sd_iload (pc' := 45) (dc D_Cho_collect 24 rfl) rfl 5 rfl ?_
        refine Sd.callVI (ci := 5) (t := 6) (as := [_]) RX5 (pc' := 48) (dc D_Cho_collect 25 rfl) rfl rfl rfl rfl K_Que_hasPart L_Cho_39 Ks_Que_hasPart Kv_Que_hasPart ⟨by decide, by decide⟩ rfl rfl (Nat.le_of_ble_eq_true rfl) (s_Que_hasPart _ _ _) (fun x6 h5 => ?_)
        refine Sd_if_eq (tgt := 65) (pc' := 51) (dc D_Cho_collect 26 rfl) (by decide) rfl (fun _ => ?_) (fun _ => ?_)
        · refine Sd_iinc (pc' := 68) (l' := [(5, _), (0, _), (1, _), (2, _), (3, _), (4, _)]) (dc D_Cho_collect 35 rfl) rfl 5 rfl (by decide) rfl ?_
          refine Sd_goto (tgt := 24) (dc D_Cho_collect 36 rfl) (by decide) ?_
          refine Sd.sub (l' := [(0, _), (1, _), (2, _), (3, _), (4, _), (5, _)]) [1, 2, 3, 4, 5, 0] rfl ?_
          exact s_Cho_collect_L24 k8 hk8 n _ _ _ _ _ _ _
        · refine Sd_aload_n (pc' := 52) (dc D_Cho_collect 27 rfl) rfl 0 rfl rfl ?_
          refine Sd_aload_n (pc' := 53) (dc D_Cho_collect 28 rfl) rfl 1 rfl rfl ?_
          refine Sd_iload (pc' := 55) (dc D_Cho_collect 29 rfl) rfl 4 rfl ?_
          refine Sd_aaload (t := 31) (j := 3) (C0 := RX5) (pc' := 56) (dc D_Cho_collect 30 rfl) rfl rfl (by decide) ?_
          refine Sd_getR (pc' := 59) (dc D_Cho_collect 31 rfl) rfl F_Cho_44 rfl rfl ?_
          refine Sd_iload (pc' := 61) (dc D_Cho_collect 32 rfl) rfl 5 rfl ?_
          refine Sd_aaload (t := 36) (j := 8) (C0 := RX3) (pc' := 62) (dc D_Cho_collect 33 rfl) rfl rfl (by decide) ?_
          refine Sd.callVV (ci := 0) (t := 1) (as := [_]) RX0 (pc' := 65) (dc D_Cho_collect 34 rfl) rfl rfl rfl rfl K_Cho_addUnlike L_Cho_45 Ks_Cho_addUnlike Kv_Cho_addUnlike ⟨by decide, by decide⟩ rfl rfl (Nat.le_of_ble_eq_true rfl) (s_Cho_addUnlike _ _ _) (fun _ h11 => ?_)
          refine Sd_iinc (pc' := 68) (l' := [(5, _), (0, _), (1, _), (2, _), (3, _), (4, _)]) (dc D_Cho_collect 35 rfl) rfl 5 rfl (by decide) rfl ?_
          refine Sd_goto (tgt := 24) (dc D_Cho_collect 36 rfl) (by decide) ?_
          refine Sd.sub (l' := [(0, _), (1, _), (2, _), (3, _), (4, _), (5, _)]) [1, 2, 3, 4, 5, 0] rfl ?_
          exact s_Cho_collect_L24 k8 hk8 n _ _ _ _ _ _ _
def Cho_collect_L8 : Nat → Nat → Nat → Int → Nat → Int → AH → Option (Unit × AH)
  | 0, _, _, _, _, _, _ => none
  | n + 1, v0, v1, v2, v3, v4, h => if (v2 : Int) ≤ v4 then (gI h 1 v0 4 fun x1 => rc h 1 v0 <| bnd (Cho_addWideOnes v0 x1 h) fun _ h2 => some ((), h2)) else (aN h 31 v1 fun x5 => if (x5 : Int) ≤ v4 then (gI h 1 v0 4 fun x6 => rc h 1 v0 <| bnd (Cho_addWideOnes v0 x6 h) fun _ h7 => some ((), h7)) else (Cho_collect_L24 (Cho_collect_L8 n) FU v0 v1 v2 v3 v4 0 h))
set_option maxHeartbeats 4000000 in
set_option maxRecDepth 20000 in
theorem s_Cho_collect_L8 : ∀ (n : Nat) (v0 : Nat) (v1 : Nat) (v2 : Int) (v3 : Nat) (v4 : Int) (h : AH), Sd M_Cho_collect 4 93 emV 8 [(0, vr v0), (1, vr v1), (2, vi v2), (3, vr v3), (4, vi v4)] [] h (Cho_collect_L8 n v0 v1 v2 v3 v4 h)
  | 0, _, _, _, _, _, _ => Sd.none
  | n + 1, v0, v1, v2, v3, v4, h => by
    rw [Cho_collect_L8]
    refine Sd_iload (pc' := 10) (dc D_Cho_collect 5 rfl) rfl 4 rfl ?_
    refine Sd_iload_n (pc' := 11) (dc D_Cho_collect 6 rfl) rfl 2 rfl rfl ?_
    refine Sd_icmp_ge (tgt := 77) (pc' := 14) (dc D_Cho_collect 7 rfl) (by decide) rfl (fun _ => ?_) (fun _ => ?_)
    · refine Sd_aload_n (pc' := 78) (dc D_Cho_collect 39 rfl) rfl 0 rfl rfl ?_
      refine Sd_aload_n (pc' := 79) (dc D_Cho_collect 40 rfl) rfl 0 rfl rfl ?_
      refine Sd_getI (pc' := 82) (dc D_Cho_collect 41 rfl) rfl F_Cho_29 rfl rfl ?_
      refine Sd.callVV (ci := 0) (t := 1) (as := [_]) RX0 (pc' := 85) (dc D_Cho_collect 42 rfl) rfl rfl rfl rfl K_Cho_addWideOnes L_Cho_49 Ks_Cho_addWideOnes Kv_Cho_addWideOnes ⟨by decide, by decide⟩ rfl rfl (Nat.le_of_ble_eq_true rfl) (s_Cho_addWideOnes _ _ _) (fun _ h2 => ?_)
      exact Sd_vret (dc D_Cho_collect 43 rfl) rfl
    · refine Sd_iload (pc' := 16) (dc D_Cho_collect 8 rfl) rfl 4 rfl ?_
      refine Sd_aload_n (pc' := 17) (dc D_Cho_collect 9 rfl) rfl 1 rfl rfl ?_
      refine Sd_alen (t := 31) (j := 3) (pc' := 18) (dc D_Cho_collect 10 rfl) rfl rfl (by decide) (by decide) ?_
      refine Sd_icmp_ge (tgt := 77) (pc' := 21) (dc D_Cho_collect 11 rfl) (by decide) rfl (fun _ => ?_) (fun _ => ?_)
      · refine Sd_aload_n (pc' := 78) (dc D_Cho_collect 39 rfl) rfl 0 rfl rfl ?_
        refine Sd_aload_n (pc' := 79) (dc D_Cho_collect 40 rfl) rfl 0 rfl rfl ?_
        refine Sd_getI (pc' := 82) (dc D_Cho_collect 41 rfl) rfl F_Cho_29 rfl rfl ?_
        refine Sd.callVV (ci := 0) (t := 1) (as := [_]) RX0 (pc' := 85) (dc D_Cho_collect 42 rfl) rfl rfl rfl rfl K_Cho_addWideOnes L_Cho_49 Ks_Cho_addWideOnes Kv_Cho_addWideOnes ⟨by decide, by decide⟩ rfl rfl (Nat.le_of_ble_eq_true rfl) (s_Cho_addWideOnes _ _ _) (fun _ h7 => ?_)
        exact Sd_vret (dc D_Cho_collect 43 rfl) rfl
      · refine Sd_iconst (pc' := 22) (dc D_Cho_collect 12 rfl) rfl ⟨by decide, by decide⟩ ?_
        refine Sd_istore (pc' := 24) (l' := [(5, _), (0, _), (1, _), (2, _), (3, _), (4, _)]) (dc D_Cho_collect 13 rfl) rfl (by decide) rfl ?_
        refine Sd.sub (l' := [(0, _), (1, _), (2, _), (3, _), (4, _), (5, _)]) [1, 2, 3, 4, 5, 0] rfl ?_
        exact s_Cho_collect_L24 (Cho_collect_L8 n) (s_Cho_collect_L8 n) FU _ _ _ _ _ _ _
def Cho_collect (v0 : Nat) (v1 : Nat) (v2 : Int) (v3 : Nat) (h : AH) : Option (Unit × AH) := pI h 1 v0 4 0 fun h1 => Cho_collect_L8 FU v0 v1 v2 v3 0 h1
set_option maxHeartbeats 4000000 in
set_option maxRecDepth 20000 in
theorem s_Cho_collect (v0 : Nat) (v1 : Nat) (v2 : Int) (v3 : Nat) (h : AH) : CS M_Cho_collect 4 93 emV [vr v0, vr v1, vi v2, vr v3] h (Cho_collect v0 v1 v2 v3 h) := by
  refine CS.of (by decide) (Nat.le_of_ble_eq_true rfl) ?_
  show Sd M_Cho_collect 4 93 emV 0 [(0, vr v0), (1, vr v1), (2, vi v2), (3, vr v3)] [] h _
  unfold Cho_collect
  refine Sd_aload_n (pc' := 1) (dc D_Cho_collect 0 rfl) rfl 0 rfl rfl ?_
  refine Sd_iconst (pc' := 2) (dc D_Cho_collect 1 rfl) rfl ⟨by decide, by decide⟩ ?_
  refine Sd_putI (pc' := 5) (dc D_Cho_collect 2 rfl) rfl F_Cho_29 rfl rfl rfl (finOk.no rfl) (by decide) ?_
  refine Sd_iconst (pc' := 6) (dc D_Cho_collect 3 rfl) rfl ⟨by decide, by decide⟩ ?_
  refine Sd_istore (pc' := 8) (l' := [(4, _), (0, _), (1, _), (2, _), (3, _)]) (dc D_Cho_collect 4 rfl) rfl (by decide) rfl ?_
  refine Sd.sub (l' := [(0, _), (1, _), (2, _), (3, _), (4, _)]) [1, 2, 3, 4, 0] rfl ?_
  exact s_Cho_collect_L8 FU _ _ _ _ _ _
theorem K_Cho_collect : MOk M_Cho_collect 3 := ⟨Tb_at 130 (by decide +kernel) rfl, Tb_at 873 (by decide +kernel) rfl, by decide +kernel, by decide +kernel, by decide +kernel⟩
theorem Ks_Cho_collect : Cond.instanceMethod yX0_collect ∈ Tb := Tb_at 871 (by decide +kernel) rfl
theorem Kv_Cho_collect : Cond.selects RX0 yX0_collect yX0_collect ∈ Tb := Tb_at 872 (by decide +kernel) rfl
/-! ===== BatchShare$Choices.has(I)Z ===== -/
abbrev M_Cho_has : AMt := (yX0_has, cX0_has, 2, (some .boolean))
def T_Cho_has : List (Nat × Instr × Nat) := [(0, .iload_n 1, 1), (1, .ifCond .lt 15, 3), (4, .iload_n 1, 1), (5, .aload_n 0, 1), (6, .getfield 29, 3), (9, .if_icmp .ge 7, 3), (12, .iconst 1, 1), (13, .goto 4, 3), (16, .iconst 0, 1), (17, .ireturn, 1)]
set_option maxRecDepth 20000 in
theorem D_Cho_has : (T_Cho_has.all fun q => decide (decode M_Cho_has.2.1 q.1 = .ok q.2)) = true := by decide +kernel
def Cho_has (v0 : Nat) (v1 : Int) (h : AH) : Option (Int × AH) := if (v1 : Int) < 0 then (some (0, h)) else (gI h 1 v0 4 fun x1 => if (x1 : Int) ≤ v1 then (some (0, h)) else (some (1, h)))
set_option maxHeartbeats 4000000 in
set_option maxRecDepth 20000 in
theorem s_Cho_has (v0 : Nat) (v1 : Int) (h : AH) : CS M_Cho_has 1 0 emI [vr v0, vi v1] h (Cho_has v0 v1 h) := by
  refine CS.of (by decide) (Nat.le_of_ble_eq_true rfl) ?_
  show Sd M_Cho_has 1 0 emI 0 [(0, vr v0), (1, vi v1)] [] h _
  unfold Cho_has
  refine Sd_iload_n (pc' := 1) (dc D_Cho_has 0 rfl) rfl 1 rfl rfl ?_
  refine Sd_if_lt (tgt := 16) (pc' := 4) (dc D_Cho_has 1 rfl) (by decide) rfl (fun _ => ?_) (fun _ => ?_)
  · refine Sd_iconst (pc' := 17) (dc D_Cho_has 8 rfl) rfl ⟨by decide, by decide⟩ ?_
    exact Sd_zret (dc D_Cho_has 9 rfl) rfl (Or.inl rfl)
  · refine Sd_iload_n (pc' := 5) (dc D_Cho_has 2 rfl) rfl 1 rfl rfl ?_
    refine Sd_aload_n (pc' := 6) (dc D_Cho_has 3 rfl) rfl 0 rfl rfl ?_
    refine Sd_getI (pc' := 9) (dc D_Cho_has 4 rfl) rfl F_Cho_29 rfl rfl ?_
    refine Sd_icmp_ge (tgt := 16) (pc' := 12) (dc D_Cho_has 5 rfl) (by decide) rfl (fun _ => ?_) (fun _ => ?_)
    · refine Sd_iconst (pc' := 17) (dc D_Cho_has 8 rfl) rfl ⟨by decide, by decide⟩ ?_
      exact Sd_zret (dc D_Cho_has 9 rfl) rfl (Or.inl rfl)
    · refine Sd_iconst (pc' := 13) (dc D_Cho_has 6 rfl) rfl ⟨by decide, by decide⟩ ?_
      refine Sd_goto (tgt := 17) (dc D_Cho_has 7 rfl) (by decide) ?_
      exact Sd_zret (dc D_Cho_has 9 rfl) rfl (Or.inr rfl)
theorem K_Cho_has : MOk M_Cho_has 1 := ⟨Tb_at 130 (by decide +kernel) rfl, Tb_at 916 (by decide +kernel) rfl, by decide +kernel, by decide +kernel, by decide +kernel⟩
theorem Ks_Cho_has : Cond.instanceMethod yX0_has ∈ Tb := Tb_at 914 (by decide +kernel) rfl
theorem Kv_Cho_has : Cond.selects RX0 yX0_has yX0_has ∈ Tb := Tb_at 915 (by decide +kernel) rfl
/-! ===== BatchShare$Choices.measure(LBatchShare$State;)V ===== -/
abbrev M_Cho_measure : AMt := (yX0_measure, cX0_measure, 3, none)
def T_Cho_measure : List (Nat × Instr × Nat) := [(0, .iconst 0, 1), (1, .istore_n 2, 1), (2, .iload_n 2, 1), (3, .aload_n 0, 1), (4, .getfield 29, 3), (7, .if_icmp .ge 41, 3), (10, .aload_n 0, 1), (11, .getfield 17, 3), (14, .iload_n 2, 1), (15, .aload_n 0, 1), (16, .getfield 11, 3), (19, .iload_n 2, 1), (20, .aaload, 1), (21, .aload_n 1, 1), (22, .invokevirtual 67, 3), (25, .iastore, 1), (26, .aload_n 0, 1), (27, .getfield 21, 3), (30, .iload_n 2, 1), (31, .aload_n 0, 1), (32, .getfield 11, 3), (35, .iload_n 2, 1), (36, .aaload, 1), (37, .aload_n 1, 1), (38, .invokevirtual 71, 3), (41, .iastore, 1), (42, .iinc 2 1, 3), (45, .goto (-43), 3), (48, .return_, 1)]
set_option maxRecDepth 20000 in
theorem D_Cho_measure : (T_Cho_measure.all fun q => decide (decode M_Cho_measure.2.1 q.1 = .ok q.2)) = true := by decide +kernel
def Cho_measure_L2 : Nat → Nat → Nat → Int → AH → Option (Unit × AH)
  | 0, _, _, _, _ => none
  | n + 1, v0, v1, v2, h => gI h 1 v0 4 fun x1 => if (x1 : Int) ≤ v2 then (some ((), h)) else (gR h 1 v0 1 fun r2 => gR h 1 v0 0 fun r3 => aR h 36 r3 v2 fun r4 => rc h 4 r4 <| bnd (Par_rowsIn r4 v1 h) fun x6 h5 => wI h5 21 r2 v2 x6 fun h8 => gR h8 1 v0 2 fun r9 => gR h8 1 v0 0 fun r10 => aR h8 36 r10 v2 fun r11 => rc h8 4 r11 <| bnd (Par_makeIn r11 v1 h8) fun x13 h12 => wI h12 21 r9 v2 x13 fun h15 => Cho_measure_L2 n v0 v1 ((wr (v2 + 1))) h15)
set_option maxHeartbeats 4000000 in
set_option maxRecDepth 20000 in
theorem s_Cho_measure_L2 : ∀ (n : Nat) (v0 : Nat) (v1 : Nat) (v2 : Int) (h : AH), Sd M_Cho_measure 5 94 emV 2 [(0, vr v0), (1, vr v1), (2, vi v2)] [] h (Cho_measure_L2 n v0 v1 v2 h)
  | 0, _, _, _, _ => Sd.none
  | n + 1, v0, v1, v2, h => by
    rw [Cho_measure_L2]
    refine Sd_iload_n (pc' := 3) (dc D_Cho_measure 2 rfl) rfl 2 rfl rfl ?_
    refine Sd_aload_n (pc' := 4) (dc D_Cho_measure 3 rfl) rfl 0 rfl rfl ?_
    refine Sd_getI (pc' := 7) (dc D_Cho_measure 4 rfl) rfl F_Cho_29 rfl rfl ?_
    refine Sd_icmp_ge (tgt := 48) (pc' := 10) (dc D_Cho_measure 5 rfl) (by decide) rfl (fun _ => ?_) (fun _ => ?_)
    · exact Sd_vret (dc D_Cho_measure 28 rfl) rfl
    · refine Sd_aload_n (pc' := 11) (dc D_Cho_measure 6 rfl) rfl 0 rfl rfl ?_
      refine Sd_getR (pc' := 14) (dc D_Cho_measure 7 rfl) rfl F_Cho_17 rfl rfl ?_
      refine Sd_iload_n (pc' := 15) (dc D_Cho_measure 8 rfl) rfl 2 rfl rfl ?_
      refine Sd_aload_n (pc' := 16) (dc D_Cho_measure 9 rfl) rfl 0 rfl rfl ?_
      refine Sd_getR (pc' := 19) (dc D_Cho_measure 10 rfl) rfl F_Cho_11 rfl rfl ?_
      refine Sd_iload_n (pc' := 20) (dc D_Cho_measure 11 rfl) rfl 2 rfl rfl ?_
      refine Sd_aaload (t := 36) (j := 8) (C0 := RX3) (pc' := 21) (dc D_Cho_measure 12 rfl) rfl rfl (by decide) ?_
      refine Sd_aload_n (pc' := 22) (dc D_Cho_measure 13 rfl) rfl 1 rfl rfl ?_
      refine Sd.callVI (ci := 3) (t := 4) (as := [_]) RX3 (pc' := 25) (dc D_Cho_measure 14 rfl) rfl rfl rfl rfl K_Par_rowsIn L_Cho_67 Ks_Par_rowsIn Kv_Par_rowsIn ⟨by decide, by decide⟩ rfl rfl (Nat.le_of_ble_eq_true rfl) (s_Par_rowsIn _ _ _) (fun x6 h5 => ?_)
      refine Sd_iastore (pc' := 26) (dc D_Cho_measure 15 rfl) rfl (by decide) ?_
      refine Sd_aload_n (pc' := 27) (dc D_Cho_measure 16 rfl) rfl 0 rfl rfl ?_
      refine Sd_getR (pc' := 30) (dc D_Cho_measure 17 rfl) rfl F_Cho_21 rfl rfl ?_
      refine Sd_iload_n (pc' := 31) (dc D_Cho_measure 18 rfl) rfl 2 rfl rfl ?_
      refine Sd_aload_n (pc' := 32) (dc D_Cho_measure 19 rfl) rfl 0 rfl rfl ?_
      refine Sd_getR (pc' := 35) (dc D_Cho_measure 20 rfl) rfl F_Cho_11 rfl rfl ?_
      refine Sd_iload_n (pc' := 36) (dc D_Cho_measure 21 rfl) rfl 2 rfl rfl ?_
      refine Sd_aaload (t := 36) (j := 8) (C0 := RX3) (pc' := 37) (dc D_Cho_measure 22 rfl) rfl rfl (by decide) ?_
      refine Sd_aload_n (pc' := 38) (dc D_Cho_measure 23 rfl) rfl 1 rfl rfl ?_
      refine Sd.callVI (ci := 3) (t := 4) (as := [_]) RX3 (pc' := 41) (dc D_Cho_measure 24 rfl) rfl rfl rfl rfl K_Par_makeIn L_Cho_71 Ks_Par_makeIn Kv_Par_makeIn ⟨by decide, by decide⟩ rfl rfl (Nat.le_of_ble_eq_true rfl) (s_Par_makeIn _ _ _) (fun x13 h12 => ?_)
      refine Sd_iastore (pc' := 42) (dc D_Cho_measure 25 rfl) rfl (by decide) ?_
      refine Sd_iinc (pc' := 45) (l' := [(2, _), (0, _), (1, _)]) (dc D_Cho_measure 26 rfl) rfl 2 rfl (by decide) rfl ?_
      refine Sd_goto (tgt := 2) (dc D_Cho_measure 27 rfl) (by decide) ?_
      refine Sd.sub (l' := [(0, _), (1, _), (2, _)]) [1, 2, 0] rfl ?_
      exact s_Cho_measure_L2 n _ _ _ _
def Cho_measure (v0 : Nat) (v1 : Nat) (h : AH) : Option (Unit × AH) := Cho_measure_L2 FU v0 v1 0 h
set_option maxHeartbeats 4000000 in
set_option maxRecDepth 20000 in
theorem s_Cho_measure (v0 : Nat) (v1 : Nat) (h : AH) : CS M_Cho_measure 5 94 emV [vr v0, vr v1] h (Cho_measure v0 v1 h) := by
  refine CS.of (by decide) (Nat.le_of_ble_eq_true rfl) ?_
  show Sd M_Cho_measure 5 94 emV 0 [(0, vr v0), (1, vr v1)] [] h _
  unfold Cho_measure
  refine Sd_iconst (pc' := 1) (dc D_Cho_measure 0 rfl) rfl ⟨by decide, by decide⟩ ?_
  refine Sd_istore_n (pc' := 2) (l' := [(2, _), (0, _), (1, _)]) (dc D_Cho_measure 1 rfl) rfl rfl (by decide) rfl ?_
  refine Sd.sub (l' := [(0, _), (1, _), (2, _)]) [1, 2, 0] rfl ?_
  exact s_Cho_measure_L2 FU _ _ _ _
theorem K_Cho_measure : MOk M_Cho_measure 1 := ⟨Tb_at 130 (by decide +kernel) rfl, Tb_at 932 (by decide +kernel) rfl, by decide +kernel, by decide +kernel, by decide +kernel⟩
theorem Ks_Cho_measure : Cond.instanceMethod yX0_measure ∈ Tb := Tb_at 930 (by decide +kernel) rfl
theorem Kv_Cho_measure : Cond.selects RX0 yX0_measure yX0_measure ∈ Tb := Tb_at 931 (by decide +kernel) rfl
/-! ===== BatchShare$Pricer.batchBy(LBatchShare$Shelf;)I ===== -/
abbrev M_Pri_batchBy : AMt := (yX4_batchBy, cX4_batchBy, 4, (some .int))
def T_Pri_batchBy : List (Nat × Instr × Nat) := [(0, .iconst 0, 1), (1, .istore_n 2, 1), (2, .iconst 0, 1), (3, .istore_n 3, 1), (4, .iload_n 3, 1), (5, .aload_n 0, 1), (6, .getfield 31, 3), (9, .if_icmp .ge 29, 3), (12, .aload_n 0, 1), (13, .getfield 40, 3), (16, .iload_n 3, 1), (17, .ishr, 1), (18, .iconst 1, 1), (19, .iand, 1), (20, .ifCond .ne 12, 3), (23, .iload_n 2, 1), (24, .aload_n 0, 1), (25, .iload_n 3, 1), (26, .aload_n 1, 1), (27, .invokevirtual 64, 3), (30, .iadd, 1), (31, .istore_n 2, 1), (32, .iinc 3 1, 3), (35, .goto (-31), 3), (38, .iload_n 2, 1), (39, .ireturn, 1)]
set_option maxRecDepth 20000 in
theorem D_Pri_batchBy : (T_Pri_batchBy.all fun q => decide (decode M_Pri_batchBy.2.1 q.1 = .ok q.2)) = true := by decide +kernel
def Pri_batchBy_L4 : Nat → Nat → Nat → Int → Int → AH → Option (Int × AH)
  | 0, _, _, _, _, _ => none
  | n + 1, v0, v1, v2, v3, h => gI h 5 v0 4 fun x1 => if (x1 : Int) ≤ v3 then (some (v2, h)) else (gI h 5 v0 5 fun x2 => if ¬ ((iAnd (iShr x2 v3) 1) : Int) = 0 then (Pri_batchBy_L4 n v0 v1 v2 ((wr (v3 + 1))) h) else (rc h 5 v0 <| bnd (Pri_costBy v0 v3 v1 h) fun x4 h3 => Pri_batchBy_L4 n v0 v1 ((wr (v2 + x4))) ((wr (v3 + 1))) h3))
set_option maxHeartbeats 4000000 in
set_option maxRecDepth 20000 in
theorem s_Pri_batchBy_L4 : ∀ (n : Nat) (v0 : Nat) (v1 : Nat) (v2 : Int) (v3 : Int) (h : AH), Sd M_Pri_batchBy 4 75 emI 4 [(0, vr v0), (1, vr v1), (2, vi v2), (3, vi v3)] [] h (Pri_batchBy_L4 n v0 v1 v2 v3 h)
  | 0, _, _, _, _, _ => Sd.none
  | n + 1, v0, v1, v2, v3, h => by
    rw [Pri_batchBy_L4]
    refine Sd_iload_n (pc' := 5) (dc D_Pri_batchBy 4 rfl) rfl 3 rfl rfl ?_
    refine Sd_aload_n (pc' := 6) (dc D_Pri_batchBy 5 rfl) rfl 0 rfl rfl ?_
    refine Sd_getI (pc' := 9) (dc D_Pri_batchBy 6 rfl) rfl F_Pri_31 rfl rfl ?_
    refine Sd_icmp_ge (tgt := 38) (pc' := 12) (dc D_Pri_batchBy 7 rfl) (by decide) rfl (fun _ => ?_) (fun _ => ?_)
    · refine Sd_iload_n (pc' := 39) (dc D_Pri_batchBy 24 rfl) rfl 2 rfl rfl ?_
      exact Sd_iret (dc D_Pri_batchBy 25 rfl) rfl
    · refine Sd_aload_n (pc' := 13) (dc D_Pri_batchBy 8 rfl) rfl 0 rfl rfl ?_
      refine Sd_getI (pc' := 16) (dc D_Pri_batchBy 9 rfl) rfl F_Pri_40 rfl rfl ?_
      refine Sd_iload_n (pc' := 17) (dc D_Pri_batchBy 10 rfl) rfl 3 rfl rfl ?_
      refine Sd_ishr (pc' := 18) (dc D_Pri_batchBy 11 rfl) rfl ?_
      refine Sd_iconst (pc' := 19) (dc D_Pri_batchBy 12 rfl) rfl ⟨by decide, by decide⟩ ?_
      refine Sd_iand (pc' := 20) (dc D_Pri_batchBy 13 rfl) rfl ?_
      refine Sd_if_ne (tgt := 32) (pc' := 23) (dc D_Pri_batchBy 14 rfl) (by decide) rfl (fun _ => ?_) (fun _ => ?_)
      · refine Sd_iinc (pc' := 35) (l' := [(3, _), (0, _), (1, _), (2, _)]) (dc D_Pri_batchBy 22 rfl) rfl 3 rfl (by decide) rfl ?_
        refine Sd_goto (tgt := 4) (dc D_Pri_batchBy 23 rfl) (by decide) ?_
        refine Sd.sub (l' := [(0, _), (1, _), (2, _), (3, _)]) [1, 2, 3, 0] rfl ?_
        exact s_Pri_batchBy_L4 n _ _ _ _ _
      · refine Sd_iload_n (pc' := 24) (dc D_Pri_batchBy 15 rfl) rfl 2 rfl rfl ?_
        refine Sd_aload_n (pc' := 25) (dc D_Pri_batchBy 16 rfl) rfl 0 rfl rfl ?_
        refine Sd_iload_n (pc' := 26) (dc D_Pri_batchBy 17 rfl) rfl 3 rfl rfl ?_
        refine Sd_aload_n (pc' := 27) (dc D_Pri_batchBy 18 rfl) rfl 1 rfl rfl ?_
        refine Sd.callVI (ci := 4) (t := 5) (as := [_, _]) RX4 (pc' := 30) (dc D_Pri_batchBy 19 rfl) rfl rfl rfl rfl K_Pri_costBy L_Pri_64 Ks_Pri_costBy Kv_Pri_costBy ⟨by decide, by decide⟩ rfl rfl (Nat.le_of_ble_eq_true rfl) (s_Pri_costBy _ _ _ _) (fun x4 h3 => ?_)
        refine Sd_iadd (pc' := 31) (dc D_Pri_batchBy 20 rfl) rfl ?_
        refine Sd_istore_n (pc' := 32) (l' := [(2, _), (0, _), (1, _), (3, _)]) (dc D_Pri_batchBy 21 rfl) rfl rfl (by decide) rfl ?_
        refine Sd_iinc (pc' := 35) (l' := [(3, _), (2, _), (0, _), (1, _)]) (dc D_Pri_batchBy 22 rfl) rfl 3 rfl (by decide) rfl ?_
        refine Sd_goto (tgt := 4) (dc D_Pri_batchBy 23 rfl) (by decide) ?_
        refine Sd.sub (l' := [(0, _), (1, _), (2, _), (3, _)]) [2, 3, 1, 0] rfl ?_
        exact s_Pri_batchBy_L4 n _ _ _ _ _
def Pri_batchBy (v0 : Nat) (v1 : Nat) (h : AH) : Option (Int × AH) := Pri_batchBy_L4 FU v0 v1 0 0 h
set_option maxHeartbeats 4000000 in
set_option maxRecDepth 20000 in
theorem s_Pri_batchBy (v0 : Nat) (v1 : Nat) (h : AH) : CS M_Pri_batchBy 4 75 emI [vr v0, vr v1] h (Pri_batchBy v0 v1 h) := by
  refine CS.of (by decide) (Nat.le_of_ble_eq_true rfl) ?_
  show Sd M_Pri_batchBy 4 75 emI 0 [(0, vr v0), (1, vr v1)] [] h _
  unfold Pri_batchBy
  refine Sd_iconst (pc' := 1) (dc D_Pri_batchBy 0 rfl) rfl ⟨by decide, by decide⟩ ?_
  refine Sd_istore_n (pc' := 2) (l' := [(2, _), (0, _), (1, _)]) (dc D_Pri_batchBy 1 rfl) rfl rfl (by decide) rfl ?_
  refine Sd_iconst (pc' := 3) (dc D_Pri_batchBy 2 rfl) rfl ⟨by decide, by decide⟩ ?_
  refine Sd_istore_n (pc' := 4) (l' := [(3, _), (2, _), (0, _), (1, _)]) (dc D_Pri_batchBy 3 rfl) rfl rfl (by decide) rfl ?_
  refine Sd.sub (l' := [(0, _), (1, _), (2, _), (3, _)]) [2, 3, 1, 0] rfl ?_
  exact s_Pri_batchBy_L4 FU _ _ _ _ _
theorem K_Pri_batchBy : MOk M_Pri_batchBy 1 := ⟨Tb_at 129 (by decide +kernel) rfl, Tb_at 943 (by decide +kernel) rfl, by decide +kernel, by decide +kernel, by decide +kernel⟩
theorem Ks_Pri_batchBy : Cond.instanceMethod yX4_batchBy ∈ Tb := Tb_at 941 (by decide +kernel) rfl
theorem Kv_Pri_batchBy : Cond.selects RX4 yX4_batchBy yX4_batchBy ∈ Tb := Tb_at 942 (by decide +kernel) rfl
/-! ===== BatchShare$Chooser.addToTrial(I)V ===== -/
abbrev M_Chr_addToTrial : AMt := (yX1_addToTrial, cX1_addToTrial, 2, none)
def T_Chr_addToTrial : List (Nat × Instr × Nat) := [(0, .aload_n 0, 1), (1, .getfield 14, 3), (4, .aload_n 0, 1), (5, .getfield 31, 3), (8, .getfield 54, 3), (11, .iload_n 1, 1), (12, .aaload, 1), (13, .aload_n 0, 1), (14, .getfield 31, 3), (17, .getfield 58, 3), (20, .iload_n 1, 1), (21, .iaload, 1), (22, .iconst 0, 1), (23, .invokevirtual 61, 3), (26, .return_, 1)]
set_option maxRecDepth 20000 in
theorem D_Chr_addToTrial : (T_Chr_addToTrial.all fun q => decide (decode M_Chr_addToTrial.2.1 q.1 = .ok q.2)) = true := by decide +kernel
def Chr_addToTrial (v0 : Nat) (v1 : Int) (h : AH) : Option (Unit × AH) := gR h 2 v0 2 fun r1 => gR h 2 v0 1 fun r2 => gR h 1 r2 0 fun r3 => aR h 36 r3 v1 fun r4 => gR h 2 v0 1 fun r5 => gR h 1 r5 1 fun r6 => aI h 21 r6 v1 fun x7 => rc h 8 r1 <| bnd (She_add r1 r4 x7 0 h) fun _ h8 => some ((), h8)
set_option maxHeartbeats 4000000 in
set_option maxRecDepth 20000 in
theorem s_Chr_addToTrial (v0 : Nat) (v1 : Int) (h : AH) : CS M_Chr_addToTrial 3 70 emV [vr v0, vi v1] h (Chr_addToTrial v0 v1 h) := by
  refine CS.of (by decide) (Nat.le_of_ble_eq_true rfl) ?_
  show Sd M_Chr_addToTrial 3 70 emV 0 [(0, vr v0), (1, vi v1)] [] h _
  unfold Chr_addToTrial
  refine Sd_aload_n (pc' := 1) (dc D_Chr_addToTrial 0 rfl) rfl 0 rfl rfl ?_
  refine Sd_getR (pc' := 4) (dc D_Chr_addToTrial 1 rfl) rfl F_Chr_14 rfl rfl ?_
  refine Sd_aload_n (pc' := 5) (dc D_Chr_addToTrial 2 rfl) rfl 0 rfl rfl ?_
  refine Sd_getR (pc' := 8) (dc D_Chr_addToTrial 3 rfl) rfl F_Chr_31 rfl rfl ?_
  refine Sd_getR (pc' := 11) (dc D_Chr_addToTrial 4 rfl) rfl F_Chr_54 rfl rfl ?_
  refine Sd_iload_n (pc' := 12) (dc D_Chr_addToTrial 5 rfl) rfl 1 rfl rfl ?_
  refine Sd_aaload (t := 36) (j := 8) (C0 := RX3) (pc' := 13) (dc D_Chr_addToTrial 6 rfl) rfl rfl (by decide) ?_
  refine Sd_aload_n (pc' := 14) (dc D_Chr_addToTrial 7 rfl) rfl 0 rfl rfl ?_
  refine Sd_getR (pc' := 17) (dc D_Chr_addToTrial 8 rfl) rfl F_Chr_31 rfl rfl ?_
  refine Sd_getR (pc' := 20) (dc D_Chr_addToTrial 9 rfl) rfl F_Chr_58 rfl rfl ?_
  refine Sd_iload_n (pc' := 21) (dc D_Chr_addToTrial 10 rfl) rfl 1 rfl rfl ?_
  refine Sd_iaload (pc' := 22) (dc D_Chr_addToTrial 11 rfl) rfl ?_
  refine Sd_iconst (pc' := 23) (dc D_Chr_addToTrial 12 rfl) rfl ⟨by decide, by decide⟩ ?_
  refine Sd.callVV (ci := 7) (t := 8) (as := [_, _, _]) RX7 (pc' := 26) (dc D_Chr_addToTrial 13 rfl) rfl rfl rfl rfl K_She_add L_Chr_61 Ks_She_add Kv_She_add ⟨by decide, by decide⟩ rfl rfl (Nat.le_of_ble_eq_true rfl) (s_She_add _ _ _ _ _) (fun _ h8 => ?_)
  exact Sd_vret (dc D_Chr_addToTrial 14 rfl) rfl
theorem K_Chr_addToTrial : MOk M_Chr_addToTrial 1 := ⟨Tb_at 131 (by decide +kernel) rfl, Tb_at 952 (by decide +kernel) rfl, by decide +kernel, by decide +kernel, by decide +kernel⟩
theorem Ks_Chr_addToTrial : Cond.instanceMethod yX1_addToTrial ∈ Tb := Tb_at 951 (by decide +kernel) rfl
theorem Kv_Chr_addToTrial : Cond.selects RX1 yX1_addToTrial yX1_addToTrial ∈ Tb := Tb_at 25 (by decide +kernel) rfl
/-! ===== BatchShare$Chooser.batchBesides(I)I ===== -/
abbrev M_Chr_batchBesides : AMt := (yX1_batchBesides, cX1_batchBesides, 3, (some .int))
def T_Chr_batchBesides : List (Nat × Instr × Nat) := [(0, .aload_n 0, 1), (1, .iload_n 1, 1), (2, .invokevirtual 65, 3), (5, .aload_n 0, 1), (6, .getfield 27, 3), (9, .aload_n 0, 1), (10, .getfield 14, 3), (13, .invokevirtual 39, 3), (16, .istore_n 2, 1), (17, .aload_n 0, 1), (18, .getfield 14, 3), (21, .aload_n 0, 1), (22, .getfield 14, 3), (25, .getfield 68, 3), (28, .iconst 1, 1), (29, .isub, 1), (30, .invokevirtual 72, 3), (33, .iload_n 2, 1), (34, .ireturn, 1)]
set_option maxRecDepth 20000 in
theorem D_Chr_batchBesides : (T_Chr_batchBesides.all fun q => decide (decode M_Chr_batchBesides.2.1 q.1 = .ok q.2)) = true := by decide +kernel
def Chr_batchBesides (v0 : Nat) (v1 : Int) (h : AH) : Option (Int × AH) := rc h 2 v0 <| bnd (Chr_addToTrial v0 v1 h) fun _ h1 => gR h1 2 v0 0 fun r4 => gR h1 2 v0 2 fun r5 => rc h1 5 r4 <| bnd (Pri_batchBy r4 r5 h1) fun x7 h6 => gR h6 2 v0 2 fun r9 => gR h6 2 v0 2 fun r10 => gI h6 8 r10 1 fun x11 => rc h6 8 r9 <| bnd (She_drop r9 (wr (x11 - 1)) h6) fun _ h12 => some (x7, h12)
set_option maxHeartbeats 4000000 in
set_option maxRecDepth 20000 in
theorem s_Chr_batchBesides (v0 : Nat) (v1 : Int) (h : AH) : CS M_Chr_batchBesides 5 98 emI [vr v0, vi v1] h (Chr_batchBesides v0 v1 h) := by
  refine CS.of (by decide) (Nat.le_of_ble_eq_true rfl) ?_
  show Sd M_Chr_batchBesides 5 98 emI 0 [(0, vr v0), (1, vi v1)] [] h _
  unfold Chr_batchBesides
  refine Sd_aload_n (pc' := 1) (dc D_Chr_batchBesides 0 rfl) rfl 0 rfl rfl ?_
  refine Sd_iload_n (pc' := 2) (dc D_Chr_batchBesides 1 rfl) rfl 1 rfl rfl ?_
  refine Sd.callVV (ci := 1) (t := 2) (as := [_]) RX1 (pc' := 5) (dc D_Chr_batchBesides 2 rfl) rfl rfl rfl rfl K_Chr_addToTrial L_Chr_65 Ks_Chr_addToTrial Kv_Chr_addToTrial ⟨by decide, by decide⟩ rfl rfl (Nat.le_of_ble_eq_true rfl) (s_Chr_addToTrial _ _ _) (fun _ h1 => ?_)
  refine Sd_aload_n (pc' := 6) (dc D_Chr_batchBesides 3 rfl) rfl 0 rfl rfl ?_
  refine Sd_getR (pc' := 9) (dc D_Chr_batchBesides 4 rfl) rfl F_Chr_27 rfl rfl ?_
  refine Sd_aload_n (pc' := 10) (dc D_Chr_batchBesides 5 rfl) rfl 0 rfl rfl ?_
  refine Sd_getR (pc' := 13) (dc D_Chr_batchBesides 6 rfl) rfl F_Chr_14 rfl rfl ?_
  refine Sd.callVI (ci := 4) (t := 5) (as := [_]) RX4 (pc' := 16) (dc D_Chr_batchBesides 7 rfl) rfl rfl rfl rfl K_Pri_batchBy L_Chr_39 Ks_Pri_batchBy Kv_Pri_batchBy ⟨by decide, by decide⟩ rfl rfl (Nat.le_of_ble_eq_true rfl) (s_Pri_batchBy _ _ _) (fun x7 h6 => ?_)
  refine Sd_istore_n (pc' := 17) (l' := [(2, _), (0, _), (1, _)]) (dc D_Chr_batchBesides 8 rfl) rfl rfl (by decide) rfl ?_
  refine Sd_aload_n (pc' := 18) (dc D_Chr_batchBesides 9 rfl) rfl 1 rfl rfl ?_
  refine Sd_getR (pc' := 21) (dc D_Chr_batchBesides 10 rfl) rfl F_Chr_14 rfl rfl ?_
  refine Sd_aload_n (pc' := 22) (dc D_Chr_batchBesides 11 rfl) rfl 1 rfl rfl ?_
  refine Sd_getR (pc' := 25) (dc D_Chr_batchBesides 12 rfl) rfl F_Chr_14 rfl rfl ?_
  refine Sd_getI (pc' := 28) (dc D_Chr_batchBesides 13 rfl) rfl F_Chr_68 rfl rfl ?_
  refine Sd_iconst (pc' := 29) (dc D_Chr_batchBesides 14 rfl) rfl ⟨by decide, by decide⟩ ?_
  refine Sd_isub (pc' := 30) (dc D_Chr_batchBesides 15 rfl) rfl ?_
  refine Sd.callVV (ci := 7) (t := 8) (as := [_]) RX7 (pc' := 33) (dc D_Chr_batchBesides 16 rfl) rfl rfl rfl rfl K_She_drop L_Chr_72 Ks_She_drop Kv_She_drop ⟨by decide, by decide⟩ rfl rfl (Nat.le_of_ble_eq_true rfl) (s_She_drop _ _ _) (fun _ h12 => ?_)
  refine Sd_iload_n (pc' := 34) (dc D_Chr_batchBesides 17 rfl) rfl 0 rfl rfl ?_
  exact Sd_iret (dc D_Chr_batchBesides 18 rfl) rfl
theorem K_Chr_batchBesides : MOk M_Chr_batchBesides 1 := ⟨Tb_at 131 (by decide +kernel) rfl, Tb_at 948 (by decide +kernel) rfl, by decide +kernel, by decide +kernel, by decide +kernel⟩
theorem Ks_Chr_batchBesides : Cond.instanceMethod yX1_batchBesides ∈ Tb := Tb_at 947 (by decide +kernel) rfl
theorem Kv_Chr_batchBesides : Cond.selects RX1 yX1_batchBesides yX1_batchBesides ∈ Tb := Tb_at 24 (by decide +kernel) rfl
/-! ===== BatchShare$Chooser.gainBesides(ILBatchShare$Shelf;)I ===== -/
abbrev M_Chr_gainBesides : AMt := (yX1_gainBesides, cX1_gainBesides, 4, (some .int))
def T_Chr_gainBesides : List (Nat × Instr × Nat) := [(0, .aload_n 0, 1), (1, .getfield 14, 3), (4, .aload_n 2, 1), (5, .invokevirtual 35, 3), (8, .aload_n 0, 1), (9, .getfield 27, 3), (12, .aload_n 0, 1), (13, .getfield 14, 3), (16, .invokevirtual 39, 3), (19, .istore_n 3, 1), (20, .iload_n 3, 1), (21, .aload_n 0, 1), (22, .iload_n 1, 1), (23, .invokevirtual 45, 3), (26, .isub, 1), (27, .aload_n 0, 1), (28, .getfield 31, 3), (31, .getfield 49, 3), (34, .iload_n 1, 1), (35, .iaload, 1), (36, .isub, 1), (37, .ireturn, 1)]
set_option maxRecDepth 20000 in
theorem D_Chr_gainBesides : (T_Chr_gainBesides.all fun q => decide (decode M_Chr_gainBesides.2.1 q.1 = .ok q.2)) = true := by decide +kernel
def Chr_gainBesides (v0 : Nat) (v1 : Int) (v2 : Nat) (h : AH) : Option (Int × AH) := gR h 2 v0 2 fun r1 => rc h 8 r1 <| bnd (She_copy r1 v2 h) fun _ h2 => gR h2 2 v0 0 fun r5 => gR h2 2 v0 2 fun r6 => rc h2 5 r5 <| bnd (Pri_batchBy r5 r6 h2) fun x8 h7 => rc h7 2 v0 <| bnd (Chr_batchBesides v0 v1 h7) fun x11 h10 => gR h10 2 v0 1 fun r13 => gR h10 1 r13 2 fun r14 => aI h10 21 r14 v1 fun x15 => some ((wr ((wr (x8 - x11)) - x15)), h10)
set_option maxHeartbeats 4000000 in
set_option maxRecDepth 20000 in
theorem s_Chr_gainBesides (v0 : Nat) (v1 : Int) (v2 : Nat) (h : AH) : CS M_Chr_gainBesides 6 120 emI [vr v0, vi v1, vr v2] h (Chr_gainBesides v0 v1 v2 h) := by
  refine CS.of (by decide) (Nat.le_of_ble_eq_true rfl) ?_
  show Sd M_Chr_gainBesides 6 120 emI 0 [(0, vr v0), (1, vi v1), (2, vr v2)] [] h _
  unfold Chr_gainBesides
  refine Sd_aload_n (pc' := 1) (dc D_Chr_gainBesides 0 rfl) rfl 0 rfl rfl ?_
  refine Sd_getR (pc' := 4) (dc D_Chr_gainBesides 1 rfl) rfl F_Chr_14 rfl rfl ?_
  refine Sd_aload_n (pc' := 5) (dc D_Chr_gainBesides 2 rfl) rfl 2 rfl rfl ?_
  refine Sd.callVV (ci := 7) (t := 8) (as := [_]) RX7 (pc' := 8) (dc D_Chr_gainBesides 3 rfl) rfl rfl rfl rfl K_She_copy L_Chr_35 Ks_She_copy Kv_She_copy ⟨by decide, by decide⟩ rfl rfl (Nat.le_of_ble_eq_true rfl) (s_She_copy _ _ _) (fun _ h2 => ?_)
  refine Sd_aload_n (pc' := 9) (dc D_Chr_gainBesides 4 rfl) rfl 0 rfl rfl ?_
  refine Sd_getR (pc' := 12) (dc D_Chr_gainBesides 5 rfl) rfl F_Chr_27 rfl rfl ?_
  refine Sd_aload_n (pc' := 13) (dc D_Chr_gainBesides 6 rfl) rfl 0 rfl rfl ?_
  refine Sd_getR (pc' := 16) (dc D_Chr_gainBesides 7 rfl) rfl F_Chr_14 rfl rfl ?_
  refine Sd.callVI (ci := 4) (t := 5) (as := [_]) RX4 (pc' := 19) (dc D_Chr_gainBesides 8 rfl) rfl rfl rfl rfl K_Pri_batchBy L_Chr_39 Ks_Pri_batchBy Kv_Pri_batchBy ⟨by decide, by decide⟩ rfl rfl (Nat.le_of_ble_eq_true rfl) (s_Pri_batchBy _ _ _) (fun x8 h7 => ?_)
  refine Sd_istore_n (pc' := 20) (l' := [(3, _), (0, _), (1, _), (2, _)]) (dc D_Chr_gainBesides 9 rfl) rfl rfl (by decide) rfl ?_
  refine Sd_iload_n (pc' := 21) (dc D_Chr_gainBesides 10 rfl) rfl 0 rfl rfl ?_
  refine Sd_aload_n (pc' := 22) (dc D_Chr_gainBesides 11 rfl) rfl 1 rfl rfl ?_
  refine Sd_iload_n (pc' := 23) (dc D_Chr_gainBesides 12 rfl) rfl 2 rfl rfl ?_
  refine Sd.callVI (ci := 1) (t := 2) (as := [_]) RX1 (pc' := 26) (dc D_Chr_gainBesides 13 rfl) rfl rfl rfl rfl K_Chr_batchBesides L_Chr_45 Ks_Chr_batchBesides Kv_Chr_batchBesides ⟨by decide, by decide⟩ rfl rfl (Nat.le_of_ble_eq_true rfl) (s_Chr_batchBesides _ _ _) (fun x11 h10 => ?_)
  refine Sd_isub (pc' := 27) (dc D_Chr_gainBesides 14 rfl) rfl ?_
  refine Sd_aload_n (pc' := 28) (dc D_Chr_gainBesides 15 rfl) rfl 1 rfl rfl ?_
  refine Sd_getR (pc' := 31) (dc D_Chr_gainBesides 16 rfl) rfl F_Chr_31 rfl rfl ?_
  refine Sd_getR (pc' := 34) (dc D_Chr_gainBesides 17 rfl) rfl F_Chr_49 rfl rfl ?_
  refine Sd_iload_n (pc' := 35) (dc D_Chr_gainBesides 18 rfl) rfl 2 rfl rfl ?_
  refine Sd_iaload (pc' := 36) (dc D_Chr_gainBesides 19 rfl) rfl ?_
  refine Sd_isub (pc' := 37) (dc D_Chr_gainBesides 20 rfl) rfl ?_
  exact Sd_iret (dc D_Chr_gainBesides 21 rfl) rfl
theorem K_Chr_gainBesides : MOk M_Chr_gainBesides 2 := ⟨Tb_at 131 (by decide +kernel) rfl, Tb_at 938 (by decide +kernel) rfl, by decide +kernel, by decide +kernel, by decide +kernel⟩
theorem Ks_Chr_gainBesides : Cond.instanceMethod yX1_gainBesides ∈ Tb := Tb_at 936 (by decide +kernel) rfl
theorem Kv_Chr_gainBesides : Cond.selects RX1 yX1_gainBesides yX1_gainBesides ∈ Tb := Tb_at 937 (by decide +kernel) rfl
/-! ===== BatchShare$Chooser.takeNothing()V ===== -/
abbrev M_Chr_takeNothing : AMt := (yX1_takeNothing, cX1_takeNothing, 1, none)
def T_Chr_takeNothing : List (Nat × Instr × Nat) := [(0, .aload_n 0, 1), (1, .getfield 14, 3), (4, .invokevirtual 75, 3), (7, .aload_n 0, 1), (8, .getfield 24, 3), (11, .iconst (-1), 1), (12, .invokestatic 78, 3), (15, .aload_n 0, 1), (16, .iconst 0, 1), (17, .putfield 84, 3), (20, .aload_n 0, 1), (21, .iconst 0, 1), (22, .putfield 87, 3), (25, .return_, 1)]
set_option maxRecDepth 20000 in
theorem D_Chr_takeNothing : (T_Chr_takeNothing.all fun q => decide (decode M_Chr_takeNothing.2.1 q.1 = .ok q.2)) = true := by decide +kernel
def Chr_takeNothing (v0 : Nat) (h : AH) : Option (Unit × AH) := gR h 2 v0 2 fun r1 => rc h 8 r1 <| bnd (She_clear r1 h) fun _ h2 => gR h2 2 v0 4 fun r5 => bnd (Ary_fill r5 (-1) h2) fun _ h6 => pI h6 2 v0 5 0 fun h9 => pI h9 2 v0 6 0 fun h10 => some ((), h10)
set_option maxHeartbeats 4000000 in
set_option maxRecDepth 20000 in
theorem s_Chr_takeNothing (v0 : Nat) (h : AH) : CS M_Chr_takeNothing 2 23 emV [vr v0] h (Chr_takeNothing v0 h) := by
  refine CS.of (by decide) (Nat.le_of_ble_eq_true rfl) ?_
  show Sd M_Chr_takeNothing 2 23 emV 0 [(0, vr v0)] [] h _
  unfold Chr_takeNothing
  refine Sd_aload_n (pc' := 1) (dc D_Chr_takeNothing 0 rfl) rfl 0 rfl rfl ?_
  refine Sd_getR (pc' := 4) (dc D_Chr_takeNothing 1 rfl) rfl F_Chr_14 rfl rfl ?_
  refine Sd.callVV (ci := 7) (t := 8) (as := []) RX7 (pc' := 7) (dc D_Chr_takeNothing 2 rfl) rfl rfl rfl rfl K_She_clear L_Chr_75 Ks_She_clear Kv_She_clear ⟨by decide, by decide⟩ rfl rfl (Nat.le_of_ble_eq_true rfl) (s_She_clear _ _) (fun _ h2 => ?_)
  refine Sd_aload_n (pc' := 8) (dc D_Chr_takeNothing 3 rfl) rfl 0 rfl rfl ?_
  refine Sd_getR (pc' := 11) (dc D_Chr_takeNothing 4 rfl) rfl F_Chr_24 rfl rfl ?_
  refine Sd_iconst (pc' := 12) (dc D_Chr_takeNothing 5 rfl) rfl ⟨by decide, by decide⟩ ?_
  refine Sd.callSV (as := [_, _]) (pc' := 15) (dc D_Chr_takeNothing 6 rfl) rfl K_Ary_fill L_Chr_78 Ks_Ary_fill ⟨by decide, by decide⟩ rfl rfl (Nat.le_of_ble_eq_true rfl) (s_Ary_fill _ _ _) (fun _ h6 => ?_)
  refine Sd_aload_n (pc' := 16) (dc D_Chr_takeNothing 7 rfl) rfl 0 rfl rfl ?_
  refine Sd_iconst (pc' := 17) (dc D_Chr_takeNothing 8 rfl) rfl ⟨by decide, by decide⟩ ?_
  refine Sd_putI (pc' := 20) (dc D_Chr_takeNothing 9 rfl) rfl F_Chr_84 rfl rfl rfl (finOk.no rfl) (by decide) ?_
  refine Sd_aload_n (pc' := 21) (dc D_Chr_takeNothing 10 rfl) rfl 0 rfl rfl ?_
  refine Sd_iconst (pc' := 22) (dc D_Chr_takeNothing 11 rfl) rfl ⟨by decide, by decide⟩ ?_
  refine Sd_putI (pc' := 25) (dc D_Chr_takeNothing 12 rfl) rfl F_Chr_87 rfl rfl rfl (finOk.no rfl) (by decide) ?_
  exact Sd_vret (dc D_Chr_takeNothing 13 rfl) rfl
theorem K_Chr_takeNothing : MOk M_Chr_takeNothing 0 := ⟨Tb_at 131 (by decide +kernel) rfl, Tb_at 973 (by decide +kernel) rfl, by decide +kernel, by decide +kernel, by decide +kernel⟩
theorem Ks_Chr_takeNothing : Cond.instanceMethod yX1_takeNothing ∈ Tb := Tb_at 972 (by decide +kernel) rfl
theorem Kv_Chr_takeNothing : Cond.selects RX1 yX1_takeNothing yX1_takeNothing ∈ Tb := Tb_at 26 (by decide +kernel) rfl
/-! ===== BatchShare$Chooser.greediest(II)I ===== -/
abbrev M_Chr_greediest : AMt := (yX1_greediest, cX1_greediest, 8, (some .int))
def T_Chr_greediest : List (Nat × Instr × Nat) := [(0, .iconst (-1), 1), (1, .istore_n 3, 1), (2, .iconst 0, 1), (3, .istore 4, 2), (5, .iconst 0, 1), (6, .istore 5, 2), (8, .iload 5, 2), (10, .aload_n 0, 1), (11, .getfield 31, 3), (14, .getfield 97, 3), (17, .if_icmp .ge 107, 3), (20, .aload_n 0, 1), (21, .getfield 31, 3), (24, .getfield 58, 3), (27, .iload 5, 2), (29, .iaload, 1), (30, .iload_n 2, 1), (31, .if_icmp .le 6, 3), (34, .goto 84, 3), (37, .iload_n 1, 1), (38, .aload_n 0, 1), (39, .iload 5, 2), (41, .invokevirtual 45, 3), (44, .isub, 1), (45, .aload_n 0, 1), (46, .getfield 31, 3), (49, .getfield 49, 3), (52, .iload 5, 2), (54, .iaload, 1), (55, .isub, 1), (56, .istore 6, 2), (58, .iload_n 3, 1), (59, .iconst (-1), 1), (60, .if_icmp .eq 36, 3), (63, .iload 6, 2), (65, .iload 4, 2), (67, .if_icmp .ne 29, 3), (70, .aload_n 0, 1), (71, .getfield 31, 3), (74, .getfield 58, 3), (77, .iload 5, 2), (79, .iaload, 1), (80, .aload_n 0, 1), (81, .getfield 31, 3), (84, .getfield 58, 3), (87, .iload_n 3, 1), (88, .iaload, 1), (89, .if_icmp .ge 7, 3), (92, .iconst 1, 1), (93, .goto 4, 3), (96, .iconst 0, 1), (97, .istore 7, 2), (99, .iload 6, 2), (101, .iload 4, 2), (103, .if_icmp .gt 8, 3), (106, .iload 7, 2), (108, .ifCond .eq 10, 3), (111, .iload 6, 2), (113, .istore 4, 2), (115, .iload 5, 2), (117, .istore_n 3, 1), (118, .iinc 5 1, 3), (121, .goto (-113), 3), (124, .iload_n 3, 1), (125, .ireturn, 1)]
set_option maxRecDepth 20000 in
theorem D_Chr_greediest : (T_Chr_greediest.all fun q => decide (decode M_Chr_greediest.2.1 q.1 = .ok q.2)) = true := by decide +kernel
def Chr_greediest_L97 (k8 : Nat → Int → Int → Int → Int → Int → AH → Option (Int × AH)) (v0 : Nat) (v1 : Int) (v2 : Int) (v3 : Int) (v4 : Int) (v5 : Int) (v6 : Int) (s0 : Int) (h : AH) : Option (Int × AH) := if (v4 : Int) < v6 then (k8 v0 v1 v2 v5 v6 ((wr (v5 + 1))) h) else (if (s0 : Int) = 0 then (k8 v0 v1 v2 v3 v4 ((wr (v5 + 1))) h) else (k8 v0 v1 v2 v5 v6 ((wr (v5 + 1))) h))
set_option maxHeartbeats 4000000 in
set_option maxRecDepth 20000 in
theorem s_Chr_greediest_L97 (k8 : Nat → Int → Int → Int → Int → Int → AH → Option (Int × AH)) (hk8 : ∀ v0 v1 v2 v3 v4 v5 h, Sd M_Chr_greediest 6 120 emI 8 [(0, vr v0), (1, vi v1), (2, vi v2), (3, vi v3), (4, vi v4), (5, vi v5)] [] h (k8 v0 v1 v2 v3 v4 v5 h)) (v0 : Nat) (v1 : Int) (v2 : Int) (v3 : Int) (v4 : Int) (v5 : Int) (v6 : Int) (s0 : Int) (h : AH) : Sd M_Chr_greediest 6 120 emI 97 [(0, vr v0), (1, vi v1), (2, vi v2), (3, vi v3), (4, vi v4), (5, vi v5), (6, vi v6)] [vi s0] h (Chr_greediest_L97 k8 v0 v1 v2 v3 v4 v5 v6 s0 h) := by
  unfold Chr_greediest_L97
  refine Sd_istore (pc' := 99) (l' := [(7, _), (0, _), (1, _), (2, _), (3, _), (4, _), (5, _), (6, _)]) (dc D_Chr_greediest 51 rfl) rfl (by decide) rfl ?_
  refine Sd_iload (pc' := 101) (dc D_Chr_greediest 52 rfl) rfl 7 rfl ?_
  refine Sd_iload (pc' := 103) (dc D_Chr_greediest 53 rfl) rfl 5 rfl ?_
  refine Sd_icmp_gt (tgt := 111) (pc' := 106) (dc D_Chr_greediest 54 rfl) (by decide) rfl (fun _ => ?_) (fun _ => ?_)
  · refine Sd_iload (pc' := 113) (dc D_Chr_greediest 57 rfl) rfl 7 rfl ?_
    refine Sd_istore (pc' := 115) (l' := [(4, _), (7, _), (0, _), (1, _), (2, _), (3, _), (5, _), (6, _)]) (dc D_Chr_greediest 58 rfl) rfl (by decide) rfl ?_
    refine Sd_iload (pc' := 117) (dc D_Chr_greediest 59 rfl) rfl 6 rfl ?_
    refine Sd_istore_n (pc' := 118) (l' := [(3, _), (4, _), (7, _), (0, _), (1, _), (2, _), (5, _), (6, _)]) (dc D_Chr_greediest 60 rfl) rfl rfl (by decide) rfl ?_
    refine Sd_iinc (pc' := 121) (l' := [(5, _), (3, _), (4, _), (7, _), (0, _), (1, _), (2, _), (6, _)]) (dc D_Chr_greediest 61 rfl) rfl 6 rfl (by decide) rfl ?_
    refine Sd_goto (tgt := 8) (dc D_Chr_greediest 62 rfl) (by decide) ?_
    refine Sd.sub (l' := [(0, _), (1, _), (2, _), (3, _), (4, _), (5, _)]) [4, 5, 6, 1, 2, 0] rfl ?_
    exact hk8 _ _ _ _ _ _ _
  · refine Sd_iload (pc' := 108) (dc D_Chr_greediest 55 rfl) rfl 0 rfl ?_
    refine Sd_if_eq (tgt := 118) (pc' := 111) (dc D_Chr_greediest 56 rfl) (by decide) rfl (fun _ => ?_) (fun _ => ?_)
    · refine Sd_iinc (pc' := 121) (l' := [(5, _), (7, _), (0, _), (1, _), (2, _), (3, _), (4, _), (6, _)]) (dc D_Chr_greediest 61 rfl) rfl 6 rfl (by decide) rfl ?_
      refine Sd_goto (tgt := 8) (dc D_Chr_greediest 62 rfl) (by decide) ?_
      refine Sd.sub (l' := [(0, _), (1, _), (2, _), (3, _), (4, _), (5, _)]) [2, 3, 4, 5, 6, 0] rfl ?_
      exact hk8 _ _ _ _ _ _ _
    · refine Sd_iload (pc' := 113) (dc D_Chr_greediest 57 rfl) rfl 7 rfl ?_
      refine Sd_istore (pc' := 115) (l' := [(4, _), (7, _), (0, _), (1, _), (2, _), (3, _), (5, _), (6, _)]) (dc D_Chr_greediest 58 rfl) rfl (by decide) rfl ?_
      refine Sd_iload (pc' := 117) (dc D_Chr_greediest 59 rfl) rfl 6 rfl ?_
      refine Sd_istore_n (pc' := 118) (l' := [(3, _), (4, _), (7, _), (0, _), (1, _), (2, _), (5, _), (6, _)]) (dc D_Chr_greediest 60 rfl) rfl rfl (by decide) rfl ?_
      refine Sd_iinc (pc' := 121) (l' := [(5, _), (3, _), (4, _), (7, _), (0, _), (1, _), (2, _), (6, _)]) (dc D_Chr_greediest 61 rfl) rfl 6 rfl (by decide) rfl ?_
      refine Sd_goto (tgt := 8) (dc D_Chr_greediest 62 rfl) (by decide) ?_
      refine Sd.sub (l' := [(0, _), (1, _), (2, _), (3, _), (4, _), (5, _)]) [4, 5, 6, 1, 2, 0] rfl ?_
      exact hk8 _ _ _ _ _ _ _
def Chr_greediest_L8 : Nat → Nat → Int → Int → Int → Int → Int → AH → Option (Int × AH)
  | 0, _, _, _, _, _, _, _ => none
  | n + 1, v0, v1, v2, v3, v4, v5, h => gR h 2 v0 1 fun r1 => gI h 1 r1 4 fun x2 => if (x2 : Int) ≤ v5 then (some (v3, h)) else (gR h 2 v0 1 fun r3 => gR h 1 r3 1 fun r4 => aI h 21 r4 v5 fun x5 => if (x5 : Int) ≤ v2 then (rc h 2 v0 <| bnd (Chr_batchBesides v0 v5 h) fun x7 h6 => gR h6 2 v0 1 fun r9 => gR h6 1 r9 2 fun r10 => aI h6 21 r10 v5 fun x11 => if (v3 : Int) = (-1) then (Chr_greediest_L97 (Chr_greediest_L8 n) v0 v1 v2 v3 v4 v5 ((wr ((wr (v1 - x7)) - x11))) 0 h6) else (if ¬ ((wr ((wr (v1 - x7)) - x11)) : Int) = v4 then (Chr_greediest_L97 (Chr_greediest_L8 n) v0 v1 v2 v3 v4 v5 ((wr ((wr (v1 - x7)) - x11))) 0 h6) else (gR h6 2 v0 1 fun r12 => gR h6 1 r12 1 fun r13 => aI h6 21 r13 v5 fun x14 => gR h6 2 v0 1 fun r15 => gR h6 1 r15 1 fun r16 => aI h6 21 r16 v3 fun x17 => if (x17 : Int) ≤ x14 then (Chr_greediest_L97 (Chr_greediest_L8 n) v0 v1 v2 v3 v4 v5 ((wr ((wr (v1 - x7)) - x11))) 0 h6) else (Chr_greediest_L97 (Chr_greediest_L8 n) v0 v1 v2 v3 v4 v5 ((wr ((wr (v1 - x7)) - x11))) 1 h6)))) else (Chr_greediest_L8 n v0 v1 v2 v3 v4 ((wr (v5 + 1))) h))
set_option maxHeartbeats 4000000 in
set_option maxRecDepth 20000 in
theorem s_Chr_greediest_L8 : ∀ (n : Nat) (v0 : Nat) (v1 : Int) (v2 : Int) (v3 : Int) (v4 : Int) (v5 : Int) (h : AH), Sd M_Chr_greediest 6 120 emI 8 [(0, vr v0), (1, vi v1), (2, vi v2), (3, vi v3), (4, vi v4), (5, vi v5)] [] h (Chr_greediest_L8 n v0 v1 v2 v3 v4 v5 h)
  | 0, _, _, _, _, _, _, _ => Sd.none
  | n + 1, v0, v1, v2, v3, v4, v5, h => by
    rw [Chr_greediest_L8]
    refine Sd_iload (pc' := 10) (dc D_Chr_greediest 6 rfl) rfl 5 rfl ?_
    refine Sd_aload_n (pc' := 11) (dc D_Chr_greediest 7 rfl) rfl 0 rfl rfl ?_
    refine Sd_getR (pc' := 14) (dc D_Chr_greediest 8 rfl) rfl F_Chr_31 rfl rfl ?_
    refine Sd_getI (pc' := 17) (dc D_Chr_greediest 9 rfl) rfl F_Chr_97 rfl rfl ?_
    refine Sd_icmp_ge (tgt := 124) (pc' := 20) (dc D_Chr_greediest 10 rfl) (by decide) rfl (fun _ => ?_) (fun _ => ?_)
    · refine Sd_iload_n (pc' := 125) (dc D_Chr_greediest 63 rfl) rfl 3 rfl rfl ?_
      exact Sd_iret (dc D_Chr_greediest 64 rfl) rfl
    · refine Sd_aload_n (pc' := 21) (dc D_Chr_greediest 11 rfl) rfl 0 rfl rfl ?_
      refine Sd_getR (pc' := 24) (dc D_Chr_greediest 12 rfl) rfl F_Chr_31 rfl rfl ?_
      refine Sd_getR (pc' := 27) (dc D_Chr_greediest 13 rfl) rfl F_Chr_58 rfl rfl ?_
      refine Sd_iload (pc' := 29) (dc D_Chr_greediest 14 rfl) rfl 5 rfl ?_
      refine Sd_iaload (pc' := 30) (dc D_Chr_greediest 15 rfl) rfl ?_
      refine Sd_iload_n (pc' := 31) (dc D_Chr_greediest 16 rfl) rfl 2 rfl rfl ?_
      refine Sd_icmp_le (tgt := 37) (pc' := 34) (dc D_Chr_greediest 17 rfl) (by decide) rfl (fun _ => ?_) (fun _ => ?_)
      · refine Sd_iload_n (pc' := 38) (dc D_Chr_greediest 19 rfl) rfl 1 rfl rfl ?_
        refine Sd_aload_n (pc' := 39) (dc D_Chr_greediest 20 rfl) rfl 0 rfl rfl ?_
        refine Sd_iload (pc' := 41) (dc D_Chr_greediest 21 rfl) rfl 5 rfl ?_
        refine Sd.callVI (ci := 1) (t := 2) (as := [_]) RX1 (pc' := 44) (dc D_Chr_greediest 22 rfl) rfl rfl rfl rfl K_Chr_batchBesides L_Chr_45 Ks_Chr_batchBesides Kv_Chr_batchBesides ⟨by decide, by decide⟩ rfl rfl (Nat.le_of_ble_eq_true rfl) (s_Chr_batchBesides _ _ _) (fun x7 h6 => ?_)
        refine Sd_isub (pc' := 45) (dc D_Chr_greediest 23 rfl) rfl ?_
        refine Sd_aload_n (pc' := 46) (dc D_Chr_greediest 24 rfl) rfl 0 rfl rfl ?_
        refine Sd_getR (pc' := 49) (dc D_Chr_greediest 25 rfl) rfl F_Chr_31 rfl rfl ?_
        refine Sd_getR (pc' := 52) (dc D_Chr_greediest 26 rfl) rfl F_Chr_49 rfl rfl ?_
        refine Sd_iload (pc' := 54) (dc D_Chr_greediest 27 rfl) rfl 5 rfl ?_
        refine Sd_iaload (pc' := 55) (dc D_Chr_greediest 28 rfl) rfl ?_
        refine Sd_isub (pc' := 56) (dc D_Chr_greediest 29 rfl) rfl ?_
        refine Sd_istore (pc' := 58) (l' := [(6, _), (0, _), (1, _), (2, _), (3, _), (4, _), (5, _)]) (dc D_Chr_greediest 30 rfl) rfl (by decide) rfl ?_
        refine Sd_iload_n (pc' := 59) (dc D_Chr_greediest 31 rfl) rfl 4 rfl rfl ?_
        refine Sd_iconst (pc' := 60) (dc D_Chr_greediest 32 rfl) rfl ⟨by decide, by decide⟩ ?_
        refine Sd_icmp_eq (tgt := 96) (pc' := 63) (dc D_Chr_greediest 33 rfl) (by decide) rfl (fun _ => ?_) (fun _ => ?_)
        · refine Sd_iconst (pc' := 97) (dc D_Chr_greediest 50 rfl) rfl ⟨by decide, by decide⟩ ?_
          refine Sd.sub (l' := [(0, _), (1, _), (2, _), (3, _), (4, _), (5, _), (6, _)]) [1, 2, 3, 4, 5, 6, 0] rfl ?_
          exact s_Chr_greediest_L97 (Chr_greediest_L8 n) (s_Chr_greediest_L8 n) _ _ _ _ _ _ _ _ _
        · refine Sd_iload (pc' := 65) (dc D_Chr_greediest 34 rfl) rfl 0 rfl ?_
          refine Sd_iload (pc' := 67) (dc D_Chr_greediest 35 rfl) rfl 5 rfl ?_
          refine Sd_icmp_ne (tgt := 96) (pc' := 70) (dc D_Chr_greediest 36 rfl) (by decide) rfl (fun _ => ?_) (fun _ => ?_)
          · refine Sd_iconst (pc' := 97) (dc D_Chr_greediest 50 rfl) rfl ⟨by decide, by decide⟩ ?_
            refine Sd.sub (l' := [(0, _), (1, _), (2, _), (3, _), (4, _), (5, _), (6, _)]) [1, 2, 3, 4, 5, 6, 0] rfl ?_
            exact s_Chr_greediest_L97 (Chr_greediest_L8 n) (s_Chr_greediest_L8 n) _ _ _ _ _ _ _ _ _
          · refine Sd_aload_n (pc' := 71) (dc D_Chr_greediest 37 rfl) rfl 1 rfl rfl ?_
            refine Sd_getR (pc' := 74) (dc D_Chr_greediest 38 rfl) rfl F_Chr_31 rfl rfl ?_
            refine Sd_getR (pc' := 77) (dc D_Chr_greediest 39 rfl) rfl F_Chr_58 rfl rfl ?_
            refine Sd_iload (pc' := 79) (dc D_Chr_greediest 40 rfl) rfl 6 rfl ?_
            refine Sd_iaload (pc' := 80) (dc D_Chr_greediest 41 rfl) rfl ?_
            refine Sd_aload_n (pc' := 81) (dc D_Chr_greediest 42 rfl) rfl 1 rfl rfl ?_
            refine Sd_getR (pc' := 84) (dc D_Chr_greediest 43 rfl) rfl F_Chr_31 rfl rfl ?_
            refine Sd_getR (pc' := 87) (dc D_Chr_greediest 44 rfl) rfl F_Chr_58 rfl rfl ?_
            refine Sd_iload_n (pc' := 88) (dc D_Chr_greediest 45 rfl) rfl 4 rfl rfl ?_
            refine Sd_iaload (pc' := 89) (dc D_Chr_greediest 46 rfl) rfl ?_
            refine Sd_icmp_ge (tgt := 96) (pc' := 92) (dc D_Chr_greediest 47 rfl) (by decide) rfl (fun _ => ?_) (fun _ => ?_)
            · refine Sd_iconst (pc' := 97) (dc D_Chr_greediest 50 rfl) rfl ⟨by decide, by decide⟩ ?_
              refine Sd.sub (l' := [(0, _), (1, _), (2, _), (3, _), (4, _), (5, _), (6, _)]) [1, 2, 3, 4, 5, 6, 0] rfl ?_
              exact s_Chr_greediest_L97 (Chr_greediest_L8 n) (s_Chr_greediest_L8 n) _ _ _ _ _ _ _ _ _
            · refine Sd_iconst (pc' := 93) (dc D_Chr_greediest 48 rfl) rfl ⟨by decide, by decide⟩ ?_
              refine Sd_goto (tgt := 97) (dc D_Chr_greediest 49 rfl) (by decide) ?_
              refine Sd.sub (l' := [(0, _), (1, _), (2, _), (3, _), (4, _), (5, _), (6, _)]) [1, 2, 3, 4, 5, 6, 0] rfl ?_
              exact s_Chr_greediest_L97 (Chr_greediest_L8 n) (s_Chr_greediest_L8 n) _ _ _ _ _ _ _ _ _
      · refine Sd_goto (tgt := 118) (dc D_Chr_greediest 18 rfl) (by decide) ?_
        refine Sd_iinc (pc' := 121) (l' := [(5, _), (0, _), (1, _), (2, _), (3, _), (4, _)]) (dc D_Chr_greediest 61 rfl) rfl 5 rfl (by decide) rfl ?_
        refine Sd_goto (tgt := 8) (dc D_Chr_greediest 62 rfl) (by decide) ?_
        refine Sd.sub (l' := [(0, _), (1, _), (2, _), (3, _), (4, _), (5, _)]) [1, 2, 3, 4, 5, 0] rfl ?_
        exact s_Chr_greediest_L8 n _ _ _ _ _ _ _
def Chr_greediest (v0 : Nat) (v1 : Int) (v2 : Int) (h : AH) : Option (Int × AH) := Chr_greediest_L8 FU v0 v1 v2 (-1) 0 0 h
set_option maxHeartbeats 4000000 in
set_option maxRecDepth 20000 in
theorem s_Chr_greediest (v0 : Nat) (v1 : Int) (v2 : Int) (h : AH) : CS M_Chr_greediest 6 120 emI [vr v0, vi v1, vi v2] h (Chr_greediest v0 v1 v2 h) := by
  refine CS.of (by decide) (Nat.le_of_ble_eq_true rfl) ?_
  show Sd M_Chr_greediest 6 120 emI 0 [(0, vr v0), (1, vi v1), (2, vi v2)] [] h _
  unfold Chr_greediest
  refine Sd_iconst (pc' := 1) (dc D_Chr_greediest 0 rfl) rfl ⟨by decide, by decide⟩ ?_
  refine Sd_istore_n (pc' := 2) (l' := [(3, _), (0, _), (1, _), (2, _)]) (dc D_Chr_greediest 1 rfl) rfl rfl (by decide) rfl ?_
  refine Sd_iconst (pc' := 3) (dc D_Chr_greediest 2 rfl) rfl ⟨by decide, by decide⟩ ?_
  refine Sd_istore (pc' := 5) (l' := [(4, _), (3, _), (0, _), (1, _), (2, _)]) (dc D_Chr_greediest 3 rfl) rfl (by decide) rfl ?_
  refine Sd_iconst (pc' := 6) (dc D_Chr_greediest 4 rfl) rfl ⟨by decide, by decide⟩ ?_
  refine Sd_istore (pc' := 8) (l' := [(5, _), (4, _), (3, _), (0, _), (1, _), (2, _)]) (dc D_Chr_greediest 5 rfl) rfl (by decide) rfl ?_
  refine Sd.sub (l' := [(0, _), (1, _), (2, _), (3, _), (4, _), (5, _)]) [3, 4, 5, 2, 1, 0] rfl ?_
  exact s_Chr_greediest_L8 FU _ _ _ _ _ _ _
theorem K_Chr_greediest : MOk M_Chr_greediest 2 := ⟨Tb_at 131 (by decide +kernel) rfl, Tb_at 979 (by decide +kernel) rfl, by decide +kernel, by decide +kernel, by decide +kernel⟩
theorem Ks_Chr_greediest : Cond.instanceMethod yX1_greediest ∈ Tb := Tb_at 978 (by decide +kernel) rfl
theorem Kv_Chr_greediest : Cond.selects RX1 yX1_greediest yX1_greediest ∈ Tb := Tb_at 27 (by decide +kernel) rfl
/-! ===== BatchShare$Chooser.takeGreedily(I)V ===== -/
abbrev M_Chr_takeGreedily : AMt := (yX1_takeGreedily, cX1_takeGreedily, 6, none)
def T_Chr_takeGreedily : List (Nat × Instr × Nat) := [(0, .aload_n 0, 1), (1, .invokevirtual 90, 3), (4, .iload_n 1, 1), (5, .istore_n 2, 1), (6, .iconst 0, 1), (7, .istore_n 3, 1), (8, .iload_n 3, 1), (9, .aload_n 0, 1), (10, .getfield 24, 3), (13, .arraylength, 1), (14, .if_icmp .ge 106, 3), (17, .aload_n 0, 1), (18, .getfield 27, 3), (21, .aload_n 0, 1), (22, .getfield 14, 3), (25, .invokevirtual 39, 3), (28, .istore 4, 2), (30, .aload_n 0, 1), (31, .iload 4, 2), (33, .iload_n 2, 1), (34, .invokevirtual 93, 3), (37, .istore 5, 2), (39, .iload 5, 2), (41, .iconst (-1), 1), (42, .if_icmp .ne 6, 3), (45, .goto 75, 3), (48, .aload_n 0, 1), (49, .dup, 1), (50, .getfield 87, 3), (53, .iload 4, 2), (55, .aload_n 0, 1), (56, .iload 5, 2), (58, .invokevirtual 45, 3), (61, .isub, 1), (62, .aload_n 0, 1), (63, .getfield 31, 3), (66, .getfield 49, 3), (69, .iload 5, 2), (71, .iaload, 1), (72, .isub, 1), (73, .iadd, 1), (74, .putfield 87, 3), (77, .aload_n 0, 1), (78, .iload 5, 2), (80, .invokevirtual 65, 3), (83, .iload_n 2, 1), (84, .aload_n 0, 1), (85, .getfield 31, 3), (88, .getfield 58, 3), (91, .iload 5, 2), (93, .iaload, 1), (94, .isub, 1), (95, .istore_n 2, 1), (96, .aload_n 0, 1), (97, .getfield 24, 3), (100, .iload_n 3, 1), (101, .iload 5, 2), (103, .iastore, 1), (104, .aload_n 0, 1), (105, .dup, 1), (106, .getfield 84, 3), (109, .iconst 1, 1), (110, .iadd, 1), (111, .putfield 84, 3), (114, .iinc 3 1, 3), (117, .goto (-109), 3), (120, .return_, 1)]
set_option maxRecDepth 20000 in
theorem D_Chr_takeGreedily : (T_Chr_takeGreedily.all fun q => decide (decode M_Chr_takeGreedily.2.1 q.1 = .ok q.2)) = true := by decide +kernel
def Chr_takeGreedily_L8 : Nat → Nat → Int → Int → AH → Option (Unit × AH)
  | 0, _, _, _, _ => none
  | n + 1, v0, v2, v3, h => gR h 2 v0 4 fun r1 => aN h 21 r1 fun x2 => if (x2 : Int) ≤ v3 then (some ((), h)) else (gR h 2 v0 0 fun r3 => gR h 2 v0 2 fun r4 => rc h 5 r3 <| bnd (Pri_batchBy r3 r4 h) fun x6 h5 => rc h5 2 v0 <| bnd (Chr_greediest v0 x6 v2 h5) fun x9 h8 => if ¬ (x9 : Int) = (-1) then (gI h8 2 v0 6 fun x11 => rc h8 2 v0 <| bnd (Chr_batchBesides v0 x9 h8) fun x13 h12 => gR h12 2 v0 1 fun r15 => gR h12 1 r15 2 fun r16 => aI h12 21 r16 x9 fun x17 => pI h12 2 v0 6 (wr (x11 + (wr ((wr (x6 - x13)) - x17)))) fun h18 => rc h18 2 v0 <| bnd (Chr_addToTrial v0 x9 h18) fun _ h19 => gR h19 2 v0 1 fun r22 => gR h19 1 r22 1 fun r23 => aI h19 21 r23 x9 fun x24 => gR h19 2 v0 4 fun r25 => wI h19 21 r25 v3 x9 fun h26 => gI h26 2 v0 5 fun x27 => pI h26 2 v0 5 (wr (x27 + 1)) fun h28 => Chr_takeGreedily_L8 n v0 ((wr (v2 - x24))) ((wr (v3 + 1))) h28) else (some ((), h8)))
set_option maxHeartbeats 4000000 in
set_option maxRecDepth 20000 in
theorem s_Chr_takeGreedily_L8 : ∀ (n : Nat) (v0 : Nat) (v2 : Int) (v3 : Int) (h : AH), Sd M_Chr_takeGreedily 7 147 emV 8 [(0, vr v0), (2, vi v2), (3, vi v3)] [] h (Chr_takeGreedily_L8 n v0 v2 v3 h)
  | 0, _, _, _, _ => Sd.none
  | n + 1, v0, v2, v3, h => by
    rw [Chr_takeGreedily_L8]
    refine Sd_iload_n (pc' := 9) (dc D_Chr_takeGreedily 6 rfl) rfl 2 rfl rfl ?_
    refine Sd_aload_n (pc' := 10) (dc D_Chr_takeGreedily 7 rfl) rfl 0 rfl rfl ?_
    refine Sd_getR (pc' := 13) (dc D_Chr_takeGreedily 8 rfl) rfl F_Chr_24 rfl rfl ?_
    refine Sd_alen (t := 21) (j := 0) (pc' := 14) (dc D_Chr_takeGreedily 9 rfl) rfl rfl (by decide) (by decide) ?_
    refine Sd_icmp_ge (tgt := 120) (pc' := 17) (dc D_Chr_takeGreedily 10 rfl) (by decide) rfl (fun _ => ?_) (fun _ => ?_)
    · exact Sd_vret (dc D_Chr_takeGreedily 66 rfl) rfl
    · refine Sd_aload_n (pc' := 18) (dc D_Chr_takeGreedily 11 rfl) rfl 0 rfl rfl ?_
      refine Sd_getR (pc' := 21) (dc D_Chr_takeGreedily 12 rfl) rfl F_Chr_27 rfl rfl ?_
      refine Sd_aload_n (pc' := 22) (dc D_Chr_takeGreedily 13 rfl) rfl 0 rfl rfl ?_
      refine Sd_getR (pc' := 25) (dc D_Chr_takeGreedily 14 rfl) rfl F_Chr_14 rfl rfl ?_
      refine Sd.callVI (ci := 4) (t := 5) (as := [_]) RX4 (pc' := 28) (dc D_Chr_takeGreedily 15 rfl) rfl rfl rfl rfl K_Pri_batchBy L_Chr_39 Ks_Pri_batchBy Kv_Pri_batchBy ⟨by decide, by decide⟩ rfl rfl (Nat.le_of_ble_eq_true rfl) (s_Pri_batchBy _ _ _) (fun x6 h5 => ?_)
      refine Sd_istore (pc' := 30) (l' := [(4, _), (0, _), (2, _), (3, _)]) (dc D_Chr_takeGreedily 16 rfl) rfl (by decide) rfl ?_
      refine Sd_aload_n (pc' := 31) (dc D_Chr_takeGreedily 17 rfl) rfl 1 rfl rfl ?_
      refine Sd_iload (pc' := 33) (dc D_Chr_takeGreedily 18 rfl) rfl 0 rfl ?_
      refine Sd_iload_n (pc' := 34) (dc D_Chr_takeGreedily 19 rfl) rfl 2 rfl rfl ?_
      refine Sd.callVI (ci := 1) (t := 2) (as := [_, _]) RX1 (pc' := 37) (dc D_Chr_takeGreedily 20 rfl) rfl rfl rfl rfl K_Chr_greediest L_Chr_93 Ks_Chr_greediest Kv_Chr_greediest ⟨by decide, by decide⟩ rfl rfl (Nat.le_of_ble_eq_true rfl) (s_Chr_greediest _ _ _ _) (fun x9 h8 => ?_)
      refine Sd_istore (pc' := 39) (l' := [(5, _), (4, _), (0, _), (2, _), (3, _)]) (dc D_Chr_takeGreedily 21 rfl) rfl (by decide) rfl ?_
      refine Sd_iload (pc' := 41) (dc D_Chr_takeGreedily 22 rfl) rfl 0 rfl ?_
      refine Sd_iconst (pc' := 42) (dc D_Chr_takeGreedily 23 rfl) rfl ⟨by decide, by decide⟩ ?_
      refine Sd_icmp_ne (tgt := 48) (pc' := 45) (dc D_Chr_takeGreedily 24 rfl) (by decide) rfl (fun _ => ?_) (fun _ => ?_)
      · refine Sd_aload_n (pc' := 49) (dc D_Chr_takeGreedily 26 rfl) rfl 2 rfl rfl ?_
        refine Sd_dup (pc' := 50) (dc D_Chr_takeGreedily 27 rfl) rfl (cat_r _) ?_
        refine Sd_getI (pc' := 53) (dc D_Chr_takeGreedily 28 rfl) rfl F_Chr_87 rfl rfl ?_
        refine Sd_iload (pc' := 55) (dc D_Chr_takeGreedily 29 rfl) rfl 1 rfl ?_
        refine Sd_aload_n (pc' := 56) (dc D_Chr_takeGreedily 30 rfl) rfl 2 rfl rfl ?_
        refine Sd_iload (pc' := 58) (dc D_Chr_takeGreedily 31 rfl) rfl 0 rfl ?_
        refine Sd.callVI (ci := 1) (t := 2) (as := [_]) RX1 (pc' := 61) (dc D_Chr_takeGreedily 32 rfl) rfl rfl rfl rfl K_Chr_batchBesides L_Chr_45 Ks_Chr_batchBesides Kv_Chr_batchBesides ⟨by decide, by decide⟩ rfl rfl (Nat.le_of_ble_eq_true rfl) (s_Chr_batchBesides _ _ _) (fun x13 h12 => ?_)
        refine Sd_isub (pc' := 62) (dc D_Chr_takeGreedily 33 rfl) rfl ?_
        refine Sd_aload_n (pc' := 63) (dc D_Chr_takeGreedily 34 rfl) rfl 2 rfl rfl ?_
        refine Sd_getR (pc' := 66) (dc D_Chr_takeGreedily 35 rfl) rfl F_Chr_31 rfl rfl ?_
        refine Sd_getR (pc' := 69) (dc D_Chr_takeGreedily 36 rfl) rfl F_Chr_49 rfl rfl ?_
        refine Sd_iload (pc' := 71) (dc D_Chr_takeGreedily 37 rfl) rfl 0 rfl ?_
        refine Sd_iaload (pc' := 72) (dc D_Chr_takeGreedily 38 rfl) rfl ?_
        refine Sd_isub (pc' := 73) (dc D_Chr_takeGreedily 39 rfl) rfl ?_
        refine Sd_iadd (pc' := 74) (dc D_Chr_takeGreedily 40 rfl) rfl ?_
        refine Sd_putI (pc' := 77) (dc D_Chr_takeGreedily 41 rfl) rfl F_Chr_87 rfl rfl rfl (finOk.no rfl) (by decide) ?_
        refine Sd_aload_n (pc' := 78) (dc D_Chr_takeGreedily 42 rfl) rfl 2 rfl rfl ?_
        refine Sd_iload (pc' := 80) (dc D_Chr_takeGreedily 43 rfl) rfl 0 rfl ?_
        refine Sd.callVV (ci := 1) (t := 2) (as := [_]) RX1 (pc' := 83) (dc D_Chr_takeGreedily 44 rfl) rfl rfl rfl rfl K_Chr_addToTrial L_Chr_65 Ks_Chr_addToTrial Kv_Chr_addToTrial ⟨by decide, by decide⟩ rfl rfl (Nat.le_of_ble_eq_true rfl) (s_Chr_addToTrial _ _ _) (fun _ h19 => ?_)
        refine Sd_iload_n (pc' := 84) (dc D_Chr_takeGreedily 45 rfl) rfl 3 rfl rfl ?_
        refine Sd_aload_n (pc' := 85) (dc D_Chr_takeGreedily 46 rfl) rfl 2 rfl rfl ?_
        refine Sd_getR (pc' := 88) (dc D_Chr_takeGreedily 47 rfl) rfl F_Chr_31 rfl rfl ?_
        refine Sd_getR (pc' := 91) (dc D_Chr_takeGreedily 48 rfl) rfl F_Chr_58 rfl rfl ?_
        refine Sd_iload (pc' := 93) (dc D_Chr_takeGreedily 49 rfl) rfl 0 rfl ?_
        refine Sd_iaload (pc' := 94) (dc D_Chr_takeGreedily 50 rfl) rfl ?_
        refine Sd_isub (pc' := 95) (dc D_Chr_takeGreedily 51 rfl) rfl ?_
        refine Sd_istore_n (pc' := 96) (l' := [(2, _), (5, _), (4, _), (0, _), (3, _)]) (dc D_Chr_takeGreedily 52 rfl) rfl rfl (by decide) rfl ?_
        refine Sd_aload_n (pc' := 97) (dc D_Chr_takeGreedily 53 rfl) rfl 3 rfl rfl ?_
        refine Sd_getR (pc' := 100) (dc D_Chr_takeGreedily 54 rfl) rfl F_Chr_24 rfl rfl ?_
        refine Sd_iload_n (pc' := 101) (dc D_Chr_takeGreedily 55 rfl) rfl 4 rfl rfl ?_
        refine Sd_iload (pc' := 103) (dc D_Chr_takeGreedily 56 rfl) rfl 1 rfl ?_
        refine Sd_iastore (pc' := 104) (dc D_Chr_takeGreedily 57 rfl) rfl (by decide) ?_
        refine Sd_aload_n (pc' := 105) (dc D_Chr_takeGreedily 58 rfl) rfl 3 rfl rfl ?_
        refine Sd_dup (pc' := 106) (dc D_Chr_takeGreedily 59 rfl) rfl (cat_r _) ?_
        refine Sd_getI (pc' := 109) (dc D_Chr_takeGreedily 60 rfl) rfl F_Chr_84 rfl rfl ?_
        refine Sd_iconst (pc' := 110) (dc D_Chr_takeGreedily 61 rfl) rfl ⟨by decide, by decide⟩ ?_
        refine Sd_iadd (pc' := 111) (dc D_Chr_takeGreedily 62 rfl) rfl ?_
        refine Sd_putI (pc' := 114) (dc D_Chr_takeGreedily 63 rfl) rfl F_Chr_84 rfl rfl rfl (finOk.no rfl) (by decide) ?_
        refine Sd_iinc (pc' := 117) (l' := [(3, _), (2, _), (5, _), (4, _), (0, _)]) (dc D_Chr_takeGreedily 64 rfl) rfl 4 rfl (by decide) rfl ?_
        refine Sd_goto (tgt := 8) (dc D_Chr_takeGreedily 65 rfl) (by decide) ?_
        refine Sd.sub (l' := [(0, _), (2, _), (3, _)]) [4, 1, 0] rfl ?_
        exact s_Chr_takeGreedily_L8 n _ _ _ _
      · refine Sd_goto (tgt := 120) (dc D_Chr_takeGreedily 25 rfl) (by decide) ?_
        exact Sd_vret (dc D_Chr_takeGreedily 66 rfl) rfl
def Chr_takeGreedily (v0 : Nat) (v1 : Int) (h : AH) : Option (Unit × AH) := rc h 2 v0 <| bnd (Chr_takeNothing v0 h) fun _ h1 => Chr_takeGreedily_L8 FU v0 v1 0 h1
set_option maxHeartbeats 4000000 in
set_option maxRecDepth 20000 in
theorem s_Chr_takeGreedily (v0 : Nat) (v1 : Int) (h : AH) : CS M_Chr_takeGreedily 7 147 emV [vr v0, vi v1] h (Chr_takeGreedily v0 v1 h) := by
  refine CS.of (by decide) (Nat.le_of_ble_eq_true rfl) ?_
  show Sd M_Chr_takeGreedily 7 147 emV 0 [(0, vr v0), (1, vi v1)] [] h _
  unfold Chr_takeGreedily
  refine Sd_aload_n (pc' := 1) (dc D_Chr_takeGreedily 0 rfl) rfl 0 rfl rfl ?_
  refine Sd.callVV (ci := 1) (t := 2) (as := []) RX1 (pc' := 4) (dc D_Chr_takeGreedily 1 rfl) rfl rfl rfl rfl K_Chr_takeNothing L_Chr_90 Ks_Chr_takeNothing Kv_Chr_takeNothing ⟨by decide, by decide⟩ rfl rfl (Nat.le_of_ble_eq_true rfl) (s_Chr_takeNothing _ _) (fun _ h1 => ?_)
  refine Sd_iload_n (pc' := 5) (dc D_Chr_takeGreedily 2 rfl) rfl 1 rfl rfl ?_
  refine Sd_istore_n (pc' := 6) (l' := [(2, _), (0, _), (1, _)]) (dc D_Chr_takeGreedily 3 rfl) rfl rfl (by decide) rfl ?_
  refine Sd_iconst (pc' := 7) (dc D_Chr_takeGreedily 4 rfl) rfl ⟨by decide, by decide⟩ ?_
  refine Sd_istore_n (pc' := 8) (l' := [(3, _), (2, _), (0, _), (1, _)]) (dc D_Chr_takeGreedily 5 rfl) rfl rfl (by decide) rfl ?_
  refine Sd.sub (l' := [(0, _), (2, _), (3, _)]) [2, 1, 0] rfl ?_
  exact s_Chr_takeGreedily_L8 FU _ _ _ _
theorem K_Chr_takeGreedily : MOk M_Chr_takeGreedily 1 := ⟨Tb_at 131 (by decide +kernel) rfl, Tb_at 969 (by decide +kernel) rfl, by decide +kernel, by decide +kernel, by decide +kernel⟩
theorem Ks_Chr_takeGreedily : Cond.instanceMethod yX1_takeGreedily ∈ Tb := Tb_at 967 (by decide +kernel) rfl
theorem Kv_Chr_takeGreedily : Cond.selects RX1 yX1_takeGreedily yX1_takeGreedily ∈ Tb := Tb_at 968 (by decide +kernel) rfl
/-! ===== BatchShare$Chooser.takeBestPair(III)V ===== -/
abbrev M_Chr_takeBestPair : AMt := (yX1_takeBestPair, cX1_takeBestPair, 7, none)
def T_Chr_takeBestPair : List (Nat × Instr × Nat) := [(0, .aload_n 0, 1), (1, .getfield 14, 3), (4, .invokevirtual 75, 3), (7, .aload_n 0, 1), (8, .iload_n 1, 1), (9, .invokevirtual 65, 3), (12, .iload_n 1, 1), (13, .iconst 1, 1), (14, .iadd, 1), (15, .istore 4, 2), (17, .iload 4, 2), (19, .aload_n 0, 1), (20, .getfield 31, 3), (23, .getfield 97, 3), (26, .if_icmp .ge 130, 3), (29, .aload_n 0, 1), (30, .getfield 20, 3), (33, .iload_n 1, 1), (34, .iaload, 1), (35, .aload_n 0, 1), (36, .getfield 20, 3), (39, .iload 4, 2), (41, .iaload, 1), (42, .iadd, 1), (43, .aload_n 0, 1), (44, .getfield 87, 3), (47, .if_icmp .gt 7, 3), (50, .iconst 1, 1), (51, .goto 4, 3), (54, .iconst 0, 1), (55, .istore 5, 2), (57, .iload 5, 2), (59, .ifCond .ne 91, 3), (62, .aload_n 0, 1), (63, .getfield 31, 3), (66, .getfield 58, 3), (69, .iload_n 1, 1), (70, .iaload, 1), (71, .aload_n 0, 1), (72, .getfield 31, 3), (75, .getfield 58, 3), (78, .iload 4, 2), (80, .iaload, 1), (81, .iadd, 1), (82, .iload_n 3, 1), (83, .if_icmp .le 6, 3), (86, .goto 64, 3), (89, .iload_n 2, 1), (90, .aload_n 0, 1), (91, .iload 4, 2), (93, .invokevirtual 45, 3), (96, .isub, 1), (97, .aload_n 0, 1), (98, .getfield 31, 3), (101, .getfield 49, 3), (104, .iload_n 1, 1), (105, .iaload, 1), (106, .isub, 1), (107, .aload_n 0, 1), (108, .getfield 31, 3), (111, .getfield 49, 3), (114, .iload 4, 2), (116, .iaload, 1), (117, .isub, 1), (118, .istore 6, 2), (120, .iload 6, 2), (122, .aload_n 0, 1), (123, .getfield 87, 3), (126, .if_icmp .le 24, 3), (129, .aload_n 0, 1), (130, .iload 6, 2), (132, .putfield 87, 3), (135, .aload_n 0, 1), (136, .getfield 24, 3), (139, .iconst 0, 1), (140, .iload_n 1, 1), (141, .iastore, 1), (142, .aload_n 0, 1), (143, .getfield 24, 3), (146, .iconst 1, 1), (147, .iload 4, 2), (149, .iastore, 1), (150, .iinc 4 1, 3), (153, .goto (-136), 3), (156, .return_, 1)]
set_option maxRecDepth 20000 in
theorem D_Chr_takeBestPair : (T_Chr_takeBestPair.all fun q => decide (decode M_Chr_takeBestPair.2.1 q.1 = .ok q.2)) = true := by decide +kernel
def Chr_takeBestPair_L55 (k17 : Nat → Int → Int → Int → Int → AH → Option (Unit × AH)) (v0 : Nat) (v1 : Int) (v2 : Int) (v3 : Int) (v4 : Int) (s0 : Int) (h : AH) : Option (Unit × AH) := if ¬ (s0 : Int) = 0 then (k17 v0 v1 v2 v3 ((wr (v4 + 1))) h) else (gR h 2 v0 1 fun r1 => gR h 1 r1 1 fun r2 => aI h 21 r2 v1 fun x3 => gR h 2 v0 1 fun r4 => gR h 1 r4 1 fun r5 => aI h 21 r5 v4 fun x6 => if ((wr (x3 + x6)) : Int) ≤ v3 then (rc h 2 v0 <| bnd (Chr_batchBesides v0 v4 h) fun x8 h7 => gR h7 2 v0 1 fun r10 => gR h7 1 r10 2 fun r11 => aI h7 21 r11 v1 fun x12 => gR h7 2 v0 1 fun r13 => gR h7 1 r13 2 fun r14 => aI h7 21 r14 v4 fun x15 => gI h7 2 v0 6 fun x16 => if ((wr ((wr ((wr (v2 - x8)) - x12)) - x15)) : Int) ≤ x16 then (k17 v0 v1 v2 v3 ((wr (v4 + 1))) h7) else (pI h7 2 v0 6 (wr ((wr ((wr (v2 - x8)) - x12)) - x15)) fun h17 => gR h17 2 v0 4 fun r18 => wI h17 21 r18 0 v1 fun h19 => gR h19 2 v0 4 fun r20 => wI h19 21 r20 1 v4 fun h21 => k17 v0 v1 v2 v3 ((wr (v4 + 1))) h21)) else (k17 v0 v1 v2 v3 ((wr (v4 + 1))) h))
set_option maxHeartbeats 4000000 in
set_option maxRecDepth 20000 in
theorem s_Chr_takeBestPair_L55 (k17 : Nat → Int → Int → Int → Int → AH → Option (Unit × AH)) (hk17 : ∀ v0 v1 v2 v3 v4 h, Sd M_Chr_takeBestPair 6 120 emV 17 [(0, vr v0), (1, vi v1), (2, vi v2), (3, vi v3), (4, vi v4)] [] h (k17 v0 v1 v2 v3 v4 h)) (v0 : Nat) (v1 : Int) (v2 : Int) (v3 : Int) (v4 : Int) (s0 : Int) (h : AH) : Sd M_Chr_takeBestPair 6 120 emV 55 [(0, vr v0), (1, vi v1), (2, vi v2), (3, vi v3), (4, vi v4)] [vi s0] h (Chr_takeBestPair_L55 k17 v0 v1 v2 v3 v4 s0 h) := by
  unfold Chr_takeBestPair_L55
  refine Sd_istore (pc' := 57) (l' := [(5, _), (0, _), (1, _), (2, _), (3, _), (4, _)]) (dc D_Chr_takeBestPair 30 rfl) rfl (by decide) rfl ?_
  refine Sd_iload (pc' := 59) (dc D_Chr_takeBestPair 31 rfl) rfl 0 rfl ?_
  refine Sd_if_ne (tgt := 150) (pc' := 62) (dc D_Chr_takeBestPair 32 rfl) (by decide) rfl (fun _ => ?_) (fun _ => ?_)
  · refine Sd_iinc (pc' := 153) (l' := [(4, _), (5, _), (0, _), (1, _), (2, _), (3, _)]) (dc D_Chr_takeBestPair 82 rfl) rfl 5 rfl (by decide) rfl ?_
    refine Sd_goto (tgt := 17) (dc D_Chr_takeBestPair 83 rfl) (by decide) ?_
    refine Sd.sub (l' := [(0, _), (1, _), (2, _), (3, _), (4, _)]) [2, 3, 4, 5, 0] rfl ?_
    exact hk17 _ _ _ _ _ _
  · refine Sd_aload_n (pc' := 63) (dc D_Chr_takeBestPair 33 rfl) rfl 1 rfl rfl ?_
    refine Sd_getR (pc' := 66) (dc D_Chr_takeBestPair 34 rfl) rfl F_Chr_31 rfl rfl ?_
    refine Sd_getR (pc' := 69) (dc D_Chr_takeBestPair 35 rfl) rfl F_Chr_58 rfl rfl ?_
    refine Sd_iload_n (pc' := 70) (dc D_Chr_takeBestPair 36 rfl) rfl 2 rfl rfl ?_
    refine Sd_iaload (pc' := 71) (dc D_Chr_takeBestPair 37 rfl) rfl ?_
    refine Sd_aload_n (pc' := 72) (dc D_Chr_takeBestPair 38 rfl) rfl 1 rfl rfl ?_
    refine Sd_getR (pc' := 75) (dc D_Chr_takeBestPair 39 rfl) rfl F_Chr_31 rfl rfl ?_
    refine Sd_getR (pc' := 78) (dc D_Chr_takeBestPair 40 rfl) rfl F_Chr_58 rfl rfl ?_
    refine Sd_iload (pc' := 80) (dc D_Chr_takeBestPair 41 rfl) rfl 5 rfl ?_
    refine Sd_iaload (pc' := 81) (dc D_Chr_takeBestPair 42 rfl) rfl ?_
    refine Sd_iadd (pc' := 82) (dc D_Chr_takeBestPair 43 rfl) rfl ?_
    refine Sd_iload_n (pc' := 83) (dc D_Chr_takeBestPair 44 rfl) rfl 4 rfl rfl ?_
    refine Sd_icmp_le (tgt := 89) (pc' := 86) (dc D_Chr_takeBestPair 45 rfl) (by decide) rfl (fun _ => ?_) (fun _ => ?_)
    · refine Sd_iload_n (pc' := 90) (dc D_Chr_takeBestPair 47 rfl) rfl 3 rfl rfl ?_
      refine Sd_aload_n (pc' := 91) (dc D_Chr_takeBestPair 48 rfl) rfl 1 rfl rfl ?_
      refine Sd_iload (pc' := 93) (dc D_Chr_takeBestPair 49 rfl) rfl 5 rfl ?_
      refine Sd.callVI (ci := 1) (t := 2) (as := [_]) RX1 (pc' := 96) (dc D_Chr_takeBestPair 50 rfl) rfl rfl rfl rfl K_Chr_batchBesides L_Chr_45 Ks_Chr_batchBesides Kv_Chr_batchBesides ⟨by decide, by decide⟩ rfl rfl (Nat.le_of_ble_eq_true rfl) (s_Chr_batchBesides _ _ _) (fun x8 h7 => ?_)
      refine Sd_isub (pc' := 97) (dc D_Chr_takeBestPair 51 rfl) rfl ?_
      refine Sd_aload_n (pc' := 98) (dc D_Chr_takeBestPair 52 rfl) rfl 1 rfl rfl ?_
      refine Sd_getR (pc' := 101) (dc D_Chr_takeBestPair 53 rfl) rfl F_Chr_31 rfl rfl ?_
      refine Sd_getR (pc' := 104) (dc D_Chr_takeBestPair 54 rfl) rfl F_Chr_49 rfl rfl ?_
      refine Sd_iload_n (pc' := 105) (dc D_Chr_takeBestPair 55 rfl) rfl 2 rfl rfl ?_
      refine Sd_iaload (pc' := 106) (dc D_Chr_takeBestPair 56 rfl) rfl ?_
      refine Sd_isub (pc' := 107) (dc D_Chr_takeBestPair 57 rfl) rfl ?_
      refine Sd_aload_n (pc' := 108) (dc D_Chr_takeBestPair 58 rfl) rfl 1 rfl rfl ?_
      refine Sd_getR (pc' := 111) (dc D_Chr_takeBestPair 59 rfl) rfl F_Chr_31 rfl rfl ?_
      refine Sd_getR (pc' := 114) (dc D_Chr_takeBestPair 60 rfl) rfl F_Chr_49 rfl rfl ?_
      refine Sd_iload (pc' := 116) (dc D_Chr_takeBestPair 61 rfl) rfl 5 rfl ?_
      refine Sd_iaload (pc' := 117) (dc D_Chr_takeBestPair 62 rfl) rfl ?_
      refine Sd_isub (pc' := 118) (dc D_Chr_takeBestPair 63 rfl) rfl ?_
      refine Sd_istore (pc' := 120) (l' := [(6, _), (5, _), (0, _), (1, _), (2, _), (3, _), (4, _)]) (dc D_Chr_takeBestPair 64 rfl) rfl (by decide) rfl ?_
      refine Sd_iload (pc' := 122) (dc D_Chr_takeBestPair 65 rfl) rfl 0 rfl ?_
      refine Sd_aload_n (pc' := 123) (dc D_Chr_takeBestPair 66 rfl) rfl 2 rfl rfl ?_
      refine Sd_getI (pc' := 126) (dc D_Chr_takeBestPair 67 rfl) rfl F_Chr_87 rfl rfl ?_
      refine Sd_icmp_le (tgt := 150) (pc' := 129) (dc D_Chr_takeBestPair 68 rfl) (by decide) rfl (fun _ => ?_) (fun _ => ?_)
      · refine Sd_iinc (pc' := 153) (l' := [(4, _), (6, _), (5, _), (0, _), (1, _), (2, _), (3, _)]) (dc D_Chr_takeBestPair 82 rfl) rfl 6 rfl (by decide) rfl ?_
        refine Sd_goto (tgt := 17) (dc D_Chr_takeBestPair 83 rfl) (by decide) ?_
        refine Sd.sub (l' := [(0, _), (1, _), (2, _), (3, _), (4, _)]) [3, 4, 5, 6, 0] rfl ?_
        exact hk17 _ _ _ _ _ _
      · refine Sd_aload_n (pc' := 130) (dc D_Chr_takeBestPair 69 rfl) rfl 2 rfl rfl ?_
        refine Sd_iload (pc' := 132) (dc D_Chr_takeBestPair 70 rfl) rfl 0 rfl ?_
        refine Sd_putI (pc' := 135) (dc D_Chr_takeBestPair 71 rfl) rfl F_Chr_87 rfl rfl rfl (finOk.no rfl) (by decide) ?_
        refine Sd_aload_n (pc' := 136) (dc D_Chr_takeBestPair 72 rfl) rfl 2 rfl rfl ?_
        refine Sd_getR (pc' := 139) (dc D_Chr_takeBestPair 73 rfl) rfl F_Chr_24 rfl rfl ?_
        refine Sd_iconst (pc' := 140) (dc D_Chr_takeBestPair 74 rfl) rfl ⟨by decide, by decide⟩ ?_
        refine Sd_iload_n (pc' := 141) (dc D_Chr_takeBestPair 75 rfl) rfl 3 rfl rfl ?_
        refine Sd_iastore (pc' := 142) (dc D_Chr_takeBestPair 76 rfl) rfl (by decide) ?_
        refine Sd_aload_n (pc' := 143) (dc D_Chr_takeBestPair 77 rfl) rfl 2 rfl rfl ?_
        refine Sd_getR (pc' := 146) (dc D_Chr_takeBestPair 78 rfl) rfl F_Chr_24 rfl rfl ?_
        refine Sd_iconst (pc' := 147) (dc D_Chr_takeBestPair 79 rfl) rfl ⟨by decide, by decide⟩ ?_
        refine Sd_iload (pc' := 149) (dc D_Chr_takeBestPair 80 rfl) rfl 6 rfl ?_
        refine Sd_iastore (pc' := 150) (dc D_Chr_takeBestPair 81 rfl) rfl (by decide) ?_
        refine Sd_iinc (pc' := 153) (l' := [(4, _), (6, _), (5, _), (0, _), (1, _), (2, _), (3, _)]) (dc D_Chr_takeBestPair 82 rfl) rfl 6 rfl (by decide) rfl ?_
        refine Sd_goto (tgt := 17) (dc D_Chr_takeBestPair 83 rfl) (by decide) ?_
        refine Sd.sub (l' := [(0, _), (1, _), (2, _), (3, _), (4, _)]) [3, 4, 5, 6, 0] rfl ?_
        exact hk17 _ _ _ _ _ _
    · refine Sd_goto (tgt := 150) (dc D_Chr_takeBestPair 46 rfl) (by decide) ?_
      refine Sd_iinc (pc' := 153) (l' := [(4, _), (5, _), (0, _), (1, _), (2, _), (3, _)]) (dc D_Chr_takeBestPair 82 rfl) rfl 5 rfl (by decide) rfl ?_
      refine Sd_goto (tgt := 17) (dc D_Chr_takeBestPair 83 rfl) (by decide) ?_
      refine Sd.sub (l' := [(0, _), (1, _), (2, _), (3, _), (4, _)]) [2, 3, 4, 5, 0] rfl ?_
      exact hk17 _ _ _ _ _ _
def Chr_takeBestPair_L17 : Nat → Nat → Int → Int → Int → Int → AH → Option (Unit × AH)
  | 0, _, _, _, _, _, _ => none
  | n + 1, v0, v1, v2, v3, v4, h => gR h 2 v0 1 fun r1 => gI h 1 r1 4 fun x2 => if (x2 : Int) ≤ v4 then (some ((), h)) else (gR h 2 v0 3 fun r3 => aI h 21 r3 v1 fun x4 => gR h 2 v0 3 fun r5 => aI h 21 r5 v4 fun x6 => gI h 2 v0 6 fun x7 => if (x7 : Int) < (wr (x4 + x6)) then (Chr_takeBestPair_L55 (Chr_takeBestPair_L17 n) v0 v1 v2 v3 v4 0 h) else (Chr_takeBestPair_L55 (Chr_takeBestPair_L17 n) v0 v1 v2 v3 v4 1 h))
set_option maxHeartbeats 4000000 in
set_option maxRecDepth 20000 in
theorem s_Chr_takeBestPair_L17 : ∀ (n : Nat) (v0 : Nat) (v1 : Int) (v2 : Int) (v3 : Int) (v4 : Int) (h : AH), Sd M_Chr_takeBestPair 6 120 emV 17 [(0, vr v0), (1, vi v1), (2, vi v2), (3, vi v3), (4, vi v4)] [] h (Chr_takeBestPair_L17 n v0 v1 v2 v3 v4 h)
  | 0, _, _, _, _, _, _ => Sd.none
  | n + 1, v0, v1, v2, v3, v4, h => by
    rw [Chr_takeBestPair_L17]
    refine Sd_iload (pc' := 19) (dc D_Chr_takeBestPair 10 rfl) rfl 4 rfl ?_
    refine Sd_aload_n (pc' := 20) (dc D_Chr_takeBestPair 11 rfl) rfl 0 rfl rfl ?_
    refine Sd_getR (pc' := 23) (dc D_Chr_takeBestPair 12 rfl) rfl F_Chr_31 rfl rfl ?_
    refine Sd_getI (pc' := 26) (dc D_Chr_takeBestPair 13 rfl) rfl F_Chr_97 rfl rfl ?_
    refine Sd_icmp_ge (tgt := 156) (pc' := 29) (dc D_Chr_takeBestPair 14 rfl) (by decide) rfl (fun _ => ?_) (fun _ => ?_)
    · exact Sd_vret (dc D_Chr_takeBestPair 84 rfl) rfl
    · refine Sd_aload_n (pc' := 30) (dc D_Chr_takeBestPair 15 rfl) rfl 0 rfl rfl ?_
      refine Sd_getR (pc' := 33) (dc D_Chr_takeBestPair 16 rfl) rfl F_Chr_20 rfl rfl ?_
      refine Sd_iload_n (pc' := 34) (dc D_Chr_takeBestPair 17 rfl) rfl 1 rfl rfl ?_
      refine Sd_iaload (pc' := 35) (dc D_Chr_takeBestPair 18 rfl) rfl ?_
      refine Sd_aload_n (pc' := 36) (dc D_Chr_takeBestPair 19 rfl) rfl 0 rfl rfl ?_
      refine Sd_getR (pc' := 39) (dc D_Chr_takeBestPair 20 rfl) rfl F_Chr_20 rfl rfl ?_
      refine Sd_iload (pc' := 41) (dc D_Chr_takeBestPair 21 rfl) rfl 4 rfl ?_
      refine Sd_iaload (pc' := 42) (dc D_Chr_takeBestPair 22 rfl) rfl ?_
      refine Sd_iadd (pc' := 43) (dc D_Chr_takeBestPair 23 rfl) rfl ?_
      refine Sd_aload_n (pc' := 44) (dc D_Chr_takeBestPair 24 rfl) rfl 0 rfl rfl ?_
      refine Sd_getI (pc' := 47) (dc D_Chr_takeBestPair 25 rfl) rfl F_Chr_87 rfl rfl ?_
      refine Sd_icmp_gt (tgt := 54) (pc' := 50) (dc D_Chr_takeBestPair 26 rfl) (by decide) rfl (fun _ => ?_) (fun _ => ?_)
      · refine Sd_iconst (pc' := 55) (dc D_Chr_takeBestPair 29 rfl) rfl ⟨by decide, by decide⟩ ?_
        exact s_Chr_takeBestPair_L55 (Chr_takeBestPair_L17 n) (s_Chr_takeBestPair_L17 n) _ _ _ _ _ _ _
      · refine Sd_iconst (pc' := 51) (dc D_Chr_takeBestPair 27 rfl) rfl ⟨by decide, by decide⟩ ?_
        refine Sd_goto (tgt := 55) (dc D_Chr_takeBestPair 28 rfl) (by decide) ?_
        exact s_Chr_takeBestPair_L55 (Chr_takeBestPair_L17 n) (s_Chr_takeBestPair_L17 n) _ _ _ _ _ _ _
def Chr_takeBestPair (v0 : Nat) (v1 : Int) (v2 : Int) (v3 : Int) (h : AH) : Option (Unit × AH) := gR h 2 v0 2 fun r1 => rc h 8 r1 <| bnd (She_clear r1 h) fun _ h2 => rc h2 2 v0 <| bnd (Chr_addToTrial v0 v1 h2) fun _ h5 => Chr_takeBestPair_L17 FU v0 v1 v2 v3 ((wr (v1 + 1))) h5
set_option maxHeartbeats 4000000 in
set_option maxRecDepth 20000 in
theorem s_Chr_takeBestPair (v0 : Nat) (v1 : Int) (v2 : Int) (v3 : Int) (h : AH) : CS M_Chr_takeBestPair 6 120 emV [vr v0, vi v1, vi v2, vi v3] h (Chr_takeBestPair v0 v1 v2 v3 h) := by
  refine CS.of (by decide) (Nat.le_of_ble_eq_true rfl) ?_
  show Sd M_Chr_takeBestPair 6 120 emV 0 [(0, vr v0), (1, vi v1), (2, vi v2), (3, vi v3)] [] h _
  unfold Chr_takeBestPair
  refine Sd_aload_n (pc' := 1) (dc D_Chr_takeBestPair 0 rfl) rfl 0 rfl rfl ?_
  refine Sd_getR (pc' := 4) (dc D_Chr_takeBestPair 1 rfl) rfl F_Chr_14 rfl rfl ?_
  refine Sd.callVV (ci := 7) (t := 8) (as := []) RX7 (pc' := 7) (dc D_Chr_takeBestPair 2 rfl) rfl rfl rfl rfl K_She_clear L_Chr_75 Ks_She_clear Kv_She_clear ⟨by decide, by decide⟩ rfl rfl (Nat.le_of_ble_eq_true rfl) (s_She_clear _ _) (fun _ h2 => ?_)
  refine Sd_aload_n (pc' := 8) (dc D_Chr_takeBestPair 3 rfl) rfl 0 rfl rfl ?_
  refine Sd_iload_n (pc' := 9) (dc D_Chr_takeBestPair 4 rfl) rfl 1 rfl rfl ?_
  refine Sd.callVV (ci := 1) (t := 2) (as := [_]) RX1 (pc' := 12) (dc D_Chr_takeBestPair 5 rfl) rfl rfl rfl rfl K_Chr_addToTrial L_Chr_65 Ks_Chr_addToTrial Kv_Chr_addToTrial ⟨by decide, by decide⟩ rfl rfl (Nat.le_of_ble_eq_true rfl) (s_Chr_addToTrial _ _ _) (fun _ h5 => ?_)
  refine Sd_iload_n (pc' := 13) (dc D_Chr_takeBestPair 6 rfl) rfl 1 rfl rfl ?_
  refine Sd_iconst (pc' := 14) (dc D_Chr_takeBestPair 7 rfl) rfl ⟨by decide, by decide⟩ ?_
  refine Sd_iadd (pc' := 15) (dc D_Chr_takeBestPair 8 rfl) rfl ?_
  refine Sd_istore (pc' := 17) (l' := [(4, _), (0, _), (1, _), (2, _), (3, _)]) (dc D_Chr_takeBestPair 9 rfl) rfl (by decide) rfl ?_
  refine Sd.sub (l' := [(0, _), (1, _), (2, _), (3, _), (4, _)]) [1, 2, 3, 4, 0] rfl ?_
  exact s_Chr_takeBestPair_L17 FU _ _ _ _ _ _
theorem K_Chr_takeBestPair : MOk M_Chr_takeBestPair 3 := ⟨Tb_at 131 (by decide +kernel) rfl, Tb_at 991 (by decide +kernel) rfl, by decide +kernel, by decide +kernel, by decide +kernel⟩
theorem Ks_Chr_takeBestPair : Cond.instanceMethod yX1_takeBestPair ∈ Tb := Tb_at 990 (by decide +kernel) rfl
theorem Kv_Chr_takeBestPair : Cond.selects RX1 yX1_takeBestPair yX1_takeBestPair ∈ Tb := Tb_at 28 (by decide +kernel) rfl
/-! ===== BatchShare$Chooser.takeBest(I)V ===== -/
abbrev M_Chr_takeBest : AMt := (yX1_takeBest, cX1_takeBest, 4, none)
def T_Chr_takeBest : List (Nat × Instr × Nat) := [(0, .aload_n 0, 1), (1, .invokevirtual 90, 3), (4, .aload_n 0, 1), (5, .getfield 27, 3), (8, .aload_n 0, 1), (9, .getfield 14, 3), (12, .invokevirtual 39, 3), (15, .istore_n 2, 1), (16, .iconst 0, 1), (17, .istore_n 3, 1), (18, .iload_n 3, 1), (19, .aload_n 0, 1), (20, .getfield 31, 3), (23, .getfield 97, 3), (26, .if_icmp .ge 75, 3), (29, .aload_n 0, 1), (30, .getfield 20, 3), (33, .iload_n 3, 1), (34, .iload_n 2, 1), (35, .aload_n 0, 1), (36, .iload_n 3, 1), (37, .invokevirtual 45, 3), (40, .isub, 1), (41, .aload_n 0, 1), (42, .getfield 31, 3), (45, .getfield 49, 3), (48, .iload_n 3, 1), (49, .iaload, 1), (50, .isub, 1), (51, .iastore, 1), (52, .aload_n 0, 1), (53, .getfield 31, 3), (56, .getfield 58, 3), (59, .iload_n 3, 1), (60, .iaload, 1), (61, .iload_n 1, 1), (62, .if_icmp .gt 33, 3), (65, .aload_n 0, 1), (66, .getfield 20, 3), (69, .iload_n 3, 1), (70, .iaload, 1), (71, .aload_n 0, 1), (72, .getfield 87, 3), (75, .if_icmp .le 20, 3), (78, .aload_n 0, 1), (79, .aload_n 0, 1), (80, .getfield 20, 3), (83, .iload_n 3, 1), (84, .iaload, 1), (85, .putfield 87, 3), (88, .aload_n 0, 1), (89, .getfield 24, 3), (92, .iconst 0, 1), (93, .iload_n 3, 1), (94, .iastore, 1), (95, .iinc 3 1, 3), (98, .goto (-80), 3), (101, .iconst 0, 1), (102, .istore_n 3, 1), (103, .iload_n 3, 1), (104, .aload_n 0, 1), (105, .getfield 31, 3), (108, .getfield 97, 3), (111, .if_icmp .ge 16, 3), (114, .aload_n 0, 1), (115, .iload_n 3, 1), (116, .iload_n 2, 1), (117, .iload_n 1, 1), (118, .invokevirtual 98, 3), (121, .iinc 3 1, 3), (124, .goto (-21), 3), (127, .return_, 1)]
set_option maxRecDepth 20000 in
theorem D_Chr_takeBest : (T_Chr_takeBest.all fun q => decide (decode M_Chr_takeBest.2.1 q.1 = .ok q.2)) = true := by decide +kernel
def Chr_takeBest_L103 : Nat → Nat → Int → Int → Int → AH → Option (Unit × AH)
  | 0, _, _, _, _, _ => none
  | n + 1, v0, v1, v2, v3, h => gR h 2 v0 1 fun r1 => gI h 1 r1 4 fun x2 => if (x2 : Int) ≤ v3 then (some ((), h)) else (rc h 2 v0 <| bnd (Chr_takeBestPair v0 v3 v2 v1 h) fun _ h3 => Chr_takeBest_L103 n v0 v1 v2 ((wr (v3 + 1))) h3)
set_option maxHeartbeats 4000000 in
set_option maxRecDepth 20000 in
theorem s_Chr_takeBest_L103 : ∀ (n : Nat) (v0 : Nat) (v1 : Int) (v2 : Int) (v3 : Int) (h : AH), Sd M_Chr_takeBest 7 146 emV 103 [(0, vr v0), (1, vi v1), (2, vi v2), (3, vi v3)] [] h (Chr_takeBest_L103 n v0 v1 v2 v3 h)
  | 0, _, _, _, _, _ => Sd.none
  | n + 1, v0, v1, v2, v3, h => by
    rw [Chr_takeBest_L103]
    refine Sd_iload_n (pc' := 104) (dc D_Chr_takeBest 59 rfl) rfl 3 rfl rfl ?_
    refine Sd_aload_n (pc' := 105) (dc D_Chr_takeBest 60 rfl) rfl 0 rfl rfl ?_
    refine Sd_getR (pc' := 108) (dc D_Chr_takeBest 61 rfl) rfl F_Chr_31 rfl rfl ?_
    refine Sd_getI (pc' := 111) (dc D_Chr_takeBest 62 rfl) rfl F_Chr_97 rfl rfl ?_
    refine Sd_icmp_ge (tgt := 127) (pc' := 114) (dc D_Chr_takeBest 63 rfl) (by decide) rfl (fun _ => ?_) (fun _ => ?_)
    · exact Sd_vret (dc D_Chr_takeBest 71 rfl) rfl
    · refine Sd_aload_n (pc' := 115) (dc D_Chr_takeBest 64 rfl) rfl 0 rfl rfl ?_
      refine Sd_iload_n (pc' := 116) (dc D_Chr_takeBest 65 rfl) rfl 3 rfl rfl ?_
      refine Sd_iload_n (pc' := 117) (dc D_Chr_takeBest 66 rfl) rfl 2 rfl rfl ?_
      refine Sd_iload_n (pc' := 118) (dc D_Chr_takeBest 67 rfl) rfl 1 rfl rfl ?_
      refine Sd.callVV (ci := 1) (t := 2) (as := [_, _, _]) RX1 (pc' := 121) (dc D_Chr_takeBest 68 rfl) rfl rfl rfl rfl K_Chr_takeBestPair L_Chr_98 Ks_Chr_takeBestPair Kv_Chr_takeBestPair ⟨by decide, by decide⟩ rfl rfl (Nat.le_of_ble_eq_true rfl) (s_Chr_takeBestPair _ _ _ _ _) (fun _ h3 => ?_)
      refine Sd_iinc (pc' := 124) (l' := [(3, _), (0, _), (1, _), (2, _)]) (dc D_Chr_takeBest 69 rfl) rfl 3 rfl (by decide) rfl ?_
      refine Sd_goto (tgt := 103) (dc D_Chr_takeBest 70 rfl) (by decide) ?_
      refine Sd.sub (l' := [(0, _), (1, _), (2, _), (3, _)]) [1, 2, 3, 0] rfl ?_
      exact s_Chr_takeBest_L103 n _ _ _ _ _
def Chr_takeBest_L18 : Nat → Nat → Int → Int → Int → AH → Option (Unit × AH)
  | 0, _, _, _, _, _ => none
  | n + 1, v0, v1, v2, v3, h => gR h 2 v0 1 fun r1 => gI h 1 r1 4 fun x2 => if (x2 : Int) ≤ v3 then (Chr_takeBest_L103 FU v0 v1 v2 0 h) else (gR h 2 v0 3 fun r3 => rc h 2 v0 <| bnd (Chr_batchBesides v0 v3 h) fun x5 h4 => gR h4 2 v0 1 fun r7 => gR h4 1 r7 2 fun r8 => aI h4 21 r8 v3 fun x9 => wI h4 21 r3 v3 (wr ((wr (v2 - x5)) - x9)) fun h10 => gR h10 2 v0 1 fun r11 => gR h10 1 r11 1 fun r12 => aI h10 21 r12 v3 fun x13 => if (v1 : Int) < x13 then (Chr_takeBest_L18 n v0 v1 v2 ((wr (v3 + 1))) h10) else (gR h10 2 v0 3 fun r14 => aI h10 21 r14 v3 fun x15 => gI h10 2 v0 6 fun x16 => if (x15 : Int) ≤ x16 then (Chr_takeBest_L18 n v0 v1 v2 ((wr (v3 + 1))) h10) else (gR h10 2 v0 3 fun r17 => aI h10 21 r17 v3 fun x18 => pI h10 2 v0 6 x18 fun h19 => gR h19 2 v0 4 fun r20 => wI h19 21 r20 0 v3 fun h21 => Chr_takeBest_L18 n v0 v1 v2 ((wr (v3 + 1))) h21)))
set_option maxHeartbeats 4000000 in
set_option maxRecDepth 20000 in
theorem s_Chr_takeBest_L18 : ∀ (n : Nat) (v0 : Nat) (v1 : Int) (v2 : Int) (v3 : Int) (h : AH), Sd M_Chr_takeBest 7 146 emV 18 [(0, vr v0), (1, vi v1), (2, vi v2), (3, vi v3)] [] h (Chr_takeBest_L18 n v0 v1 v2 v3 h)
  | 0, _, _, _, _, _ => Sd.none
  | n + 1, v0, v1, v2, v3, h => by
    rw [Chr_takeBest_L18]
    refine Sd_iload_n (pc' := 19) (dc D_Chr_takeBest 10 rfl) rfl 3 rfl rfl ?_
    refine Sd_aload_n (pc' := 20) (dc D_Chr_takeBest 11 rfl) rfl 0 rfl rfl ?_
    refine Sd_getR (pc' := 23) (dc D_Chr_takeBest 12 rfl) rfl F_Chr_31 rfl rfl ?_
    refine Sd_getI (pc' := 26) (dc D_Chr_takeBest 13 rfl) rfl F_Chr_97 rfl rfl ?_
    refine Sd_icmp_ge (tgt := 101) (pc' := 29) (dc D_Chr_takeBest 14 rfl) (by decide) rfl (fun _ => ?_) (fun _ => ?_)
    · refine Sd_iconst (pc' := 102) (dc D_Chr_takeBest 57 rfl) rfl ⟨by decide, by decide⟩ ?_
      refine Sd_istore_n (pc' := 103) (l' := [(3, _), (0, _), (1, _), (2, _)]) (dc D_Chr_takeBest 58 rfl) rfl rfl (by decide) rfl ?_
      refine Sd.sub (l' := [(0, _), (1, _), (2, _), (3, _)]) [1, 2, 3, 0] rfl ?_
      exact s_Chr_takeBest_L103 FU _ _ _ _ _
    · refine Sd_aload_n (pc' := 30) (dc D_Chr_takeBest 15 rfl) rfl 0 rfl rfl ?_
      refine Sd_getR (pc' := 33) (dc D_Chr_takeBest 16 rfl) rfl F_Chr_20 rfl rfl ?_
      refine Sd_iload_n (pc' := 34) (dc D_Chr_takeBest 17 rfl) rfl 3 rfl rfl ?_
      refine Sd_iload_n (pc' := 35) (dc D_Chr_takeBest 18 rfl) rfl 2 rfl rfl ?_
      refine Sd_aload_n (pc' := 36) (dc D_Chr_takeBest 19 rfl) rfl 0 rfl rfl ?_
      refine Sd_iload_n (pc' := 37) (dc D_Chr_takeBest 20 rfl) rfl 3 rfl rfl ?_
      refine Sd.callVI (ci := 1) (t := 2) (as := [_]) RX1 (pc' := 40) (dc D_Chr_takeBest 21 rfl) rfl rfl rfl rfl K_Chr_batchBesides L_Chr_45 Ks_Chr_batchBesides Kv_Chr_batchBesides ⟨by decide, by decide⟩ rfl rfl (Nat.le_of_ble_eq_true rfl) (s_Chr_batchBesides _ _ _) (fun x5 h4 => ?_)
      refine Sd_isub (pc' := 41) (dc D_Chr_takeBest 22 rfl) rfl ?_
      refine Sd_aload_n (pc' := 42) (dc D_Chr_takeBest 23 rfl) rfl 0 rfl rfl ?_
      refine Sd_getR (pc' := 45) (dc D_Chr_takeBest 24 rfl) rfl F_Chr_31 rfl rfl ?_
      refine Sd_getR (pc' := 48) (dc D_Chr_takeBest 25 rfl) rfl F_Chr_49 rfl rfl ?_
      refine Sd_iload_n (pc' := 49) (dc D_Chr_takeBest 26 rfl) rfl 3 rfl rfl ?_
      refine Sd_iaload (pc' := 50) (dc D_Chr_takeBest 27 rfl) rfl ?_
      refine Sd_isub (pc' := 51) (dc D_Chr_takeBest 28 rfl) rfl ?_
      refine Sd_iastore (pc' := 52) (dc D_Chr_takeBest 29 rfl) rfl (by decide) ?_
      refine Sd_aload_n (pc' := 53) (dc D_Chr_takeBest 30 rfl) rfl 0 rfl rfl ?_
      refine Sd_getR (pc' := 56) (dc D_Chr_takeBest 31 rfl) rfl F_Chr_31 rfl rfl ?_
      refine Sd_getR (pc' := 59) (dc D_Chr_takeBest 32 rfl) rfl F_Chr_58 rfl rfl ?_
      refine Sd_iload_n (pc' := 60) (dc D_Chr_takeBest 33 rfl) rfl 3 rfl rfl ?_
      refine Sd_iaload (pc' := 61) (dc D_Chr_takeBest 34 rfl) rfl ?_
      refine Sd_iload_n (pc' := 62) (dc D_Chr_takeBest 35 rfl) rfl 1 rfl rfl ?_
      refine Sd_icmp_gt (tgt := 95) (pc' := 65) (dc D_Chr_takeBest 36 rfl) (by decide) rfl (fun _ => ?_) (fun _ => ?_)
      · refine Sd_iinc (pc' := 98) (l' := [(3, _), (0, _), (1, _), (2, _)]) (dc D_Chr_takeBest 55 rfl) rfl 3 rfl (by decide) rfl ?_
        refine Sd_goto (tgt := 18) (dc D_Chr_takeBest 56 rfl) (by decide) ?_
        refine Sd.sub (l' := [(0, _), (1, _), (2, _), (3, _)]) [1, 2, 3, 0] rfl ?_
        exact s_Chr_takeBest_L18 n _ _ _ _ _
      · refine Sd_aload_n (pc' := 66) (dc D_Chr_takeBest 37 rfl) rfl 0 rfl rfl ?_
        refine Sd_getR (pc' := 69) (dc D_Chr_takeBest 38 rfl) rfl F_Chr_20 rfl rfl ?_
        refine Sd_iload_n (pc' := 70) (dc D_Chr_takeBest 39 rfl) rfl 3 rfl rfl ?_
        refine Sd_iaload (pc' := 71) (dc D_Chr_takeBest 40 rfl) rfl ?_
        refine Sd_aload_n (pc' := 72) (dc D_Chr_takeBest 41 rfl) rfl 0 rfl rfl ?_
        refine Sd_getI (pc' := 75) (dc D_Chr_takeBest 42 rfl) rfl F_Chr_87 rfl rfl ?_
        refine Sd_icmp_le (tgt := 95) (pc' := 78) (dc D_Chr_takeBest 43 rfl) (by decide) rfl (fun _ => ?_) (fun _ => ?_)
        · refine Sd_iinc (pc' := 98) (l' := [(3, _), (0, _), (1, _), (2, _)]) (dc D_Chr_takeBest 55 rfl) rfl 3 rfl (by decide) rfl ?_
          refine Sd_goto (tgt := 18) (dc D_Chr_takeBest 56 rfl) (by decide) ?_
          refine Sd.sub (l' := [(0, _), (1, _), (2, _), (3, _)]) [1, 2, 3, 0] rfl ?_
          exact s_Chr_takeBest_L18 n _ _ _ _ _
        · refine Sd_aload_n (pc' := 79) (dc D_Chr_takeBest 44 rfl) rfl 0 rfl rfl ?_
          refine Sd_aload_n (pc' := 80) (dc D_Chr_takeBest 45 rfl) rfl 0 rfl rfl ?_
          refine Sd_getR (pc' := 83) (dc D_Chr_takeBest 46 rfl) rfl F_Chr_20 rfl rfl ?_
          refine Sd_iload_n (pc' := 84) (dc D_Chr_takeBest 47 rfl) rfl 3 rfl rfl ?_
          refine Sd_iaload (pc' := 85) (dc D_Chr_takeBest 48 rfl) rfl ?_
          refine Sd_putI (pc' := 88) (dc D_Chr_takeBest 49 rfl) rfl F_Chr_87 rfl rfl rfl (finOk.no rfl) (by decide) ?_
          refine Sd_aload_n (pc' := 89) (dc D_Chr_takeBest 50 rfl) rfl 0 rfl rfl ?_
          refine Sd_getR (pc' := 92) (dc D_Chr_takeBest 51 rfl) rfl F_Chr_24 rfl rfl ?_
          refine Sd_iconst (pc' := 93) (dc D_Chr_takeBest 52 rfl) rfl ⟨by decide, by decide⟩ ?_
          refine Sd_iload_n (pc' := 94) (dc D_Chr_takeBest 53 rfl) rfl 3 rfl rfl ?_
          refine Sd_iastore (pc' := 95) (dc D_Chr_takeBest 54 rfl) rfl (by decide) ?_
          refine Sd_iinc (pc' := 98) (l' := [(3, _), (0, _), (1, _), (2, _)]) (dc D_Chr_takeBest 55 rfl) rfl 3 rfl (by decide) rfl ?_
          refine Sd_goto (tgt := 18) (dc D_Chr_takeBest 56 rfl) (by decide) ?_
          refine Sd.sub (l' := [(0, _), (1, _), (2, _), (3, _)]) [1, 2, 3, 0] rfl ?_
          exact s_Chr_takeBest_L18 n _ _ _ _ _
def Chr_takeBest (v0 : Nat) (v1 : Int) (h : AH) : Option (Unit × AH) := rc h 2 v0 <| bnd (Chr_takeNothing v0 h) fun _ h1 => gR h1 2 v0 0 fun r4 => gR h1 2 v0 2 fun r5 => rc h1 5 r4 <| bnd (Pri_batchBy r4 r5 h1) fun x7 h6 => Chr_takeBest_L18 FU v0 v1 x7 0 h6
set_option maxHeartbeats 4000000 in
set_option maxRecDepth 20000 in
theorem s_Chr_takeBest (v0 : Nat) (v1 : Int) (h : AH) : CS M_Chr_takeBest 7 146 emV [vr v0, vi v1] h (Chr_takeBest v0 v1 h) := by
  refine CS.of (by decide) (Nat.le_of_ble_eq_true rfl) ?_
  show Sd M_Chr_takeBest 7 146 emV 0 [(0, vr v0), (1, vi v1)] [] h _
  unfold Chr_takeBest
  refine Sd_aload_n (pc' := 1) (dc D_Chr_takeBest 0 rfl) rfl 0 rfl rfl ?_
  refine Sd.callVV (ci := 1) (t := 2) (as := []) RX1 (pc' := 4) (dc D_Chr_takeBest 1 rfl) rfl rfl rfl rfl K_Chr_takeNothing L_Chr_90 Ks_Chr_takeNothing Kv_Chr_takeNothing ⟨by decide, by decide⟩ rfl rfl (Nat.le_of_ble_eq_true rfl) (s_Chr_takeNothing _ _) (fun _ h1 => ?_)
  refine Sd_aload_n (pc' := 5) (dc D_Chr_takeBest 2 rfl) rfl 0 rfl rfl ?_
  refine Sd_getR (pc' := 8) (dc D_Chr_takeBest 3 rfl) rfl F_Chr_27 rfl rfl ?_
  refine Sd_aload_n (pc' := 9) (dc D_Chr_takeBest 4 rfl) rfl 0 rfl rfl ?_
  refine Sd_getR (pc' := 12) (dc D_Chr_takeBest 5 rfl) rfl F_Chr_14 rfl rfl ?_
  refine Sd.callVI (ci := 4) (t := 5) (as := [_]) RX4 (pc' := 15) (dc D_Chr_takeBest 6 rfl) rfl rfl rfl rfl K_Pri_batchBy L_Chr_39 Ks_Pri_batchBy Kv_Pri_batchBy ⟨by decide, by decide⟩ rfl rfl (Nat.le_of_ble_eq_true rfl) (s_Pri_batchBy _ _ _) (fun x7 h6 => ?_)
  refine Sd_istore_n (pc' := 16) (l' := [(2, _), (0, _), (1, _)]) (dc D_Chr_takeBest 7 rfl) rfl rfl (by decide) rfl ?_
  refine Sd_iconst (pc' := 17) (dc D_Chr_takeBest 8 rfl) rfl ⟨by decide, by decide⟩ ?_
  refine Sd_istore_n (pc' := 18) (l' := [(3, _), (2, _), (0, _), (1, _)]) (dc D_Chr_takeBest 9 rfl) rfl rfl (by decide) rfl ?_
  refine Sd.sub (l' := [(0, _), (1, _), (2, _), (3, _)]) [2, 3, 1, 0] rfl ?_
  exact s_Chr_takeBest_L18 FU _ _ _ _ _
theorem K_Chr_takeBest : MOk M_Chr_takeBest 1 := ⟨Tb_at 131 (by decide +kernel) rfl, Tb_at 987 (by decide +kernel) rfl, by decide +kernel, by decide +kernel, by decide +kernel⟩
theorem Ks_Chr_takeBest : Cond.instanceMethod yX1_takeBest ∈ Tb := Tb_at 985 (by decide +kernel) rfl
theorem Kv_Chr_takeBest : Cond.selects RX1 yX1_takeBest yX1_takeBest ∈ Tb := Tb_at 986 (by decide +kernel) rfl
/-! ===== BatchShare$Pricer.useServing(LBatchShare$Shelf;I)V ===== -/
abbrev M_Pri_useServing : AMt := (yX4_useServing, cX4_useServing, 4, none)
def T_Pri_useServing : List (Nat × Instr × Nat) := [(0, .iconst 0, 1), (1, .istore_n 3, 1), (2, .iload_n 3, 1), (3, .iconst 3, 1), (4, .if_icmp .ge 46, 3), (7, .aload_n 0, 1), (8, .getfield 18, 3), (11, .iload_n 3, 1), (12, .iaload, 1), (13, .ifCond .lt 31, 3), (16, .aload_n 0, 1), (17, .getfield 18, 3), (20, .iload_n 3, 1), (21, .iaload, 1), (22, .aload_n 1, 1), (23, .getfield 72, 3), (26, .if_icmp .ge 18, 3), (29, .aload_n 1, 1), (30, .getfield 75, 3), (33, .aload_n 0, 1), (34, .getfield 18, 3), (37, .iload_n 3, 1), (38, .iaload, 1), (39, .aaload, 1), (40, .iload_n 2, 1), (41, .putfield 79, 3), (44, .iinc 3 1, 3), (47, .goto (-45), 3), (50, .return_, 1)]
set_option maxRecDepth 20000 in
theorem D_Pri_useServing : (T_Pri_useServing.all fun q => decide (decode M_Pri_useServing.2.1 q.1 = .ok q.2)) = true := by decide +kernel
def Pri_useServing_L2 : Nat → Nat → Nat → Int → Int → AH → Option (Unit × AH)
  | 0, _, _, _, _, _ => none
  | n + 1, v0, v1, v2, v3, h => if (3 : Int) ≤ v3 then (some ((), h)) else (gR h 5 v0 3 fun r1 => aI h 21 r1 v3 fun x2 => if (x2 : Int) < 0 then (Pri_useServing_L2 n v0 v1 v2 ((wr (v3 + 1))) h) else (gR h 5 v0 3 fun r3 => aI h 21 r3 v3 fun x4 => gI h 8 v1 1 fun x5 => if (x5 : Int) ≤ x4 then (Pri_useServing_L2 n v0 v1 v2 ((wr (v3 + 1))) h) else (gR h 8 v1 0 fun r6 => gR h 5 v0 3 fun r7 => aI h 21 r7 v3 fun x8 => aR h 35 r6 x8 fun r9 => pI h 3 r9 2 v2 fun h10 => Pri_useServing_L2 n v0 v1 v2 ((wr (v3 + 1))) h10)))
set_option maxHeartbeats 4000000 in
set_option maxRecDepth 20000 in
theorem s_Pri_useServing_L2 : ∀ (n : Nat) (v0 : Nat) (v1 : Nat) (v2 : Int) (v3 : Int) (h : AH), Sd M_Pri_useServing 1 0 emV 2 [(0, vr v0), (1, vr v1), (2, vi v2), (3, vi v3)] [] h (Pri_useServing_L2 n v0 v1 v2 v3 h)
  | 0, _, _, _, _, _ => Sd.none
  | n + 1, v0, v1, v2, v3, h => by
    rw [Pri_useServing_L2]
    refine Sd_iload_n (pc' := 3) (dc D_Pri_useServing 2 rfl) rfl 3 rfl rfl ?_
    refine Sd_iconst (pc' := 4) (dc D_Pri_useServing 3 rfl) rfl ⟨by decide, by decide⟩ ?_
    refine Sd_icmp_ge (tgt := 50) (pc' := 7) (dc D_Pri_useServing 4 rfl) (by decide) rfl (fun _ => ?_) (fun _ => ?_)
    · exact Sd_vret (dc D_Pri_useServing 28 rfl) rfl
    · refine Sd_aload_n (pc' := 8) (dc D_Pri_useServing 5 rfl) rfl 0 rfl rfl ?_
      refine Sd_getR (pc' := 11) (dc D_Pri_useServing 6 rfl) rfl F_Pri_18 rfl rfl ?_
      refine Sd_iload_n (pc' := 12) (dc D_Pri_useServing 7 rfl) rfl 3 rfl rfl ?_
      refine Sd_iaload (pc' := 13) (dc D_Pri_useServing 8 rfl) rfl ?_
      refine Sd_if_lt (tgt := 44) (pc' := 16) (dc D_Pri_useServing 9 rfl) (by decide) rfl (fun _ => ?_) (fun _ => ?_)
      · refine Sd_iinc (pc' := 47) (l' := [(3, _), (0, _), (1, _), (2, _)]) (dc D_Pri_useServing 26 rfl) rfl 3 rfl (by decide) rfl ?_
        refine Sd_goto (tgt := 2) (dc D_Pri_useServing 27 rfl) (by decide) ?_
        refine Sd.sub (l' := [(0, _), (1, _), (2, _), (3, _)]) [1, 2, 3, 0] rfl ?_
        exact s_Pri_useServing_L2 n _ _ _ _ _
      · refine Sd_aload_n (pc' := 17) (dc D_Pri_useServing 10 rfl) rfl 0 rfl rfl ?_
        refine Sd_getR (pc' := 20) (dc D_Pri_useServing 11 rfl) rfl F_Pri_18 rfl rfl ?_
        refine Sd_iload_n (pc' := 21) (dc D_Pri_useServing 12 rfl) rfl 3 rfl rfl ?_
        refine Sd_iaload (pc' := 22) (dc D_Pri_useServing 13 rfl) rfl ?_
        refine Sd_aload_n (pc' := 23) (dc D_Pri_useServing 14 rfl) rfl 1 rfl rfl ?_
        refine Sd_getI (pc' := 26) (dc D_Pri_useServing 15 rfl) rfl F_Pri_72 rfl rfl ?_
        refine Sd_icmp_ge (tgt := 44) (pc' := 29) (dc D_Pri_useServing 16 rfl) (by decide) rfl (fun _ => ?_) (fun _ => ?_)
        · refine Sd_iinc (pc' := 47) (l' := [(3, _), (0, _), (1, _), (2, _)]) (dc D_Pri_useServing 26 rfl) rfl 3 rfl (by decide) rfl ?_
          refine Sd_goto (tgt := 2) (dc D_Pri_useServing 27 rfl) (by decide) ?_
          refine Sd.sub (l' := [(0, _), (1, _), (2, _), (3, _)]) [1, 2, 3, 0] rfl ?_
          exact s_Pri_useServing_L2 n _ _ _ _ _
        · refine Sd_aload_n (pc' := 30) (dc D_Pri_useServing 17 rfl) rfl 1 rfl rfl ?_
          refine Sd_getR (pc' := 33) (dc D_Pri_useServing 18 rfl) rfl F_Pri_75 rfl rfl ?_
          refine Sd_aload_n (pc' := 34) (dc D_Pri_useServing 19 rfl) rfl 0 rfl rfl ?_
          refine Sd_getR (pc' := 37) (dc D_Pri_useServing 20 rfl) rfl F_Pri_18 rfl rfl ?_
          refine Sd_iload_n (pc' := 38) (dc D_Pri_useServing 21 rfl) rfl 3 rfl rfl ?_
          refine Sd_iaload (pc' := 39) (dc D_Pri_useServing 22 rfl) rfl ?_
          refine Sd_aaload (t := 35) (j := 7) (C0 := RX2) (pc' := 40) (dc D_Pri_useServing 23 rfl) rfl rfl (by decide) ?_
          refine Sd_iload_n (pc' := 41) (dc D_Pri_useServing 24 rfl) rfl 2 rfl rfl ?_
          refine Sd_putI (pc' := 44) (dc D_Pri_useServing 25 rfl) rfl F_Pri_79 rfl rfl rfl (finOk.no rfl) (by decide) ?_
          refine Sd_iinc (pc' := 47) (l' := [(3, _), (0, _), (1, _), (2, _)]) (dc D_Pri_useServing 26 rfl) rfl 3 rfl (by decide) rfl ?_
          refine Sd_goto (tgt := 2) (dc D_Pri_useServing 27 rfl) (by decide) ?_
          refine Sd.sub (l' := [(0, _), (1, _), (2, _), (3, _)]) [1, 2, 3, 0] rfl ?_
          exact s_Pri_useServing_L2 n _ _ _ _ _
def Pri_useServing (v0 : Nat) (v1 : Nat) (v2 : Int) (h : AH) : Option (Unit × AH) := Pri_useServing_L2 FU v0 v1 v2 0 h
set_option maxHeartbeats 4000000 in
set_option maxRecDepth 20000 in
theorem s_Pri_useServing (v0 : Nat) (v1 : Nat) (v2 : Int) (h : AH) : CS M_Pri_useServing 1 0 emV [vr v0, vr v1, vi v2] h (Pri_useServing v0 v1 v2 h) := by
  refine CS.of (by decide) (Nat.le_of_ble_eq_true rfl) ?_
  show Sd M_Pri_useServing 1 0 emV 0 [(0, vr v0), (1, vr v1), (2, vi v2)] [] h _
  unfold Pri_useServing
  refine Sd_iconst (pc' := 1) (dc D_Pri_useServing 0 rfl) rfl ⟨by decide, by decide⟩ ?_
  refine Sd_istore_n (pc' := 2) (l' := [(3, _), (0, _), (1, _), (2, _)]) (dc D_Pri_useServing 1 rfl) rfl rfl (by decide) rfl ?_
  refine Sd.sub (l' := [(0, _), (1, _), (2, _), (3, _)]) [1, 2, 3, 0] rfl ?_
  exact s_Pri_useServing_L2 FU _ _ _ _ _
theorem K_Pri_useServing : MOk M_Pri_useServing 2 := ⟨Tb_at 129 (by decide +kernel) rfl, Tb_at 1103 (by decide +kernel) rfl, by decide +kernel, by decide +kernel, by decide +kernel⟩
theorem Ks_Pri_useServing : Cond.instanceMethod yX4_useServing ∈ Tb := Tb_at 1102 (by decide +kernel) rfl
theorem Kv_Pri_useServing : Cond.selects RX4 yX4_useServing yX4_useServing ∈ Tb := Tb_at 32 (by decide +kernel) rfl
/-! ===== BatchShare$Pricer.batchUsing(LBatchShare$Shelf;I)I ===== -/
abbrev M_Pri_batchUsing : AMt := (yX4_batchUsing, cX4_batchUsing, 5, (some .int))
def T_Pri_batchUsing : List (Nat × Instr × Nat) := [(0, .iconst 0, 1), (1, .istore_n 3, 1), (2, .iconst 0, 1), (3, .istore 4, 2), (5, .iload 4, 2), (7, .aload_n 0, 1), (8, .getfield 31, 3), (11, .if_icmp .ge 37, 3), (14, .aload_n 0, 1), (15, .getfield 40, 3), (18, .iload 4, 2), (20, .ishr, 1), (21, .iconst 1, 1), (22, .iand, 1), (23, .ifCond .ne 19, 3), (26, .iload_n 3, 1), (27, .aload_n 0, 1), (28, .iload 4, 2), (30, .aload_n 1, 1), (31, .invokevirtual 64, 3), (34, .iadd, 1), (35, .istore_n 3, 1), (36, .aload_n 0, 1), (37, .aload_n 1, 1), (38, .iload_n 2, 1), (39, .invokevirtual 68, 3), (42, .iinc 4 1, 3), (45, .goto (-40), 3), (48, .iload_n 3, 1), (49, .ireturn, 1)]
set_option maxRecDepth 20000 in
theorem D_Pri_batchUsing : (T_Pri_batchUsing.all fun q => decide (decode M_Pri_batchUsing.2.1 q.1 = .ok q.2)) = true := by decide +kernel
def Pri_batchUsing_L5 : Nat → Nat → Nat → Int → Int → Int → AH → Option (Int × AH)
  | 0, _, _, _, _, _, _ => none
  | n + 1, v0, v1, v2, v3, v4, h => gI h 5 v0 4 fun x1 => if (x1 : Int) ≤ v4 then (some (v3, h)) else (gI h 5 v0 5 fun x2 => if ¬ ((iAnd (iShr x2 v4) 1) : Int) = 0 then (Pri_batchUsing_L5 n v0 v1 v2 v3 ((wr (v4 + 1))) h) else (rc h 5 v0 <| bnd (Pri_costBy v0 v4 v1 h) fun x4 h3 => rc h3 5 v0 <| bnd (Pri_useServing v0 v1 v2 h3) fun _ h6 => Pri_batchUsing_L5 n v0 v1 v2 ((wr (v3 + x4))) ((wr (v4 + 1))) h6))
set_option maxHeartbeats 4000000 in
set_option maxRecDepth 20000 in
theorem s_Pri_batchUsing_L5 : ∀ (n : Nat) (v0 : Nat) (v1 : Nat) (v2 : Int) (v3 : Int) (v4 : Int) (h : AH), Sd M_Pri_batchUsing 4 75 emI 5 [(0, vr v0), (1, vr v1), (2, vi v2), (3, vi v3), (4, vi v4)] [] h (Pri_batchUsing_L5 n v0 v1 v2 v3 v4 h)
  | 0, _, _, _, _, _, _ => Sd.none
  | n + 1, v0, v1, v2, v3, v4, h => by
    rw [Pri_batchUsing_L5]
    refine Sd_iload (pc' := 7) (dc D_Pri_batchUsing 4 rfl) rfl 4 rfl ?_
    refine Sd_aload_n (pc' := 8) (dc D_Pri_batchUsing 5 rfl) rfl 0 rfl rfl ?_
    refine Sd_getI (pc' := 11) (dc D_Pri_batchUsing 6 rfl) rfl F_Pri_31 rfl rfl ?_
    refine Sd_icmp_ge (tgt := 48) (pc' := 14) (dc D_Pri_batchUsing 7 rfl) (by decide) rfl (fun _ => ?_) (fun _ => ?_)
    · refine Sd_iload_n (pc' := 49) (dc D_Pri_batchUsing 28 rfl) rfl 3 rfl rfl ?_
      exact Sd_iret (dc D_Pri_batchUsing 29 rfl) rfl
    · refine Sd_aload_n (pc' := 15) (dc D_Pri_batchUsing 8 rfl) rfl 0 rfl rfl ?_
      refine Sd_getI (pc' := 18) (dc D_Pri_batchUsing 9 rfl) rfl F_Pri_40 rfl rfl ?_
      refine Sd_iload (pc' := 20) (dc D_Pri_batchUsing 10 rfl) rfl 4 rfl ?_
      refine Sd_ishr (pc' := 21) (dc D_Pri_batchUsing 11 rfl) rfl ?_
      refine Sd_iconst (pc' := 22) (dc D_Pri_batchUsing 12 rfl) rfl ⟨by decide, by decide⟩ ?_
      refine Sd_iand (pc' := 23) (dc D_Pri_batchUsing 13 rfl) rfl ?_
      refine Sd_if_ne (tgt := 42) (pc' := 26) (dc D_Pri_batchUsing 14 rfl) (by decide) rfl (fun _ => ?_) (fun _ => ?_)
      · refine Sd_iinc (pc' := 45) (l' := [(4, _), (0, _), (1, _), (2, _), (3, _)]) (dc D_Pri_batchUsing 26 rfl) rfl 4 rfl (by decide) rfl ?_
        refine Sd_goto (tgt := 5) (dc D_Pri_batchUsing 27 rfl) (by decide) ?_
        refine Sd.sub (l' := [(0, _), (1, _), (2, _), (3, _), (4, _)]) [1, 2, 3, 4, 0] rfl ?_
        exact s_Pri_batchUsing_L5 n _ _ _ _ _ _
      · refine Sd_iload_n (pc' := 27) (dc D_Pri_batchUsing 15 rfl) rfl 3 rfl rfl ?_
        refine Sd_aload_n (pc' := 28) (dc D_Pri_batchUsing 16 rfl) rfl 0 rfl rfl ?_
        refine Sd_iload (pc' := 30) (dc D_Pri_batchUsing 17 rfl) rfl 4 rfl ?_
        refine Sd_aload_n (pc' := 31) (dc D_Pri_batchUsing 18 rfl) rfl 1 rfl rfl ?_
        refine Sd.callVI (ci := 4) (t := 5) (as := [_, _]) RX4 (pc' := 34) (dc D_Pri_batchUsing 19 rfl) rfl rfl rfl rfl K_Pri_costBy L_Pri_64 Ks_Pri_costBy Kv_Pri_costBy ⟨by decide, by decide⟩ rfl rfl (Nat.le_of_ble_eq_true rfl) (s_Pri_costBy _ _ _ _) (fun x4 h3 => ?_)
        refine Sd_iadd (pc' := 35) (dc D_Pri_batchUsing 20 rfl) rfl ?_
        refine Sd_istore_n (pc' := 36) (l' := [(3, _), (0, _), (1, _), (2, _), (4, _)]) (dc D_Pri_batchUsing 21 rfl) rfl rfl (by decide) rfl ?_
        refine Sd_aload_n (pc' := 37) (dc D_Pri_batchUsing 22 rfl) rfl 1 rfl rfl ?_
        refine Sd_aload_n (pc' := 38) (dc D_Pri_batchUsing 23 rfl) rfl 2 rfl rfl ?_
        refine Sd_iload_n (pc' := 39) (dc D_Pri_batchUsing 24 rfl) rfl 3 rfl rfl ?_
        refine Sd.callVV (ci := 4) (t := 5) (as := [_, _]) RX4 (pc' := 42) (dc D_Pri_batchUsing 25 rfl) rfl rfl rfl rfl K_Pri_useServing L_Pri_68 Ks_Pri_useServing Kv_Pri_useServing ⟨by decide, by decide⟩ rfl rfl (Nat.le_of_ble_eq_true rfl) (s_Pri_useServing _ _ _ _) (fun _ h6 => ?_)
        refine Sd_iinc (pc' := 45) (l' := [(4, _), (3, _), (0, _), (1, _), (2, _)]) (dc D_Pri_batchUsing 26 rfl) rfl 4 rfl (by decide) rfl ?_
        refine Sd_goto (tgt := 5) (dc D_Pri_batchUsing 27 rfl) (by decide) ?_
        refine Sd.sub (l' := [(0, _), (1, _), (2, _), (3, _), (4, _)]) [2, 3, 4, 1, 0] rfl ?_
        exact s_Pri_batchUsing_L5 n _ _ _ _ _ _
def Pri_batchUsing (v0 : Nat) (v1 : Nat) (v2 : Int) (h : AH) : Option (Int × AH) := Pri_batchUsing_L5 FU v0 v1 v2 0 0 h
set_option maxHeartbeats 4000000 in
set_option maxRecDepth 20000 in
theorem s_Pri_batchUsing (v0 : Nat) (v1 : Nat) (v2 : Int) (h : AH) : CS M_Pri_batchUsing 4 75 emI [vr v0, vr v1, vi v2] h (Pri_batchUsing v0 v1 v2 h) := by
  refine CS.of (by decide) (Nat.le_of_ble_eq_true rfl) ?_
  show Sd M_Pri_batchUsing 4 75 emI 0 [(0, vr v0), (1, vr v1), (2, vi v2)] [] h _
  unfold Pri_batchUsing
  refine Sd_iconst (pc' := 1) (dc D_Pri_batchUsing 0 rfl) rfl ⟨by decide, by decide⟩ ?_
  refine Sd_istore_n (pc' := 2) (l' := [(3, _), (0, _), (1, _), (2, _)]) (dc D_Pri_batchUsing 1 rfl) rfl rfl (by decide) rfl ?_
  refine Sd_iconst (pc' := 3) (dc D_Pri_batchUsing 2 rfl) rfl ⟨by decide, by decide⟩ ?_
  refine Sd_istore (pc' := 5) (l' := [(4, _), (3, _), (0, _), (1, _), (2, _)]) (dc D_Pri_batchUsing 3 rfl) rfl (by decide) rfl ?_
  refine Sd.sub (l' := [(0, _), (1, _), (2, _), (3, _), (4, _)]) [2, 3, 4, 1, 0] rfl ?_
  exact s_Pri_batchUsing_L5 FU _ _ _ _ _ _
theorem K_Pri_batchUsing : MOk M_Pri_batchUsing 2 := ⟨Tb_at 129 (by decide +kernel) rfl, Tb_at 1099 (by decide +kernel) rfl, by decide +kernel, by decide +kernel, by decide +kernel⟩
theorem Ks_Pri_batchUsing : Cond.instanceMethod yX4_batchUsing ∈ Tb := Tb_at 1097 (by decide +kernel) rfl
theorem Kv_Pri_batchUsing : Cond.selects RX4 yX4_batchUsing yX4_batchUsing ∈ Tb := Tb_at 1098 (by decide +kernel) rfl
