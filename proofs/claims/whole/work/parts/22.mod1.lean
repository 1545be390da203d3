theorem lk_ne {x a o d : Int} {r : List (Int × Int)} (h : ¬ x = a) : Op.lookupswitch.offset ((a, o) :: r) d x = Op.lookupswitch.offset r d x := by
  rw [Op.lookupswitch.offset_cons, if_neg (fun q => h q.symm)]
/-! ===== BatchShareModel.<init>()V ===== -/
abbrev M_Mod_init : AMt := (yX12_init, cX12_init, 1, none)
def T_Mod_init : List (Nat × Instr × Nat) := [(0, .aload_n 0, 1), (1, .invokespecial 3, 3), (4, .aload_n 0, 1), (5, .bipush 9, 2), (7, .newarray .int, 2), (9, .dup, 1), (10, .iconst 0, 1), (11, .iconst 0, 1), (12, .iastore, 1), (13, .dup, 1), (14, .iconst 1, 1), (15, .iconst 0, 1), (16, .iastore, 1), (17, .dup, 1), (18, .iconst 2, 1), (19, .iconst 0, 1), (20, .iastore, 1), (21, .dup, 1), (22, .iconst 3, 1), (23, .iconst 0, 1), (24, .iastore, 1), (25, .dup, 1), (26, .iconst 4, 1), (27, .iconst 0, 1), (28, .iastore, 1), (29, .dup, 1), (30, .iconst 5, 1), (31, .iconst 0, 1), (32, .iastore, 1), (33, .dup, 1), (34, .bipush 6, 2), (36, .iconst 0, 1), (37, .iastore, 1), (38, .dup, 1), (39, .bipush 7, 2), (41, .iconst 0, 1), (42, .iastore, 1), (43, .dup, 1), (44, .bipush 8, 2), (46, .iconst 0, 1), (47, .iastore, 1), (48, .putfield 9, 3), (51, .aload_n 0, 1), (52, .bipush 36, 2), (54, .newarray .int, 2), (56, .putfield 13, 3), (59, .aload_n 0, 1), (60, .bipush 16, 2), (62, .newarray .int, 2), (64, .putfield 16, 3), (67, .aload_n 0, 1), (68, .bipush 36, 2), (70, .newarray .int, 2), (72, .putfield 19, 3), (75, .aload_n 0, 1), (76, .bipush 16, 2), (78, .newarray .int, 2), (80, .putfield 22, 3), (83, .aload_n 0, 1), (84, .bipush 96, 2), (86, .newarray .int, 2), (88, .putfield 25, 3), (91, .aload_n 0, 1), (92, .bipush 8, 2), (94, .newarray .int, 2), (96, .putfield 28, 3), (99, .aload_n 0, 1), (100, .bipush 8, 2), (102, .newarray .int, 2), (104, .putfield 31, 3), (107, .aload_n 0, 1), (108, .bipush 8, 2), (110, .newarray .int, 2), (112, .putfield 34, 3), (115, .aload_n 0, 1), (116, .bipush 40, 2), (118, .newarray .int, 2), (120, .putfield 37, 3), (123, .aload_n 0, 1), (124, .bipush 40, 2), (126, .newarray .int, 2), (128, .putfield 40, 3), (131, .aload_n 0, 1), (132, .bipush 8, 2), (134, .newarray .int, 2), (136, .putfield 43, 3), (139, .aload_n 0, 1), (140, .bipush 40, 2), (142, .newarray .int, 2), (144, .putfield 46, 3), (147, .aload_n 0, 1), (148, .sipush 400, 3), (151, .newarray .byte, 2), (153, .putfield 49, 3), (156, .aload_n 0, 1), (157, .bipush 13, 2), (159, .newarray .int, 2), (161, .putfield 53, 3), (164, .aload_n 0, 1), (165, .bipush 24, 2), (167, .newarray .int, 2), (169, .putfield 56, 3), (172, .aload_n 0, 1), (173, .bipush 24, 2), (175, .newarray .int, 2), (177, .putfield 59, 3), (180, .aload_n 0, 1), (181, .sipush 4800, 3), (184, .newarray .int, 2), (186, .putfield 62, 3), (189, .aload_n 0, 1), (190, .sipush 300, 3), (193, .newarray .int, 2), (195, .putfield 65, 3), (198, .aload_n 0, 1), (199, .bipush 112, 2), (201, .newarray .int, 2), (203, .putfield 68, 3), (206, .aload_n 0, 1), (207, .bipush 6, 2), (209, .newarray .int, 2), (211, .putfield 71, 3), (214, .aload_n 0, 1), (215, .sipush 3276, 3), (218, .newarray .int, 2), (220, .putfield 74, 3), (223, .aload_n 0, 1), (224, .sipush 13112, 3), (227, .newarray .int, 2), (229, .putfield 77, 3), (232, .aload_n 0, 1), (233, .iconst 4, 1), (234, .newarray .boolean, 2), (236, .putfield 80, 3), (239, .return_, 1)]
set_option maxRecDepth 20000 in
theorem D_Mod_init : (T_Mod_init.all fun q => decide (decode M_Mod_init.2.1 q.1 = .ok q.2)) = true := by decide +kernel
def Mod_init (v0 : Nat) (h : AH) : Option (Unit × AH) := oi v0 <| nA h 21 9 fun r1 h2 => wI h2 21 r1 0 0 fun h3 => wI h3 21 r1 1 0 fun h4 => wI h4 21 r1 2 0 fun h5 => wI h5 21 r1 3 0 fun h6 => wI h6 21 r1 4 0 fun h7 => wI h7 21 r1 5 0 fun h8 => wI h8 21 r1 6 0 fun h9 => wI h9 21 r1 7 0 fun h10 => wI h10 21 r1 8 0 fun h11 => pR h11 13 v0 1 r1 fun h12 => nA h12 21 36 fun r13 h14 => pR h14 13 v0 2 r13 fun h15 => nA h15 21 16 fun r16 h17 => pR h17 13 v0 3 r16 fun h18 => nA h18 21 36 fun r19 h20 => pR h20 13 v0 4 r19 fun h21 => nA h21 21 16 fun r22 h23 => pR h23 13 v0 5 r22 fun h24 => nA h24 21 96 fun r25 h26 => pR h26 13 v0 9 r25 fun h27 => nA h27 21 8 fun r28 h29 => pR h29 13 v0 11 r28 fun h30 => nA h30 21 8 fun r31 h32 => pR h32 13 v0 12 r31 fun h33 => nA h33 21 8 fun r34 h35 => pR h35 13 v0 13 r34 fun h36 => nA h36 21 40 fun r37 h38 => pR h38 13 v0 14 r37 fun h39 => nA h39 21 40 fun r40 h41 => pR h41 13 v0 15 r40 fun h42 => nA h42 21 8 fun r43 h44 => pR h44 13 v0 16 r43 fun h45 => nA h45 21 40 fun r46 h47 => pR h47 13 v0 17 r46 fun h48 => nA h48 22 400 fun r49 h50 => pR h50 13 v0 21 r49 fun h51 => nA h51 21 13 fun r52 h53 => pR h53 13 v0 26 r52 fun h54 => nA h54 21 24 fun r55 h56 => pR h56 13 v0 27 r55 fun h57 => nA h57 21 24 fun r58 h59 => pR h59 13 v0 28 r58 fun h60 => nA h60 21 4800 fun r61 h62 => pR h62 13 v0 29 r61 fun h63 => nA h63 21 300 fun r64 h65 => pR h65 13 v0 30 r64 fun h66 => nA h66 21 112 fun r67 h68 => pR h68 13 v0 33 r67 fun h69 => nA h69 21 6 fun r70 h71 => pR h71 13 v0 35 r70 fun h72 => nA h72 21 3276 fun r73 h74 => pR h74 13 v0 42 r73 fun h75 => nA h75 21 13112 fun r76 h77 => pR h77 13 v0 46 r76 fun h78 => nA h78 23 4 fun r79 h80 => pR h80 13 v0 47 r79 fun h81 => some ((), h81)
set_option maxHeartbeats 4000000 in
set_option maxRecDepth 20000 in
theorem s_Mod_init (v0 : Nat) (h : AH) : CS M_Mod_init 1 20 emV [vr v0] h (Mod_init v0 h) := by
  refine CS.of (by decide) (Nat.le_of_ble_eq_true rfl) ?_
  show Sd M_Mod_init 1 20 emV 0 [(0, vr v0)] [] h _
  unfold Mod_init
  refine Sd_aload_n (pc' := 1) (dc D_Mod_init 0 rfl) rfl 0 rfl rfl ?_
  refine Sd_oi (pc' := 4) (dc D_Mod_init 1 rfl) rfl L_Mod_3 W_obj2 W_obj3 (by decide) (Nat.le_of_ble_eq_true rfl) ?_
  refine Sd_aload_n (pc' := 5) (dc D_Mod_init 2 rfl) rfl 0 rfl rfl ?_
  refine Sd_bipush (pc' := 7) (dc D_Mod_init 3 rfl) rfl ⟨by decide, by decide⟩ (by decide) ?_
  refine Sd_newarray (t := 21) (j := 0) (ty := .int) (pc' := 9) (dc D_Mod_init 4 rfl) rfl rfl (by decide) rfl W_aI (by decide) rfl (fun _ _ h => h) ?_
  refine Sd_dup (pc' := 10) (dc D_Mod_init 5 rfl) rfl (cat_r _) ?_
  refine Sd_iconst (pc' := 11) (dc D_Mod_init 6 rfl) rfl ⟨by decide, by decide⟩ ?_
  refine Sd_iconst (pc' := 12) (dc D_Mod_init 7 rfl) rfl ⟨by decide, by decide⟩ ?_
  refine Sd_iastore (pc' := 13) (dc D_Mod_init 8 rfl) rfl (by decide) ?_
  refine Sd_dup (pc' := 14) (dc D_Mod_init 9 rfl) rfl (cat_r _) ?_
  refine Sd_iconst (pc' := 15) (dc D_Mod_init 10 rfl) rfl ⟨by decide, by decide⟩ ?_
  refine Sd_iconst (pc' := 16) (dc D_Mod_init 11 rfl) rfl ⟨by decide, by decide⟩ ?_
  refine Sd_iastore (pc' := 17) (dc D_Mod_init 12 rfl) rfl (by decide) ?_
  refine Sd_dup (pc' := 18) (dc D_Mod_init 13 rfl) rfl (cat_r _) ?_
  refine Sd_iconst (pc' := 19) (dc D_Mod_init 14 rfl) rfl ⟨by decide, by decide⟩ ?_
  refine Sd_iconst (pc' := 20) (dc D_Mod_init 15 rfl) rfl ⟨by decide, by decide⟩ ?_
  refine Sd_iastore (pc' := 21) (dc D_Mod_init 16 rfl) rfl (by decide) ?_
  refine Sd_dup (pc' := 22) (dc D_Mod_init 17 rfl) rfl (cat_r _) ?_
  refine Sd_iconst (pc' := 23) (dc D_Mod_init 18 rfl) rfl ⟨by decide, by decide⟩ ?_
  refine Sd_iconst (pc' := 24) (dc D_Mod_init 19 rfl) rfl ⟨by decide, by decide⟩ ?_
  refine Sd_iastore (pc' := 25) (dc D_Mod_init 20 rfl) rfl (by decide) ?_
  refine Sd_dup (pc' := 26) (dc D_Mod_init 21 rfl) rfl (cat_r _) ?_
  refine Sd_iconst (pc' := 27) (dc D_Mod_init 22 rfl) rfl ⟨by decide, by decide⟩ ?_
  refine Sd_iconst (pc' := 28) (dc D_Mod_init 23 rfl) rfl ⟨by decide, by decide⟩ ?_
  refine Sd_iastore (pc' := 29) (dc D_Mod_init 24 rfl) rfl (by decide) ?_
  refine Sd_dup (pc' := 30) (dc D_Mod_init 25 rfl) rfl (cat_r _) ?_
  refine Sd_iconst (pc' := 31) (dc D_Mod_init 26 rfl) rfl ⟨by decide, by decide⟩ ?_
  refine Sd_iconst (pc' := 32) (dc D_Mod_init 27 rfl) rfl ⟨by decide, by decide⟩ ?_
  refine Sd_iastore (pc' := 33) (dc D_Mod_init 28 rfl) rfl (by decide) ?_
  refine Sd_dup (pc' := 34) (dc D_Mod_init 29 rfl) rfl (cat_r _) ?_
  refine Sd_bipush (pc' := 36) (dc D_Mod_init 30 rfl) rfl ⟨by decide, by decide⟩ (by decide) ?_
  refine Sd_iconst (pc' := 37) (dc D_Mod_init 31 rfl) rfl ⟨by decide, by decide⟩ ?_
  refine Sd_iastore (pc' := 38) (dc D_Mod_init 32 rfl) rfl (by decide) ?_
  refine Sd_dup (pc' := 39) (dc D_Mod_init 33 rfl) rfl (cat_r _) ?_
  refine Sd_bipush (pc' := 41) (dc D_Mod_init 34 rfl) rfl ⟨by decide, by decide⟩ (by decide) ?_
  refine Sd_iconst (pc' := 42) (dc D_Mod_init 35 rfl) rfl ⟨by decide, by decide⟩ ?_
  refine Sd_iastore (pc' := 43) (dc D_Mod_init 36 rfl) rfl (by decide) ?_
  refine Sd_dup (pc' := 44) (dc D_Mod_init 37 rfl) rfl (cat_r _) ?_
  refine Sd_bipush (pc' := 46) (dc D_Mod_init 38 rfl) rfl ⟨by decide, by decide⟩ (by decide) ?_
  refine Sd_iconst (pc' := 47) (dc D_Mod_init 39 rfl) rfl ⟨by decide, by decide⟩ ?_
  refine Sd_iastore (pc' := 48) (dc D_Mod_init 40 rfl) rfl (by decide) ?_
  refine Sd_putR (pc' := 51) (dc D_Mod_init 41 rfl) rfl F_Mod_9 rfl rfl rfl (finOk.yes rfl rfl) (by decide) ?_
  refine Sd_aload_n (pc' := 52) (dc D_Mod_init 42 rfl) rfl 0 rfl rfl ?_
  refine Sd_bipush (pc' := 54) (dc D_Mod_init 43 rfl) rfl ⟨by decide, by decide⟩ (by decide) ?_
  refine Sd_newarray (t := 21) (j := 0) (ty := .int) (pc' := 56) (dc D_Mod_init 44 rfl) rfl rfl (by decide) rfl W_aI (by decide) rfl (fun _ _ h => h) ?_
  refine Sd_putR (pc' := 59) (dc D_Mod_init 45 rfl) rfl F_Mod_13 rfl rfl rfl (finOk.yes rfl rfl) (by decide) ?_
  refine Sd_aload_n (pc' := 60) (dc D_Mod_init 46 rfl) rfl 0 rfl rfl ?_
  refine Sd_bipush (pc' := 62) (dc D_Mod_init 47 rfl) rfl ⟨by decide, by decide⟩ (by decide) ?_
  refine Sd_newarray (t := 21) (j := 0) (ty := .int) (pc' := 64) (dc D_Mod_init 48 rfl) rfl rfl (by decide) rfl W_aI (by decide) rfl (fun _ _ h => h) ?_
  refine Sd_putR (pc' := 67) (dc D_Mod_init 49 rfl) rfl F_Mod_16 rfl rfl rfl (finOk.yes rfl rfl) (by decide) ?_
  refine Sd_aload_n (pc' := 68) (dc D_Mod_init 50 rfl) rfl 0 rfl rfl ?_
  refine Sd_bipush (pc' := 70) (dc D_Mod_init 51 rfl) rfl ⟨by decide, by decide⟩ (by decide) ?_
  refine Sd_newarray (t := 21) (j := 0) (ty := .int) (pc' := 72) (dc D_Mod_init 52 rfl) rfl rfl (by decide) rfl W_aI (by decide) rfl (fun _ _ h => h) ?_
  refine Sd_putR (pc' := 75) (dc D_Mod_init 53 rfl) rfl F_Mod_19 rfl rfl rfl (finOk.yes rfl rfl) (by decide) ?_
  refine Sd_aload_n (pc' := 76) (dc D_Mod_init 54 rfl) rfl 0 rfl rfl ?_
  refine Sd_bipush (pc' := 78) (dc D_Mod_init 55 rfl) rfl ⟨by decide, by decide⟩ (by decide) ?_
  refine Sd_newarray (t := 21) (j := 0) (ty := .int) (pc' := 80) (dc D_Mod_init 56 rfl) rfl rfl (by decide) rfl W_aI (by decide) rfl (fun _ _ h => h) ?_
  refine Sd_putR (pc' := 83) (dc D_Mod_init 57 rfl) rfl F_Mod_22 rfl rfl rfl (finOk.yes rfl rfl) (by decide) ?_
  refine Sd_aload_n (pc' := 84) (dc D_Mod_init 58 rfl) rfl 0 rfl rfl ?_
  refine Sd_bipush (pc' := 86) (dc D_Mod_init 59 rfl) rfl ⟨by decide, by decide⟩ (by decide) ?_
  refine Sd_newarray (t := 21) (j := 0) (ty := .int) (pc' := 88) (dc D_Mod_init 60 rfl) rfl rfl (by decide) rfl W_aI (by decide) rfl (fun _ _ h => h) ?_
  refine Sd_putR (pc' := 91) (dc D_Mod_init 61 rfl) rfl F_Mod_25 rfl rfl rfl (finOk.yes rfl rfl) (by decide) ?_
  refine Sd_aload_n (pc' := 92) (dc D_Mod_init 62 rfl) rfl 0 rfl rfl ?_
  refine Sd_bipush (pc' := 94) (dc D_Mod_init 63 rfl) rfl ⟨by decide, by decide⟩ (by decide) ?_
  refine Sd_newarray (t := 21) (j := 0) (ty := .int) (pc' := 96) (dc D_Mod_init 64 rfl) rfl rfl (by decide) rfl W_aI (by decide) rfl (fun _ _ h => h) ?_
  refine Sd_putR (pc' := 99) (dc D_Mod_init 65 rfl) rfl F_Mod_28 rfl rfl rfl (finOk.yes rfl rfl) (by decide) ?_
  refine Sd_aload_n (pc' := 100) (dc D_Mod_init 66 rfl) rfl 0 rfl rfl ?_
  refine Sd_bipush (pc' := 102) (dc D_Mod_init 67 rfl) rfl ⟨by decide, by decide⟩ (by decide) ?_
  refine Sd_newarray (t := 21) (j := 0) (ty := .int) (pc' := 104) (dc D_Mod_init 68 rfl) rfl rfl (by decide) rfl W_aI (by decide) rfl (fun _ _ h => h) ?_
  refine Sd_putR (pc' := 107) (dc D_Mod_init 69 rfl) rfl F_Mod_31 rfl rfl rfl (finOk.yes rfl rfl) (by decide) ?_
  refine Sd_aload_n (pc' := 108) (dc D_Mod_init 70 rfl) rfl 0 rfl rfl ?_
  refine Sd_bipush (pc' := 110) (dc D_Mod_init 71 rfl) rfl ⟨by decide, by decide⟩ (by decide) ?_
  refine Sd_newarray (t := 21) (j := 0) (ty := .int) (pc' := 112) (dc D_Mod_init 72 rfl) rfl rfl (by decide) rfl W_aI (by decide) rfl (fun _ _ h => h) ?_
  refine Sd_putR (pc' := 115) (dc D_Mod_init 73 rfl) rfl F_Mod_34 rfl rfl rfl (finOk.yes rfl rfl) (by decide) ?_
  refine Sd_aload_n (pc' := 116) (dc D_Mod_init 74 rfl) rfl 0 rfl rfl ?_
  refine Sd_bipush (pc' := 118) (dc D_Mod_init 75 rfl) rfl ⟨by decide, by decide⟩ (by decide) ?_
  refine Sd_newarray (t := 21) (j := 0) (ty := .int) (pc' := 120) (dc D_Mod_init 76 rfl) rfl rfl (by decide) rfl W_aI (by decide) rfl (fun _ _ h => h) ?_
  refine Sd_putR (pc' := 123) (dc D_Mod_init 77 rfl) rfl F_Mod_37 rfl rfl rfl (finOk.yes rfl rfl) (by decide) ?_
  refine Sd_aload_n (pc' := 124) (dc D_Mod_init 78 rfl) rfl 0 rfl rfl ?_
  refine Sd_bipush (pc' := 126) (dc D_Mod_init 79 rfl) rfl ⟨by decide, by decide⟩ (by decide) ?_
  refine Sd_newarray (t := 21) (j := 0) (ty := .int) (pc' := 128) (dc D_Mod_init 80 rfl) rfl rfl (by decide) rfl W_aI (by decide) rfl (fun _ _ h => h) ?_
  refine Sd_putR (pc' := 131) (dc D_Mod_init 81 rfl) rfl F_Mod_40 rfl rfl rfl (finOk.yes rfl rfl) (by decide) ?_
  refine Sd_aload_n (pc' := 132) (dc D_Mod_init 82 rfl) rfl 0 rfl rfl ?_
  refine Sd_bipush (pc' := 134) (dc D_Mod_init 83 rfl) rfl ⟨by decide, by decide⟩ (by decide) ?_
  refine Sd_newarray (t := 21) (j := 0) (ty := .int) (pc' := 136) (dc D_Mod_init 84 rfl) rfl rfl (by decide) rfl W_aI (by decide) rfl (fun _ _ h => h) ?_
  refine Sd_putR (pc' := 139) (dc D_Mod_init 85 rfl) rfl F_Mod_43 rfl rfl rfl (finOk.yes rfl rfl) (by decide) ?_
  refine Sd_aload_n (pc' := 140) (dc D_Mod_init 86 rfl) rfl 0 rfl rfl ?_
  refine Sd_bipush (pc' := 142) (dc D_Mod_init 87 rfl) rfl ⟨by decide, by decide⟩ (by decide) ?_
  refine Sd_newarray (t := 21) (j := 0) (ty := .int) (pc' := 144) (dc D_Mod_init 88 rfl) rfl rfl (by decide) rfl W_aI (by decide) rfl (fun _ _ h => h) ?_
  refine Sd_putR (pc' := 147) (dc D_Mod_init 89 rfl) rfl F_Mod_46 rfl rfl rfl (finOk.yes rfl rfl) (by decide) ?_
  refine Sd_aload_n (pc' := 148) (dc D_Mod_init 90 rfl) rfl 0 rfl rfl ?_
  refine Sd_sipush (pc' := 151) (dc D_Mod_init 91 rfl) rfl ⟨by decide, by decide⟩ (by decide) ?_
  refine Sd_newarray (t := 22) (j := 1) (ty := .byte) (pc' := 153) (dc D_Mod_init 92 rfl) rfl rfl (by decide) rfl W_aB (by decide) rfl (fun _ _ h => h) ?_
  refine Sd_putR (pc' := 156) (dc D_Mod_init 93 rfl) rfl F_Mod_49 rfl rfl rfl (finOk.yes rfl rfl) (by decide) ?_
  refine Sd_aload_n (pc' := 157) (dc D_Mod_init 94 rfl) rfl 0 rfl rfl ?_
  refine Sd_bipush (pc' := 159) (dc D_Mod_init 95 rfl) rfl ⟨by decide, by decide⟩ (by decide) ?_
  refine Sd_newarray (t := 21) (j := 0) (ty := .int) (pc' := 161) (dc D_Mod_init 96 rfl) rfl rfl (by decide) rfl W_aI (by decide) rfl (fun _ _ h => h) ?_
  refine Sd_putR (pc' := 164) (dc D_Mod_init 97 rfl) rfl F_Mod_53 rfl rfl rfl (finOk.yes rfl rfl) (by decide) ?_
  refine Sd_aload_n (pc' := 165) (dc D_Mod_init 98 rfl) rfl 0 rfl rfl ?_
  refine Sd_bipush (pc' := 167) (dc D_Mod_init 99 rfl) rfl ⟨by decide, by decide⟩ (by decide) ?_
  refine Sd_newarray (t := 21) (j := 0) (ty := .int) (pc' := 169) (dc D_Mod_init 100 rfl) rfl rfl (by decide) rfl W_aI (by decide) rfl (fun _ _ h => h) ?_
  refine Sd_putR (pc' := 172) (dc D_Mod_init 101 rfl) rfl F_Mod_56 rfl rfl rfl (finOk.yes rfl rfl) (by decide) ?_
  refine Sd_aload_n (pc' := 173) (dc D_Mod_init 102 rfl) rfl 0 rfl rfl ?_
  refine Sd_bipush (pc' := 175) (dc D_Mod_init 103 rfl) rfl ⟨by decide, by decide⟩ (by decide) ?_
  refine Sd_newarray (t := 21) (j := 0) (ty := .int) (pc' := 177) (dc D_Mod_init 104 rfl) rfl rfl (by decide) rfl W_aI (by decide) rfl (fun _ _ h => h) ?_
  refine Sd_putR (pc' := 180) (dc D_Mod_init 105 rfl) rfl F_Mod_59 rfl rfl rfl (finOk.yes rfl rfl) (by decide) ?_
  refine Sd_aload_n (pc' := 181) (dc D_Mod_init 106 rfl) rfl 0 rfl rfl ?_
  refine Sd_sipush (pc' := 184) (dc D_Mod_init 107 rfl) rfl ⟨by decide, by decide⟩ (by decide) ?_
  refine Sd_newarray (t := 21) (j := 0) (ty := .int) (pc' := 186) (dc D_Mod_init 108 rfl) rfl rfl (by decide) rfl W_aI (by decide) rfl (fun _ _ h => h) ?_
  refine Sd_putR (pc' := 189) (dc D_Mod_init 109 rfl) rfl F_Mod_62 rfl rfl rfl (finOk.yes rfl rfl) (by decide) ?_
  refine Sd_aload_n (pc' := 190) (dc D_Mod_init 110 rfl) rfl 0 rfl rfl ?_
  refine Sd_sipush (pc' := 193) (dc D_Mod_init 111 rfl) rfl ⟨by decide, by decide⟩ (by decide) ?_
  refine Sd_newarray (t := 21) (j := 0) (ty := .int) (pc' := 195) (dc D_Mod_init 112 rfl) rfl rfl (by decide) rfl W_aI (by decide) rfl (fun _ _ h => h) ?_
  refine Sd_putR (pc' := 198) (dc D_Mod_init 113 rfl) rfl F_Mod_65 rfl rfl rfl (finOk.yes rfl rfl) (by decide) ?_
  refine Sd_aload_n (pc' := 199) (dc D_Mod_init 114 rfl) rfl 0 rfl rfl ?_
  refine Sd_bipush (pc' := 201) (dc D_Mod_init 115 rfl) rfl ⟨by decide, by decide⟩ (by decide) ?_
  refine Sd_newarray (t := 21) (j := 0) (ty := .int) (pc' := 203) (dc D_Mod_init 116 rfl) rfl rfl (by decide) rfl W_aI (by decide) rfl (fun _ _ h => h) ?_
  refine Sd_putR (pc' := 206) (dc D_Mod_init 117 rfl) rfl F_Mod_68 rfl rfl rfl (finOk.yes rfl rfl) (by decide) ?_
  refine Sd_aload_n (pc' := 207) (dc D_Mod_init 118 rfl) rfl 0 rfl rfl ?_
  refine Sd_bipush (pc' := 209) (dc D_Mod_init 119 rfl) rfl ⟨by decide, by decide⟩ (by decide) ?_
  refine Sd_newarray (t := 21) (j := 0) (ty := .int) (pc' := 211) (dc D_Mod_init 120 rfl) rfl rfl (by decide) rfl W_aI (by decide) rfl (fun _ _ h => h) ?_
  refine Sd_putR (pc' := 214) (dc D_Mod_init 121 rfl) rfl F_Mod_71 rfl rfl rfl (finOk.yes rfl rfl) (by decide) ?_
  refine Sd_aload_n (pc' := 215) (dc D_Mod_init 122 rfl) rfl 0 rfl rfl ?_
  refine Sd_sipush (pc' := 218) (dc D_Mod_init 123 rfl) rfl ⟨by decide, by decide⟩ (by decide) ?_
  refine Sd_newarray (t := 21) (j := 0) (ty := .int) (pc' := 220) (dc D_Mod_init 124 rfl) rfl rfl (by decide) rfl W_aI (by decide) rfl (fun _ _ h => h) ?_
  refine Sd_putR (pc' := 223) (dc D_Mod_init 125 rfl) rfl F_Mod_74 rfl rfl rfl (finOk.yes rfl rfl) (by decide) ?_
  refine Sd_aload_n (pc' := 224) (dc D_Mod_init 126 rfl) rfl 0 rfl rfl ?_
  refine Sd_sipush (pc' := 227) (dc D_Mod_init 127 rfl) rfl ⟨by decide, by decide⟩ (by decide) ?_
  refine Sd_newarray (t := 21) (j := 0) (ty := .int) (pc' := 229) (dc D_Mod_init 128 rfl) rfl rfl (by decide) rfl W_aI (by decide) rfl (fun _ _ h => h) ?_
  refine Sd_putR (pc' := 232) (dc D_Mod_init 129 rfl) rfl F_Mod_77 rfl rfl rfl (finOk.yes rfl rfl) (by decide) ?_
  refine Sd_aload_n (pc' := 233) (dc D_Mod_init 130 rfl) rfl 0 rfl rfl ?_
  refine Sd_iconst (pc' := 234) (dc D_Mod_init 131 rfl) rfl ⟨by decide, by decide⟩ ?_
  refine Sd_newarray (t := 23) (j := 2) (ty := .boolean) (pc' := 236) (dc D_Mod_init 132 rfl) rfl rfl (by decide) rfl W_aZ (by decide) rfl (fun _ _ h => h) ?_
  refine Sd_putR (pc' := 239) (dc D_Mod_init 133 rfl) rfl F_Mod_80 rfl rfl rfl (finOk.yes rfl rfl) (by decide) ?_
  exact Sd_vret (dc D_Mod_init 134 rfl) rfl
theorem K_Mod_init : MOk M_Mod_init 0 := ⟨Tb_at 133 (by decide +kernel) rfl, Tb_at 1215 (by decide +kernel) rfl, by decide +kernel, by decide +kernel, by decide +kernel⟩
theorem Ks_Mod_init : Cond.instanceMethod yX12_init ∈ Tb := Tb_at 1214 (by decide +kernel) rfl
/-! ===== BatchShareModel.put4(I)V ===== -/
abbrev M_Mod_put4 : AMt := (yX12_put4, cX12_put4, 3, none)
def T_Mod_put4 : List (Nat × Instr × Nat) := [(0, .bipush 24, 2), (2, .istore_n 2, 1), (3, .iload_n 2, 1), (4, .ifCond .lt 32, 3), (7, .aload_n 0, 1), (8, .getfield 49, 3), (11, .aload_n 0, 1), (12, .getfield 107, 3), (15, .iload_n 1, 1), (16, .iload_n 2, 1), (17, .ishr, 1), (18, .i2b, 1), (19, .bastore, 1), (20, .aload_n 0, 1), (21, .dup, 1), (22, .getfield 107, 3), (25, .iconst 1, 1), (26, .iadd, 1), (27, .putfield 107, 3), (30, .iinc 2 (-8), 3), (33, .goto (-30), 3), (36, .return_, 1)]
set_option maxRecDepth 20000 in
theorem D_Mod_put4 : (T_Mod_put4.all fun q => decide (decode M_Mod_put4.2.1 q.1 = .ok q.2)) = true := by decide +kernel
def Mod_put4_L3 : Nat → Nat → Int → Int → AH → Option (Unit × AH)
  | 0, _, _, _, _ => none
  | n + 1, v0, v1, v2, h => if (v2 : Int) < 0 then (some ((), h)) else (gR h 13 v0 21 fun r1 => gI h 13 v0 18 fun x2 => wI h 22 r1 x2 (b8 (i2b (iShr v1 v2))) fun h3 => gI h3 13 v0 18 fun x4 => pI h3 13 v0 18 (wr (x4 + 1)) fun h5 => Mod_put4_L3 n v0 v1 ((wr (v2 + (-8)))) h5)
set_option maxHeartbeats 4000000 in
set_option maxRecDepth 20000 in
theorem s_Mod_put4_L3 : ∀ (n : Nat) (v0 : Nat) (v1 : Int) (v2 : Int) (h : AH), Sd M_Mod_put4 1 0 emV 3 [(0, vr v0), (1, vi v1), (2, vi v2)] [] h (Mod_put4_L3 n v0 v1 v2 h)
  | 0, _, _, _, _ => Sd.none
  | n + 1, v0, v1, v2, h => by
    rw [Mod_put4_L3]
    refine Sd_iload_n (pc' := 4) (dc D_Mod_put4 2 rfl) rfl 2 rfl rfl ?_
    refine Sd_if_lt (tgt := 36) (pc' := 7) (dc D_Mod_put4 3 rfl) (by decide) rfl (fun _ => ?_) (fun _ => ?_)
    · exact Sd_vret (dc D_Mod_put4 21 rfl) rfl
    · refine Sd_aload_n (pc' := 8) (dc D_Mod_put4 4 rfl) rfl 0 rfl rfl ?_
      refine Sd_getR (pc' := 11) (dc D_Mod_put4 5 rfl) rfl F_Mod_49 rfl rfl ?_
      refine Sd_aload_n (pc' := 12) (dc D_Mod_put4 6 rfl) rfl 0 rfl rfl ?_
      refine Sd_getI (pc' := 15) (dc D_Mod_put4 7 rfl) rfl F_Mod_107 rfl rfl ?_
      refine Sd_iload_n (pc' := 16) (dc D_Mod_put4 8 rfl) rfl 1 rfl rfl ?_
      refine Sd_iload_n (pc' := 17) (dc D_Mod_put4 9 rfl) rfl 2 rfl rfl ?_
      refine Sd_ishr (pc' := 18) (dc D_Mod_put4 10 rfl) rfl ?_
      refine Sd_i2b (pc' := 19) (dc D_Mod_put4 11 rfl) rfl ?_
      refine Sd_bastore (pc' := 20) (dc D_Mod_put4 12 rfl) rfl (by decide) ?_
      refine Sd_aload_n (pc' := 21) (dc D_Mod_put4 13 rfl) rfl 0 rfl rfl ?_
      refine Sd_dup (pc' := 22) (dc D_Mod_put4 14 rfl) rfl (cat_r _) ?_
      refine Sd_getI (pc' := 25) (dc D_Mod_put4 15 rfl) rfl F_Mod_107 rfl rfl ?_
      refine Sd_iconst (pc' := 26) (dc D_Mod_put4 16 rfl) rfl ⟨by decide, by decide⟩ ?_
      refine Sd_iadd (pc' := 27) (dc D_Mod_put4 17 rfl) rfl ?_
      refine Sd_putI (pc' := 30) (dc D_Mod_put4 18 rfl) rfl F_Mod_107 rfl rfl rfl (finOk.no rfl) (by decide) ?_
      refine Sd_iinc (pc' := 33) (l' := [(2, _), (0, _), (1, _)]) (dc D_Mod_put4 19 rfl) rfl 2 rfl (by decide) rfl ?_
      refine Sd_goto (tgt := 3) (dc D_Mod_put4 20 rfl) (by decide) ?_
      refine Sd.sub (l' := [(0, _), (1, _), (2, _)]) [1, 2, 0] rfl ?_
      exact s_Mod_put4_L3 n _ _ _ _
def Mod_put4 (v0 : Nat) (v1 : Int) (h : AH) : Option (Unit × AH) := Mod_put4_L3 FU v0 v1 24 h
set_option maxHeartbeats 4000000 in
set_option maxRecDepth 20000 in
theorem s_Mod_put4 (v0 : Nat) (v1 : Int) (h : AH) : CS M_Mod_put4 1 0 emV [vr v0, vi v1] h (Mod_put4 v0 v1 h) := by
  refine CS.of (by decide) (Nat.le_of_ble_eq_true rfl) ?_
  show Sd M_Mod_put4 1 0 emV 0 [(0, vr v0), (1, vi v1)] [] h _
  unfold Mod_put4
  refine Sd_bipush (pc' := 2) (dc D_Mod_put4 0 rfl) rfl ⟨by decide, by decide⟩ (by decide) ?_
  refine Sd_istore_n (pc' := 3) (l' := [(2, _), (0, _), (1, _)]) (dc D_Mod_put4 1 rfl) rfl rfl (by decide) rfl ?_
  refine Sd.sub (l' := [(0, _), (1, _), (2, _)]) [1, 2, 0] rfl ?_
  exact s_Mod_put4_L3 FU _ _ _ _
theorem K_Mod_put4 : MOk M_Mod_put4 1 := ⟨Tb_at 133 (by decide +kernel) rfl, Tb_at 1375 (by decide +kernel) rfl, by decide +kernel, by decide +kernel, by decide +kernel⟩
theorem Ks_Mod_put4 : Cond.instanceMethod yX12_put4 ∈ Tb := Tb_at 1374 (by decide +kernel) rfl
theorem Kv_Mod_put4 : Cond.selects RX12 yX12_put4 yX12_put4 ∈ Tb := Tb_at 39 (by decide +kernel) rfl
/-! ===== BatchShareModel.feed(IIIII)I ===== -/
abbrev M_Mod_feed : AMt := (yX12_feed, cX12_feed, 6, (some .int))
def T_Mod_feed : List (Nat × Instr × Nat) := [(0, .aload_n 0, 1), (1, .getfield 107, 3), (4, .bipush 20, 2), (6, .iadd, 1), (7, .sipush 400, 3), (10, .if_icmp .le 5, 3), (13, .iconst (-1), 1), (14, .ireturn, 1), (15, .aload_n 0, 1), (16, .iload_n 1, 1), (17, .invokevirtual 110, 3), (20, .aload_n 0, 1), (21, .iload_n 2, 1), (22, .invokevirtual 110, 3), (25, .aload_n 0, 1), (26, .iload_n 3, 1), (27, .invokevirtual 110, 3), (30, .aload_n 0, 1), (31, .iload 4, 2), (33, .invokevirtual 110, 3), (36, .aload_n 0, 1), (37, .iload 5, 2), (39, .invokevirtual 110, 3), (42, .aload_n 0, 1), (43, .getfield 107, 3), (46, .ireturn, 1)]
set_option maxRecDepth 20000 in
theorem D_Mod_feed : (T_Mod_feed.all fun q => decide (decode M_Mod_feed.2.1 q.1 = .ok q.2)) = true := by decide +kernel
def Mod_feed (v0 : Nat) (v1 : Int) (v2 : Int) (v3 : Int) (v4 : Int) (v5 : Int) (h : AH) : Option (Int × AH) := gI h 13 v0 18 fun x1 => if ((wr (x1 + 20)) : Int) ≤ 400 then (rc h 13 v0 <| bnd (Mod_put4 v0 v1 h) fun _ h2 => rc h2 13 v0 <| bnd (Mod_put4 v0 v2 h2) fun _ h5 => rc h5 13 v0 <| bnd (Mod_put4 v0 v3 h5) fun _ h8 => rc h8 13 v0 <| bnd (Mod_put4 v0 v4 h8) fun _ h11 => rc h11 13 v0 <| bnd (Mod_put4 v0 v5 h11) fun _ h14 => gI h14 13 v0 18 fun x17 => some (x17, h14)) else (some ((-1), h))
set_option maxHeartbeats 4000000 in
set_option maxRecDepth 20000 in
theorem s_Mod_feed (v0 : Nat) (v1 : Int) (v2 : Int) (v3 : Int) (v4 : Int) (v5 : Int) (h : AH) : CS M_Mod_feed 2 22 emI [vr v0, vi v1, vi v2, vi v3, vi v4, vi v5] h (Mod_feed v0 v1 v2 v3 v4 v5 h) := by
  refine CS.of (by decide) (Nat.le_of_ble_eq_true rfl) ?_
  show Sd M_Mod_feed 2 22 emI 0 [(0, vr v0), (1, vi v1), (2, vi v2), (3, vi v3), (4, vi v4), (5, vi v5)] [] h _
  unfold Mod_feed
  refine Sd_aload_n (pc' := 1) (dc D_Mod_feed 0 rfl) rfl 0 rfl rfl ?_
  refine Sd_getI (pc' := 4) (dc D_Mod_feed 1 rfl) rfl F_Mod_107 rfl rfl ?_
  refine Sd_bipush (pc' := 6) (dc D_Mod_feed 2 rfl) rfl ⟨by decide, by decide⟩ (by decide) ?_
  refine Sd_iadd (pc' := 7) (dc D_Mod_feed 3 rfl) rfl ?_
  refine Sd_sipush (pc' := 10) (dc D_Mod_feed 4 rfl) rfl ⟨by decide, by decide⟩ (by decide) ?_
  refine Sd_icmp_le (tgt := 15) (pc' := 13) (dc D_Mod_feed 5 rfl) (by decide) rfl (fun _ => ?_) (fun _ => ?_)
  · refine Sd_aload_n (pc' := 16) (dc D_Mod_feed 8 rfl) rfl 0 rfl rfl ?_
    refine Sd_iload_n (pc' := 17) (dc D_Mod_feed 9 rfl) rfl 1 rfl rfl ?_
    refine Sd.callVV (ci := 12) (t := 13) (as := [_]) RX12 (pc' := 20) (dc D_Mod_feed 10 rfl) rfl rfl rfl rfl K_Mod_put4 L_Mod_110 Ks_Mod_put4 Kv_Mod_put4 ⟨by decide, by decide⟩ rfl rfl (Nat.le_of_ble_eq_true rfl) (s_Mod_put4 _ _ _) (fun _ h2 => ?_)
    refine Sd_aload_n (pc' := 21) (dc D_Mod_feed 11 rfl) rfl 0 rfl rfl ?_
    refine Sd_iload_n (pc' := 22) (dc D_Mod_feed 12 rfl) rfl 2 rfl rfl ?_
    refine Sd.callVV (ci := 12) (t := 13) (as := [_]) RX12 (pc' := 25) (dc D_Mod_feed 13 rfl) rfl rfl rfl rfl K_Mod_put4 L_Mod_110 Ks_Mod_put4 Kv_Mod_put4 ⟨by decide, by decide⟩ rfl rfl (Nat.le_of_ble_eq_true rfl) (s_Mod_put4 _ _ _) (fun _ h5 => ?_)
    refine Sd_aload_n (pc' := 26) (dc D_Mod_feed 14 rfl) rfl 0 rfl rfl ?_
    refine Sd_iload_n (pc' := 27) (dc D_Mod_feed 15 rfl) rfl 3 rfl rfl ?_
    refine Sd.callVV (ci := 12) (t := 13) (as := [_]) RX12 (pc' := 30) (dc D_Mod_feed 16 rfl) rfl rfl rfl rfl K_Mod_put4 L_Mod_110 Ks_Mod_put4 Kv_Mod_put4 ⟨by decide, by decide⟩ rfl rfl (Nat.le_of_ble_eq_true rfl) (s_Mod_put4 _ _ _) (fun _ h8 => ?_)
    refine Sd_aload_n (pc' := 31) (dc D_Mod_feed 17 rfl) rfl 0 rfl rfl ?_
    refine Sd_iload (pc' := 33) (dc D_Mod_feed 18 rfl) rfl 4 rfl ?_
    refine Sd.callVV (ci := 12) (t := 13) (as := [_]) RX12 (pc' := 36) (dc D_Mod_feed 19 rfl) rfl rfl rfl rfl K_Mod_put4 L_Mod_110 Ks_Mod_put4 Kv_Mod_put4 ⟨by decide, by decide⟩ rfl rfl (Nat.le_of_ble_eq_true rfl) (s_Mod_put4 _ _ _) (fun _ h11 => ?_)
    refine Sd_aload_n (pc' := 37) (dc D_Mod_feed 20 rfl) rfl 0 rfl rfl ?_
    refine Sd_iload (pc' := 39) (dc D_Mod_feed 21 rfl) rfl 5 rfl ?_
    refine Sd.callVV (ci := 12) (t := 13) (as := [_]) RX12 (pc' := 42) (dc D_Mod_feed 22 rfl) rfl rfl rfl rfl K_Mod_put4 L_Mod_110 Ks_Mod_put4 Kv_Mod_put4 ⟨by decide, by decide⟩ rfl rfl (Nat.le_of_ble_eq_true rfl) (s_Mod_put4 _ _ _) (fun _ h14 => ?_)
    refine Sd_aload_n (pc' := 43) (dc D_Mod_feed 23 rfl) rfl 0 rfl rfl ?_
    refine Sd_getI (pc' := 46) (dc D_Mod_feed 24 rfl) rfl F_Mod_107 rfl rfl ?_
    exact Sd_iret (dc D_Mod_feed 25 rfl) rfl
  · refine Sd_iconst (pc' := 14) (dc D_Mod_feed 6 rfl) rfl ⟨by decide, by decide⟩ ?_
    exact Sd_iret (dc D_Mod_feed 7 rfl) rfl
theorem K_Mod_feed : MOk M_Mod_feed 5 := ⟨Tb_at 133 (by decide +kernel) rfl, Tb_at 1371 (by decide +kernel) rfl, by decide +kernel, by decide +kernel, by decide +kernel⟩
theorem Ks_Mod_feed : Cond.instanceMethod yX12_feed ∈ Tb := Tb_at 1369 (by decide +kernel) rfl
theorem Kv_Mod_feed : Cond.selects RX12 yX12_feed yX12_feed ∈ Tb := Tb_at 1370 (by decide +kernel) rfl
/-! ===== BatchShareModel.end(I)I ===== -/
abbrev M_Mod_end : AMt := (yX12_end, cX12_end, 2, (some .int))
def T_Mod_end : List (Nat × Instr × Nat) := [(0, .iload_n 1, 1), (1, .ifCond .lt 11, 3), (4, .iload_n 1, 1), (5, .aload_n 0, 1), (6, .getfield 107, 3), (9, .if_icmp .le 5, 3), (12, .iconst (-1), 1), (13, .ireturn, 1), (14, .aload_n 0, 1), (15, .iload_n 1, 1), (16, .putfield 107, 3), (19, .iload_n 1, 1), (20, .ireturn, 1)]
set_option maxRecDepth 20000 in
theorem D_Mod_end : (T_Mod_end.all fun q => decide (decode M_Mod_end.2.1 q.1 = .ok q.2)) = true := by decide +kernel
def Mod_end (v0 : Nat) (v1 : Int) (h : AH) : Option (Int × AH) := if (v1 : Int) < 0 then (some ((-1), h)) else (gI h 13 v0 18 fun x1 => if (v1 : Int) ≤ x1 then (pI h 13 v0 18 v1 fun h2 => some (v1, h2)) else (some ((-1), h)))
set_option maxHeartbeats 4000000 in
set_option maxRecDepth 20000 in
theorem s_Mod_end (v0 : Nat) (v1 : Int) (h : AH) : CS M_Mod_end 1 0 emI [vr v0, vi v1] h (Mod_end v0 v1 h) := by
  refine CS.of (by decide) (Nat.le_of_ble_eq_true rfl) ?_
  show Sd M_Mod_end 1 0 emI 0 [(0, vr v0), (1, vi v1)] [] h _
  unfold Mod_end
  refine Sd_iload_n (pc' := 1) (dc D_Mod_end 0 rfl) rfl 1 rfl rfl ?_
  refine Sd_if_lt (tgt := 12) (pc' := 4) (dc D_Mod_end 1 rfl) (by decide) rfl (fun _ => ?_) (fun _ => ?_)
  · refine Sd_iconst (pc' := 13) (dc D_Mod_end 6 rfl) rfl ⟨by decide, by decide⟩ ?_
    exact Sd_iret (dc D_Mod_end 7 rfl) rfl
  · refine Sd_iload_n (pc' := 5) (dc D_Mod_end 2 rfl) rfl 1 rfl rfl ?_
    refine Sd_aload_n (pc' := 6) (dc D_Mod_end 3 rfl) rfl 0 rfl rfl ?_
    refine Sd_getI (pc' := 9) (dc D_Mod_end 4 rfl) rfl F_Mod_107 rfl rfl ?_
    refine Sd_icmp_le (tgt := 14) (pc' := 12) (dc D_Mod_end 5 rfl) (by decide) rfl (fun _ => ?_) (fun _ => ?_)
    · refine Sd_aload_n (pc' := 15) (dc D_Mod_end 8 rfl) rfl 0 rfl rfl ?_
      refine Sd_iload_n (pc' := 16) (dc D_Mod_end 9 rfl) rfl 1 rfl rfl ?_
      refine Sd_putI (pc' := 19) (dc D_Mod_end 10 rfl) rfl F_Mod_107 rfl rfl rfl (finOk.no rfl) (by decide) ?_
      refine Sd_iload_n (pc' := 20) (dc D_Mod_end 11 rfl) rfl 1 rfl rfl ?_
      exact Sd_iret (dc D_Mod_end 12 rfl) rfl
    · refine Sd_iconst (pc' := 13) (dc D_Mod_end 6 rfl) rfl ⟨by decide, by decide⟩ ?_
      exact Sd_iret (dc D_Mod_end 7 rfl) rfl
theorem K_Mod_end : MOk M_Mod_end 1 := ⟨Tb_at 133 (by decide +kernel) rfl, Tb_at 1379 (by decide +kernel) rfl, by decide +kernel, by decide +kernel, by decide +kernel⟩
theorem Ks_Mod_end : Cond.instanceMethod yX12_end ∈ Tb := Tb_at 1377 (by decide +kernel) rfl
theorem Kv_Mod_end : Cond.selects RX12 yX12_end yX12_end ∈ Tb := Tb_at 1378 (by decide +kernel) rfl
/-! ===== BatchShareModel.sign()I ===== -/
abbrev M_Mod_sign : AMt := (yX12_sign, cX12_sign, 1, (some .int))
def T_Mod_sign : List (Nat × Instr × Nat) := [(0, .aload_n 0, 1), (1, .getfield 117, 3), (4, .aload_n 0, 1), (5, .getfield 107, 3), (8, .if_icmp .ge 30, 3), (11, .aload_n 0, 1), (12, .getfield 49, 3), (15, .aload_n 0, 1), (16, .getfield 117, 3), (19, .baload, 1), (20, .bipush 32, 2), (22, .if_icmp .ne 16, 3), (25, .aload_n 0, 1), (26, .dup, 1), (27, .getfield 117, 3), (30, .iconst 1, 1), (31, .iadd, 1), (32, .putfield 117, 3), (35, .goto (-35), 3), (38, .aload_n 0, 1), (39, .getfield 117, 3), (42, .aload_n 0, 1), (43, .getfield 107, 3), (46, .if_icmp .ge 19, 3), (49, .aload_n 0, 1), (50, .getfield 49, 3), (53, .aload_n 0, 1), (54, .getfield 117, 3), (57, .baload, 1), (58, .sipush 255, 3), (61, .iand, 1), (62, .goto 4, 3), (65, .iconst (-1), 1), (66, .ireturn, 1)]
set_option maxRecDepth 20000 in
theorem D_Mod_sign : (T_Mod_sign.all fun q => decide (decode M_Mod_sign.2.1 q.1 = .ok q.2)) = true := by decide +kernel
def Mod_sign_L38 (v0 : Nat) (h : AH) : Option (Int × AH) := gI h 13 v0 19 fun x1 => gI h 13 v0 18 fun x2 => if (x2 : Int) ≤ x1 then (some ((-1), h)) else (gR h 13 v0 21 fun r3 => gI h 13 v0 19 fun x4 => aI h 22 r3 x4 fun x5 => some ((iAnd x5 255), h))
set_option maxHeartbeats 4000000 in
set_option maxRecDepth 20000 in
theorem s_Mod_sign_L38 (v0 : Nat) (h : AH) : Sd M_Mod_sign 1 0 emI 38 [(0, vr v0)] [] h (Mod_sign_L38 v0 h) := by
  unfold Mod_sign_L38
  refine Sd_aload_n (pc' := 39) (dc D_Mod_sign 19 rfl) rfl 0 rfl rfl ?_
  refine Sd_getI (pc' := 42) (dc D_Mod_sign 20 rfl) rfl F_Mod_117 rfl rfl ?_
  refine Sd_aload_n (pc' := 43) (dc D_Mod_sign 21 rfl) rfl 0 rfl rfl ?_
  refine Sd_getI (pc' := 46) (dc D_Mod_sign 22 rfl) rfl F_Mod_107 rfl rfl ?_
  refine Sd_icmp_ge (tgt := 65) (pc' := 49) (dc D_Mod_sign 23 rfl) (by decide) rfl (fun _ => ?_) (fun _ => ?_)
  · refine Sd_iconst (pc' := 66) (dc D_Mod_sign 32 rfl) rfl ⟨by decide, by decide⟩ ?_
    exact Sd_iret (dc D_Mod_sign 33 rfl) rfl
  · refine Sd_aload_n (pc' := 50) (dc D_Mod_sign 24 rfl) rfl 0 rfl rfl ?_
    refine Sd_getR (pc' := 53) (dc D_Mod_sign 25 rfl) rfl F_Mod_49 rfl rfl ?_
    refine Sd_aload_n (pc' := 54) (dc D_Mod_sign 26 rfl) rfl 0 rfl rfl ?_
    refine Sd_getI (pc' := 57) (dc D_Mod_sign 27 rfl) rfl F_Mod_117 rfl rfl ?_
    refine Sd_baload (pc' := 58) (dc D_Mod_sign 28 rfl) rfl ?_
    refine Sd_sipush (pc' := 61) (dc D_Mod_sign 29 rfl) rfl ⟨by decide, by decide⟩ (by decide) ?_
    refine Sd_iand (pc' := 62) (dc D_Mod_sign 30 rfl) rfl ?_
    refine Sd_goto (tgt := 66) (dc D_Mod_sign 31 rfl) (by decide) ?_
    exact Sd_iret (dc D_Mod_sign 33 rfl) rfl
def Mod_sign_L0 : Nat → Nat → AH → Option (Int × AH)
  | 0, _, _ => none
  | n + 1, v0, h => gI h 13 v0 19 fun x1 => gI h 13 v0 18 fun x2 => if (x2 : Int) ≤ x1 then (Mod_sign_L38 v0 h) else (gR h 13 v0 21 fun r3 => gI h 13 v0 19 fun x4 => aI h 22 r3 x4 fun x5 => if ¬ (x5 : Int) = 32 then (Mod_sign_L38 v0 h) else (gI h 13 v0 19 fun x6 => pI h 13 v0 19 (wr (x6 + 1)) fun h7 => Mod_sign_L0 n v0 h7))
set_option maxHeartbeats 4000000 in
set_option maxRecDepth 20000 in
theorem s_Mod_sign_L0 : ∀ (n : Nat) (v0 : Nat) (h : AH), Sd M_Mod_sign 1 0 emI 0 [(0, vr v0)] [] h (Mod_sign_L0 n v0 h)
  | 0, _, _ => Sd.none
  | n + 1, v0, h => by
    rw [Mod_sign_L0]
    refine Sd_aload_n (pc' := 1) (dc D_Mod_sign 0 rfl) rfl 0 rfl rfl ?_
    refine Sd_getI (pc' := 4) (dc D_Mod_sign 1 rfl) rfl F_Mod_117 rfl rfl ?_
    refine Sd_aload_n (pc' := 5) (dc D_Mod_sign 2 rfl) rfl 0 rfl rfl ?_
    refine Sd_getI (pc' := 8) (dc D_Mod_sign 3 rfl) rfl F_Mod_107 rfl rfl ?_
    refine Sd_icmp_ge (tgt := 38) (pc' := 11) (dc D_Mod_sign 4 rfl) (by decide) rfl (fun _ => ?_) (fun _ => ?_)
    · exact s_Mod_sign_L38 _ _
    · refine Sd_aload_n (pc' := 12) (dc D_Mod_sign 5 rfl) rfl 0 rfl rfl ?_
      refine Sd_getR (pc' := 15) (dc D_Mod_sign 6 rfl) rfl F_Mod_49 rfl rfl ?_
      refine Sd_aload_n (pc' := 16) (dc D_Mod_sign 7 rfl) rfl 0 rfl rfl ?_
      refine Sd_getI (pc' := 19) (dc D_Mod_sign 8 rfl) rfl F_Mod_117 rfl rfl ?_
      refine Sd_baload (pc' := 20) (dc D_Mod_sign 9 rfl) rfl ?_
      refine Sd_bipush (pc' := 22) (dc D_Mod_sign 10 rfl) rfl ⟨by decide, by decide⟩ (by decide) ?_
      refine Sd_icmp_ne (tgt := 38) (pc' := 25) (dc D_Mod_sign 11 rfl) (by decide) rfl (fun _ => ?_) (fun _ => ?_)
      · exact s_Mod_sign_L38 _ _
      · refine Sd_aload_n (pc' := 26) (dc D_Mod_sign 12 rfl) rfl 0 rfl rfl ?_
        refine Sd_dup (pc' := 27) (dc D_Mod_sign 13 rfl) rfl (cat_r _) ?_
        refine Sd_getI (pc' := 30) (dc D_Mod_sign 14 rfl) rfl F_Mod_117 rfl rfl ?_
        refine Sd_iconst (pc' := 31) (dc D_Mod_sign 15 rfl) rfl ⟨by decide, by decide⟩ ?_
        refine Sd_iadd (pc' := 32) (dc D_Mod_sign 16 rfl) rfl ?_
        refine Sd_putI (pc' := 35) (dc D_Mod_sign 17 rfl) rfl F_Mod_117 rfl rfl rfl (finOk.no rfl) (by decide) ?_
        refine Sd_goto (tgt := 0) (dc D_Mod_sign 18 rfl) (by decide) ?_
        exact s_Mod_sign_L0 n _ _
def Mod_sign (v0 : Nat) (h : AH) : Option (Int × AH) := Mod_sign_L0 FU v0 h
set_option maxHeartbeats 4000000 in
set_option maxRecDepth 20000 in
theorem s_Mod_sign (v0 : Nat) (h : AH) : CS M_Mod_sign 1 0 emI [vr v0] h (Mod_sign v0 h) := by
  refine CS.of (by decide) (Nat.le_of_ble_eq_true rfl) ?_
  show Sd M_Mod_sign 1 0 emI 0 [(0, vr v0)] [] h _
  unfold Mod_sign
  exact s_Mod_sign_L0 FU _ _
theorem K_Mod_sign : MOk M_Mod_sign 0 := ⟨Tb_at 133 (by decide +kernel) rfl, Tb_at 1391 (by decide +kernel) rfl, by decide +kernel, by decide +kernel, by decide +kernel⟩
theorem Ks_Mod_sign : Cond.instanceMethod yX12_sign ∈ Tb := Tb_at 1390 (by decide +kernel) rfl
theorem Kv_Mod_sign : Cond.selects RX12 yX12_sign yX12_sign ∈ Tb := Tb_at 41 (by decide +kernel) rfl
/-! ===== BatchShareModel.in(JJJ)Z ===== -/
abbrev M_Mod_in : AMt := (yX12_in, cX12_in, 6, (some .boolean))
def T_Mod_in : List (Nat × Instr × Nat) := [(0, .lload_n 0, 1), (1, .lload_n 2, 1), (2, .lcmp, 1), (3, .ifCond .lt 14, 3), (6, .lload_n 0, 1), (7, .lload 4, 2), (9, .lcmp, 1), (10, .ifCond .gt 7, 3), (13, .iconst 1, 1), (14, .goto 4, 3), (17, .iconst 0, 1), (18, .ireturn, 1)]
set_option maxRecDepth 20000 in
theorem D_Mod_in : (T_Mod_in.all fun q => decide (decode M_Mod_in.2.1 q.1 = .ok q.2)) = true := by decide +kernel
def Mod_in (v0 : Int) (v2 : Int) (v4 : Int) (h : AH) : Option (Int × AH) := if ((lCmp v0 v2) : Int) < 0 then (some (0, h)) else (if (0 : Int) < (lCmp v0 v4) then (some (0, h)) else (some (1, h)))
set_option maxHeartbeats 4000000 in
set_option maxRecDepth 20000 in
theorem s_Mod_in (v0 : Int) (v2 : Int) (v4 : Int) (h : AH) : CS M_Mod_in 1 0 emI [vl v0, vl v2, vl v4] h (Mod_in v0 v2 v4 h) := by
  refine CS.of (by decide) (Nat.le_of_ble_eq_true rfl) ?_
  show Sd M_Mod_in 1 0 emI 0 [(0, vl v0), (2, vl v2), (4, vl v4)] [] h _
  unfold Mod_in
  refine Sd_lload_n (pc' := 1) (dc D_Mod_in 0 rfl) rfl 0 rfl rfl ?_
  refine Sd_lload_n (pc' := 2) (dc D_Mod_in 1 rfl) rfl 1 rfl rfl ?_
  refine Sd_lcmp (pc' := 3) (dc D_Mod_in 2 rfl) rfl ?_
  refine Sd_if_lt (tgt := 17) (pc' := 6) (dc D_Mod_in 3 rfl) (by decide) rfl (fun _ => ?_) (fun _ => ?_)
  · refine Sd_iconst (pc' := 18) (dc D_Mod_in 10 rfl) rfl ⟨by decide, by decide⟩ ?_
    exact Sd_zret (dc D_Mod_in 11 rfl) rfl (Or.inl rfl)
  · refine Sd_lload_n (pc' := 7) (dc D_Mod_in 4 rfl) rfl 0 rfl rfl ?_
    refine Sd_lload (pc' := 9) (dc D_Mod_in 5 rfl) rfl 2 rfl ?_
    refine Sd_lcmp (pc' := 10) (dc D_Mod_in 6 rfl) rfl ?_
    refine Sd_if_gt (tgt := 17) (pc' := 13) (dc D_Mod_in 7 rfl) (by decide) rfl (fun _ => ?_) (fun _ => ?_)
    · refine Sd_iconst (pc' := 18) (dc D_Mod_in 10 rfl) rfl ⟨by decide, by decide⟩ ?_
      exact Sd_zret (dc D_Mod_in 11 rfl) rfl (Or.inl rfl)
    · refine Sd_iconst (pc' := 14) (dc D_Mod_in 8 rfl) rfl ⟨by decide, by decide⟩ ?_
      refine Sd_goto (tgt := 18) (dc D_Mod_in 9 rfl) (by decide) ?_
      exact Sd_zret (dc D_Mod_in 11 rfl) rfl (Or.inr rfl)
theorem K_Mod_in : MOk M_Mod_in 3 := ⟨Tb_at 133 (by decide +kernel) rfl, Tb_at 1401 (by decide +kernel) rfl, by decide +kernel, by decide +kernel, by decide +kernel⟩
theorem Ks_Mod_in : Cond.static yX12_in ∈ Tb := Tb_at 1400 (by decide +kernel) rfl
/-! ===== BatchShareModel.stood(Ljava/lang/String;)Z ===== -/
abbrev M_Mod_stood : AMt := (yX12_stood, cX12_stood, 5, (some .boolean))
def T_Mod_stood : List (Nat × Instr × Nat) := [(0, .aload_n 0, 1), (1, .invokevirtual 124, 3), (4, .pop, 1), (5, .iconst 0, 1), (6, .istore_n 2, 1), (7, .aload_n 0, 1), (8, .getfield 117, 3), (11, .iload_n 2, 1), (12, .iadd, 1), (13, .aload_n 0, 1), (14, .getfield 107, 3), (17, .if_icmp .ge 33, 3), (20, .aload_n 0, 1), (21, .getfield 49, 3), (24, .aload_n 0, 1), (25, .getfield 117, 3), (28, .iload_n 2, 1), (29, .iadd, 1), (30, .baload, 1), (31, .i2l, 1), (32, .ldc2_w 136, 3), (35, .ldc2_w 138, 3), (38, .invokestatic 88, 3), (41, .ifCond .eq 9, 3), (44, .iinc 2 1, 3), (47, .goto (-40), 3), (50, .iload_n 2, 1), (51, .aload_n 1, 1), (52, .invokevirtual 140, 3), (55, .if_icmp .ne 7, 3), (58, .iconst 1, 1), (59, .goto 4, 3), (62, .iconst 0, 1), (63, .istore_n 3, 1), (64, .iconst 0, 1), (65, .istore 4, 2), (67, .iload 4, 2), (69, .iload_n 2, 1), (70, .if_icmp .ge 40, 3), (73, .iload_n 3, 1), (74, .ifCond .eq 36, 3), (77, .aload_n 0, 1), (78, .getfield 49, 3), (81, .aload_n 0, 1), (82, .getfield 117, 3), (85, .iload 4, 2), (87, .iadd, 1), (88, .baload, 1), (89, .aload_n 1, 1), (90, .iload 4, 2), (92, .invokevirtual 145, 3), (95, .if_icmp .ne 7, 3), (98, .iconst 1, 1), (99, .goto 4, 3), (102, .iconst 0, 1), (103, .istore_n 3, 1), (104, .iinc 4 1, 3), (107, .goto (-40), 3), (110, .iload_n 3, 1), (111, .ireturn, 1)]
set_option maxRecDepth 20000 in
theorem D_Mod_stood : (T_Mod_stood.all fun q => decide (decode M_Mod_stood.2.1 q.1 = .ok q.2)) = true := by decide +kernel
def Mod_stood_L67 : Nat → Nat → Nat → Int → Int → Int → AH → Option (Int × AH)
  | 0, _, _, _, _, _, _ => none
  | n + 1, v0, v1, v2, v3, v4, h => if (v2 : Int) ≤ v4 then (rz v3 h) else (if (v3 : Int) = 0 then (rz v3 h) else (gR h 13 v0 21 fun r1 => gI h 13 v0 19 fun x2 => aI h 22 r1 (wr (x2 + v4)) fun x3 => sAt v1 v4 fun x4 => if ¬ (x3 : Int) = x4 then (Mod_stood_L67 n v0 v1 v2 0 ((wr (v4 + 1))) h) else (Mod_stood_L67 n v0 v1 v2 1 ((wr (v4 + 1))) h)))
set_option maxHeartbeats 4000000 in
set_option maxRecDepth 20000 in
theorem s_Mod_stood_L67 : ∀ (n : Nat) (v0 : Nat) (v1 : Nat) (v2 : Int) (v3 : Int) (v4 : Int) (h : AH), Sd M_Mod_stood 6 151 emI 67 [(0, vr v0), (1, vr v1), (2, vi v2), (3, vi v3), (4, vi v4)] [] h (Mod_stood_L67 n v0 v1 v2 v3 v4 h)
  | 0, _, _, _, _, _, _ => Sd.none
  | n + 1, v0, v1, v2, v3, v4, h => by
    rw [Mod_stood_L67]
    refine Sd_iload (pc' := 69) (dc D_Mod_stood 36 rfl) rfl 4 rfl ?_
    refine Sd_iload_n (pc' := 70) (dc D_Mod_stood 37 rfl) rfl 2 rfl rfl ?_
    refine Sd_icmp_ge (tgt := 110) (pc' := 73) (dc D_Mod_stood 38 rfl) (by decide) rfl (fun _ => ?_) (fun _ => ?_)
    · refine Sd_iload_n (pc' := 111) (dc D_Mod_stood 58 rfl) rfl 3 rfl rfl ?_
      exact Sd_zret' (dc D_Mod_stood 59 rfl) rfl
    · refine Sd_iload_n (pc' := 74) (dc D_Mod_stood 39 rfl) rfl 3 rfl rfl ?_
      refine Sd_if_eq (tgt := 110) (pc' := 77) (dc D_Mod_stood 40 rfl) (by decide) rfl (fun _ => ?_) (fun _ => ?_)
      · refine Sd_iload_n (pc' := 111) (dc D_Mod_stood 58 rfl) rfl 3 rfl rfl ?_
        exact Sd_zret' (dc D_Mod_stood 59 rfl) rfl
      · refine Sd_aload_n (pc' := 78) (dc D_Mod_stood 41 rfl) rfl 0 rfl rfl ?_
        refine Sd_getR (pc' := 81) (dc D_Mod_stood 42 rfl) rfl F_Mod_49 rfl rfl ?_
        refine Sd_aload_n (pc' := 82) (dc D_Mod_stood 43 rfl) rfl 0 rfl rfl ?_
        refine Sd_getI (pc' := 85) (dc D_Mod_stood 44 rfl) rfl F_Mod_117 rfl rfl ?_
        refine Sd_iload (pc' := 87) (dc D_Mod_stood 45 rfl) rfl 4 rfl ?_
        refine Sd_iadd (pc' := 88) (dc D_Mod_stood 46 rfl) rfl ?_
        refine Sd_baload (pc' := 89) (dc D_Mod_stood 47 rfl) rfl ?_
        refine Sd_aload_n (pc' := 90) (dc D_Mod_stood 48 rfl) rfl 1 rfl rfl ?_
        refine Sd_iload (pc' := 92) (dc D_Mod_stood 49 rfl) rfl 4 rfl ?_
        refine Sd_strat (pc' := 95) (dc D_Mod_stood 50 rfl) rfl L_Mod_145 (by decide) (Nat.le_of_ble_eq_true rfl) ?_
        refine Sd_icmp_ne (tgt := 102) (pc' := 98) (dc D_Mod_stood 51 rfl) (by decide) rfl (fun _ => ?_) (fun _ => ?_)
        · refine Sd_iconst (pc' := 103) (dc D_Mod_stood 54 rfl) rfl ⟨by decide, by decide⟩ ?_
          refine Sd_istore_n (pc' := 104) (l' := [(3, _), (0, _), (1, _), (2, _), (4, _)]) (dc D_Mod_stood 55 rfl) rfl rfl (by decide) rfl ?_
          refine Sd_iinc (pc' := 107) (l' := [(4, _), (3, _), (0, _), (1, _), (2, _)]) (dc D_Mod_stood 56 rfl) rfl 4 rfl (by decide) rfl ?_
          refine Sd_goto (tgt := 67) (dc D_Mod_stood 57 rfl) (by decide) ?_
          refine Sd.sub (l' := [(0, _), (1, _), (2, _), (3, _), (4, _)]) [2, 3, 4, 1, 0] rfl ?_
          exact s_Mod_stood_L67 n _ _ _ _ _ _
        · refine Sd_iconst (pc' := 99) (dc D_Mod_stood 52 rfl) rfl ⟨by decide, by decide⟩ ?_
          refine Sd_goto (tgt := 103) (dc D_Mod_stood 53 rfl) (by decide) ?_
          refine Sd_istore_n (pc' := 104) (l' := [(3, _), (0, _), (1, _), (2, _), (4, _)]) (dc D_Mod_stood 55 rfl) rfl rfl (by decide) rfl ?_
          refine Sd_iinc (pc' := 107) (l' := [(4, _), (3, _), (0, _), (1, _), (2, _)]) (dc D_Mod_stood 56 rfl) rfl 4 rfl (by decide) rfl ?_
          refine Sd_goto (tgt := 67) (dc D_Mod_stood 57 rfl) (by decide) ?_
          refine Sd.sub (l' := [(0, _), (1, _), (2, _), (3, _), (4, _)]) [2, 3, 4, 1, 0] rfl ?_
          exact s_Mod_stood_L67 n _ _ _ _ _ _
def Mod_stood_L50 (v0 : Nat) (v1 : Nat) (v2 : Int) (h : AH) : Option (Int × AH) := sLen v1 fun x1 => if ¬ (v2 : Int) = x1 then (Mod_stood_L67 FU v0 v1 v2 0 0 h) else (Mod_stood_L67 FU v0 v1 v2 1 0 h)
set_option maxHeartbeats 4000000 in
set_option maxRecDepth 20000 in
theorem s_Mod_stood_L50 (v0 : Nat) (v1 : Nat) (v2 : Int) (h : AH) : Sd M_Mod_stood 6 151 emI 50 [(0, vr v0), (1, vr v1), (2, vi v2)] [] h (Mod_stood_L50 v0 v1 v2 h) := by
  unfold Mod_stood_L50
  refine Sd_iload_n (pc' := 51) (dc D_Mod_stood 26 rfl) rfl 2 rfl rfl ?_
  refine Sd_aload_n (pc' := 52) (dc D_Mod_stood 27 rfl) rfl 1 rfl rfl ?_
  refine Sd_strlen (pc' := 55) (dc D_Mod_stood 28 rfl) rfl L_Mod_140 (by decide) (Nat.le_of_ble_eq_true rfl) ?_
  refine Sd_icmp_ne (tgt := 62) (pc' := 58) (dc D_Mod_stood 29 rfl) (by decide) rfl (fun _ => ?_) (fun _ => ?_)
  · refine Sd_iconst (pc' := 63) (dc D_Mod_stood 32 rfl) rfl ⟨by decide, by decide⟩ ?_
    refine Sd_istore_n (pc' := 64) (l' := [(3, _), (0, _), (1, _), (2, _)]) (dc D_Mod_stood 33 rfl) rfl rfl (by decide) rfl ?_
    refine Sd_iconst (pc' := 65) (dc D_Mod_stood 34 rfl) rfl ⟨by decide, by decide⟩ ?_
    refine Sd_istore (pc' := 67) (l' := [(4, _), (3, _), (0, _), (1, _), (2, _)]) (dc D_Mod_stood 35 rfl) rfl (by decide) rfl ?_
    refine Sd.sub (l' := [(0, _), (1, _), (2, _), (3, _), (4, _)]) [2, 3, 4, 1, 0] rfl ?_
    exact s_Mod_stood_L67 FU _ _ _ _ _ _
  · refine Sd_iconst (pc' := 59) (dc D_Mod_stood 30 rfl) rfl ⟨by decide, by decide⟩ ?_
    refine Sd_goto (tgt := 63) (dc D_Mod_stood 31 rfl) (by decide) ?_
    refine Sd_istore_n (pc' := 64) (l' := [(3, _), (0, _), (1, _), (2, _)]) (dc D_Mod_stood 33 rfl) rfl rfl (by decide) rfl ?_
    refine Sd_iconst (pc' := 65) (dc D_Mod_stood 34 rfl) rfl ⟨by decide, by decide⟩ ?_
    refine Sd_istore (pc' := 67) (l' := [(4, _), (3, _), (0, _), (1, _), (2, _)]) (dc D_Mod_stood 35 rfl) rfl (by decide) rfl ?_
    refine Sd.sub (l' := [(0, _), (1, _), (2, _), (3, _), (4, _)]) [2, 3, 4, 1, 0] rfl ?_
    exact s_Mod_stood_L67 FU _ _ _ _ _ _
def Mod_stood_L7 : Nat → Nat → Nat → Int → AH → Option (Int × AH)
  | 0, _, _, _, _ => none
  | n + 1, v0, v1, v2, h => gI h 13 v0 19 fun x1 => gI h 13 v0 18 fun x2 => if (x2 : Int) ≤ (wr (x1 + v2)) then (Mod_stood_L50 v0 v1 v2 h) else (gR h 13 v0 21 fun r3 => gI h 13 v0 19 fun x4 => aI h 22 r3 (wr (x4 + v2)) fun x5 => bnd (Mod_in x5 97 122 h) fun x7 h6 => if (x7 : Int) = 0 then (Mod_stood_L50 v0 v1 v2 h6) else (Mod_stood_L7 n v0 v1 ((wr (v2 + 1))) h6))
set_option maxHeartbeats 4000000 in
set_option maxRecDepth 20000 in
theorem s_Mod_stood_L7 : ∀ (n : Nat) (v0 : Nat) (v1 : Nat) (v2 : Int) (h : AH), Sd M_Mod_stood 6 151 emI 7 [(0, vr v0), (1, vr v1), (2, vi v2)] [] h (Mod_stood_L7 n v0 v1 v2 h)
  | 0, _, _, _, _ => Sd.none
  | n + 1, v0, v1, v2, h => by
    rw [Mod_stood_L7]
    refine Sd_aload_n (pc' := 8) (dc D_Mod_stood 5 rfl) rfl 0 rfl rfl ?_
    refine Sd_getI (pc' := 11) (dc D_Mod_stood 6 rfl) rfl F_Mod_117 rfl rfl ?_
    refine Sd_iload_n (pc' := 12) (dc D_Mod_stood 7 rfl) rfl 2 rfl rfl ?_
    refine Sd_iadd (pc' := 13) (dc D_Mod_stood 8 rfl) rfl ?_
    refine Sd_aload_n (pc' := 14) (dc D_Mod_stood 9 rfl) rfl 0 rfl rfl ?_
    refine Sd_getI (pc' := 17) (dc D_Mod_stood 10 rfl) rfl F_Mod_107 rfl rfl ?_
    refine Sd_icmp_ge (tgt := 50) (pc' := 20) (dc D_Mod_stood 11 rfl) (by decide) rfl (fun _ => ?_) (fun _ => ?_)
    · exact s_Mod_stood_L50 _ _ _ _
    · refine Sd_aload_n (pc' := 21) (dc D_Mod_stood 12 rfl) rfl 0 rfl rfl ?_
      refine Sd_getR (pc' := 24) (dc D_Mod_stood 13 rfl) rfl F_Mod_49 rfl rfl ?_
      refine Sd_aload_n (pc' := 25) (dc D_Mod_stood 14 rfl) rfl 0 rfl rfl ?_
      refine Sd_getI (pc' := 28) (dc D_Mod_stood 15 rfl) rfl F_Mod_117 rfl rfl ?_
      refine Sd_iload_n (pc' := 29) (dc D_Mod_stood 16 rfl) rfl 2 rfl rfl ?_
      refine Sd_iadd (pc' := 30) (dc D_Mod_stood 17 rfl) rfl ?_
      refine Sd_baload (pc' := 31) (dc D_Mod_stood 18 rfl) rfl ?_
      refine Sd_i2l (pc' := 32) (dc D_Mod_stood 19 rfl) rfl ?_
      refine Sd_ldc2 (n := 97) (pc' := 35) (dc D_Mod_stood 20 rfl) rfl ⟨by decide, by decide⟩ Q_Mod_136 ?_
      refine Sd_ldc2 (n := 122) (pc' := 38) (dc D_Mod_stood 21 rfl) rfl ⟨by decide, by decide⟩ Q_Mod_138 ?_
      refine Sd.callSI (as := [_, _, _]) (pc' := 41) (dc D_Mod_stood 22 rfl) rfl K_Mod_in L_Mod_88 Ks_Mod_in ⟨by decide, by decide⟩ rfl rfl (Nat.le_of_ble_eq_true rfl) (s_Mod_in _ _ _ _) (fun x7 h6 => ?_)
      refine Sd_if_eq (tgt := 50) (pc' := 44) (dc D_Mod_stood 23 rfl) (by decide) rfl (fun _ => ?_) (fun _ => ?_)
      · exact s_Mod_stood_L50 _ _ _ _
      · refine Sd_iinc (pc' := 47) (l' := [(2, _), (0, _), (1, _)]) (dc D_Mod_stood 24 rfl) rfl 2 rfl (by decide) rfl ?_
        refine Sd_goto (tgt := 7) (dc D_Mod_stood 25 rfl) (by decide) ?_
        refine Sd.sub (l' := [(0, _), (1, _), (2, _)]) [1, 2, 0] rfl ?_
        exact s_Mod_stood_L7 n _ _ _ _
def Mod_stood (v0 : Nat) (v1 : Nat) (h : AH) : Option (Int × AH) := rc h 13 v0 <| bnd (Mod_sign v0 h) fun x2 h1 => Mod_stood_L7 FU v0 v1 0 h1
set_option maxHeartbeats 4000000 in
set_option maxRecDepth 20000 in
theorem s_Mod_stood (v0 : Nat) (v1 : Nat) (h : AH) : CS M_Mod_stood 6 151 emI [vr v0, vr v1] h (Mod_stood v0 v1 h) := by
  refine CS.of (by decide) (Nat.le_of_ble_eq_true rfl) ?_
  show Sd M_Mod_stood 6 151 emI 0 [(0, vr v0), (1, vr v1)] [] h _
  unfold Mod_stood
  refine Sd_aload_n (pc' := 1) (dc D_Mod_stood 0 rfl) rfl 0 rfl rfl ?_
  refine Sd.callVI (ci := 12) (t := 13) (as := []) RX12 (pc' := 4) (dc D_Mod_stood 1 rfl) rfl rfl rfl rfl K_Mod_sign L_Mod_124 Ks_Mod_sign Kv_Mod_sign ⟨by decide, by decide⟩ rfl rfl (Nat.le_of_ble_eq_true rfl) (s_Mod_sign _ _) (fun x2 h1 => ?_)
  refine Sd_pop (pc' := 5) (dc D_Mod_stood 2 rfl) rfl (cat_i _) ?_
  refine Sd_iconst (pc' := 6) (dc D_Mod_stood 3 rfl) rfl ⟨by decide, by decide⟩ ?_
  refine Sd_istore_n (pc' := 7) (l' := [(2, _), (0, _), (1, _)]) (dc D_Mod_stood 4 rfl) rfl rfl (by decide) rfl ?_
  refine Sd.sub (l' := [(0, _), (1, _), (2, _)]) [1, 2, 0] rfl ?_
  exact s_Mod_stood_L7 FU _ _ _ _
theorem K_Mod_stood : MOk M_Mod_stood 1 := ⟨Tb_at 133 (by decide +kernel) rfl, Tb_at 1396 (by decide +kernel) rfl, by decide +kernel, by decide +kernel, by decide +kernel⟩
theorem Ks_Mod_stood : Cond.instanceMethod yX12_stood ∈ Tb := Tb_at 1395 (by decide +kernel) rfl
theorem Kv_Mod_stood : Cond.selects RX12 yX12_stood yX12_stood ∈ Tb := Tb_at 42 (by decide +kernel) rfl
/-! ===== BatchShareModel.fails(II)V ===== -/
abbrev M_Mod_fails : AMt := (yX12_fails, cX12_fails, 3, none)
def T_Mod_fails : List (Nat × Instr × Nat) := [(0, .aload_n 0, 1), (1, .getfield 114, 3), (4, .ifCond .ne 15, 3), (7, .aload_n 0, 1), (8, .iconst 1, 1), (9, .bipush 8, 2), (11, .iload_n 2, 1), (12, .imul, 1), (13, .iadd, 1), (14, .iload_n 1, 1), (15, .iadd, 1), (16, .putfield 114, 3), (19, .return_, 1)]
set_option maxRecDepth 20000 in
theorem D_Mod_fails : (T_Mod_fails.all fun q => decide (decode M_Mod_fails.2.1 q.1 = .ok q.2)) = true := by decide +kernel
def Mod_fails (v0 : Nat) (v1 : Int) (v2 : Int) (h : AH) : Option (Unit × AH) := gI h 13 v0 20 fun x1 => if ¬ (x1 : Int) = 0 then (some ((), h)) else (pI h 13 v0 20 (wr ((wr (1 + (wr (8 * v2)))) + v1)) fun h2 => some ((), h2))
set_option maxHeartbeats 4000000 in
set_option maxRecDepth 20000 in
theorem s_Mod_fails (v0 : Nat) (v1 : Int) (v2 : Int) (h : AH) : CS M_Mod_fails 1 0 emV [vr v0, vi v1, vi v2] h (Mod_fails v0 v1 v2 h) := by
  refine CS.of (by decide) (Nat.le_of_ble_eq_true rfl) ?_
  show Sd M_Mod_fails 1 0 emV 0 [(0, vr v0), (1, vi v1), (2, vi v2)] [] h _
  unfold Mod_fails
  refine Sd_aload_n (pc' := 1) (dc D_Mod_fails 0 rfl) rfl 0 rfl rfl ?_
  refine Sd_getI (pc' := 4) (dc D_Mod_fails 1 rfl) rfl F_Mod_114 rfl rfl ?_
  refine Sd_if_ne (tgt := 19) (pc' := 7) (dc D_Mod_fails 2 rfl) (by decide) rfl (fun _ => ?_) (fun _ => ?_)
  · exact Sd_vret (dc D_Mod_fails 12 rfl) rfl
  · refine Sd_aload_n (pc' := 8) (dc D_Mod_fails 3 rfl) rfl 0 rfl rfl ?_
    refine Sd_iconst (pc' := 9) (dc D_Mod_fails 4 rfl) rfl ⟨by decide, by decide⟩ ?_
    refine Sd_bipush (pc' := 11) (dc D_Mod_fails 5 rfl) rfl ⟨by decide, by decide⟩ (by decide) ?_
    refine Sd_iload_n (pc' := 12) (dc D_Mod_fails 6 rfl) rfl 2 rfl rfl ?_
    refine Sd_imul (pc' := 13) (dc D_Mod_fails 7 rfl) rfl ?_
    refine Sd_iadd (pc' := 14) (dc D_Mod_fails 8 rfl) rfl ?_
    refine Sd_iload_n (pc' := 15) (dc D_Mod_fails 9 rfl) rfl 1 rfl rfl ?_
    refine Sd_iadd (pc' := 16) (dc D_Mod_fails 10 rfl) rfl ?_
    refine Sd_putI (pc' := 19) (dc D_Mod_fails 11 rfl) rfl F_Mod_114 rfl rfl rfl (finOk.no rfl) (by decide) ?_
    exact Sd_vret (dc D_Mod_fails 12 rfl) rfl
theorem K_Mod_fails : MOk M_Mod_fails 2 := ⟨Tb_at 133 (by decide +kernel) rfl, Tb_at 1409 (by decide +kernel) rfl, by decide +kernel, by decide +kernel, by decide +kernel⟩
theorem Ks_Mod_fails : Cond.instanceMethod yX12_fails ∈ Tb := Tb_at 1408 (by decide +kernel) rfl
theorem Kv_Mod_fails : Cond.selects RX12 yX12_fails yX12_fails ∈ Tb := Tb_at 43 (by decide +kernel) rfl
/-! ===== BatchShareModel.isDigit()Z ===== -/
abbrev M_Mod_isDigit : AMt := (yX12_isDigit, cX12_isDigit, 1, (some .boolean))
def T_Mod_isDigit : List (Nat × Instr × Nat) := [(0, .aload_n 0, 1), (1, .getfield 117, 3), (4, .aload_n 0, 1), (5, .getfield 107, 3), (8, .if_icmp .ge 29, 3), (11, .aload_n 0, 1), (12, .getfield 49, 3), (15, .aload_n 0, 1), (16, .getfield 117, 3), (19, .baload, 1), (20, .i2l, 1), (21, .ldc2_w 120, 3), (24, .ldc2_w 122, 3), (27, .invokestatic 88, 3), (30, .ifCond .eq 7, 3), (33, .iconst 1, 1), (34, .goto 4, 3), (37, .iconst 0, 1), (38, .ireturn, 1)]
set_option maxRecDepth 20000 in
theorem D_Mod_isDigit : (T_Mod_isDigit.all fun q => decide (decode M_Mod_isDigit.2.1 q.1 = .ok q.2)) = true := by decide +kernel
def Mod_isDigit (v0 : Nat) (h : AH) : Option (Int × AH) := gI h 13 v0 19 fun x1 => gI h 13 v0 18 fun x2 => if (x2 : Int) ≤ x1 then (some (0, h)) else (gR h 13 v0 21 fun r3 => gI h 13 v0 19 fun x4 => aI h 22 r3 x4 fun x5 => bnd (Mod_in x5 48 57 h) fun x7 h6 => if (x7 : Int) = 0 then (some (0, h6)) else (some (1, h6)))
set_option maxHeartbeats 4000000 in
set_option maxRecDepth 20000 in
theorem s_Mod_isDigit (v0 : Nat) (h : AH) : CS M_Mod_isDigit 2 25 emI [vr v0] h (Mod_isDigit v0 h) := by
  refine CS.of (by decide) (Nat.le_of_ble_eq_true rfl) ?_
  show Sd M_Mod_isDigit 2 25 emI 0 [(0, vr v0)] [] h _
  unfold Mod_isDigit
  refine Sd_aload_n (pc' := 1) (dc D_Mod_isDigit 0 rfl) rfl 0 rfl rfl ?_
  refine Sd_getI (pc' := 4) (dc D_Mod_isDigit 1 rfl) rfl F_Mod_117 rfl rfl ?_
  refine Sd_aload_n (pc' := 5) (dc D_Mod_isDigit 2 rfl) rfl 0 rfl rfl ?_
  refine Sd_getI (pc' := 8) (dc D_Mod_isDigit 3 rfl) rfl F_Mod_107 rfl rfl ?_
  refine Sd_icmp_ge (tgt := 37) (pc' := 11) (dc D_Mod_isDigit 4 rfl) (by decide) rfl (fun _ => ?_) (fun _ => ?_)
  · refine Sd_iconst (pc' := 38) (dc D_Mod_isDigit 17 rfl) rfl ⟨by decide, by decide⟩ ?_
    exact Sd_zret (dc D_Mod_isDigit 18 rfl) rfl (Or.inl rfl)
  · refine Sd_aload_n (pc' := 12) (dc D_Mod_isDigit 5 rfl) rfl 0 rfl rfl ?_
    refine Sd_getR (pc' := 15) (dc D_Mod_isDigit 6 rfl) rfl F_Mod_49 rfl rfl ?_
    refine Sd_aload_n (pc' := 16) (dc D_Mod_isDigit 7 rfl) rfl 0 rfl rfl ?_
    refine Sd_getI (pc' := 19) (dc D_Mod_isDigit 8 rfl) rfl F_Mod_117 rfl rfl ?_
    refine Sd_baload (pc' := 20) (dc D_Mod_isDigit 9 rfl) rfl ?_
    refine Sd_i2l (pc' := 21) (dc D_Mod_isDigit 10 rfl) rfl ?_
    refine Sd_ldc2 (n := 48) (pc' := 24) (dc D_Mod_isDigit 11 rfl) rfl ⟨by decide, by decide⟩ Q_Mod_120 ?_
    refine Sd_ldc2 (n := 57) (pc' := 27) (dc D_Mod_isDigit 12 rfl) rfl ⟨by decide, by decide⟩ Q_Mod_122 ?_
    refine Sd.callSI (as := [_, _, _]) (pc' := 30) (dc D_Mod_isDigit 13 rfl) rfl K_Mod_in L_Mod_88 Ks_Mod_in ⟨by decide, by decide⟩ rfl rfl (Nat.le_of_ble_eq_true rfl) (s_Mod_in _ _ _ _) (fun x7 h6 => ?_)
    refine Sd_if_eq (tgt := 37) (pc' := 33) (dc D_Mod_isDigit 14 rfl) (by decide) rfl (fun _ => ?_) (fun _ => ?_)
    · refine Sd_iconst (pc' := 38) (dc D_Mod_isDigit 17 rfl) rfl ⟨by decide, by decide⟩ ?_
      exact Sd_zret (dc D_Mod_isDigit 18 rfl) rfl (Or.inl rfl)
    · refine Sd_iconst (pc' := 34) (dc D_Mod_isDigit 15 rfl) rfl ⟨by decide, by decide⟩ ?_
      refine Sd_goto (tgt := 38) (dc D_Mod_isDigit 16 rfl) (by decide) ?_
      exact Sd_zret (dc D_Mod_isDigit 18 rfl) rfl (Or.inr rfl)
theorem K_Mod_isDigit : MOk M_Mod_isDigit 0 := ⟨Tb_at 133 (by decide +kernel) rfl, Tb_at 1417 (by decide +kernel) rfl, by decide +kernel, by decide +kernel, by decide +kernel⟩
theorem Ks_Mod_isDigit : Cond.instanceMethod yX12_isDigit ∈ Tb := Tb_at 1416 (by decide +kernel) rfl
theorem Kv_Mod_isDigit : Cond.selects RX12 yX12_isDigit yX12_isDigit ∈ Tb := Tb_at 45 (by decide +kernel) rfl
/-! ===== BatchShareModel.amount(II)I ===== -/
abbrev M_Mod_amount : AMt := (yX12_amount, cX12_amount, 5, (some .int))
def T_Mod_amount : List (Nat × Instr × Nat) := [(0, .aload_n 0, 1), (1, .invokevirtual 124, 3), (4, .pop, 1), (5, .aload_n 0, 1), (6, .getfield 117, 3), (9, .istore_n 3, 1), (10, .iconst 0, 1), (11, .istore 4, 2), (13, .aload_n 0, 1), (14, .getfield 114, 3), (17, .ifCond .ne 19, 3), (20, .aload_n 0, 1), (21, .invokevirtual 128, 3), (24, .ifCond .ne 12, 3), (27, .aload_n 0, 1), (28, .iconst 0, 1), (29, .aload_n 0, 1), (30, .getfield 117, 3), (33, .invokevirtual 132, 3), (36, .aload_n 0, 1), (37, .getfield 114, 3), (40, .ifCond .ne 58, 3), (43, .aload_n 0, 1), (44, .invokevirtual 128, 3), (47, .ifCond .eq 51, 3), (50, .aload_n 0, 1), (51, .getfield 117, 3), (54, .iload_n 3, 1), (55, .isub, 1), (56, .iconst 5, 1), (57, .if_icmp .ge 24, 3), (60, .bipush 10, 2), (62, .iload 4, 2), (64, .imul, 1), (65, .aload_n 0, 1), (66, .getfield 49, 3), (69, .aload_n 0, 1), (70, .getfield 117, 3), (73, .baload, 1), (74, .iadd, 1), (75, .bipush 48, 2), (77, .isub, 1), (78, .goto 5, 3), (81, .iload 4, 2), (83, .istore 4, 2), (85, .aload_n 0, 1), (86, .dup, 1), (87, .getfield 117, 3), (90, .iconst 1, 1), (91, .iadd, 1), (92, .putfield 117, 3), (95, .goto (-59), 3), (98, .aload_n 0, 1), (99, .getfield 114, 3), (102, .ifCond .ne 32, 3), (105, .aload_n 0, 1), (106, .getfield 117, 3), (109, .iload_n 3, 1), (110, .isub, 1), (111, .iconst 5, 1), (112, .if_icmp .gt 16, 3), (115, .iload 4, 2), (117, .i2l, 1), (118, .iload_n 1, 1), (119, .i2l, 1), (120, .iload_n 2, 1), (121, .i2l, 1), (122, .invokestatic 88, 3), (125, .ifCond .ne 9, 3), (128, .aload_n 0, 1), (129, .iconst 1, 1), (130, .iload_n 3, 1), (131, .invokevirtual 132, 3), (134, .iload 4, 2), (136, .ireturn, 1)]
set_option maxRecDepth 20000 in
theorem D_Mod_amount : (T_Mod_amount.all fun q => decide (decode M_Mod_amount.2.1 q.1 = .ok q.2)) = true := by decide +kernel
def Mod_amount_L98 (v0 : Nat) (v1 : Int) (v2 : Int) (v3 : Int) (v4 : Int) (h : AH) : Option (Int × AH) := gI h 13 v0 20 fun x1 => if ¬ (x1 : Int) = 0 then (some (v4, h)) else (gI h 13 v0 19 fun x2 => if (5 : Int) < (wr (x2 - v3)) then (rc h 13 v0 <| bnd (Mod_fails v0 1 v3 h) fun _ h3 => some (v4, h3)) else (bnd (Mod_in v4 v1 v2 h) fun x7 h6 => if ¬ (x7 : Int) = 0 then (some (v4, h6)) else (rc h6 13 v0 <| bnd (Mod_fails v0 1 v3 h6) fun _ h9 => some (v4, h9))))
set_option maxHeartbeats 4000000 in
set_option maxRecDepth 20000 in
theorem s_Mod_amount_L98 (v0 : Nat) (v1 : Int) (v2 : Int) (v3 : Int) (v4 : Int) (h : AH) : Sd M_Mod_amount 3 45 emI 98 [(0, vr v0), (1, vi v1), (2, vi v2), (3, vi v3), (4, vi v4)] [] h (Mod_amount_L98 v0 v1 v2 v3 v4 h) := by
  unfold Mod_amount_L98
  refine Sd_aload_n (pc' := 99) (dc D_Mod_amount 52 rfl) rfl 0 rfl rfl ?_
  refine Sd_getI (pc' := 102) (dc D_Mod_amount 53 rfl) rfl F_Mod_114 rfl rfl ?_
  refine Sd_if_ne (tgt := 134) (pc' := 105) (dc D_Mod_amount 54 rfl) (by decide) rfl (fun _ => ?_) (fun _ => ?_)
  · refine Sd_iload (pc' := 136) (dc D_Mod_amount 73 rfl) rfl 4 rfl ?_
    exact Sd_iret (dc D_Mod_amount 74 rfl) rfl
  · refine Sd_aload_n (pc' := 106) (dc D_Mod_amount 55 rfl) rfl 0 rfl rfl ?_
    refine Sd_getI (pc' := 109) (dc D_Mod_amount 56 rfl) rfl F_Mod_117 rfl rfl ?_
    refine Sd_iload_n (pc' := 110) (dc D_Mod_amount 57 rfl) rfl 3 rfl rfl ?_
    refine Sd_isub (pc' := 111) (dc D_Mod_amount 58 rfl) rfl ?_
    refine Sd_iconst (pc' := 112) (dc D_Mod_amount 59 rfl) rfl ⟨by decide, by decide⟩ ?_
    refine Sd_icmp_gt (tgt := 128) (pc' := 115) (dc D_Mod_amount 60 rfl) (by decide) rfl (fun _ => ?_) (fun _ => ?_)
    · refine Sd_aload_n (pc' := 129) (dc D_Mod_amount 69 rfl) rfl 0 rfl rfl ?_
      refine Sd_iconst (pc' := 130) (dc D_Mod_amount 70 rfl) rfl ⟨by decide, by decide⟩ ?_
      refine Sd_iload_n (pc' := 131) (dc D_Mod_amount 71 rfl) rfl 3 rfl rfl ?_
      refine Sd.callVV (ci := 12) (t := 13) (as := [_, _]) RX12 (pc' := 134) (dc D_Mod_amount 72 rfl) rfl rfl rfl rfl K_Mod_fails L_Mod_132 Ks_Mod_fails Kv_Mod_fails ⟨by decide, by decide⟩ rfl rfl (Nat.le_of_ble_eq_true rfl) (s_Mod_fails _ _ _ _) (fun _ h3 => ?_)
      refine Sd_iload (pc' := 136) (dc D_Mod_amount 73 rfl) rfl 4 rfl ?_
      exact Sd_iret (dc D_Mod_amount 74 rfl) rfl
    · refine Sd_iload (pc' := 117) (dc D_Mod_amount 61 rfl) rfl 4 rfl ?_
      refine Sd_i2l (pc' := 118) (dc D_Mod_amount 62 rfl) rfl ?_
      refine Sd_iload_n (pc' := 119) (dc D_Mod_amount 63 rfl) rfl 1 rfl rfl ?_
      refine Sd_i2l (pc' := 120) (dc D_Mod_amount 64 rfl) rfl ?_
      refine Sd_iload_n (pc' := 121) (dc D_Mod_amount 65 rfl) rfl 2 rfl rfl ?_
      refine Sd_i2l (pc' := 122) (dc D_Mod_amount 66 rfl) rfl ?_
      refine Sd.callSI (as := [_, _, _]) (pc' := 125) (dc D_Mod_amount 67 rfl) rfl K_Mod_in L_Mod_88 Ks_Mod_in ⟨by decide, by decide⟩ rfl rfl (Nat.le_of_ble_eq_true rfl) (s_Mod_in _ _ _ _) (fun x7 h6 => ?_)
      refine Sd_if_ne (tgt := 134) (pc' := 128) (dc D_Mod_amount 68 rfl) (by decide) rfl (fun _ => ?_) (fun _ => ?_)
      · refine Sd_iload (pc' := 136) (dc D_Mod_amount 73 rfl) rfl 4 rfl ?_
        exact Sd_iret (dc D_Mod_amount 74 rfl) rfl
      · refine Sd_aload_n (pc' := 129) (dc D_Mod_amount 69 rfl) rfl 0 rfl rfl ?_
        refine Sd_iconst (pc' := 130) (dc D_Mod_amount 70 rfl) rfl ⟨by decide, by decide⟩ ?_
        refine Sd_iload_n (pc' := 131) (dc D_Mod_amount 71 rfl) rfl 3 rfl rfl ?_
        refine Sd.callVV (ci := 12) (t := 13) (as := [_, _]) RX12 (pc' := 134) (dc D_Mod_amount 72 rfl) rfl rfl rfl rfl K_Mod_fails L_Mod_132 Ks_Mod_fails Kv_Mod_fails ⟨by decide, by decide⟩ rfl rfl (Nat.le_of_ble_eq_true rfl) (s_Mod_fails _ _ _ _) (fun _ h9 => ?_)
        refine Sd_iload (pc' := 136) (dc D_Mod_amount 73 rfl) rfl 4 rfl ?_
        exact Sd_iret (dc D_Mod_amount 74 rfl) rfl
def Mod_amount_L36 : Nat → Nat → Int → Int → Int → Int → AH → Option (Int × AH)
  | 0, _, _, _, _, _, _ => none
  | n + 1, v0, v1, v2, v3, v4, h => gI h 13 v0 20 fun x1 => if ¬ (x1 : Int) = 0 then (Mod_amount_L98 v0 v1 v2 v3 v4 h) else (rc h 13 v0 <| bnd (Mod_isDigit v0 h) fun x3 h2 => if (x3 : Int) = 0 then (Mod_amount_L98 v0 v1 v2 v3 v4 h2) else (gI h2 13 v0 19 fun x5 => if (5 : Int) ≤ (wr (x5 - v3)) then (gI h2 13 v0 19 fun x6 => pI h2 13 v0 19 (wr (x6 + 1)) fun h7 => Mod_amount_L36 n v0 v1 v2 v3 v4 h7) else (gR h2 13 v0 21 fun r8 => gI h2 13 v0 19 fun x9 => aI h2 22 r8 x9 fun x10 => gI h2 13 v0 19 fun x11 => pI h2 13 v0 19 (wr (x11 + 1)) fun h12 => Mod_amount_L36 n v0 v1 v2 v3 ((wr ((wr ((wr (10 * v4)) + x10)) - 48))) h12)))
set_option maxHeartbeats 4000000 in
set_option maxRecDepth 20000 in
theorem s_Mod_amount_L36 : ∀ (n : Nat) (v0 : Nat) (v1 : Int) (v2 : Int) (v3 : Int) (v4 : Int) (h : AH), Sd M_Mod_amount 3 45 emI 36 [(0, vr v0), (1, vi v1), (2, vi v2), (3, vi v3), (4, vi v4)] [] h (Mod_amount_L36 n v0 v1 v2 v3 v4 h)
  | 0, _, _, _, _, _, _ => Sd.none
  | n + 1, v0, v1, v2, v3, v4, h => by
    rw [Mod_amount_L36]
    refine Sd_aload_n (pc' := 37) (dc D_Mod_amount 19 rfl) rfl 0 rfl rfl ?_
    refine Sd_getI (pc' := 40) (dc D_Mod_amount 20 rfl) rfl F_Mod_114 rfl rfl ?_
    refine Sd_if_ne (tgt := 98) (pc' := 43) (dc D_Mod_amount 21 rfl) (by decide) rfl (fun _ => ?_) (fun _ => ?_)
    · exact s_Mod_amount_L98 _ _ _ _ _ _
    · refine Sd_aload_n (pc' := 44) (dc D_Mod_amount 22 rfl) rfl 0 rfl rfl ?_
      refine Sd.callVI (ci := 12) (t := 13) (as := []) RX12 (pc' := 47) (dc D_Mod_amount 23 rfl) rfl rfl rfl rfl K_Mod_isDigit L_Mod_128 Ks_Mod_isDigit Kv_Mod_isDigit ⟨by decide, by decide⟩ rfl rfl (Nat.le_of_ble_eq_true rfl) (s_Mod_isDigit _ _) (fun x3 h2 => ?_)
      refine Sd_if_eq (tgt := 98) (pc' := 50) (dc D_Mod_amount 24 rfl) (by decide) rfl (fun _ => ?_) (fun _ => ?_)
      · exact s_Mod_amount_L98 _ _ _ _ _ _
      · refine Sd_aload_n (pc' := 51) (dc D_Mod_amount 25 rfl) rfl 0 rfl rfl ?_
        refine Sd_getI (pc' := 54) (dc D_Mod_amount 26 rfl) rfl F_Mod_117 rfl rfl ?_
        refine Sd_iload_n (pc' := 55) (dc D_Mod_amount 27 rfl) rfl 3 rfl rfl ?_
        refine Sd_isub (pc' := 56) (dc D_Mod_amount 28 rfl) rfl ?_
        refine Sd_iconst (pc' := 57) (dc D_Mod_amount 29 rfl) rfl ⟨by decide, by decide⟩ ?_
        refine Sd_icmp_ge (tgt := 81) (pc' := 60) (dc D_Mod_amount 30 rfl) (by decide) rfl (fun _ => ?_) (fun _ => ?_)
        · refine Sd_iload (pc' := 83) (dc D_Mod_amount 43 rfl) rfl 4 rfl ?_
          refine Sd_istore (pc' := 85) (l' := [(4, _), (0, _), (1, _), (2, _), (3, _)]) (dc D_Mod_amount 44 rfl) rfl (by decide) rfl ?_
          refine Sd_aload_n (pc' := 86) (dc D_Mod_amount 45 rfl) rfl 1 rfl rfl ?_
          refine Sd_dup (pc' := 87) (dc D_Mod_amount 46 rfl) rfl (cat_r _) ?_
          refine Sd_getI (pc' := 90) (dc D_Mod_amount 47 rfl) rfl F_Mod_117 rfl rfl ?_
          refine Sd_iconst (pc' := 91) (dc D_Mod_amount 48 rfl) rfl ⟨by decide, by decide⟩ ?_
          refine Sd_iadd (pc' := 92) (dc D_Mod_amount 49 rfl) rfl ?_
          refine Sd_putI (pc' := 95) (dc D_Mod_amount 50 rfl) rfl F_Mod_117 rfl rfl rfl (finOk.no rfl) (by decide) ?_
          refine Sd_goto (tgt := 36) (dc D_Mod_amount 51 rfl) (by decide) ?_
          refine Sd.sub (l' := [(0, _), (1, _), (2, _), (3, _), (4, _)]) [1, 2, 3, 4, 0] rfl ?_
          exact s_Mod_amount_L36 n _ _ _ _ _ _
        · refine Sd_bipush (pc' := 62) (dc D_Mod_amount 31 rfl) rfl ⟨by decide, by decide⟩ (by decide) ?_
          refine Sd_iload (pc' := 64) (dc D_Mod_amount 32 rfl) rfl 4 rfl ?_
          refine Sd_imul (pc' := 65) (dc D_Mod_amount 33 rfl) rfl ?_
          refine Sd_aload_n (pc' := 66) (dc D_Mod_amount 34 rfl) rfl 0 rfl rfl ?_
          refine Sd_getR (pc' := 69) (dc D_Mod_amount 35 rfl) rfl F_Mod_49 rfl rfl ?_
          refine Sd_aload_n (pc' := 70) (dc D_Mod_amount 36 rfl) rfl 0 rfl rfl ?_
          refine Sd_getI (pc' := 73) (dc D_Mod_amount 37 rfl) rfl F_Mod_117 rfl rfl ?_
          refine Sd_baload (pc' := 74) (dc D_Mod_amount 38 rfl) rfl ?_
          refine Sd_iadd (pc' := 75) (dc D_Mod_amount 39 rfl) rfl ?_
          refine Sd_bipush (pc' := 77) (dc D_Mod_amount 40 rfl) rfl ⟨by decide, by decide⟩ (by decide) ?_
          refine Sd_isub (pc' := 78) (dc D_Mod_amount 41 rfl) rfl ?_
          refine Sd_goto (tgt := 83) (dc D_Mod_amount 42 rfl) (by decide) ?_
          refine Sd_istore (pc' := 85) (l' := [(4, _), (0, _), (1, _), (2, _), (3, _)]) (dc D_Mod_amount 44 rfl) rfl (by decide) rfl ?_
          refine Sd_aload_n (pc' := 86) (dc D_Mod_amount 45 rfl) rfl 1 rfl rfl ?_
          refine Sd_dup (pc' := 87) (dc D_Mod_amount 46 rfl) rfl (cat_r _) ?_
          refine Sd_getI (pc' := 90) (dc D_Mod_amount 47 rfl) rfl F_Mod_117 rfl rfl ?_
          refine Sd_iconst (pc' := 91) (dc D_Mod_amount 48 rfl) rfl ⟨by decide, by decide⟩ ?_
          refine Sd_iadd (pc' := 92) (dc D_Mod_amount 49 rfl) rfl ?_
          refine Sd_putI (pc' := 95) (dc D_Mod_amount 50 rfl) rfl F_Mod_117 rfl rfl rfl (finOk.no rfl) (by decide) ?_
          refine Sd_goto (tgt := 36) (dc D_Mod_amount 51 rfl) (by decide) ?_
          refine Sd.sub (l' := [(0, _), (1, _), (2, _), (3, _), (4, _)]) [1, 2, 3, 4, 0] rfl ?_
          exact s_Mod_amount_L36 n _ _ _ _ _ _
def Mod_amount (v0 : Nat) (v1 : Int) (v2 : Int) (h : AH) : Option (Int × AH) := rc h 13 v0 <| bnd (Mod_sign v0 h) fun x2 h1 => gI h1 13 v0 19 fun x4 => gI h1 13 v0 20 fun x5 => if ¬ (x5 : Int) = 0 then (Mod_amount_L36 FU v0 v1 v2 x4 0 h1) else (rc h1 13 v0 <| bnd (Mod_isDigit v0 h1) fun x7 h6 => if ¬ (x7 : Int) = 0 then (Mod_amount_L36 FU v0 v1 v2 x4 0 h6) else (gI h6 13 v0 19 fun x9 => rc h6 13 v0 <| bnd (Mod_fails v0 0 x9 h6) fun _ h10 => Mod_amount_L36 FU v0 v1 v2 x4 0 h10))
set_option maxHeartbeats 4000000 in
set_option maxRecDepth 20000 in
theorem s_Mod_amount (v0 : Nat) (v1 : Int) (v2 : Int) (h : AH) : CS M_Mod_amount 3 45 emI [vr v0, vi v1, vi v2] h (Mod_amount v0 v1 v2 h) := by
  refine CS.of (by decide) (Nat.le_of_ble_eq_true rfl) ?_
  show Sd M_Mod_amount 3 45 emI 0 [(0, vr v0), (1, vi v1), (2, vi v2)] [] h _
  unfold Mod_amount
  refine Sd_aload_n (pc' := 1) (dc D_Mod_amount 0 rfl) rfl 0 rfl rfl ?_
  refine Sd.callVI (ci := 12) (t := 13) (as := []) RX12 (pc' := 4) (dc D_Mod_amount 1 rfl) rfl rfl rfl rfl K_Mod_sign L_Mod_124 Ks_Mod_sign Kv_Mod_sign ⟨by decide, by decide⟩ rfl rfl (Nat.le_of_ble_eq_true rfl) (s_Mod_sign _ _) (fun x2 h1 => ?_)
  refine Sd_pop (pc' := 5) (dc D_Mod_amount 2 rfl) rfl (cat_i _) ?_
  refine Sd_aload_n (pc' := 6) (dc D_Mod_amount 3 rfl) rfl 0 rfl rfl ?_
  refine Sd_getI (pc' := 9) (dc D_Mod_amount 4 rfl) rfl F_Mod_117 rfl rfl ?_
  refine Sd_istore_n (pc' := 10) (l' := [(3, _), (0, _), (1, _), (2, _)]) (dc D_Mod_amount 5 rfl) rfl rfl (by decide) rfl ?_
  refine Sd_iconst (pc' := 11) (dc D_Mod_amount 6 rfl) rfl ⟨by decide, by decide⟩ ?_
  refine Sd_istore (pc' := 13) (l' := [(4, _), (3, _), (0, _), (1, _), (2, _)]) (dc D_Mod_amount 7 rfl) rfl (by decide) rfl ?_
  refine Sd_aload_n (pc' := 14) (dc D_Mod_amount 8 rfl) rfl 2 rfl rfl ?_
  refine Sd_getI (pc' := 17) (dc D_Mod_amount 9 rfl) rfl F_Mod_114 rfl rfl ?_
  refine Sd_if_ne (tgt := 36) (pc' := 20) (dc D_Mod_amount 10 rfl) (by decide) rfl (fun _ => ?_) (fun _ => ?_)
  · refine Sd.sub (l' := [(0, _), (1, _), (2, _), (3, _), (4, _)]) [2, 3, 4, 1, 0] rfl ?_
    exact s_Mod_amount_L36 FU _ _ _ _ _ _
  · refine Sd_aload_n (pc' := 21) (dc D_Mod_amount 11 rfl) rfl 2 rfl rfl ?_
    refine Sd.callVI (ci := 12) (t := 13) (as := []) RX12 (pc' := 24) (dc D_Mod_amount 12 rfl) rfl rfl rfl rfl K_Mod_isDigit L_Mod_128 Ks_Mod_isDigit Kv_Mod_isDigit ⟨by decide, by decide⟩ rfl rfl (Nat.le_of_ble_eq_true rfl) (s_Mod_isDigit _ _) (fun x7 h6 => ?_)
    refine Sd_if_ne (tgt := 36) (pc' := 27) (dc D_Mod_amount 13 rfl) (by decide) rfl (fun _ => ?_) (fun _ => ?_)
    · refine Sd.sub (l' := [(0, _), (1, _), (2, _), (3, _), (4, _)]) [2, 3, 4, 1, 0] rfl ?_
      exact s_Mod_amount_L36 FU _ _ _ _ _ _
    · refine Sd_aload_n (pc' := 28) (dc D_Mod_amount 14 rfl) rfl 2 rfl rfl ?_
      refine Sd_iconst (pc' := 29) (dc D_Mod_amount 15 rfl) rfl ⟨by decide, by decide⟩ ?_
      refine Sd_aload_n (pc' := 30) (dc D_Mod_amount 16 rfl) rfl 2 rfl rfl ?_
      refine Sd_getI (pc' := 33) (dc D_Mod_amount 17 rfl) rfl F_Mod_117 rfl rfl ?_
      refine Sd.callVV (ci := 12) (t := 13) (as := [_, _]) RX12 (pc' := 36) (dc D_Mod_amount 18 rfl) rfl rfl rfl rfl K_Mod_fails L_Mod_132 Ks_Mod_fails Kv_Mod_fails ⟨by decide, by decide⟩ rfl rfl (Nat.le_of_ble_eq_true rfl) (s_Mod_fails _ _ _ _) (fun _ h10 => ?_)
      refine Sd.sub (l' := [(0, _), (1, _), (2, _), (3, _), (4, _)]) [2, 3, 4, 1, 0] rfl ?_
      exact s_Mod_amount_L36 FU _ _ _ _ _ _
theorem K_Mod_amount : MOk M_Mod_amount 2 := ⟨Tb_at 133 (by decide +kernel) rfl, Tb_at 1413 (by decide +kernel) rfl, by decide +kernel, by decide +kernel, by decide +kernel⟩
theorem Ks_Mod_amount : Cond.instanceMethod yX12_amount ∈ Tb := Tb_at 1412 (by decide +kernel) rfl
theorem Kv_Mod_amount : Cond.selects RX12 yX12_amount yX12_amount ∈ Tb := Tb_at 44 (by decide +kernel) rfl
/-! ===== BatchShareModel.rowPart(Z)V ===== -/
abbrev M_Mod_rowPart : AMt := (yX12_rowPart, cX12_rowPart, 5, none)
def T_Mod_rowPart : List (Nat × Instr × Nat) := [(0, .iload_n 1, 1), (1, .ifCond .eq 7, 3), (4, .iconst 3, 1), (5, .goto 4, 3), (8, .iconst 2, 1), (9, .istore_n 2, 1), (10, .iconst 0, 1), (11, .istore_n 3, 1), (12, .iload_n 3, 1), (13, .iload_n 2, 1), (14, .if_icmp .ge 55, 3), (17, .aload_n 0, 1), (18, .iconst 0, 1), (19, .bipush 9, 2), (21, .invokevirtual 153, 3), (24, .istore 4, 2), (26, .iload_n 1, 1), (27, .ifCond .eq 21, 3), (30, .aload_n 0, 1), (31, .getfield 19, 3), (34, .iconst 3, 1), (35, .aload_n 0, 1), (36, .getfield 157, 3), (39, .imul, 1), (40, .iload_n 3, 1), (41, .iadd, 1), (42, .iload 4, 2), (44, .iastore, 1), (45, .goto 18, 3), (48, .aload_n 0, 1), (49, .getfield 22, 3), (52, .iconst 2, 1), (53, .aload_n 0, 1), (54, .getfield 160, 3), (57, .imul, 1), (58, .iload_n 3, 1), (59, .iadd, 1), (60, .iload 4, 2), (62, .iastore, 1), (63, .iinc 3 1, 3), (66, .goto (-54), 3), (69, .aload_n 0, 1), (70, .dup, 1), (71, .getfield 157, 3), (74, .iload_n 1, 1), (75, .ifCond .eq 7, 3), (78, .iconst 1, 1), (79, .goto 4, 3), (82, .iconst 0, 1), (83, .iadd, 1), (84, .putfield 157, 3), (87, .aload_n 0, 1), (88, .dup, 1), (89, .getfield 160, 3), (92, .iload_n 1, 1), (93, .ifCond .eq 7, 3), (96, .iconst 0, 1), (97, .goto 4, 3), (100, .iconst 1, 1), (101, .iadd, 1), (102, .putfield 160, 3), (105, .return_, 1)]
set_option maxRecDepth 20000 in
theorem D_Mod_rowPart : (T_Mod_rowPart.all fun q => decide (decode M_Mod_rowPart.2.1 q.1 = .ok q.2)) = true := by decide +kernel
def Mod_rowPart_L83 (v0 : Nat) (v1 : Int) (s0 : Int) (s1 : Int) (s2 : Nat) (h : AH) : Option (Unit × AH) := pI h 13 s2 7 (wr (s1 + s0)) fun h1 => gI h1 13 v0 8 fun x2 => if (v1 : Int) = 0 then (pI h1 13 v0 8 (wr (x2 + 1)) fun h3 => some ((), h3)) else (pI h1 13 v0 8 (wr (x2 + 0)) fun h4 => some ((), h4))
set_option maxHeartbeats 4000000 in
set_option maxRecDepth 20000 in
theorem s_Mod_rowPart_L83 (v0 : Nat) (v1 : Int) (s0 : Int) (s1 : Int) (s2 : Nat) (h : AH) : Sd M_Mod_rowPart 4 69 emV 83 [(0, vr v0), (1, vi v1)] [vi s0, vi s1, vr s2] h (Mod_rowPart_L83 v0 v1 s0 s1 s2 h) := by
  unfold Mod_rowPart_L83
  refine Sd_iadd (pc' := 84) (dc D_Mod_rowPart 49 rfl) rfl ?_
  refine Sd_putI (pc' := 87) (dc D_Mod_rowPart 50 rfl) rfl F_Mod_157 rfl rfl rfl (finOk.no rfl) (by decide) ?_
  refine Sd_aload_n (pc' := 88) (dc D_Mod_rowPart 51 rfl) rfl 0 rfl rfl ?_
  refine Sd_dup (pc' := 89) (dc D_Mod_rowPart 52 rfl) rfl (cat_r _) ?_
  refine Sd_getI (pc' := 92) (dc D_Mod_rowPart 53 rfl) rfl F_Mod_160 rfl rfl ?_
  refine Sd_iload_n (pc' := 93) (dc D_Mod_rowPart 54 rfl) rfl 1 rfl rfl ?_
  refine Sd_if_eq (tgt := 100) (pc' := 96) (dc D_Mod_rowPart 55 rfl) (by decide) rfl (fun _ => ?_) (fun _ => ?_)
  · refine Sd_iconst (pc' := 101) (dc D_Mod_rowPart 58 rfl) rfl ⟨by decide, by decide⟩ ?_
    refine Sd_iadd (pc' := 102) (dc D_Mod_rowPart 59 rfl) rfl ?_
    refine Sd_putI (pc' := 105) (dc D_Mod_rowPart 60 rfl) rfl F_Mod_160 rfl rfl rfl (finOk.no rfl) (by decide) ?_
    exact Sd_vret (dc D_Mod_rowPart 61 rfl) rfl
  · refine Sd_iconst (pc' := 97) (dc D_Mod_rowPart 56 rfl) rfl ⟨by decide, by decide⟩ ?_
    refine Sd_goto (tgt := 101) (dc D_Mod_rowPart 57 rfl) (by decide) ?_
    refine Sd_iadd (pc' := 102) (dc D_Mod_rowPart 59 rfl) rfl ?_
    refine Sd_putI (pc' := 105) (dc D_Mod_rowPart 60 rfl) rfl F_Mod_160 rfl rfl rfl (finOk.no rfl) (by decide) ?_
    exact Sd_vret (dc D_Mod_rowPart 61 rfl) rfl
def Mod_rowPart_L12 : Nat → Nat → Int → Int → Int → AH → Option (Unit × AH)
  | 0, _, _, _, _, _ => none
  | n + 1, v0, v1, v2, v3, h => if (v2 : Int) ≤ v3 then (gI h 13 v0 7 fun x1 => if (v1 : Int) = 0 then (Mod_rowPart_L83 v0 v1 0 x1 v0 h) else (Mod_rowPart_L83 v0 v1 1 x1 v0 h)) else (rc h 13 v0 <| bnd (Mod_amount v0 0 9 h) fun x3 h2 => if (v1 : Int) = 0 then (gR h2 13 v0 5 fun r5 => gI h2 13 v0 8 fun x6 => wI h2 21 r5 (wr ((wr (2 * x6)) + v3)) x3 fun h7 => Mod_rowPart_L12 n v0 v1 v2 ((wr (v3 + 1))) h7) else (gR h2 13 v0 4 fun r8 => gI h2 13 v0 7 fun x9 => wI h2 21 r8 (wr ((wr (3 * x9)) + v3)) x3 fun h10 => Mod_rowPart_L12 n v0 v1 v2 ((wr (v3 + 1))) h10))
set_option maxHeartbeats 4000000 in
set_option maxRecDepth 20000 in
theorem s_Mod_rowPart_L12 : ∀ (n : Nat) (v0 : Nat) (v1 : Int) (v2 : Int) (v3 : Int) (h : AH), Sd M_Mod_rowPart 4 69 emV 12 [(0, vr v0), (1, vi v1), (2, vi v2), (3, vi v3)] [] h (Mod_rowPart_L12 n v0 v1 v2 v3 h)
  | 0, _, _, _, _, _ => Sd.none
  | n + 1, v0, v1, v2, v3, h => by
    rw [Mod_rowPart_L12]
    refine Sd_iload_n (pc' := 13) (dc D_Mod_rowPart 8 rfl) rfl 3 rfl rfl ?_
    refine Sd_iload_n (pc' := 14) (dc D_Mod_rowPart 9 rfl) rfl 2 rfl rfl ?_
    refine Sd_icmp_ge (tgt := 69) (pc' := 17) (dc D_Mod_rowPart 10 rfl) (by decide) rfl (fun _ => ?_) (fun _ => ?_)
    · refine Sd_aload_n (pc' := 70) (dc D_Mod_rowPart 41 rfl) rfl 0 rfl rfl ?_
      refine Sd_dup (pc' := 71) (dc D_Mod_rowPart 42 rfl) rfl (cat_r _) ?_
      refine Sd_getI (pc' := 74) (dc D_Mod_rowPart 43 rfl) rfl F_Mod_157 rfl rfl ?_
      refine Sd_iload_n (pc' := 75) (dc D_Mod_rowPart 44 rfl) rfl 1 rfl rfl ?_
      refine Sd_if_eq (tgt := 82) (pc' := 78) (dc D_Mod_rowPart 45 rfl) (by decide) rfl (fun _ => ?_) (fun _ => ?_)
      · refine Sd_iconst (pc' := 83) (dc D_Mod_rowPart 48 rfl) rfl ⟨by decide, by decide⟩ ?_
        refine Sd.sub (l' := [(0, _), (1, _)]) [0, 1] rfl ?_
        exact s_Mod_rowPart_L83 _ _ _ _ _ _
      · refine Sd_iconst (pc' := 79) (dc D_Mod_rowPart 46 rfl) rfl ⟨by decide, by decide⟩ ?_
        refine Sd_goto (tgt := 83) (dc D_Mod_rowPart 47 rfl) (by decide) ?_
        refine Sd.sub (l' := [(0, _), (1, _)]) [0, 1] rfl ?_
        exact s_Mod_rowPart_L83 _ _ _ _ _ _
    · refine Sd_aload_n (pc' := 18) (dc D_Mod_rowPart 11 rfl) rfl 0 rfl rfl ?_
      refine Sd_iconst (pc' := 19) (dc D_Mod_rowPart 12 rfl) rfl ⟨by decide, by decide⟩ ?_
      refine Sd_bipush (pc' := 21) (dc D_Mod_rowPart 13 rfl) rfl ⟨by decide, by decide⟩ (by decide) ?_
      refine Sd.callVI (ci := 12) (t := 13) (as := [_, _]) RX12 (pc' := 24) (dc D_Mod_rowPart 14 rfl) rfl rfl rfl rfl K_Mod_amount L_Mod_153 Ks_Mod_amount Kv_Mod_amount ⟨by decide, by decide⟩ rfl rfl (Nat.le_of_ble_eq_true rfl) (s_Mod_amount _ _ _ _) (fun x3 h2 => ?_)
      refine Sd_istore (pc' := 26) (l' := [(4, _), (0, _), (1, _), (2, _), (3, _)]) (dc D_Mod_rowPart 15 rfl) rfl (by decide) rfl ?_
      refine Sd_iload_n (pc' := 27) (dc D_Mod_rowPart 16 rfl) rfl 2 rfl rfl ?_
      refine Sd_if_eq (tgt := 48) (pc' := 30) (dc D_Mod_rowPart 17 rfl) (by decide) rfl (fun _ => ?_) (fun _ => ?_)
      · refine Sd_aload_n (pc' := 49) (dc D_Mod_rowPart 29 rfl) rfl 1 rfl rfl ?_
        refine Sd_getR (pc' := 52) (dc D_Mod_rowPart 30 rfl) rfl F_Mod_22 rfl rfl ?_
        refine Sd_iconst (pc' := 53) (dc D_Mod_rowPart 31 rfl) rfl ⟨by decide, by decide⟩ ?_
        refine Sd_aload_n (pc' := 54) (dc D_Mod_rowPart 32 rfl) rfl 1 rfl rfl ?_
        refine Sd_getI (pc' := 57) (dc D_Mod_rowPart 33 rfl) rfl F_Mod_160 rfl rfl ?_
        refine Sd_imul (pc' := 58) (dc D_Mod_rowPart 34 rfl) rfl ?_
        refine Sd_iload_n (pc' := 59) (dc D_Mod_rowPart 35 rfl) rfl 4 rfl rfl ?_
        refine Sd_iadd (pc' := 60) (dc D_Mod_rowPart 36 rfl) rfl ?_
        refine Sd_iload (pc' := 62) (dc D_Mod_rowPart 37 rfl) rfl 0 rfl ?_
        refine Sd_iastore (pc' := 63) (dc D_Mod_rowPart 38 rfl) rfl (by decide) ?_
        refine Sd_iinc (pc' := 66) (l' := [(3, _), (4, _), (0, _), (1, _), (2, _)]) (dc D_Mod_rowPart 39 rfl) rfl 4 rfl (by decide) rfl ?_
        refine Sd_goto (tgt := 12) (dc D_Mod_rowPart 40 rfl) (by decide) ?_
        refine Sd.sub (l' := [(0, _), (1, _), (2, _), (3, _)]) [2, 3, 4, 0] rfl ?_
        exact s_Mod_rowPart_L12 n _ _ _ _ _
      · refine Sd_aload_n (pc' := 31) (dc D_Mod_rowPart 18 rfl) rfl 1 rfl rfl ?_
        refine Sd_getR (pc' := 34) (dc D_Mod_rowPart 19 rfl) rfl F_Mod_19 rfl rfl ?_
        refine Sd_iconst (pc' := 35) (dc D_Mod_rowPart 20 rfl) rfl ⟨by decide, by decide⟩ ?_
        refine Sd_aload_n (pc' := 36) (dc D_Mod_rowPart 21 rfl) rfl 1 rfl rfl ?_
        refine Sd_getI (pc' := 39) (dc D_Mod_rowPart 22 rfl) rfl F_Mod_157 rfl rfl ?_
        refine Sd_imul (pc' := 40) (dc D_Mod_rowPart 23 rfl) rfl ?_
        refine Sd_iload_n (pc' := 41) (dc D_Mod_rowPart 24 rfl) rfl 4 rfl rfl ?_
        refine Sd_iadd (pc' := 42) (dc D_Mod_rowPart 25 rfl) rfl ?_
        refine Sd_iload (pc' := 44) (dc D_Mod_rowPart 26 rfl) rfl 0 rfl ?_
        refine Sd_iastore (pc' := 45) (dc D_Mod_rowPart 27 rfl) rfl (by decide) ?_
        refine Sd_goto (tgt := 63) (dc D_Mod_rowPart 28 rfl) (by decide) ?_
        refine Sd_iinc (pc' := 66) (l' := [(3, _), (4, _), (0, _), (1, _), (2, _)]) (dc D_Mod_rowPart 39 rfl) rfl 4 rfl (by decide) rfl ?_
        refine Sd_goto (tgt := 12) (dc D_Mod_rowPart 40 rfl) (by decide) ?_
        refine Sd.sub (l' := [(0, _), (1, _), (2, _), (3, _)]) [2, 3, 4, 0] rfl ?_
        exact s_Mod_rowPart_L12 n _ _ _ _ _
def Mod_rowPart (v0 : Nat) (v1 : Int) (h : AH) : Option (Unit × AH) := if (v1 : Int) = 0 then (Mod_rowPart_L12 FU v0 v1 2 0 h) else (Mod_rowPart_L12 FU v0 v1 3 0 h)
set_option maxHeartbeats 4000000 in
set_option maxRecDepth 20000 in
theorem s_Mod_rowPart (v0 : Nat) (v1 : Int) (h : AH) : CS M_Mod_rowPart 4 69 emV [vr v0, vi v1] h (Mod_rowPart v0 v1 h) := by
  refine CS.of (by decide) (Nat.le_of_ble_eq_true rfl) ?_
  show Sd M_Mod_rowPart 4 69 emV 0 [(0, vr v0), (1, vi v1)] [] h _
  unfold Mod_rowPart
  refine Sd_iload_n (pc' := 1) (dc D_Mod_rowPart 0 rfl) rfl 1 rfl rfl ?_
  refine Sd_if_eq (tgt := 8) (pc' := 4) (dc D_Mod_rowPart 1 rfl) (by decide) rfl (fun _ => ?_) (fun _ => ?_)
  · refine Sd_iconst (pc' := 9) (dc D_Mod_rowPart 4 rfl) rfl ⟨by decide, by decide⟩ ?_
    refine Sd_istore_n (pc' := 10) (l' := [(2, _), (0, _), (1, _)]) (dc D_Mod_rowPart 5 rfl) rfl rfl (by decide) rfl ?_
    refine Sd_iconst (pc' := 11) (dc D_Mod_rowPart 6 rfl) rfl ⟨by decide, by decide⟩ ?_
    refine Sd_istore_n (pc' := 12) (l' := [(3, _), (2, _), (0, _), (1, _)]) (dc D_Mod_rowPart 7 rfl) rfl rfl (by decide) rfl ?_
    refine Sd.sub (l' := [(0, _), (1, _), (2, _), (3, _)]) [2, 3, 1, 0] rfl ?_
    exact s_Mod_rowPart_L12 FU _ _ _ _ _
  · refine Sd_iconst (pc' := 5) (dc D_Mod_rowPart 2 rfl) rfl ⟨by decide, by decide⟩ ?_
    refine Sd_goto (tgt := 9) (dc D_Mod_rowPart 3 rfl) (by decide) ?_
    refine Sd_istore_n (pc' := 10) (l' := [(2, _), (0, _), (1, _)]) (dc D_Mod_rowPart 5 rfl) rfl rfl (by decide) rfl ?_
    refine Sd_iconst (pc' := 11) (dc D_Mod_rowPart 6 rfl) rfl ⟨by decide, by decide⟩ ?_
    refine Sd_istore_n (pc' := 12) (l' := [(3, _), (2, _), (0, _), (1, _)]) (dc D_Mod_rowPart 7 rfl) rfl rfl (by decide) rfl ?_
    refine Sd.sub (l' := [(0, _), (1, _), (2, _), (3, _)]) [2, 3, 1, 0] rfl ?_
    exact s_Mod_rowPart_L12 FU _ _ _ _ _
theorem K_Mod_rowPart : MOk M_Mod_rowPart 1 := ⟨Tb_at 133 (by decide +kernel) rfl, Tb_at 1423 (by decide +kernel) rfl, by decide +kernel, by decide +kernel, by decide +kernel⟩
theorem Ks_Mod_rowPart : Cond.instanceMethod yX12_rowPart ∈ Tb := Tb_at 1422 (by decide +kernel) rfl
theorem Kv_Mod_rowPart : Cond.selects RX12 yX12_rowPart yX12_rowPart ∈ Tb := Tb_at 46 (by decide +kernel) rfl
/-! ===== BatchShareModel.baseClause(I)V ===== -/
abbrev M_Mod_baseClause : AMt := (yX12_baseClause, cX12_baseClause, 6, none)
def T_Mod_baseClause : List (Nat × Instr × Nat) := [(0, .aload_n 0, 1), (1, .invokevirtual 124, 3), (4, .pop, 1), (5, .aload_n 0, 1), (6, .getfield 117, 3), (9, .istore_n 2, 1), (10, .aload_n 0, 1), (11, .ldc 163, 2), (13, .invokevirtual 149, 3), (16, .istore_n 3, 1), (17, .aload_n 0, 1), (18, .ldc 165, 2), (20, .invokevirtual 149, 3), (23, .istore 4, 2), (25, .iload_n 3, 1), (26, .ifCond .ne 24, 3), (29, .iload 4, 2), (31, .ifCond .ne 19, 3), (34, .aload_n 0, 1), (35, .ldc 167, 2), (37, .invokevirtual 149, 3), (40, .ifCond .ne 10, 3), (43, .aload_n 0, 1), (44, .iconst 0, 1), (45, .iload_n 2, 1), (46, .invokevirtual 132, 3), (49, .return_, 1), (50, .iload_n 3, 1), (51, .ifCond .ne 29, 3), (54, .iload 4, 2), (56, .ifCond .eq 15, 3), (59, .aload_n 0, 1), (60, .getfield 157, 3), (63, .bipush 12, 2), (65, .if_icmp .ge 19, 3), (68, .goto 12, 3), (71, .aload_n 0, 1), (72, .getfield 160, 3), (75, .bipush 8, 2), (77, .if_icmp .ge 7, 3), (80, .iconst 1, 1), (81, .goto 4, 3), (84, .iconst 0, 1), (85, .istore 5, 2), (87, .iload_n 1, 1), (88, .bipush 40, 2), (90, .if_icmp .eq 21, 3), (93, .iload_n 3, 1), (94, .iload_n 1, 1), (95, .ifCond .ne 7, 3), (98, .iconst 1, 1), (99, .goto 4, 3), (102, .iconst 0, 1), (103, .if_icmp .ne 8, 3), (106, .iload 5, 2), (108, .ifCond .ne 10, 3), (111, .aload_n 0, 1), (112, .iconst 4, 1), (113, .iload_n 2, 1), (114, .invokevirtual 132, 3), (117, .return_, 1), (118, .aload_n 0, 1), (119, .dup, 1), (120, .getfield 117, 3), (123, .iload_n 3, 1), (124, .ifCond .eq 7, 3), (127, .iconst 4, 1), (128, .goto 4, 3), (131, .iconst 1, 1), (132, .iadd, 1), (133, .putfield 117, 3), (136, .iload_n 3, 1), (137, .ifCond .eq 17, 3), (140, .aload_n 0, 1), (141, .aload_n 0, 1), (142, .iconst 0, 1), (143, .bipush 99, 2), (145, .invokevirtual 153, 3), (148, .putfield 169, 3), (151, .goto 9, 3), (154, .aload_n 0, 1), (155, .iload 4, 2), (157, .invokevirtual 172, 3), (160, .return_, 1)]
set_option maxRecDepth 20000 in
theorem D_Mod_baseClause : (T_Mod_baseClause.all fun q => decide (decode M_Mod_baseClause.2.1 q.1 = .ok q.2)) = true := by decide +kernel
def Mod_baseClause_L132 (v0 : Nat) (v3 : Int) (v4 : Int) (s0 : Int) (s1 : Int) (s2 : Nat) (h : AH) : Option (Unit × AH) := pI h 13 s2 19 (wr (s1 + s0)) fun h1 => if (v3 : Int) = 0 then (rc h1 13 v0 <| bnd (Mod_rowPart v0 v4 h1) fun _ h2 => some ((), h2)) else (rc h1 13 v0 <| bnd (Mod_amount v0 0 99 h1) fun x6 h5 => pI h5 13 v0 6 x6 fun h8 => some ((), h8))
set_option maxHeartbeats 4000000 in
set_option maxRecDepth 20000 in
theorem s_Mod_baseClause_L132 (v0 : Nat) (v3 : Int) (v4 : Int) (s0 : Int) (s1 : Int) (s2 : Nat) (h : AH) : Sd M_Mod_baseClause 7 175 emV 132 [(0, vr v0), (3, vi v3), (4, vi v4)] [vi s0, vi s1, vr s2] h (Mod_baseClause_L132 v0 v3 v4 s0 s1 s2 h) := by
  unfold Mod_baseClause_L132
  refine Sd_iadd (pc' := 133) (dc D_Mod_baseClause 69 rfl) rfl ?_
  refine Sd_putI (pc' := 136) (dc D_Mod_baseClause 70 rfl) rfl F_Mod_117 rfl rfl rfl (finOk.no rfl) (by decide) ?_
  refine Sd_iload_n (pc' := 137) (dc D_Mod_baseClause 71 rfl) rfl 1 rfl rfl ?_
  refine Sd_if_eq (tgt := 154) (pc' := 140) (dc D_Mod_baseClause 72 rfl) (by decide) rfl (fun _ => ?_) (fun _ => ?_)
  · refine Sd_aload_n (pc' := 155) (dc D_Mod_baseClause 80 rfl) rfl 0 rfl rfl ?_
    refine Sd_iload (pc' := 157) (dc D_Mod_baseClause 81 rfl) rfl 2 rfl ?_
    refine Sd.callVV (ci := 12) (t := 13) (as := [_]) RX12 (pc' := 160) (dc D_Mod_baseClause 82 rfl) rfl rfl rfl rfl K_Mod_rowPart L_Mod_172 Ks_Mod_rowPart Kv_Mod_rowPart ⟨by decide, by decide⟩ rfl rfl (Nat.le_of_ble_eq_true rfl) (s_Mod_rowPart _ _ _) (fun _ h2 => ?_)
    exact Sd_vret (dc D_Mod_baseClause 83 rfl) rfl
  · refine Sd_aload_n (pc' := 141) (dc D_Mod_baseClause 73 rfl) rfl 0 rfl rfl ?_
    refine Sd_aload_n (pc' := 142) (dc D_Mod_baseClause 74 rfl) rfl 0 rfl rfl ?_
    refine Sd_iconst (pc' := 143) (dc D_Mod_baseClause 75 rfl) rfl ⟨by decide, by decide⟩ ?_
    refine Sd_bipush (pc' := 145) (dc D_Mod_baseClause 76 rfl) rfl ⟨by decide, by decide⟩ (by decide) ?_
    refine Sd.callVI (ci := 12) (t := 13) (as := [_, _]) RX12 (pc' := 148) (dc D_Mod_baseClause 77 rfl) rfl rfl rfl rfl K_Mod_amount L_Mod_153 Ks_Mod_amount Kv_Mod_amount ⟨by decide, by decide⟩ rfl rfl (Nat.le_of_ble_eq_true rfl) (s_Mod_amount _ _ _ _) (fun x6 h5 => ?_)
    refine Sd_putI (pc' := 151) (dc D_Mod_baseClause 78 rfl) rfl F_Mod_169 rfl rfl rfl (finOk.no rfl) (by decide) ?_
    refine Sd_goto (tgt := 160) (dc D_Mod_baseClause 79 rfl) (by decide) ?_
    exact Sd_vret (dc D_Mod_baseClause 83 rfl) rfl
def Mod_baseClause_L103 (v0 : Nat) (v2 : Int) (v3 : Int) (v4 : Int) (v5 : Int) (s0 : Int) (s1 : Int) (h : AH) : Option (Unit × AH) := if ¬ (s1 : Int) = s0 then (rc h 13 v0 <| bnd (Mod_fails v0 4 v2 h) fun _ h1 => some ((), h1)) else (if ¬ (v5 : Int) = 0 then (gI h 13 v0 19 fun x4 => if (v3 : Int) = 0 then (Mod_baseClause_L132 v0 v3 v4 1 x4 v0 h) else (Mod_baseClause_L132 v0 v3 v4 4 x4 v0 h)) else (rc h 13 v0 <| bnd (Mod_fails v0 4 v2 h) fun _ h5 => some ((), h5)))
set_option maxHeartbeats 4000000 in
set_option maxRecDepth 20000 in
theorem s_Mod_baseClause_L103 (v0 : Nat) (v2 : Int) (v3 : Int) (v4 : Int) (v5 : Int) (s0 : Int) (s1 : Int) (h : AH) : Sd M_Mod_baseClause 7 175 emV 103 [(0, vr v0), (2, vi v2), (3, vi v3), (4, vi v4), (5, vi v5)] [vi s0, vi s1] h (Mod_baseClause_L103 v0 v2 v3 v4 v5 s0 s1 h) := by
  unfold Mod_baseClause_L103
  refine Sd_icmp_ne (tgt := 111) (pc' := 106) (dc D_Mod_baseClause 53 rfl) (by decide) rfl (fun _ => ?_) (fun _ => ?_)
  · refine Sd_aload_n (pc' := 112) (dc D_Mod_baseClause 56 rfl) rfl 0 rfl rfl ?_
    refine Sd_iconst (pc' := 113) (dc D_Mod_baseClause 57 rfl) rfl ⟨by decide, by decide⟩ ?_
    refine Sd_iload_n (pc' := 114) (dc D_Mod_baseClause 58 rfl) rfl 1 rfl rfl ?_
    refine Sd.callVV (ci := 12) (t := 13) (as := [_, _]) RX12 (pc' := 117) (dc D_Mod_baseClause 59 rfl) rfl rfl rfl rfl K_Mod_fails L_Mod_132 Ks_Mod_fails Kv_Mod_fails ⟨by decide, by decide⟩ rfl rfl (Nat.le_of_ble_eq_true rfl) (s_Mod_fails _ _ _ _) (fun _ h1 => ?_)
    exact Sd_vret (dc D_Mod_baseClause 60 rfl) rfl
  · refine Sd_iload (pc' := 108) (dc D_Mod_baseClause 54 rfl) rfl 4 rfl ?_
    refine Sd_if_ne (tgt := 118) (pc' := 111) (dc D_Mod_baseClause 55 rfl) (by decide) rfl (fun _ => ?_) (fun _ => ?_)
    · refine Sd_aload_n (pc' := 119) (dc D_Mod_baseClause 61 rfl) rfl 0 rfl rfl ?_
      refine Sd_dup (pc' := 120) (dc D_Mod_baseClause 62 rfl) rfl (cat_r _) ?_
      refine Sd_getI (pc' := 123) (dc D_Mod_baseClause 63 rfl) rfl F_Mod_117 rfl rfl ?_
      refine Sd_iload_n (pc' := 124) (dc D_Mod_baseClause 64 rfl) rfl 2 rfl rfl ?_
      refine Sd_if_eq (tgt := 131) (pc' := 127) (dc D_Mod_baseClause 65 rfl) (by decide) rfl (fun _ => ?_) (fun _ => ?_)
      · refine Sd_iconst (pc' := 132) (dc D_Mod_baseClause 68 rfl) rfl ⟨by decide, by decide⟩ ?_
        refine Sd.sub (l' := [(0, _), (3, _), (4, _)]) [0, 2, 3] rfl ?_
        exact s_Mod_baseClause_L132 _ _ _ _ _ _ _
      · refine Sd_iconst (pc' := 128) (dc D_Mod_baseClause 66 rfl) rfl ⟨by decide, by decide⟩ ?_
        refine Sd_goto (tgt := 132) (dc D_Mod_baseClause 67 rfl) (by decide) ?_
        refine Sd.sub (l' := [(0, _), (3, _), (4, _)]) [0, 2, 3] rfl ?_
        exact s_Mod_baseClause_L132 _ _ _ _ _ _ _
    · refine Sd_aload_n (pc' := 112) (dc D_Mod_baseClause 56 rfl) rfl 0 rfl rfl ?_
      refine Sd_iconst (pc' := 113) (dc D_Mod_baseClause 57 rfl) rfl ⟨by decide, by decide⟩ ?_
      refine Sd_iload_n (pc' := 114) (dc D_Mod_baseClause 58 rfl) rfl 1 rfl rfl ?_
      refine Sd.callVV (ci := 12) (t := 13) (as := [_, _]) RX12 (pc' := 117) (dc D_Mod_baseClause 59 rfl) rfl rfl rfl rfl K_Mod_fails L_Mod_132 Ks_Mod_fails Kv_Mod_fails ⟨by decide, by decide⟩ rfl rfl (Nat.le_of_ble_eq_true rfl) (s_Mod_fails _ _ _ _) (fun _ h5 => ?_)
      exact Sd_vret (dc D_Mod_baseClause 60 rfl) rfl
def Mod_baseClause_L85 (v0 : Nat) (v1 : Int) (v2 : Int) (v3 : Int) (v4 : Int) (s0 : Int) (h : AH) : Option (Unit × AH) := if (v1 : Int) = 40 then (rc h 13 v0 <| bnd (Mod_fails v0 4 v2 h) fun _ h1 => some ((), h1)) else (if ¬ (v1 : Int) = 0 then (Mod_baseClause_L103 v0 v2 v3 v4 s0 0 v3 h) else (Mod_baseClause_L103 v0 v2 v3 v4 s0 1 v3 h))
set_option maxHeartbeats 4000000 in
set_option maxRecDepth 20000 in
theorem s_Mod_baseClause_L85 (v0 : Nat) (v1 : Int) (v2 : Int) (v3 : Int) (v4 : Int) (s0 : Int) (h : AH) : Sd M_Mod_baseClause 7 175 emV 85 [(0, vr v0), (1, vi v1), (2, vi v2), (3, vi v3), (4, vi v4)] [vi s0] h (Mod_baseClause_L85 v0 v1 v2 v3 v4 s0 h) := by
  unfold Mod_baseClause_L85
  refine Sd_istore (pc' := 87) (l' := [(5, _), (0, _), (1, _), (2, _), (3, _), (4, _)]) (dc D_Mod_baseClause 43 rfl) rfl (by decide) rfl ?_
  refine Sd_iload_n (pc' := 88) (dc D_Mod_baseClause 44 rfl) rfl 2 rfl rfl ?_
  refine Sd_bipush (pc' := 90) (dc D_Mod_baseClause 45 rfl) rfl ⟨by decide, by decide⟩ (by decide) ?_
  refine Sd_icmp_eq (tgt := 111) (pc' := 93) (dc D_Mod_baseClause 46 rfl) (by decide) rfl (fun _ => ?_) (fun _ => ?_)
  · refine Sd_aload_n (pc' := 112) (dc D_Mod_baseClause 56 rfl) rfl 1 rfl rfl ?_
    refine Sd_iconst (pc' := 113) (dc D_Mod_baseClause 57 rfl) rfl ⟨by decide, by decide⟩ ?_
    refine Sd_iload_n (pc' := 114) (dc D_Mod_baseClause 58 rfl) rfl 3 rfl rfl ?_
    refine Sd.callVV (ci := 12) (t := 13) (as := [_, _]) RX12 (pc' := 117) (dc D_Mod_baseClause 59 rfl) rfl rfl rfl rfl K_Mod_fails L_Mod_132 Ks_Mod_fails Kv_Mod_fails ⟨by decide, by decide⟩ rfl rfl (Nat.le_of_ble_eq_true rfl) (s_Mod_fails _ _ _ _) (fun _ h1 => ?_)
    exact Sd_vret (dc D_Mod_baseClause 60 rfl) rfl
  · refine Sd_iload_n (pc' := 94) (dc D_Mod_baseClause 47 rfl) rfl 4 rfl rfl ?_
    refine Sd_iload_n (pc' := 95) (dc D_Mod_baseClause 48 rfl) rfl 2 rfl rfl ?_
    refine Sd_if_ne (tgt := 102) (pc' := 98) (dc D_Mod_baseClause 49 rfl) (by decide) rfl (fun _ => ?_) (fun _ => ?_)
    · refine Sd_iconst (pc' := 103) (dc D_Mod_baseClause 52 rfl) rfl ⟨by decide, by decide⟩ ?_
      refine Sd.sub (l' := [(0, _), (2, _), (3, _), (4, _), (5, _)]) [1, 3, 4, 5, 0] rfl ?_
      exact s_Mod_baseClause_L103 _ _ _ _ _ _ _ _
    · refine Sd_iconst (pc' := 99) (dc D_Mod_baseClause 50 rfl) rfl ⟨by decide, by decide⟩ ?_
      refine Sd_goto (tgt := 103) (dc D_Mod_baseClause 51 rfl) (by decide) ?_
      refine Sd.sub (l' := [(0, _), (2, _), (3, _), (4, _), (5, _)]) [1, 3, 4, 5, 0] rfl ?_
      exact s_Mod_baseClause_L103 _ _ _ _ _ _ _ _
def Mod_baseClause_L50 (v0 : Nat) (v1 : Int) (v2 : Int) (v3 : Int) (v4 : Int) (h : AH) : Option (Unit × AH) := if ¬ (v3 : Int) = 0 then (Mod_baseClause_L85 v0 v1 v2 v3 v4 1 h) else (if (v4 : Int) = 0 then (gI h 13 v0 8 fun x1 => if (8 : Int) ≤ x1 then (Mod_baseClause_L85 v0 v1 v2 v3 v4 0 h) else (Mod_baseClause_L85 v0 v1 v2 v3 v4 1 h)) else (gI h 13 v0 7 fun x2 => if (12 : Int) ≤ x2 then (Mod_baseClause_L85 v0 v1 v2 v3 v4 0 h) else (Mod_baseClause_L85 v0 v1 v2 v3 v4 1 h)))
set_option maxHeartbeats 4000000 in
set_option maxRecDepth 20000 in
theorem s_Mod_baseClause_L50 (v0 : Nat) (v1 : Int) (v2 : Int) (v3 : Int) (v4 : Int) (h : AH) : Sd M_Mod_baseClause 7 175 emV 50 [(0, vr v0), (1, vi v1), (2, vi v2), (3, vi v3), (4, vi v4)] [] h (Mod_baseClause_L50 v0 v1 v2 v3 v4 h) := by
  unfold Mod_baseClause_L50
  refine Sd_iload_n (pc' := 51) (dc D_Mod_baseClause 27 rfl) rfl 3 rfl rfl ?_
  refine Sd_if_ne (tgt := 80) (pc' := 54) (dc D_Mod_baseClause 28 rfl) (by decide) rfl (fun _ => ?_) (fun _ => ?_)
  · refine Sd_iconst (pc' := 81) (dc D_Mod_baseClause 40 rfl) rfl ⟨by decide, by decide⟩ ?_
    refine Sd_goto (tgt := 85) (dc D_Mod_baseClause 41 rfl) (by decide) ?_
    exact s_Mod_baseClause_L85 _ _ _ _ _ _ _
  · refine Sd_iload (pc' := 56) (dc D_Mod_baseClause 29 rfl) rfl 4 rfl ?_
    refine Sd_if_eq (tgt := 71) (pc' := 59) (dc D_Mod_baseClause 30 rfl) (by decide) rfl (fun _ => ?_) (fun _ => ?_)
    · refine Sd_aload_n (pc' := 72) (dc D_Mod_baseClause 36 rfl) rfl 0 rfl rfl ?_
      refine Sd_getI (pc' := 75) (dc D_Mod_baseClause 37 rfl) rfl F_Mod_160 rfl rfl ?_
      refine Sd_bipush (pc' := 77) (dc D_Mod_baseClause 38 rfl) rfl ⟨by decide, by decide⟩ (by decide) ?_
      refine Sd_icmp_ge (tgt := 84) (pc' := 80) (dc D_Mod_baseClause 39 rfl) (by decide) rfl (fun _ => ?_) (fun _ => ?_)
      · refine Sd_iconst (pc' := 85) (dc D_Mod_baseClause 42 rfl) rfl ⟨by decide, by decide⟩ ?_
        exact s_Mod_baseClause_L85 _ _ _ _ _ _ _
      · refine Sd_iconst (pc' := 81) (dc D_Mod_baseClause 40 rfl) rfl ⟨by decide, by decide⟩ ?_
        refine Sd_goto (tgt := 85) (dc D_Mod_baseClause 41 rfl) (by decide) ?_
        exact s_Mod_baseClause_L85 _ _ _ _ _ _ _
    · refine Sd_aload_n (pc' := 60) (dc D_Mod_baseClause 31 rfl) rfl 0 rfl rfl ?_
      refine Sd_getI (pc' := 63) (dc D_Mod_baseClause 32 rfl) rfl F_Mod_157 rfl rfl ?_
      refine Sd_bipush (pc' := 65) (dc D_Mod_baseClause 33 rfl) rfl ⟨by decide, by decide⟩ (by decide) ?_
      refine Sd_icmp_ge (tgt := 84) (pc' := 68) (dc D_Mod_baseClause 34 rfl) (by decide) rfl (fun _ => ?_) (fun _ => ?_)
      · refine Sd_iconst (pc' := 85) (dc D_Mod_baseClause 42 rfl) rfl ⟨by decide, by decide⟩ ?_
        exact s_Mod_baseClause_L85 _ _ _ _ _ _ _
      · refine Sd_goto (tgt := 80) (dc D_Mod_baseClause 35 rfl) (by decide) ?_
        refine Sd_iconst (pc' := 81) (dc D_Mod_baseClause 40 rfl) rfl ⟨by decide, by decide⟩ ?_
        refine Sd_goto (tgt := 85) (dc D_Mod_baseClause 41 rfl) (by decide) ?_
        exact s_Mod_baseClause_L85 _ _ _ _ _ _ _
def Mod_baseClause (v0 : Nat) (v1 : Int) (h : AH) : Option (Unit × AH) := rc h 13 v0 <| bnd (Mod_sign v0 h) fun x2 h1 => gI h1 13 v0 19 fun x4 => rc h1 13 v0 <| bnd (Mod_stood v0 1 h1) fun x6 h5 => rc h5 13 v0 <| bnd (Mod_stood v0 2 h5) fun x9 h8 => if ¬ (x6 : Int) = 0 then (Mod_baseClause_L50 v0 v1 x4 x6 x9 h8) else (if ¬ (x9 : Int) = 0 then (Mod_baseClause_L50 v0 v1 x4 x6 x9 h8) else (rc h8 13 v0 <| bnd (Mod_stood v0 3 h8) fun x12 h11 => if ¬ (x12 : Int) = 0 then (Mod_baseClause_L50 v0 v1 x4 x6 x9 h11) else (rc h11 13 v0 <| bnd (Mod_fails v0 0 x4 h11) fun _ h14 => some ((), h14))))
set_option maxHeartbeats 4000000 in
set_option maxRecDepth 20000 in
theorem s_Mod_baseClause (v0 : Nat) (v1 : Int) (h : AH) : CS M_Mod_baseClause 7 175 emV [vr v0, vi v1] h (Mod_baseClause v0 v1 h) := by
  refine CS.of (by decide) (Nat.le_of_ble_eq_true rfl) ?_
  show Sd M_Mod_baseClause 7 175 emV 0 [(0, vr v0), (1, vi v1)] [] h _
  unfold Mod_baseClause
  refine Sd_aload_n (pc' := 1) (dc D_Mod_baseClause 0 rfl) rfl 0 rfl rfl ?_
  refine Sd.callVI (ci := 12) (t := 13) (as := []) RX12 (pc' := 4) (dc D_Mod_baseClause 1 rfl) rfl rfl rfl rfl K_Mod_sign L_Mod_124 Ks_Mod_sign Kv_Mod_sign ⟨by decide, by decide⟩ rfl rfl (Nat.le_of_ble_eq_true rfl) (s_Mod_sign _ _) (fun x2 h1 => ?_)
  refine Sd_pop (pc' := 5) (dc D_Mod_baseClause 2 rfl) rfl (cat_i _) ?_
  refine Sd_aload_n (pc' := 6) (dc D_Mod_baseClause 3 rfl) rfl 0 rfl rfl ?_
  refine Sd_getI (pc' := 9) (dc D_Mod_baseClause 4 rfl) rfl F_Mod_117 rfl rfl ?_
  refine Sd_istore_n (pc' := 10) (l' := [(2, _), (0, _), (1, _)]) (dc D_Mod_baseClause 5 rfl) rfl rfl (by decide) rfl ?_
  refine Sd_aload_n (pc' := 11) (dc D_Mod_baseClause 6 rfl) rfl 1 rfl rfl ?_
  refine Sd_lds (a := 1) (pc' := 13) (dc D_Mod_baseClause 7 rfl) rfl (by decide) (List.mem_of_getElem? (i := 7) rfl) ?_
  refine Sd.callVI (ci := 12) (t := 13) (as := [_]) RX12 (pc' := 16) (dc D_Mod_baseClause 8 rfl) rfl rfl rfl rfl K_Mod_stood L_Mod_149 Ks_Mod_stood Kv_Mod_stood ⟨by decide, by decide⟩ rfl rfl (Nat.le_of_ble_eq_true rfl) (s_Mod_stood _ _ _) (fun x6 h5 => ?_)
  refine Sd_istore_n (pc' := 17) (l' := [(3, _), (2, _), (0, _), (1, _)]) (dc D_Mod_baseClause 9 rfl) rfl rfl (by decide) rfl ?_
  refine Sd_aload_n (pc' := 18) (dc D_Mod_baseClause 10 rfl) rfl 2 rfl rfl ?_
  refine Sd_lds (a := 2) (pc' := 20) (dc D_Mod_baseClause 11 rfl) rfl (by decide) (List.mem_of_getElem? (i := 8) rfl) ?_
  refine Sd.callVI (ci := 12) (t := 13) (as := [_]) RX12 (pc' := 23) (dc D_Mod_baseClause 12 rfl) rfl rfl rfl rfl K_Mod_stood L_Mod_149 Ks_Mod_stood Kv_Mod_stood ⟨by decide, by decide⟩ rfl rfl (Nat.le_of_ble_eq_true rfl) (s_Mod_stood _ _ _) (fun x9 h8 => ?_)
  refine Sd_istore (pc' := 25) (l' := [(4, _), (3, _), (2, _), (0, _), (1, _)]) (dc D_Mod_baseClause 13 rfl) rfl (by decide) rfl ?_
  refine Sd_iload_n (pc' := 26) (dc D_Mod_baseClause 14 rfl) rfl 1 rfl rfl ?_
  refine Sd_if_ne (tgt := 50) (pc' := 29) (dc D_Mod_baseClause 15 rfl) (by decide) rfl (fun _ => ?_) (fun _ => ?_)
  · refine Sd.sub (l' := [(0, _), (1, _), (2, _), (3, _), (4, _)]) [3, 4, 2, 1, 0] rfl ?_
    exact s_Mod_baseClause_L50 _ _ _ _ _ _
  · refine Sd_iload (pc' := 31) (dc D_Mod_baseClause 16 rfl) rfl 0 rfl ?_
    refine Sd_if_ne (tgt := 50) (pc' := 34) (dc D_Mod_baseClause 17 rfl) (by decide) rfl (fun _ => ?_) (fun _ => ?_)
    · refine Sd.sub (l' := [(0, _), (1, _), (2, _), (3, _), (4, _)]) [3, 4, 2, 1, 0] rfl ?_
      exact s_Mod_baseClause_L50 _ _ _ _ _ _
    · refine Sd_aload_n (pc' := 35) (dc D_Mod_baseClause 18 rfl) rfl 3 rfl rfl ?_
      refine Sd_lds (a := 3) (pc' := 37) (dc D_Mod_baseClause 19 rfl) rfl (by decide) (List.mem_of_getElem? (i := 9) rfl) ?_
      refine Sd.callVI (ci := 12) (t := 13) (as := [_]) RX12 (pc' := 40) (dc D_Mod_baseClause 20 rfl) rfl rfl rfl rfl K_Mod_stood L_Mod_149 Ks_Mod_stood Kv_Mod_stood ⟨by decide, by decide⟩ rfl rfl (Nat.le_of_ble_eq_true rfl) (s_Mod_stood _ _ _) (fun x12 h11 => ?_)
      refine Sd_if_ne (tgt := 50) (pc' := 43) (dc D_Mod_baseClause 21 rfl) (by decide) rfl (fun _ => ?_) (fun _ => ?_)
      · refine Sd.sub (l' := [(0, _), (1, _), (2, _), (3, _), (4, _)]) [3, 4, 2, 1, 0] rfl ?_
        exact s_Mod_baseClause_L50 _ _ _ _ _ _
      · refine Sd_aload_n (pc' := 44) (dc D_Mod_baseClause 22 rfl) rfl 3 rfl rfl ?_
        refine Sd_iconst (pc' := 45) (dc D_Mod_baseClause 23 rfl) rfl ⟨by decide, by decide⟩ ?_
        refine Sd_iload_n (pc' := 46) (dc D_Mod_baseClause 24 rfl) rfl 2 rfl rfl ?_
        refine Sd.callVV (ci := 12) (t := 13) (as := [_, _]) RX12 (pc' := 49) (dc D_Mod_baseClause 25 rfl) rfl rfl rfl rfl K_Mod_fails L_Mod_132 Ks_Mod_fails Kv_Mod_fails ⟨by decide, by decide⟩ rfl rfl (Nat.le_of_ble_eq_true rfl) (s_Mod_fails _ _ _ _) (fun _ h14 => ?_)
        exact Sd_vret (dc D_Mod_baseClause 26 rfl) rfl
theorem K_Mod_baseClause : MOk M_Mod_baseClause 1 := ⟨Tb_at 133 (by decide +kernel) rfl, Tb_at 1387 (by decide +kernel) rfl, by decide +kernel, by decide +kernel, by decide +kernel⟩
theorem Ks_Mod_baseClause : Cond.instanceMethod yX12_baseClause ∈ Tb := Tb_at 1386 (by decide +kernel) rfl
theorem Kv_Mod_baseClause : Cond.selects RX12 yX12_baseClause yX12_baseClause ∈ Tb := Tb_at 40 (by decide +kernel) rfl
/-! ===== BatchShareModel.isMore()Z ===== -/
abbrev M_Mod_isMore : AMt := (yX12_isMore, cX12_isMore, 2, (some .boolean))
def T_Mod_isMore : List (Nat × Instr × Nat) := [(0, .aload_n 0, 1), (1, .getfield 114, 3), (4, .ifCond .le 5, 3), (7, .iconst 0, 1), (8, .ireturn, 1), (9, .aload_n 0, 1), (10, .invokevirtual 124, 3), (13, .istore_n 1, 1), (14, .iload_n 1, 1), (15, .iconst (-1), 1), (16, .if_icmp .eq 18, 3), (19, .iload_n 1, 1), (20, .bipush 59, 2), (22, .if_icmp .eq 12, 3), (25, .aload_n 0, 1), (26, .iconst 0, 1), (27, .aload_n 0, 1), (28, .getfield 117, 3), (31, .invokevirtual 132, 3), (34, .aload_n 0, 1), (35, .dup, 1), (36, .getfield 117, 3), (39, .iconst 1, 1), (40, .iadd, 1), (41, .putfield 117, 3), (44, .iload_n 1, 1), (45, .bipush 59, 2), (47, .if_icmp .ne 7, 3), (50, .iconst 1, 1), (51, .goto 4, 3), (54, .iconst 0, 1), (55, .ireturn, 1)]
set_option maxRecDepth 20000 in
theorem D_Mod_isMore : (T_Mod_isMore.all fun q => decide (decode M_Mod_isMore.2.1 q.1 = .ok q.2)) = true := by decide +kernel
def Mod_isMore_L34 (v0 : Nat) (v1 : Int) (h : AH) : Option (Int × AH) := gI h 13 v0 19 fun x1 => pI h 13 v0 19 (wr (x1 + 1)) fun h2 => if ¬ (v1 : Int) = 59 then (some (0, h2)) else (some (1, h2))
set_option maxHeartbeats 4000000 in
set_option maxRecDepth 20000 in
theorem s_Mod_isMore_L34 (v0 : Nat) (v1 : Int) (h : AH) : Sd M_Mod_isMore 2 22 emI 34 [(0, vr v0), (1, vi v1)] [] h (Mod_isMore_L34 v0 v1 h) := by
  unfold Mod_isMore_L34
  refine Sd_aload_n (pc' := 35) (dc D_Mod_isMore 19 rfl) rfl 0 rfl rfl ?_
  refine Sd_dup (pc' := 36) (dc D_Mod_isMore 20 rfl) rfl (cat_r _) ?_
  refine Sd_getI (pc' := 39) (dc D_Mod_isMore 21 rfl) rfl F_Mod_117 rfl rfl ?_
  refine Sd_iconst (pc' := 40) (dc D_Mod_isMore 22 rfl) rfl ⟨by decide, by decide⟩ ?_
  refine Sd_iadd (pc' := 41) (dc D_Mod_isMore 23 rfl) rfl ?_
  refine Sd_putI (pc' := 44) (dc D_Mod_isMore 24 rfl) rfl F_Mod_117 rfl rfl rfl (finOk.no rfl) (by decide) ?_
  refine Sd_iload_n (pc' := 45) (dc D_Mod_isMore 25 rfl) rfl 1 rfl rfl ?_
  refine Sd_bipush (pc' := 47) (dc D_Mod_isMore 26 rfl) rfl ⟨by decide, by decide⟩ (by decide) ?_
  refine Sd_icmp_ne (tgt := 54) (pc' := 50) (dc D_Mod_isMore 27 rfl) (by decide) rfl (fun _ => ?_) (fun _ => ?_)
  · refine Sd_iconst (pc' := 55) (dc D_Mod_isMore 30 rfl) rfl ⟨by decide, by decide⟩ ?_
    exact Sd_zret (dc D_Mod_isMore 31 rfl) rfl (Or.inl rfl)
  · refine Sd_iconst (pc' := 51) (dc D_Mod_isMore 28 rfl) rfl ⟨by decide, by decide⟩ ?_
    refine Sd_goto (tgt := 55) (dc D_Mod_isMore 29 rfl) (by decide) ?_
    exact Sd_zret (dc D_Mod_isMore 31 rfl) rfl (Or.inr rfl)
def Mod_isMore (v0 : Nat) (h : AH) : Option (Int × AH) := gI h 13 v0 20 fun x1 => if (x1 : Int) ≤ 0 then (rc h 13 v0 <| bnd (Mod_sign v0 h) fun x3 h2 => if (x3 : Int) = (-1) then (Mod_isMore_L34 v0 x3 h2) else (if (x3 : Int) = 59 then (Mod_isMore_L34 v0 x3 h2) else (gI h2 13 v0 19 fun x5 => rc h2 13 v0 <| bnd (Mod_fails v0 0 x5 h2) fun _ h6 => Mod_isMore_L34 v0 x3 h6))) else (some (0, h))
set_option maxHeartbeats 4000000 in
set_option maxRecDepth 20000 in
theorem s_Mod_isMore (v0 : Nat) (h : AH) : CS M_Mod_isMore 2 22 emI [vr v0] h (Mod_isMore v0 h) := by
  refine CS.of (by decide) (Nat.le_of_ble_eq_true rfl) ?_
  show Sd M_Mod_isMore 2 22 emI 0 [(0, vr v0)] [] h _
  unfold Mod_isMore
  refine Sd_aload_n (pc' := 1) (dc D_Mod_isMore 0 rfl) rfl 0 rfl rfl ?_
  refine Sd_getI (pc' := 4) (dc D_Mod_isMore 1 rfl) rfl F_Mod_114 rfl rfl ?_
  refine Sd_if_le (tgt := 9) (pc' := 7) (dc D_Mod_isMore 2 rfl) (by decide) rfl (fun _ => ?_) (fun _ => ?_)
  · refine Sd_aload_n (pc' := 10) (dc D_Mod_isMore 5 rfl) rfl 0 rfl rfl ?_
    refine Sd.callVI (ci := 12) (t := 13) (as := []) RX12 (pc' := 13) (dc D_Mod_isMore 6 rfl) rfl rfl rfl rfl K_Mod_sign L_Mod_124 Ks_Mod_sign Kv_Mod_sign ⟨by decide, by decide⟩ rfl rfl (Nat.le_of_ble_eq_true rfl) (s_Mod_sign _ _) (fun x3 h2 => ?_)
    refine Sd_istore_n (pc' := 14) (l' := [(1, _), (0, _)]) (dc D_Mod_isMore 7 rfl) rfl rfl (by decide) rfl ?_
    refine Sd_iload_n (pc' := 15) (dc D_Mod_isMore 8 rfl) rfl 0 rfl rfl ?_
    refine Sd_iconst (pc' := 16) (dc D_Mod_isMore 9 rfl) rfl ⟨by decide, by decide⟩ ?_
    refine Sd_icmp_eq (tgt := 34) (pc' := 19) (dc D_Mod_isMore 10 rfl) (by decide) rfl (fun _ => ?_) (fun _ => ?_)
    · refine Sd.sub (l' := [(0, _), (1, _)]) [1, 0] rfl ?_
      exact s_Mod_isMore_L34 _ _ _
    · refine Sd_iload_n (pc' := 20) (dc D_Mod_isMore 11 rfl) rfl 0 rfl rfl ?_
      refine Sd_bipush (pc' := 22) (dc D_Mod_isMore 12 rfl) rfl ⟨by decide, by decide⟩ (by decide) ?_
      refine Sd_icmp_eq (tgt := 34) (pc' := 25) (dc D_Mod_isMore 13 rfl) (by decide) rfl (fun _ => ?_) (fun _ => ?_)
      · refine Sd.sub (l' := [(0, _), (1, _)]) [1, 0] rfl ?_
        exact s_Mod_isMore_L34 _ _ _
      · refine Sd_aload_n (pc' := 26) (dc D_Mod_isMore 14 rfl) rfl 1 rfl rfl ?_
        refine Sd_iconst (pc' := 27) (dc D_Mod_isMore 15 rfl) rfl ⟨by decide, by decide⟩ ?_
        refine Sd_aload_n (pc' := 28) (dc D_Mod_isMore 16 rfl) rfl 1 rfl rfl ?_
        refine Sd_getI (pc' := 31) (dc D_Mod_isMore 17 rfl) rfl F_Mod_117 rfl rfl ?_
        refine Sd.callVV (ci := 12) (t := 13) (as := [_, _]) RX12 (pc' := 34) (dc D_Mod_isMore 18 rfl) rfl rfl rfl rfl K_Mod_fails L_Mod_132 Ks_Mod_fails Kv_Mod_fails ⟨by decide, by decide⟩ rfl rfl (Nat.le_of_ble_eq_true rfl) (s_Mod_fails _ _ _ _) (fun _ h6 => ?_)
        refine Sd.sub (l' := [(0, _), (1, _)]) [1, 0] rfl ?_
        exact s_Mod_isMore_L34 _ _ _
  · refine Sd_iconst (pc' := 8) (dc D_Mod_isMore 3 rfl) rfl ⟨by decide, by decide⟩ ?_
    exact Sd_zret (dc D_Mod_isMore 4 rfl) rfl (Or.inl rfl)
theorem K_Mod_isMore : MOk M_Mod_isMore 0 := ⟨Tb_at 133 (by decide +kernel) rfl, Tb_at 1427 (by decide +kernel) rfl, by decide +kernel, by decide +kernel, by decide +kernel⟩
theorem Ks_Mod_isMore : Cond.instanceMethod yX12_isMore ∈ Tb := Tb_at 1426 (by decide +kernel) rfl
theorem Kv_Mod_isMore : Cond.selects RX12 yX12_isMore yX12_isMore ∈ Tb := Tb_at 47 (by decide +kernel) rfl
/-! ===== BatchShareModel.copies([I[I)V ===== -/
abbrev M_Mod_copies : AMt := (yX12_copies, cX12_copies, 3, none)
def T_Mod_copies : List (Nat × Instr × Nat) := [(0, .iconst 0, 1), (1, .istore_n 2, 1), (2, .iload_n 2, 1), (3, .aload_n 0, 1), (4, .arraylength, 1), (5, .if_icmp .ge 15, 3), (8, .aload_n 1, 1), (9, .iload_n 2, 1), (10, .aload_n 0, 1), (11, .iload_n 2, 1), (12, .iaload, 1), (13, .iastore, 1), (14, .iinc 2 1, 3), (17, .goto (-15), 3), (20, .return_, 1)]
set_option maxRecDepth 20000 in
theorem D_Mod_copies : (T_Mod_copies.all fun q => decide (decode M_Mod_copies.2.1 q.1 = .ok q.2)) = true := by decide +kernel
def Mod_copies_L2 : Nat → Nat → Nat → Int → AH → Option (Unit × AH)
  | 0, _, _, _, _ => none
  | n + 1, v0, v1, v2, h => aN h 21 v0 fun x1 => if (x1 : Int) ≤ v2 then (some ((), h)) else (aI h 21 v0 v2 fun x2 => wI h 21 v1 v2 x2 fun h3 => Mod_copies_L2 n v0 v1 ((wr (v2 + 1))) h3)
set_option maxHeartbeats 4000000 in
set_option maxRecDepth 20000 in
theorem s_Mod_copies_L2 : ∀ (n : Nat) (v0 : Nat) (v1 : Nat) (v2 : Int) (h : AH), Sd M_Mod_copies 1 0 emV 2 [(0, vr v0), (1, vr v1), (2, vi v2)] [] h (Mod_copies_L2 n v0 v1 v2 h)
  | 0, _, _, _, _ => Sd.none
  | n + 1, v0, v1, v2, h => by
    rw [Mod_copies_L2]
    refine Sd_iload_n (pc' := 3) (dc D_Mod_copies 2 rfl) rfl 2 rfl rfl ?_
    refine Sd_aload_n (pc' := 4) (dc D_Mod_copies 3 rfl) rfl 0 rfl rfl ?_
    refine Sd_alen (t := 21) (j := 0) (pc' := 5) (dc D_Mod_copies 4 rfl) rfl rfl (by decide) (by decide) ?_
    refine Sd_icmp_ge (tgt := 20) (pc' := 8) (dc D_Mod_copies 5 rfl) (by decide) rfl (fun _ => ?_) (fun _ => ?_)
    · exact Sd_vret (dc D_Mod_copies 14 rfl) rfl
    · refine Sd_aload_n (pc' := 9) (dc D_Mod_copies 6 rfl) rfl 1 rfl rfl ?_
      refine Sd_iload_n (pc' := 10) (dc D_Mod_copies 7 rfl) rfl 2 rfl rfl ?_
      refine Sd_aload_n (pc' := 11) (dc D_Mod_copies 8 rfl) rfl 0 rfl rfl ?_
      refine Sd_iload_n (pc' := 12) (dc D_Mod_copies 9 rfl) rfl 2 rfl rfl ?_
      refine Sd_iaload (pc' := 13) (dc D_Mod_copies 10 rfl) rfl ?_
      refine Sd_iastore (pc' := 14) (dc D_Mod_copies 11 rfl) rfl (by decide) ?_
      refine Sd_iinc (pc' := 17) (l' := [(2, _), (0, _), (1, _)]) (dc D_Mod_copies 12 rfl) rfl 2 rfl (by decide) rfl ?_
      refine Sd_goto (tgt := 2) (dc D_Mod_copies 13 rfl) (by decide) ?_
      refine Sd.sub (l' := [(0, _), (1, _), (2, _)]) [1, 2, 0] rfl ?_
      exact s_Mod_copies_L2 n _ _ _ _
def Mod_copies (v0 : Nat) (v1 : Nat) (h : AH) : Option (Unit × AH) := Mod_copies_L2 FU v0 v1 0 h
set_option maxHeartbeats 4000000 in
set_option maxRecDepth 20000 in
theorem s_Mod_copies (v0 : Nat) (v1 : Nat) (h : AH) : CS M_Mod_copies 1 0 emV [vr v0, vr v1] h (Mod_copies v0 v1 h) := by
  refine CS.of (by decide) (Nat.le_of_ble_eq_true rfl) ?_
  show Sd M_Mod_copies 1 0 emV 0 [(0, vr v0), (1, vr v1)] [] h _
  unfold Mod_copies
  refine Sd_iconst (pc' := 1) (dc D_Mod_copies 0 rfl) rfl ⟨by decide, by decide⟩ ?_
  refine Sd_istore_n (pc' := 2) (l' := [(2, _), (0, _), (1, _)]) (dc D_Mod_copies 1 rfl) rfl rfl (by decide) rfl ?_
  refine Sd.sub (l' := [(0, _), (1, _), (2, _)]) [1, 2, 0] rfl ?_
  exact s_Mod_copies_L2 FU _ _ _ _
theorem K_Mod_copies : MOk M_Mod_copies 2 := ⟨Tb_at 133 (by decide +kernel) rfl, Tb_at 1430 (by decide +kernel) rfl, by decide +kernel, by decide +kernel, by decide +kernel⟩
theorem Ks_Mod_copies : Cond.static yX12_copies ∈ Tb := Tb_at 1429 (by decide +kernel) rfl
/-! ===== BatchShareModel.base()I ===== -/
abbrev M_Mod_base : AMt := (yX12_base, cX12_base, 4, (some .int))
def T_Mod_base : List (Nat × Instr × Nat) := [(0, .aload_n 0, 1), (1, .iconst 0, 1), (2, .putfield 117, 3), (5, .aload_n 0, 1), (6, .iconst 0, 1), (7, .putfield 114, 3), (10, .aload_n 0, 1), (11, .iconst 0, 1), (12, .putfield 157, 3), (15, .aload_n 0, 1), (16, .iconst 0, 1), (17, .putfield 160, 3), (20, .iconst 0, 1), (21, .istore_n 1, 1), (22, .iconst 1, 1), (23, .istore_n 2, 1), (24, .iload_n 2, 1), (25, .ifCond .eq 19, 3), (28, .aload_n 0, 1), (29, .iload_n 1, 1), (30, .invokevirtual 176, 3), (33, .iinc 1 1, 3), (36, .aload_n 0, 1), (37, .invokevirtual 179, 3), (40, .istore_n 2, 1), (41, .goto (-17), 3), (44, .aload_n 0, 1), (45, .iconst 0, 1), (46, .putfield 107, 3), (49, .aload_n 0, 1), (50, .getfield 114, 3), (53, .ifCond .le 11, 3), (56, .bipush (-2), 2), (58, .aload_n 0, 1), (59, .getfield 114, 3), (62, .isub, 1), (63, .ireturn, 1), (64, .iconst 0, 1), (65, .istore_n 3, 1), (66, .iload_n 3, 1), (67, .bipush 8, 2), (69, .if_icmp .ge 16, 3), (72, .aload_n 0, 1), (73, .getfield 9, 3), (76, .iload_n 3, 1), (77, .iconst 0, 1), (78, .iastore, 1), (79, .iinc 3 1, 3), (82, .goto (-16), 3), (85, .aload_n 0, 1), (86, .getfield 9, 3), (89, .iconst 0, 1), (90, .iconst 1, 1), (91, .iastore, 1), (92, .aload_n 0, 1), (93, .getfield 9, 3), (96, .iconst 1, 1), (97, .aload_n 0, 1), (98, .getfield 169, 3), (101, .iastore, 1), (102, .aload_n 0, 1), (103, .getfield 9, 3), (106, .iconst 2, 1), (107, .aload_n 0, 1), (108, .getfield 157, 3), (111, .iastore, 1), (112, .aload_n 0, 1), (113, .getfield 9, 3), (116, .iconst 3, 1), (117, .aload_n 0, 1), (118, .getfield 160, 3), (121, .iastore, 1), (122, .aload_n 0, 1), (123, .getfield 19, 3), (126, .aload_n 0, 1), (127, .getfield 13, 3), (130, .invokestatic 182, 3), (133, .aload_n 0, 1), (134, .getfield 22, 3), (137, .aload_n 0, 1), (138, .getfield 16, 3), (141, .invokestatic 182, 3), (144, .aload_n 0, 1), (145, .iconst 0, 1), (146, .putfield 186, 3), (149, .aload_n 0, 1), (150, .getfield 157, 3), (153, .aload_n 0, 1), (154, .getfield 160, 3), (157, .iadd, 1), (158, .ireturn, 1)]
set_option maxRecDepth 20000 in
theorem D_Mod_base : (T_Mod_base.all fun q => decide (decode M_Mod_base.2.1 q.1 = .ok q.2)) = true := by decide +kernel
def Mod_base_L66 : Nat → Nat → Int → AH → Option (Int × AH)
  | 0, _, _, _ => none
  | n + 1, v0, v3, h => if (8 : Int) ≤ v3 then (gR h 13 v0 1 fun r1 => wI h 21 r1 0 1 fun h2 => gR h2 13 v0 1 fun r3 => gI h2 13 v0 6 fun x4 => wI h2 21 r3 1 x4 fun h5 => gR h5 13 v0 1 fun r6 => gI h5 13 v0 7 fun x7 => wI h5 21 r6 2 x7 fun h8 => gR h8 13 v0 1 fun r9 => gI h8 13 v0 8 fun x10 => wI h8 21 r9 3 x10 fun h11 => gR h11 13 v0 4 fun r12 => gR h11 13 v0 2 fun r13 => bnd (Mod_copies r12 r13 h11) fun _ h14 => gR h14 13 v0 5 fun r17 => gR h14 13 v0 3 fun r18 => bnd (Mod_copies r17 r18 h14) fun _ h19 => pI h19 13 v0 43 0 fun h22 => gI h22 13 v0 7 fun x23 => gI h22 13 v0 8 fun x24 => some ((wr (x23 + x24)), h22)) else (gR h 13 v0 1 fun r25 => wI h 21 r25 v3 0 fun h26 => Mod_base_L66 n v0 ((wr (v3 + 1))) h26)
set_option maxHeartbeats 4000000 in
set_option maxRecDepth 20000 in
theorem s_Mod_base_L66 : ∀ (n : Nat) (v0 : Nat) (v3 : Int) (h : AH), Sd M_Mod_base 8 200 emI 66 [(0, vr v0), (3, vi v3)] [] h (Mod_base_L66 n v0 v3 h)
  | 0, _, _, _ => Sd.none
  | n + 1, v0, v3, h => by
    rw [Mod_base_L66]
    refine Sd_iload_n (pc' := 67) (dc D_Mod_base 39 rfl) rfl 1 rfl rfl ?_
    refine Sd_bipush (pc' := 69) (dc D_Mod_base 40 rfl) rfl ⟨by decide, by decide⟩ (by decide) ?_
    refine Sd_icmp_ge (tgt := 85) (pc' := 72) (dc D_Mod_base 41 rfl) (by decide) rfl (fun _ => ?_) (fun _ => ?_)
    · refine Sd_aload_n (pc' := 86) (dc D_Mod_base 49 rfl) rfl 0 rfl rfl ?_
      refine Sd_getR (pc' := 89) (dc D_Mod_base 50 rfl) rfl F_Mod_9 rfl rfl ?_
      refine Sd_iconst (pc' := 90) (dc D_Mod_base 51 rfl) rfl ⟨by decide, by decide⟩ ?_
      refine Sd_iconst (pc' := 91) (dc D_Mod_base 52 rfl) rfl ⟨by decide, by decide⟩ ?_
      refine Sd_iastore (pc' := 92) (dc D_Mod_base 53 rfl) rfl (by decide) ?_
      refine Sd_aload_n (pc' := 93) (dc D_Mod_base 54 rfl) rfl 0 rfl rfl ?_
      refine Sd_getR (pc' := 96) (dc D_Mod_base 55 rfl) rfl F_Mod_9 rfl rfl ?_
      refine Sd_iconst (pc' := 97) (dc D_Mod_base 56 rfl) rfl ⟨by decide, by decide⟩ ?_
      refine Sd_aload_n (pc' := 98) (dc D_Mod_base 57 rfl) rfl 0 rfl rfl ?_
      refine Sd_getI (pc' := 101) (dc D_Mod_base 58 rfl) rfl F_Mod_169 rfl rfl ?_
      refine Sd_iastore (pc' := 102) (dc D_Mod_base 59 rfl) rfl (by decide) ?_
      refine Sd_aload_n (pc' := 103) (dc D_Mod_base 60 rfl) rfl 0 rfl rfl ?_
      refine Sd_getR (pc' := 106) (dc D_Mod_base 61 rfl) rfl F_Mod_9 rfl rfl ?_
      refine Sd_iconst (pc' := 107) (dc D_Mod_base 62 rfl) rfl ⟨by decide, by decide⟩ ?_
      refine Sd_aload_n (pc' := 108) (dc D_Mod_base 63 rfl) rfl 0 rfl rfl ?_
      refine Sd_getI (pc' := 111) (dc D_Mod_base 64 rfl) rfl F_Mod_157 rfl rfl ?_
      refine Sd_iastore (pc' := 112) (dc D_Mod_base 65 rfl) rfl (by decide) ?_
      refine Sd_aload_n (pc' := 113) (dc D_Mod_base 66 rfl) rfl 0 rfl rfl ?_
      refine Sd_getR (pc' := 116) (dc D_Mod_base 67 rfl) rfl F_Mod_9 rfl rfl ?_
      refine Sd_iconst (pc' := 117) (dc D_Mod_base 68 rfl) rfl ⟨by decide, by decide⟩ ?_
      refine Sd_aload_n (pc' := 118) (dc D_Mod_base 69 rfl) rfl 0 rfl rfl ?_
      refine Sd_getI (pc' := 121) (dc D_Mod_base 70 rfl) rfl F_Mod_160 rfl rfl ?_
      refine Sd_iastore (pc' := 122) (dc D_Mod_base 71 rfl) rfl (by decide) ?_
      refine Sd_aload_n (pc' := 123) (dc D_Mod_base 72 rfl) rfl 0 rfl rfl ?_
      refine Sd_getR (pc' := 126) (dc D_Mod_base 73 rfl) rfl F_Mod_19 rfl rfl ?_
      refine Sd_aload_n (pc' := 127) (dc D_Mod_base 74 rfl) rfl 0 rfl rfl ?_
      refine Sd_getR (pc' := 130) (dc D_Mod_base 75 rfl) rfl F_Mod_13 rfl rfl ?_
      refine Sd.callSV (as := [_, _]) (pc' := 133) (dc D_Mod_base 76 rfl) rfl K_Mod_copies L_Mod_182 Ks_Mod_copies ⟨by decide, by decide⟩ rfl rfl (Nat.le_of_ble_eq_true rfl) (s_Mod_copies _ _ _) (fun _ h14 => ?_)
      refine Sd_aload_n (pc' := 134) (dc D_Mod_base 77 rfl) rfl 0 rfl rfl ?_
      refine Sd_getR (pc' := 137) (dc D_Mod_base 78 rfl) rfl F_Mod_22 rfl rfl ?_
      refine Sd_aload_n (pc' := 138) (dc D_Mod_base 79 rfl) rfl 0 rfl rfl ?_
      refine Sd_getR (pc' := 141) (dc D_Mod_base 80 rfl) rfl F_Mod_16 rfl rfl ?_
      refine Sd.callSV (as := [_, _]) (pc' := 144) (dc D_Mod_base 81 rfl) rfl K_Mod_copies L_Mod_182 Ks_Mod_copies ⟨by decide, by decide⟩ rfl rfl (Nat.le_of_ble_eq_true rfl) (s_Mod_copies _ _ _) (fun _ h19 => ?_)
      refine Sd_aload_n (pc' := 145) (dc D_Mod_base 82 rfl) rfl 0 rfl rfl ?_
      refine Sd_iconst (pc' := 146) (dc D_Mod_base 83 rfl) rfl ⟨by decide, by decide⟩ ?_
      refine Sd_putI (pc' := 149) (dc D_Mod_base 84 rfl) rfl F_Mod_186 rfl rfl rfl (finOk.no rfl) (by decide) ?_
      refine Sd_aload_n (pc' := 150) (dc D_Mod_base 85 rfl) rfl 0 rfl rfl ?_
      refine Sd_getI (pc' := 153) (dc D_Mod_base 86 rfl) rfl F_Mod_157 rfl rfl ?_
      refine Sd_aload_n (pc' := 154) (dc D_Mod_base 87 rfl) rfl 0 rfl rfl ?_
      refine Sd_getI (pc' := 157) (dc D_Mod_base 88 rfl) rfl F_Mod_160 rfl rfl ?_
      refine Sd_iadd (pc' := 158) (dc D_Mod_base 89 rfl) rfl ?_
      exact Sd_iret (dc D_Mod_base 90 rfl) rfl
    · refine Sd_aload_n (pc' := 73) (dc D_Mod_base 42 rfl) rfl 0 rfl rfl ?_
      refine Sd_getR (pc' := 76) (dc D_Mod_base 43 rfl) rfl F_Mod_9 rfl rfl ?_
      refine Sd_iload_n (pc' := 77) (dc D_Mod_base 44 rfl) rfl 1 rfl rfl ?_
      refine Sd_iconst (pc' := 78) (dc D_Mod_base 45 rfl) rfl ⟨by decide, by decide⟩ ?_
      refine Sd_iastore (pc' := 79) (dc D_Mod_base 46 rfl) rfl (by decide) ?_
      refine Sd_iinc (pc' := 82) (l' := [(3, _), (0, _)]) (dc D_Mod_base 47 rfl) rfl 1 rfl (by decide) rfl ?_
      refine Sd_goto (tgt := 66) (dc D_Mod_base 48 rfl) (by decide) ?_
      refine Sd.sub (l' := [(0, _), (3, _)]) [1, 0] rfl ?_
      exact s_Mod_base_L66 n _ _ _
def Mod_base_L24 : Nat → Nat → Int → Int → AH → Option (Int × AH)
  | 0, _, _, _, _ => none
  | n + 1, v0, v1, v2, h => if (v2 : Int) = 0 then (pI h 13 v0 18 0 fun h1 => gI h1 13 v0 20 fun x2 => if (x2 : Int) ≤ 0 then (Mod_base_L66 FU v0 0 h1) else (gI h1 13 v0 20 fun x3 => some ((wr ((-2) - x3)), h1))) else (rc h 13 v0 <| bnd (Mod_baseClause v0 v1 h) fun _ h4 => rc h4 13 v0 <| bnd (Mod_isMore v0 h4) fun x8 h7 => Mod_base_L24 n v0 ((wr (v1 + 1))) x8 h7)
set_option maxHeartbeats 4000000 in
set_option maxRecDepth 20000 in
theorem s_Mod_base_L24 : ∀ (n : Nat) (v0 : Nat) (v1 : Int) (v2 : Int) (h : AH), Sd M_Mod_base 8 200 emI 24 [(0, vr v0), (1, vi v1), (2, vi v2)] [] h (Mod_base_L24 n v0 v1 v2 h)
  | 0, _, _, _, _ => Sd.none
  | n + 1, v0, v1, v2, h => by
    rw [Mod_base_L24]
    refine Sd_iload_n (pc' := 25) (dc D_Mod_base 16 rfl) rfl 2 rfl rfl ?_
    refine Sd_if_eq (tgt := 44) (pc' := 28) (dc D_Mod_base 17 rfl) (by decide) rfl (fun _ => ?_) (fun _ => ?_)
    · refine Sd_aload_n (pc' := 45) (dc D_Mod_base 26 rfl) rfl 0 rfl rfl ?_
      refine Sd_iconst (pc' := 46) (dc D_Mod_base 27 rfl) rfl ⟨by decide, by decide⟩ ?_
      refine Sd_putI (pc' := 49) (dc D_Mod_base 28 rfl) rfl F_Mod_107 rfl rfl rfl (finOk.no rfl) (by decide) ?_
      refine Sd_aload_n (pc' := 50) (dc D_Mod_base 29 rfl) rfl 0 rfl rfl ?_
      refine Sd_getI (pc' := 53) (dc D_Mod_base 30 rfl) rfl F_Mod_114 rfl rfl ?_
      refine Sd_if_le (tgt := 64) (pc' := 56) (dc D_Mod_base 31 rfl) (by decide) rfl (fun _ => ?_) (fun _ => ?_)
      · refine Sd_iconst (pc' := 65) (dc D_Mod_base 37 rfl) rfl ⟨by decide, by decide⟩ ?_
        refine Sd_istore_n (pc' := 66) (l' := [(3, _), (0, _), (1, _), (2, _)]) (dc D_Mod_base 38 rfl) rfl rfl (by decide) rfl ?_
        refine Sd.sub (l' := [(0, _), (3, _)]) [1, 0] rfl ?_
        exact s_Mod_base_L66 FU _ _ _
      · refine Sd_bipush (pc' := 58) (dc D_Mod_base 32 rfl) rfl ⟨by decide, by decide⟩ (by decide) ?_
        refine Sd_aload_n (pc' := 59) (dc D_Mod_base 33 rfl) rfl 0 rfl rfl ?_
        refine Sd_getI (pc' := 62) (dc D_Mod_base 34 rfl) rfl F_Mod_114 rfl rfl ?_
        refine Sd_isub (pc' := 63) (dc D_Mod_base 35 rfl) rfl ?_
        exact Sd_iret (dc D_Mod_base 36 rfl) rfl
    · refine Sd_aload_n (pc' := 29) (dc D_Mod_base 18 rfl) rfl 0 rfl rfl ?_
      refine Sd_iload_n (pc' := 30) (dc D_Mod_base 19 rfl) rfl 1 rfl rfl ?_
      refine Sd.callVV (ci := 12) (t := 13) (as := [_]) RX12 (pc' := 33) (dc D_Mod_base 20 rfl) rfl rfl rfl rfl K_Mod_baseClause L_Mod_176 Ks_Mod_baseClause Kv_Mod_baseClause ⟨by decide, by decide⟩ rfl rfl (Nat.le_of_ble_eq_true rfl) (s_Mod_baseClause _ _ _) (fun _ h4 => ?_)
      refine Sd_iinc (pc' := 36) (l' := [(1, _), (0, _), (2, _)]) (dc D_Mod_base 21 rfl) rfl 1 rfl (by decide) rfl ?_
      refine Sd_aload_n (pc' := 37) (dc D_Mod_base 22 rfl) rfl 1 rfl rfl ?_
      refine Sd.callVI (ci := 12) (t := 13) (as := []) RX12 (pc' := 40) (dc D_Mod_base 23 rfl) rfl rfl rfl rfl K_Mod_isMore L_Mod_179 Ks_Mod_isMore Kv_Mod_isMore ⟨by decide, by decide⟩ rfl rfl (Nat.le_of_ble_eq_true rfl) (s_Mod_isMore _ _) (fun x8 h7 => ?_)
      refine Sd_istore_n (pc' := 41) (l' := [(2, _), (1, _), (0, _)]) (dc D_Mod_base 24 rfl) rfl rfl (by decide) rfl ?_
      refine Sd_goto (tgt := 24) (dc D_Mod_base 25 rfl) (by decide) ?_
      refine Sd.sub (l' := [(0, _), (1, _), (2, _)]) [2, 1, 0] rfl ?_
      exact s_Mod_base_L24 n _ _ _ _
def Mod_base (v0 : Nat) (h : AH) : Option (Int × AH) := pI h 13 v0 19 0 fun h1 => pI h1 13 v0 20 0 fun h2 => pI h2 13 v0 7 0 fun h3 => pI h3 13 v0 8 0 fun h4 => Mod_base_L24 FU v0 0 1 h4
set_option maxHeartbeats 4000000 in
set_option maxRecDepth 20000 in
theorem s_Mod_base (v0 : Nat) (h : AH) : CS M_Mod_base 8 200 emI [vr v0] h (Mod_base v0 h) := by
  refine CS.of (by decide) (Nat.le_of_ble_eq_true rfl) ?_
  show Sd M_Mod_base 8 200 emI 0 [(0, vr v0)] [] h _
  unfold Mod_base
  refine Sd_aload_n (pc' := 1) (dc D_Mod_base 0 rfl) rfl 0 rfl rfl ?_
  refine Sd_iconst (pc' := 2) (dc D_Mod_base 1 rfl) rfl ⟨by decide, by decide⟩ ?_
  refine Sd_putI (pc' := 5) (dc D_Mod_base 2 rfl) rfl F_Mod_117 rfl rfl rfl (finOk.no rfl) (by decide) ?_
  refine Sd_aload_n (pc' := 6) (dc D_Mod_base 3 rfl) rfl 0 rfl rfl ?_
  refine Sd_iconst (pc' := 7) (dc D_Mod_base 4 rfl) rfl ⟨by decide, by decide⟩ ?_
  refine Sd_putI (pc' := 10) (dc D_Mod_base 5 rfl) rfl F_Mod_114 rfl rfl rfl (finOk.no rfl) (by decide) ?_
  refine Sd_aload_n (pc' := 11) (dc D_Mod_base 6 rfl) rfl 0 rfl rfl ?_
  refine Sd_iconst (pc' := 12) (dc D_Mod_base 7 rfl) rfl ⟨by decide, by decide⟩ ?_
  refine Sd_putI (pc' := 15) (dc D_Mod_base 8 rfl) rfl F_Mod_157 rfl rfl rfl (finOk.no rfl) (by decide) ?_
  refine Sd_aload_n (pc' := 16) (dc D_Mod_base 9 rfl) rfl 0 rfl rfl ?_
  refine Sd_iconst (pc' := 17) (dc D_Mod_base 10 rfl) rfl ⟨by decide, by decide⟩ ?_
  refine Sd_putI (pc' := 20) (dc D_Mod_base 11 rfl) rfl F_Mod_160 rfl rfl rfl (finOk.no rfl) (by decide) ?_
  refine Sd_iconst (pc' := 21) (dc D_Mod_base 12 rfl) rfl ⟨by decide, by decide⟩ ?_
  refine Sd_istore_n (pc' := 22) (l' := [(1, _), (0, _)]) (dc D_Mod_base 13 rfl) rfl rfl (by decide) rfl ?_
  refine Sd_iconst (pc' := 23) (dc D_Mod_base 14 rfl) rfl ⟨by decide, by decide⟩ ?_
  refine Sd_istore_n (pc' := 24) (l' := [(2, _), (1, _), (0, _)]) (dc D_Mod_base 15 rfl) rfl rfl (by decide) rfl ?_
  refine Sd.sub (l' := [(0, _), (1, _), (2, _)]) [2, 1, 0] rfl ?_
  exact s_Mod_base_L24 FU _ _ _ _
theorem K_Mod_base : MOk M_Mod_base 0 := ⟨Tb_at 133 (by decide +kernel) rfl, Tb_at 1383 (by decide +kernel) rfl, by decide +kernel, by decide +kernel, by decide +kernel⟩
theorem Ks_Mod_base : Cond.instanceMethod yX12_base ∈ Tb := Tb_at 1381 (by decide +kernel) rfl
theorem Kv_Mod_base : Cond.selects RX12 yX12_base yX12_base ∈ Tb := Tb_at 1382 (by decide +kernel) rfl
/-! ===== BatchShareModel.takes(Ljava/lang/String;)Z ===== -/
abbrev M_Mod_takes : AMt := (yX12_takes, cX12_takes, 3, (some .boolean))
def T_Mod_takes : List (Nat × Instr × Nat) := [(0, .aload_n 0, 1), (1, .getfield 114, 3), (4, .ifCond .ne 15, 3), (7, .aload_n 0, 1), (8, .aload_n 1, 1), (9, .invokevirtual 149, 3), (12, .ifCond .eq 7, 3), (15, .iconst 1, 1), (16, .goto 4, 3), (19, .iconst 0, 1), (20, .istore_n 2, 1), (21, .aload_n 0, 1), (22, .dup, 1), (23, .getfield 117, 3), (26, .iload_n 2, 1), (27, .ifCond .eq 10, 3), (30, .aload_n 1, 1), (31, .invokevirtual 140, 3), (34, .goto 4, 3), (37, .iconst 0, 1), (38, .iadd, 1), (39, .putfield 117, 3), (42, .iload_n 2, 1), (43, .ireturn, 1)]
set_option maxRecDepth 20000 in
theorem D_Mod_takes : (T_Mod_takes.all fun q => decide (decode M_Mod_takes.2.1 q.1 = .ok q.2)) = true := by decide +kernel
def Mod_takes_L20 (v0 : Nat) (v1 : Nat) (s0 : Int) (h : AH) : Option (Int × AH) := gI h 13 v0 19 fun x1 => if (s0 : Int) = 0 then (pI h 13 v0 19 (wr (x1 + 0)) fun h2 => rz s0 h2) else (sLen v1 fun x3 => pI h 13 v0 19 (wr (x1 + x3)) fun h4 => rz s0 h4)
set_option maxHeartbeats 4000000 in
set_option maxRecDepth 20000 in
theorem s_Mod_takes_L20 (v0 : Nat) (v1 : Nat) (s0 : Int) (h : AH) : Sd M_Mod_takes 7 175 emI 20 [(0, vr v0), (1, vr v1)] [vi s0] h (Mod_takes_L20 v0 v1 s0 h) := by
  unfold Mod_takes_L20
  refine Sd_istore_n (pc' := 21) (l' := [(2, _), (0, _), (1, _)]) (dc D_Mod_takes 10 rfl) rfl rfl (by decide) rfl ?_
  refine Sd_aload_n (pc' := 22) (dc D_Mod_takes 11 rfl) rfl 1 rfl rfl ?_
  refine Sd_dup (pc' := 23) (dc D_Mod_takes 12 rfl) rfl (cat_r _) ?_
  refine Sd_getI (pc' := 26) (dc D_Mod_takes 13 rfl) rfl F_Mod_117 rfl rfl ?_
  refine Sd_iload_n (pc' := 27) (dc D_Mod_takes 14 rfl) rfl 0 rfl rfl ?_
  refine Sd_if_eq (tgt := 37) (pc' := 30) (dc D_Mod_takes 15 rfl) (by decide) rfl (fun _ => ?_) (fun _ => ?_)
  · refine Sd_iconst (pc' := 38) (dc D_Mod_takes 19 rfl) rfl ⟨by decide, by decide⟩ ?_
    refine Sd_iadd (pc' := 39) (dc D_Mod_takes 20 rfl) rfl ?_
    refine Sd_putI (pc' := 42) (dc D_Mod_takes 21 rfl) rfl F_Mod_117 rfl rfl rfl (finOk.no rfl) (by decide) ?_
    refine Sd_iload_n (pc' := 43) (dc D_Mod_takes 22 rfl) rfl 0 rfl rfl ?_
    exact Sd_zret' (dc D_Mod_takes 23 rfl) rfl
  · refine Sd_aload_n (pc' := 31) (dc D_Mod_takes 16 rfl) rfl 2 rfl rfl ?_
    refine Sd_strlen (pc' := 34) (dc D_Mod_takes 17 rfl) rfl L_Mod_140 (by decide) (Nat.le_of_ble_eq_true rfl) ?_
    refine Sd_goto (tgt := 38) (dc D_Mod_takes 18 rfl) (by decide) ?_
    refine Sd_iadd (pc' := 39) (dc D_Mod_takes 20 rfl) rfl ?_
    refine Sd_putI (pc' := 42) (dc D_Mod_takes 21 rfl) rfl F_Mod_117 rfl rfl rfl (finOk.no rfl) (by decide) ?_
    refine Sd_iload_n (pc' := 43) (dc D_Mod_takes 22 rfl) rfl 0 rfl rfl ?_
    exact Sd_zret' (dc D_Mod_takes 23 rfl) rfl
def Mod_takes (v0 : Nat) (v1 : Nat) (h : AH) : Option (Int × AH) := gI h 13 v0 20 fun x1 => if ¬ (x1 : Int) = 0 then (Mod_takes_L20 v0 v1 0 h) else (rc h 13 v0 <| bnd (Mod_stood v0 v1 h) fun x3 h2 => if (x3 : Int) = 0 then (Mod_takes_L20 v0 v1 0 h2) else (Mod_takes_L20 v0 v1 1 h2))
set_option maxHeartbeats 4000000 in
set_option maxRecDepth 20000 in
theorem s_Mod_takes (v0 : Nat) (v1 : Nat) (h : AH) : CS M_Mod_takes 7 175 emI [vr v0, vr v1] h (Mod_takes v0 v1 h) := by
  refine CS.of (by decide) (Nat.le_of_ble_eq_true rfl) ?_
  show Sd M_Mod_takes 7 175 emI 0 [(0, vr v0), (1, vr v1)] [] h _
  unfold Mod_takes
  refine Sd_aload_n (pc' := 1) (dc D_Mod_takes 0 rfl) rfl 0 rfl rfl ?_
  refine Sd_getI (pc' := 4) (dc D_Mod_takes 1 rfl) rfl F_Mod_114 rfl rfl ?_
  refine Sd_if_ne (tgt := 19) (pc' := 7) (dc D_Mod_takes 2 rfl) (by decide) rfl (fun _ => ?_) (fun _ => ?_)
  · refine Sd_iconst (pc' := 20) (dc D_Mod_takes 9 rfl) rfl ⟨by decide, by decide⟩ ?_
    exact s_Mod_takes_L20 _ _ _ _
  · refine Sd_aload_n (pc' := 8) (dc D_Mod_takes 3 rfl) rfl 0 rfl rfl ?_
    refine Sd_aload_n (pc' := 9) (dc D_Mod_takes 4 rfl) rfl 1 rfl rfl ?_
    refine Sd.callVI (ci := 12) (t := 13) (as := [_]) RX12 (pc' := 12) (dc D_Mod_takes 5 rfl) rfl rfl rfl rfl K_Mod_stood L_Mod_149 Ks_Mod_stood Kv_Mod_stood ⟨by decide, by decide⟩ rfl rfl (Nat.le_of_ble_eq_true rfl) (s_Mod_stood _ _ _) (fun x3 h2 => ?_)
    refine Sd_if_eq (tgt := 19) (pc' := 15) (dc D_Mod_takes 6 rfl) (by decide) rfl (fun _ => ?_) (fun _ => ?_)
    · refine Sd_iconst (pc' := 20) (dc D_Mod_takes 9 rfl) rfl ⟨by decide, by decide⟩ ?_
      exact s_Mod_takes_L20 _ _ _ _
    · refine Sd_iconst (pc' := 16) (dc D_Mod_takes 7 rfl) rfl ⟨by decide, by decide⟩ ?_
      refine Sd_goto (tgt := 20) (dc D_Mod_takes 8 rfl) (by decide) ?_
      exact s_Mod_takes_L20 _ _ _ _
theorem K_Mod_takes : MOk M_Mod_takes 1 := ⟨Tb_at 133 (by decide +kernel) rfl, Tb_at 1442 (by decide +kernel) rfl, by decide +kernel, by decide +kernel, by decide +kernel⟩
theorem Ks_Mod_takes : Cond.instanceMethod yX12_takes ∈ Tb := Tb_at 1441 (by decide +kernel) rfl
theorem Kv_Mod_takes : Cond.selects RX12 yX12_takes yX12_takes ∈ Tb := Tb_at 49 (by decide +kernel) rfl
/-! ===== BatchShareModel.column(ZZ)I ===== -/
abbrev M_Mod_column : AMt := (yX12_column, cX12_column, 7, (some .int))
def T_Mod_column : List (Nat × Instr × Nat) := [(0, .aload_n 0, 1), (1, .invokevirtual 124, 3), (4, .istore_n 3, 1), (5, .aload_n 0, 1), (6, .getfield 117, 3), (9, .istore 4, 2), (11, .aload_n 0, 1), (12, .getfield 114, 3), (15, .ifCond .le 5, 3), (18, .iconst (-1), 1), (19, .ireturn, 1), (20, .iload_n 3, 1), (21, .i2l, 1), (22, .ldc2_w 136, 3), (25, .ldc2_w 189, 3), (28, .invokestatic 88, 3), (31, .ifCond .eq 44, 3), (34, .aload_n 0, 1), (35, .getfield 117, 3), (38, .iconst 1, 1), (39, .iadd, 1), (40, .aload_n 0, 1), (41, .getfield 107, 3), (44, .if_icmp .eq 27, 3), (47, .aload_n 0, 1), (48, .getfield 49, 3), (51, .aload_n 0, 1), (52, .getfield 117, 3), (55, .iconst 1, 1), (56, .iadd, 1), (57, .baload, 1), (58, .i2l, 1), (59, .ldc2_w 136, 3), (62, .ldc2_w 138, 3), (65, .invokestatic 88, 3), (68, .ifCond .ne 7, 3), (71, .iconst 1, 1), (72, .goto 4, 3), (75, .iconst 0, 1), (76, .istore 5, 2), (78, .iload 5, 2), (80, .ifCond .ne 12, 3), (83, .aload_n 0, 1), (84, .iconst 0, 1), (85, .iload 4, 2), (87, .invokevirtual 132, 3), (90, .iconst (-1), 1), (91, .ireturn, 1), (92, .iload_n 3, 1), (93, .bipush 97, 2), (95, .isub, 1), (96, .istore 6, 2), (98, .iload 6, 2), (100, .iconst 3, 1), (101, .if_icmp .ge 10, 3), (104, .iload_n 1, 1), (105, .ifCond .ne 19, 3), (108, .goto 7, 3), (111, .iload_n 2, 1), (112, .ifCond .ne 12, 3), (115, .aload_n 0, 1), (116, .iconst 2, 1), (117, .iload 4, 2), (119, .invokevirtual 132, 3), (122, .iconst (-1), 1), (123, .ireturn, 1), (124, .iload 6, 2), (126, .ireturn, 1)]
set_option maxRecDepth 20000 in
theorem D_Mod_column : (T_Mod_column.all fun q => decide (decode M_Mod_column.2.1 q.1 = .ok q.2)) = true := by decide +kernel
def Mod_column_L76 (v0 : Nat) (v1 : Int) (v2 : Int) (v3 : Int) (v4 : Int) (s0 : Int) (h : AH) : Option (Int × AH) := if ¬ (s0 : Int) = 0 then (if (3 : Int) ≤ (wr (v3 - 97)) then (if ¬ (v2 : Int) = 0 then (some ((wr (v3 - 97)), h)) else (rc h 13 v0 <| bnd (Mod_fails v0 2 v4 h) fun _ h1 => some ((-1), h1))) else (if ¬ (v1 : Int) = 0 then (some ((wr (v3 - 97)), h)) else (rc h 13 v0 <| bnd (Mod_fails v0 2 v4 h) fun _ h4 => some ((-1), h4)))) else (rc h 13 v0 <| bnd (Mod_fails v0 0 v4 h) fun _ h7 => some ((-1), h7))
set_option maxHeartbeats 4000000 in
set_option maxRecDepth 20000 in
theorem s_Mod_column_L76 (v0 : Nat) (v1 : Int) (v2 : Int) (v3 : Int) (v4 : Int) (s0 : Int) (h : AH) : Sd M_Mod_column 2 25 emI 76 [(0, vr v0), (1, vi v1), (2, vi v2), (3, vi v3), (4, vi v4)] [vi s0] h (Mod_column_L76 v0 v1 v2 v3 v4 s0 h) := by
  unfold Mod_column_L76
  refine Sd_istore (pc' := 78) (l' := [(5, _), (0, _), (1, _), (2, _), (3, _), (4, _)]) (dc D_Mod_column 39 rfl) rfl (by decide) rfl ?_
  refine Sd_iload (pc' := 80) (dc D_Mod_column 40 rfl) rfl 0 rfl ?_
  refine Sd_if_ne (tgt := 92) (pc' := 83) (dc D_Mod_column 41 rfl) (by decide) rfl (fun _ => ?_) (fun _ => ?_)
  · refine Sd_iload_n (pc' := 93) (dc D_Mod_column 48 rfl) rfl 4 rfl rfl ?_
    refine Sd_bipush (pc' := 95) (dc D_Mod_column 49 rfl) rfl ⟨by decide, by decide⟩ (by decide) ?_
    refine Sd_isub (pc' := 96) (dc D_Mod_column 50 rfl) rfl ?_
    refine Sd_istore (pc' := 98) (l' := [(6, _), (5, _), (0, _), (1, _), (2, _), (3, _), (4, _)]) (dc D_Mod_column 51 rfl) rfl (by decide) rfl ?_
    refine Sd_iload (pc' := 100) (dc D_Mod_column 52 rfl) rfl 0 rfl ?_
    refine Sd_iconst (pc' := 101) (dc D_Mod_column 53 rfl) rfl ⟨by decide, by decide⟩ ?_
    refine Sd_icmp_ge (tgt := 111) (pc' := 104) (dc D_Mod_column 54 rfl) (by decide) rfl (fun _ => ?_) (fun _ => ?_)
    · refine Sd_iload_n (pc' := 112) (dc D_Mod_column 58 rfl) rfl 4 rfl rfl ?_
      refine Sd_if_ne (tgt := 124) (pc' := 115) (dc D_Mod_column 59 rfl) (by decide) rfl (fun _ => ?_) (fun _ => ?_)
      · refine Sd_iload (pc' := 126) (dc D_Mod_column 66 rfl) rfl 0 rfl ?_
        exact Sd_iret (dc D_Mod_column 67 rfl) rfl
      · refine Sd_aload_n (pc' := 116) (dc D_Mod_column 60 rfl) rfl 2 rfl rfl ?_
        refine Sd_iconst (pc' := 117) (dc D_Mod_column 61 rfl) rfl ⟨by decide, by decide⟩ ?_
        refine Sd_iload (pc' := 119) (dc D_Mod_column 62 rfl) rfl 6 rfl ?_
        refine Sd.callVV (ci := 12) (t := 13) (as := [_, _]) RX12 (pc' := 122) (dc D_Mod_column 63 rfl) rfl rfl rfl rfl K_Mod_fails L_Mod_132 Ks_Mod_fails Kv_Mod_fails ⟨by decide, by decide⟩ rfl rfl (Nat.le_of_ble_eq_true rfl) (s_Mod_fails _ _ _ _) (fun _ h1 => ?_)
        refine Sd_iconst (pc' := 123) (dc D_Mod_column 64 rfl) rfl ⟨by decide, by decide⟩ ?_
        exact Sd_iret (dc D_Mod_column 65 rfl) rfl
    · refine Sd_iload_n (pc' := 105) (dc D_Mod_column 55 rfl) rfl 3 rfl rfl ?_
      refine Sd_if_ne (tgt := 124) (pc' := 108) (dc D_Mod_column 56 rfl) (by decide) rfl (fun _ => ?_) (fun _ => ?_)
      · refine Sd_iload (pc' := 126) (dc D_Mod_column 66 rfl) rfl 0 rfl ?_
        exact Sd_iret (dc D_Mod_column 67 rfl) rfl
      · refine Sd_goto (tgt := 115) (dc D_Mod_column 57 rfl) (by decide) ?_
        refine Sd_aload_n (pc' := 116) (dc D_Mod_column 60 rfl) rfl 2 rfl rfl ?_
        refine Sd_iconst (pc' := 117) (dc D_Mod_column 61 rfl) rfl ⟨by decide, by decide⟩ ?_
        refine Sd_iload (pc' := 119) (dc D_Mod_column 62 rfl) rfl 6 rfl ?_
        refine Sd.callVV (ci := 12) (t := 13) (as := [_, _]) RX12 (pc' := 122) (dc D_Mod_column 63 rfl) rfl rfl rfl rfl K_Mod_fails L_Mod_132 Ks_Mod_fails Kv_Mod_fails ⟨by decide, by decide⟩ rfl rfl (Nat.le_of_ble_eq_true rfl) (s_Mod_fails _ _ _ _) (fun _ h4 => ?_)
        refine Sd_iconst (pc' := 123) (dc D_Mod_column 64 rfl) rfl ⟨by decide, by decide⟩ ?_
        exact Sd_iret (dc D_Mod_column 65 rfl) rfl
  · refine Sd_aload_n (pc' := 84) (dc D_Mod_column 42 rfl) rfl 1 rfl rfl ?_
    refine Sd_iconst (pc' := 85) (dc D_Mod_column 43 rfl) rfl ⟨by decide, by decide⟩ ?_
    refine Sd_iload (pc' := 87) (dc D_Mod_column 44 rfl) rfl 5 rfl ?_
    refine Sd.callVV (ci := 12) (t := 13) (as := [_, _]) RX12 (pc' := 90) (dc D_Mod_column 45 rfl) rfl rfl rfl rfl K_Mod_fails L_Mod_132 Ks_Mod_fails Kv_Mod_fails ⟨by decide, by decide⟩ rfl rfl (Nat.le_of_ble_eq_true rfl) (s_Mod_fails _ _ _ _) (fun _ h7 => ?_)
    refine Sd_iconst (pc' := 91) (dc D_Mod_column 46 rfl) rfl ⟨by decide, by decide⟩ ?_
    exact Sd_iret (dc D_Mod_column 47 rfl) rfl
def Mod_column (v0 : Nat) (v1 : Int) (v2 : Int) (h : AH) : Option (Int × AH) := rc h 13 v0 <| bnd (Mod_sign v0 h) fun x2 h1 => gI h1 13 v0 19 fun x4 => gI h1 13 v0 20 fun x5 => if (x5 : Int) ≤ 0 then (bnd (Mod_in x2 97 101 h1) fun x7 h6 => if (x7 : Int) = 0 then (Mod_column_L76 v0 v1 v2 x2 x4 0 h6) else (gI h6 13 v0 19 fun x9 => gI h6 13 v0 18 fun x10 => if ((wr (x9 + 1)) : Int) = x10 then (Mod_column_L76 v0 v1 v2 x2 x4 1 h6) else (gR h6 13 v0 21 fun r11 => gI h6 13 v0 19 fun x12 => aI h6 22 r11 (wr (x12 + 1)) fun x13 => bnd (Mod_in x13 97 122 h6) fun x15 h14 => if ¬ (x15 : Int) = 0 then (Mod_column_L76 v0 v1 v2 x2 x4 0 h14) else (Mod_column_L76 v0 v1 v2 x2 x4 1 h14)))) else (some ((-1), h1))
set_option maxHeartbeats 4000000 in
set_option maxRecDepth 20000 in
theorem s_Mod_column (v0 : Nat) (v1 : Int) (v2 : Int) (h : AH) : CS M_Mod_column 2 25 emI [vr v0, vi v1, vi v2] h (Mod_column v0 v1 v2 h) := by
  refine CS.of (by decide) (Nat.le_of_ble_eq_true rfl) ?_
  show Sd M_Mod_column 2 25 emI 0 [(0, vr v0), (1, vi v1), (2, vi v2)] [] h _
  unfold Mod_column
  refine Sd_aload_n (pc' := 1) (dc D_Mod_column 0 rfl) rfl 0 rfl rfl ?_
  refine Sd.callVI (ci := 12) (t := 13) (as := []) RX12 (pc' := 4) (dc D_Mod_column 1 rfl) rfl rfl rfl rfl K_Mod_sign L_Mod_124 Ks_Mod_sign Kv_Mod_sign ⟨by decide, by decide⟩ rfl rfl (Nat.le_of_ble_eq_true rfl) (s_Mod_sign _ _) (fun x2 h1 => ?_)
  refine Sd_istore_n (pc' := 5) (l' := [(3, _), (0, _), (1, _), (2, _)]) (dc D_Mod_column 2 rfl) rfl rfl (by decide) rfl ?_
  refine Sd_aload_n (pc' := 6) (dc D_Mod_column 3 rfl) rfl 1 rfl rfl ?_
  refine Sd_getI (pc' := 9) (dc D_Mod_column 4 rfl) rfl F_Mod_117 rfl rfl ?_
  refine Sd_istore (pc' := 11) (l' := [(4, _), (3, _), (0, _), (1, _), (2, _)]) (dc D_Mod_column 5 rfl) rfl (by decide) rfl ?_
  refine Sd_aload_n (pc' := 12) (dc D_Mod_column 6 rfl) rfl 2 rfl rfl ?_
  refine Sd_getI (pc' := 15) (dc D_Mod_column 7 rfl) rfl F_Mod_114 rfl rfl ?_
  refine Sd_if_le (tgt := 20) (pc' := 18) (dc D_Mod_column 8 rfl) (by decide) rfl (fun _ => ?_) (fun _ => ?_)
  · refine Sd_iload_n (pc' := 21) (dc D_Mod_column 11 rfl) rfl 1 rfl rfl ?_
    refine Sd_i2l (pc' := 22) (dc D_Mod_column 12 rfl) rfl ?_
    refine Sd_ldc2 (n := 97) (pc' := 25) (dc D_Mod_column 13 rfl) rfl ⟨by decide, by decide⟩ Q_Mod_136 ?_
    refine Sd_ldc2 (n := 101) (pc' := 28) (dc D_Mod_column 14 rfl) rfl ⟨by decide, by decide⟩ Q_Mod_189 ?_
    refine Sd.callSI (as := [_, _, _]) (pc' := 31) (dc D_Mod_column 15 rfl) rfl K_Mod_in L_Mod_88 Ks_Mod_in ⟨by decide, by decide⟩ rfl rfl (Nat.le_of_ble_eq_true rfl) (s_Mod_in _ _ _ _) (fun x7 h6 => ?_)
    refine Sd_if_eq (tgt := 75) (pc' := 34) (dc D_Mod_column 16 rfl) (by decide) rfl (fun _ => ?_) (fun _ => ?_)
    · refine Sd_iconst (pc' := 76) (dc D_Mod_column 38 rfl) rfl ⟨by decide, by decide⟩ ?_
      refine Sd.sub (l' := [(0, _), (1, _), (2, _), (3, _), (4, _)]) [2, 3, 4, 1, 0] rfl ?_
      exact s_Mod_column_L76 _ _ _ _ _ _ _
    · refine Sd_aload_n (pc' := 35) (dc D_Mod_column 17 rfl) rfl 2 rfl rfl ?_
      refine Sd_getI (pc' := 38) (dc D_Mod_column 18 rfl) rfl F_Mod_117 rfl rfl ?_
      refine Sd_iconst (pc' := 39) (dc D_Mod_column 19 rfl) rfl ⟨by decide, by decide⟩ ?_
      refine Sd_iadd (pc' := 40) (dc D_Mod_column 20 rfl) rfl ?_
      refine Sd_aload_n (pc' := 41) (dc D_Mod_column 21 rfl) rfl 2 rfl rfl ?_
      refine Sd_getI (pc' := 44) (dc D_Mod_column 22 rfl) rfl F_Mod_107 rfl rfl ?_
      refine Sd_icmp_eq (tgt := 71) (pc' := 47) (dc D_Mod_column 23 rfl) (by decide) rfl (fun _ => ?_) (fun _ => ?_)
      · refine Sd_iconst (pc' := 72) (dc D_Mod_column 36 rfl) rfl ⟨by decide, by decide⟩ ?_
        refine Sd_goto (tgt := 76) (dc D_Mod_column 37 rfl) (by decide) ?_
        refine Sd.sub (l' := [(0, _), (1, _), (2, _), (3, _), (4, _)]) [2, 3, 4, 1, 0] rfl ?_
        exact s_Mod_column_L76 _ _ _ _ _ _ _
      · refine Sd_aload_n (pc' := 48) (dc D_Mod_column 24 rfl) rfl 2 rfl rfl ?_
        refine Sd_getR (pc' := 51) (dc D_Mod_column 25 rfl) rfl F_Mod_49 rfl rfl ?_
        refine Sd_aload_n (pc' := 52) (dc D_Mod_column 26 rfl) rfl 2 rfl rfl ?_
        refine Sd_getI (pc' := 55) (dc D_Mod_column 27 rfl) rfl F_Mod_117 rfl rfl ?_
        refine Sd_iconst (pc' := 56) (dc D_Mod_column 28 rfl) rfl ⟨by decide, by decide⟩ ?_
        refine Sd_iadd (pc' := 57) (dc D_Mod_column 29 rfl) rfl ?_
        refine Sd_baload (pc' := 58) (dc D_Mod_column 30 rfl) rfl ?_
        refine Sd_i2l (pc' := 59) (dc D_Mod_column 31 rfl) rfl ?_
        refine Sd_ldc2 (n := 97) (pc' := 62) (dc D_Mod_column 32 rfl) rfl ⟨by decide, by decide⟩ Q_Mod_136 ?_
        refine Sd_ldc2 (n := 122) (pc' := 65) (dc D_Mod_column 33 rfl) rfl ⟨by decide, by decide⟩ Q_Mod_138 ?_
        refine Sd.callSI (as := [_, _, _]) (pc' := 68) (dc D_Mod_column 34 rfl) rfl K_Mod_in L_Mod_88 Ks_Mod_in ⟨by decide, by decide⟩ rfl rfl (Nat.le_of_ble_eq_true rfl) (s_Mod_in _ _ _ _) (fun x15 h14 => ?_)
        refine Sd_if_ne (tgt := 75) (pc' := 71) (dc D_Mod_column 35 rfl) (by decide) rfl (fun _ => ?_) (fun _ => ?_)
        · refine Sd_iconst (pc' := 76) (dc D_Mod_column 38 rfl) rfl ⟨by decide, by decide⟩ ?_
          refine Sd.sub (l' := [(0, _), (1, _), (2, _), (3, _), (4, _)]) [2, 3, 4, 1, 0] rfl ?_
          exact s_Mod_column_L76 _ _ _ _ _ _ _
        · refine Sd_iconst (pc' := 72) (dc D_Mod_column 36 rfl) rfl ⟨by decide, by decide⟩ ?_
          refine Sd_goto (tgt := 76) (dc D_Mod_column 37 rfl) (by decide) ?_
          refine Sd.sub (l' := [(0, _), (1, _), (2, _), (3, _), (4, _)]) [2, 3, 4, 1, 0] rfl ?_
          exact s_Mod_column_L76 _ _ _ _ _ _ _
  · refine Sd_iconst (pc' := 19) (dc D_Mod_column 9 rfl) rfl ⟨by decide, by decide⟩ ?_
    exact Sd_iret (dc D_Mod_column 10 rfl) rfl
theorem K_Mod_column : MOk M_Mod_column 2 := ⟨Tb_at 133 (by decide +kernel) rfl, Tb_at 1447 (by decide +kernel) rfl, by decide +kernel, by decide +kernel, by decide +kernel⟩
theorem Ks_Mod_column : Cond.instanceMethod yX12_column ∈ Tb := Tb_at 1446 (by decide +kernel) rfl
theorem Kv_Mod_column : Cond.selects RX12 yX12_column yX12_column ∈ Tb := Tb_at 50 (by decide +kernel) rfl
/-! ===== BatchShareModel.sourcePart()V ===== -/
abbrev M_Mod_sourcePart : AMt := (yX12_sourcePart, cX12_sourcePart, 1, none)
def T_Mod_sourcePart : List (Nat × Instr × Nat) := [(0, .aload_n 0, 1), (1, .getfield 31, 3), (4, .aload_n 0, 1), (5, .getfield 191, 3), (8, .iconst (-1), 1), (9, .iastore, 1), (10, .aload_n 0, 1), (11, .getfield 34, 3), (14, .aload_n 0, 1), (15, .getfield 191, 3), (18, .iconst (-1), 1), (19, .iastore, 1), (20, .aload_n 0, 1), (21, .ldc 165, 2), (23, .invokevirtual 201, 3), (26, .ifCond .eq 16, 3), (29, .aload_n 0, 1), (30, .getfield 28, 3), (33, .aload_n 0, 1), (34, .getfield 191, 3), (37, .iconst 0, 1), (38, .iastore, 1), (39, .goto 141, 3), (42, .aload_n 0, 1), (43, .ldc 167, 2), (45, .invokevirtual 201, 3), (48, .ifCond .eq 16, 3), (51, .aload_n 0, 1), (52, .getfield 28, 3), (55, .aload_n 0, 1), (56, .getfield 191, 3), (59, .iconst 1, 1), (60, .iastore, 1), (61, .goto 119, 3), (64, .aload_n 0, 1), (65, .ldc 204, 2), (67, .invokevirtual 201, 3), (70, .ifCond .eq 101, 3), (73, .aload_n 0, 1), (74, .getfield 28, 3), (77, .aload_n 0, 1), (78, .getfield 191, 3), (81, .iconst 2, 1), (82, .iastore, 1), (83, .aload_n 0, 1), (84, .getfield 31, 3), (87, .aload_n 0, 1), (88, .getfield 191, 3), (91, .aload_n 0, 1), (92, .iconst 1, 1), (93, .iconst 0, 1), (94, .invokevirtual 197, 3), (97, .iastore, 1), (98, .aload_n 0, 1), (99, .dup, 1), (100, .getfield 117, 3), (103, .iconst 1, 1), (104, .iadd, 1), (105, .putfield 117, 3), (108, .aload_n 0, 1), (109, .getfield 114, 3), (112, .ifCond .ne 21, 3), (115, .aload_n 0, 1), (116, .invokevirtual 124, 3), (119, .bipush 61, 2), (121, .if_icmp .eq 12, 3), (124, .aload_n 0, 1), (125, .iconst 0, 1), (126, .aload_n 0, 1), (127, .getfield 117, 3), (130, .invokevirtual 132, 3), (133, .aload_n 0, 1), (134, .dup, 1), (135, .getfield 117, 3), (138, .iconst 1, 1), (139, .iadd, 1), (140, .putfield 117, 3), (143, .aload_n 0, 1), (144, .getfield 34, 3), (147, .aload_n 0, 1), (148, .getfield 191, 3), (151, .aload_n 0, 1), (152, .iconst 0, 1), (153, .iconst 1, 1), (154, .invokevirtual 197, 3), (157, .iastore, 1), (158, .aload_n 0, 1), (159, .dup, 1), (160, .getfield 117, 3), (163, .iconst 1, 1), (164, .iadd, 1), (165, .putfield 117, 3), (168, .goto 12, 3), (171, .aload_n 0, 1), (172, .iconst 0, 1), (173, .aload_n 0, 1), (174, .getfield 117, 3), (177, .invokevirtual 132, 3), (180, .return_, 1)]
set_option maxRecDepth 20000 in
theorem D_Mod_sourcePart : (T_Mod_sourcePart.all fun q => decide (decode M_Mod_sourcePart.2.1 q.1 = .ok q.2)) = true := by decide +kernel
def Mod_sourcePart_L133 (v0 : Nat) (h : AH) : Option (Unit × AH) := gI h 13 v0 19 fun x1 => pI h 13 v0 19 (wr (x1 + 1)) fun h2 => gR h2 13 v0 13 fun r3 => gI h2 13 v0 22 fun x4 => rc h2 13 v0 <| bnd (Mod_column v0 0 1 h2) fun x6 h5 => wI h5 21 r3 x4 x6 fun h8 => gI h8 13 v0 19 fun x9 => pI h8 13 v0 19 (wr (x9 + 1)) fun h10 => some ((), h10)
set_option maxHeartbeats 4000000 in
set_option maxRecDepth 20000 in
theorem s_Mod_sourcePart_L133 (v0 : Nat) (h : AH) : Sd M_Mod_sourcePart 8 197 emV 133 [(0, vr v0)] [] h (Mod_sourcePart_L133 v0 h) := by
  unfold Mod_sourcePart_L133
  refine Sd_aload_n (pc' := 134) (dc D_Mod_sourcePart 71 rfl) rfl 0 rfl rfl ?_
  refine Sd_dup (pc' := 135) (dc D_Mod_sourcePart 72 rfl) rfl (cat_r _) ?_
  refine Sd_getI (pc' := 138) (dc D_Mod_sourcePart 73 rfl) rfl F_Mod_117 rfl rfl ?_
  refine Sd_iconst (pc' := 139) (dc D_Mod_sourcePart 74 rfl) rfl ⟨by decide, by decide⟩ ?_
  refine Sd_iadd (pc' := 140) (dc D_Mod_sourcePart 75 rfl) rfl ?_
  refine Sd_putI (pc' := 143) (dc D_Mod_sourcePart 76 rfl) rfl F_Mod_117 rfl rfl rfl (finOk.no rfl) (by decide) ?_
  refine Sd_aload_n (pc' := 144) (dc D_Mod_sourcePart 77 rfl) rfl 0 rfl rfl ?_
  refine Sd_getR (pc' := 147) (dc D_Mod_sourcePart 78 rfl) rfl F_Mod_34 rfl rfl ?_
  refine Sd_aload_n (pc' := 148) (dc D_Mod_sourcePart 79 rfl) rfl 0 rfl rfl ?_
  refine Sd_getI (pc' := 151) (dc D_Mod_sourcePart 80 rfl) rfl F_Mod_191 rfl rfl ?_
  refine Sd_aload_n (pc' := 152) (dc D_Mod_sourcePart 81 rfl) rfl 0 rfl rfl ?_
  refine Sd_iconst (pc' := 153) (dc D_Mod_sourcePart 82 rfl) rfl ⟨by decide, by decide⟩ ?_
  refine Sd_iconst (pc' := 154) (dc D_Mod_sourcePart 83 rfl) rfl ⟨by decide, by decide⟩ ?_
  refine Sd.callVI (ci := 12) (t := 13) (as := [_, _]) RX12 (pc' := 157) (dc D_Mod_sourcePart 84 rfl) rfl rfl rfl rfl K_Mod_column L_Mod_197 Ks_Mod_column Kv_Mod_column ⟨by decide, by decide⟩ rfl rfl (Nat.le_of_ble_eq_true rfl) (s_Mod_column _ _ _ _) (fun x6 h5 => ?_)
  refine Sd_iastore (pc' := 158) (dc D_Mod_sourcePart 85 rfl) rfl (by decide) ?_
  refine Sd_aload_n (pc' := 159) (dc D_Mod_sourcePart 86 rfl) rfl 0 rfl rfl ?_
  refine Sd_dup (pc' := 160) (dc D_Mod_sourcePart 87 rfl) rfl (cat_r _) ?_
  refine Sd_getI (pc' := 163) (dc D_Mod_sourcePart 88 rfl) rfl F_Mod_117 rfl rfl ?_
  refine Sd_iconst (pc' := 164) (dc D_Mod_sourcePart 89 rfl) rfl ⟨by decide, by decide⟩ ?_
  refine Sd_iadd (pc' := 165) (dc D_Mod_sourcePart 90 rfl) rfl ?_
  refine Sd_putI (pc' := 168) (dc D_Mod_sourcePart 91 rfl) rfl F_Mod_117 rfl rfl rfl (finOk.no rfl) (by decide) ?_
  refine Sd_goto (tgt := 180) (dc D_Mod_sourcePart 92 rfl) (by decide) ?_
  exact Sd_vret (dc D_Mod_sourcePart 98 rfl) rfl
def Mod_sourcePart (v0 : Nat) (h : AH) : Option (Unit × AH) := gR h 13 v0 12 fun r1 => gI h 13 v0 22 fun x2 => wI h 21 r1 x2 (-1) fun h3 => gR h3 13 v0 13 fun r4 => gI h3 13 v0 22 fun x5 => wI h3 21 r4 x5 (-1) fun h6 => rc h6 13 v0 <| bnd (Mod_takes v0 2 h6) fun x8 h7 => if (x8 : Int) = 0 then (rc h7 13 v0 <| bnd (Mod_takes v0 3 h7) fun x11 h10 => if (x11 : Int) = 0 then (rc h10 13 v0 <| bnd (Mod_takes v0 4 h10) fun x14 h13 => if (x14 : Int) = 0 then (gI h13 13 v0 19 fun x16 => rc h13 13 v0 <| bnd (Mod_fails v0 0 x16 h13) fun _ h17 => some ((), h17)) else (gR h13 13 v0 11 fun r20 => gI h13 13 v0 22 fun x21 => wI h13 21 r20 x21 2 fun h22 => gR h22 13 v0 12 fun r23 => gI h22 13 v0 22 fun x24 => rc h22 13 v0 <| bnd (Mod_column v0 1 0 h22) fun x26 h25 => wI h25 21 r23 x24 x26 fun h28 => gI h28 13 v0 19 fun x29 => pI h28 13 v0 19 (wr (x29 + 1)) fun h30 => gI h30 13 v0 20 fun x31 => if ¬ (x31 : Int) = 0 then (Mod_sourcePart_L133 v0 h30) else (rc h30 13 v0 <| bnd (Mod_sign v0 h30) fun x33 h32 => if (x33 : Int) = 61 then (Mod_sourcePart_L133 v0 h32) else (gI h32 13 v0 19 fun x35 => rc h32 13 v0 <| bnd (Mod_fails v0 0 x35 h32) fun _ h36 => Mod_sourcePart_L133 v0 h36)))) else (gR h10 13 v0 11 fun r39 => gI h10 13 v0 22 fun x40 => wI h10 21 r39 x40 1 fun h41 => some ((), h41))) else (gR h7 13 v0 11 fun r42 => gI h7 13 v0 22 fun x43 => wI h7 21 r42 x43 0 fun h44 => some ((), h44))
set_option maxHeartbeats 4000000 in
set_option maxRecDepth 20000 in
theorem s_Mod_sourcePart (v0 : Nat) (h : AH) : CS M_Mod_sourcePart 8 197 emV [vr v0] h (Mod_sourcePart v0 h) := by
  refine CS.of (by decide) (Nat.le_of_ble_eq_true rfl) ?_
  show Sd M_Mod_sourcePart 8 197 emV 0 [(0, vr v0)] [] h _
  unfold Mod_sourcePart
  refine Sd_aload_n (pc' := 1) (dc D_Mod_sourcePart 0 rfl) rfl 0 rfl rfl ?_
  refine Sd_getR (pc' := 4) (dc D_Mod_sourcePart 1 rfl) rfl F_Mod_31 rfl rfl ?_
  refine Sd_aload_n (pc' := 5) (dc D_Mod_sourcePart 2 rfl) rfl 0 rfl rfl ?_
  refine Sd_getI (pc' := 8) (dc D_Mod_sourcePart 3 rfl) rfl F_Mod_191 rfl rfl ?_
  refine Sd_iconst (pc' := 9) (dc D_Mod_sourcePart 4 rfl) rfl ⟨by decide, by decide⟩ ?_
  refine Sd_iastore (pc' := 10) (dc D_Mod_sourcePart 5 rfl) rfl (by decide) ?_
  refine Sd_aload_n (pc' := 11) (dc D_Mod_sourcePart 6 rfl) rfl 0 rfl rfl ?_
  refine Sd_getR (pc' := 14) (dc D_Mod_sourcePart 7 rfl) rfl F_Mod_34 rfl rfl ?_
  refine Sd_aload_n (pc' := 15) (dc D_Mod_sourcePart 8 rfl) rfl 0 rfl rfl ?_
  refine Sd_getI (pc' := 18) (dc D_Mod_sourcePart 9 rfl) rfl F_Mod_191 rfl rfl ?_
  refine Sd_iconst (pc' := 19) (dc D_Mod_sourcePart 10 rfl) rfl ⟨by decide, by decide⟩ ?_
  refine Sd_iastore (pc' := 20) (dc D_Mod_sourcePart 11 rfl) rfl (by decide) ?_
  refine Sd_aload_n (pc' := 21) (dc D_Mod_sourcePart 12 rfl) rfl 0 rfl rfl ?_
  refine Sd_lds (a := 2) (pc' := 23) (dc D_Mod_sourcePart 13 rfl) rfl (by decide) (List.mem_of_getElem? (i := 8) rfl) ?_
  refine Sd.callVI (ci := 12) (t := 13) (as := [_]) RX12 (pc' := 26) (dc D_Mod_sourcePart 14 rfl) rfl rfl rfl rfl K_Mod_takes L_Mod_201 Ks_Mod_takes Kv_Mod_takes ⟨by decide, by decide⟩ rfl rfl (Nat.le_of_ble_eq_true rfl) (s_Mod_takes _ _ _) (fun x8 h7 => ?_)
  refine Sd_if_eq (tgt := 42) (pc' := 29) (dc D_Mod_sourcePart 15 rfl) (by decide) rfl (fun _ => ?_) (fun _ => ?_)
  · refine Sd_aload_n (pc' := 43) (dc D_Mod_sourcePart 23 rfl) rfl 0 rfl rfl ?_
    refine Sd_lds (a := 3) (pc' := 45) (dc D_Mod_sourcePart 24 rfl) rfl (by decide) (List.mem_of_getElem? (i := 9) rfl) ?_
    refine Sd.callVI (ci := 12) (t := 13) (as := [_]) RX12 (pc' := 48) (dc D_Mod_sourcePart 25 rfl) rfl rfl rfl rfl K_Mod_takes L_Mod_201 Ks_Mod_takes Kv_Mod_takes ⟨by decide, by decide⟩ rfl rfl (Nat.le_of_ble_eq_true rfl) (s_Mod_takes _ _ _) (fun x11 h10 => ?_)
    refine Sd_if_eq (tgt := 64) (pc' := 51) (dc D_Mod_sourcePart 26 rfl) (by decide) rfl (fun _ => ?_) (fun _ => ?_)
    · refine Sd_aload_n (pc' := 65) (dc D_Mod_sourcePart 34 rfl) rfl 0 rfl rfl ?_
      refine Sd_lds (a := 4) (pc' := 67) (dc D_Mod_sourcePart 35 rfl) rfl (by decide) (List.mem_of_getElem? (i := 10) rfl) ?_
      refine Sd.callVI (ci := 12) (t := 13) (as := [_]) RX12 (pc' := 70) (dc D_Mod_sourcePart 36 rfl) rfl rfl rfl rfl K_Mod_takes L_Mod_201 Ks_Mod_takes Kv_Mod_takes ⟨by decide, by decide⟩ rfl rfl (Nat.le_of_ble_eq_true rfl) (s_Mod_takes _ _ _) (fun x14 h13 => ?_)
      refine Sd_if_eq (tgt := 171) (pc' := 73) (dc D_Mod_sourcePart 37 rfl) (by decide) rfl (fun _ => ?_) (fun _ => ?_)
      · refine Sd_aload_n (pc' := 172) (dc D_Mod_sourcePart 93 rfl) rfl 0 rfl rfl ?_
        refine Sd_iconst (pc' := 173) (dc D_Mod_sourcePart 94 rfl) rfl ⟨by decide, by decide⟩ ?_
        refine Sd_aload_n (pc' := 174) (dc D_Mod_sourcePart 95 rfl) rfl 0 rfl rfl ?_
        refine Sd_getI (pc' := 177) (dc D_Mod_sourcePart 96 rfl) rfl F_Mod_117 rfl rfl ?_
        refine Sd.callVV (ci := 12) (t := 13) (as := [_, _]) RX12 (pc' := 180) (dc D_Mod_sourcePart 97 rfl) rfl rfl rfl rfl K_Mod_fails L_Mod_132 Ks_Mod_fails Kv_Mod_fails ⟨by decide, by decide⟩ rfl rfl (Nat.le_of_ble_eq_true rfl) (s_Mod_fails _ _ _ _) (fun _ h17 => ?_)
        exact Sd_vret (dc D_Mod_sourcePart 98 rfl) rfl
      · refine Sd_aload_n (pc' := 74) (dc D_Mod_sourcePart 38 rfl) rfl 0 rfl rfl ?_
        refine Sd_getR (pc' := 77) (dc D_Mod_sourcePart 39 rfl) rfl F_Mod_28 rfl rfl ?_
        refine Sd_aload_n (pc' := 78) (dc D_Mod_sourcePart 40 rfl) rfl 0 rfl rfl ?_
        refine Sd_getI (pc' := 81) (dc D_Mod_sourcePart 41 rfl) rfl F_Mod_191 rfl rfl ?_
        refine Sd_iconst (pc' := 82) (dc D_Mod_sourcePart 42 rfl) rfl ⟨by decide, by decide⟩ ?_
        refine Sd_iastore (pc' := 83) (dc D_Mod_sourcePart 43 rfl) rfl (by decide) ?_
        refine Sd_aload_n (pc' := 84) (dc D_Mod_sourcePart 44 rfl) rfl 0 rfl rfl ?_
        refine Sd_getR (pc' := 87) (dc D_Mod_sourcePart 45 rfl) rfl F_Mod_31 rfl rfl ?_
        refine Sd_aload_n (pc' := 88) (dc D_Mod_sourcePart 46 rfl) rfl 0 rfl rfl ?_
        refine Sd_getI (pc' := 91) (dc D_Mod_sourcePart 47 rfl) rfl F_Mod_191 rfl rfl ?_
        refine Sd_aload_n (pc' := 92) (dc D_Mod_sourcePart 48 rfl) rfl 0 rfl rfl ?_
        refine Sd_iconst (pc' := 93) (dc D_Mod_sourcePart 49 rfl) rfl ⟨by decide, by decide⟩ ?_
        refine Sd_iconst (pc' := 94) (dc D_Mod_sourcePart 50 rfl) rfl ⟨by decide, by decide⟩ ?_
        refine Sd.callVI (ci := 12) (t := 13) (as := [_, _]) RX12 (pc' := 97) (dc D_Mod_sourcePart 51 rfl) rfl rfl rfl rfl K_Mod_column L_Mod_197 Ks_Mod_column Kv_Mod_column ⟨by decide, by decide⟩ rfl rfl (Nat.le_of_ble_eq_true rfl) (s_Mod_column _ _ _ _) (fun x26 h25 => ?_)
        refine Sd_iastore (pc' := 98) (dc D_Mod_sourcePart 52 rfl) rfl (by decide) ?_
        refine Sd_aload_n (pc' := 99) (dc D_Mod_sourcePart 53 rfl) rfl 0 rfl rfl ?_
        refine Sd_dup (pc' := 100) (dc D_Mod_sourcePart 54 rfl) rfl (cat_r _) ?_
        refine Sd_getI (pc' := 103) (dc D_Mod_sourcePart 55 rfl) rfl F_Mod_117 rfl rfl ?_
        refine Sd_iconst (pc' := 104) (dc D_Mod_sourcePart 56 rfl) rfl ⟨by decide, by decide⟩ ?_
        refine Sd_iadd (pc' := 105) (dc D_Mod_sourcePart 57 rfl) rfl ?_
        refine Sd_putI (pc' := 108) (dc D_Mod_sourcePart 58 rfl) rfl F_Mod_117 rfl rfl rfl (finOk.no rfl) (by decide) ?_
        refine Sd_aload_n (pc' := 109) (dc D_Mod_sourcePart 59 rfl) rfl 0 rfl rfl ?_
        refine Sd_getI (pc' := 112) (dc D_Mod_sourcePart 60 rfl) rfl F_Mod_114 rfl rfl ?_
        refine Sd_if_ne (tgt := 133) (pc' := 115) (dc D_Mod_sourcePart 61 rfl) (by decide) rfl (fun _ => ?_) (fun _ => ?_)
        · exact s_Mod_sourcePart_L133 _ _
        · refine Sd_aload_n (pc' := 116) (dc D_Mod_sourcePart 62 rfl) rfl 0 rfl rfl ?_
          refine Sd.callVI (ci := 12) (t := 13) (as := []) RX12 (pc' := 119) (dc D_Mod_sourcePart 63 rfl) rfl rfl rfl rfl K_Mod_sign L_Mod_124 Ks_Mod_sign Kv_Mod_sign ⟨by decide, by decide⟩ rfl rfl (Nat.le_of_ble_eq_true rfl) (s_Mod_sign _ _) (fun x33 h32 => ?_)
          refine Sd_bipush (pc' := 121) (dc D_Mod_sourcePart 64 rfl) rfl ⟨by decide, by decide⟩ (by decide) ?_
          refine Sd_icmp_eq (tgt := 133) (pc' := 124) (dc D_Mod_sourcePart 65 rfl) (by decide) rfl (fun _ => ?_) (fun _ => ?_)
          · exact s_Mod_sourcePart_L133 _ _
          · refine Sd_aload_n (pc' := 125) (dc D_Mod_sourcePart 66 rfl) rfl 0 rfl rfl ?_
            refine Sd_iconst (pc' := 126) (dc D_Mod_sourcePart 67 rfl) rfl ⟨by decide, by decide⟩ ?_
            refine Sd_aload_n (pc' := 127) (dc D_Mod_sourcePart 68 rfl) rfl 0 rfl rfl ?_
            refine Sd_getI (pc' := 130) (dc D_Mod_sourcePart 69 rfl) rfl F_Mod_117 rfl rfl ?_
            refine Sd.callVV (ci := 12) (t := 13) (as := [_, _]) RX12 (pc' := 133) (dc D_Mod_sourcePart 70 rfl) rfl rfl rfl rfl K_Mod_fails L_Mod_132 Ks_Mod_fails Kv_Mod_fails ⟨by decide, by decide⟩ rfl rfl (Nat.le_of_ble_eq_true rfl) (s_Mod_fails _ _ _ _) (fun _ h36 => ?_)
            exact s_Mod_sourcePart_L133 _ _
    · refine Sd_aload_n (pc' := 52) (dc D_Mod_sourcePart 27 rfl) rfl 0 rfl rfl ?_
      refine Sd_getR (pc' := 55) (dc D_Mod_sourcePart 28 rfl) rfl F_Mod_28 rfl rfl ?_
      refine Sd_aload_n (pc' := 56) (dc D_Mod_sourcePart 29 rfl) rfl 0 rfl rfl ?_
      refine Sd_getI (pc' := 59) (dc D_Mod_sourcePart 30 rfl) rfl F_Mod_191 rfl rfl ?_
      refine Sd_iconst (pc' := 60) (dc D_Mod_sourcePart 31 rfl) rfl ⟨by decide, by decide⟩ ?_
      refine Sd_iastore (pc' := 61) (dc D_Mod_sourcePart 32 rfl) rfl (by decide) ?_
      refine Sd_goto (tgt := 180) (dc D_Mod_sourcePart 33 rfl) (by decide) ?_
      exact Sd_vret (dc D_Mod_sourcePart 98 rfl) rfl
  · refine Sd_aload_n (pc' := 30) (dc D_Mod_sourcePart 16 rfl) rfl 0 rfl rfl ?_
    refine Sd_getR (pc' := 33) (dc D_Mod_sourcePart 17 rfl) rfl F_Mod_28 rfl rfl ?_
    refine Sd_aload_n (pc' := 34) (dc D_Mod_sourcePart 18 rfl) rfl 0 rfl rfl ?_
    refine Sd_getI (pc' := 37) (dc D_Mod_sourcePart 19 rfl) rfl F_Mod_191 rfl rfl ?_
    refine Sd_iconst (pc' := 38) (dc D_Mod_sourcePart 20 rfl) rfl ⟨by decide, by decide⟩ ?_
    refine Sd_iastore (pc' := 39) (dc D_Mod_sourcePart 21 rfl) rfl (by decide) ?_
    refine Sd_goto (tgt := 180) (dc D_Mod_sourcePart 22 rfl) (by decide) ?_
    exact Sd_vret (dc D_Mod_sourcePart 98 rfl) rfl
theorem K_Mod_sourcePart : MOk M_Mod_sourcePart 0 := ⟨Tb_at 133 (by decide +kernel) rfl, Tb_at 1438 (by decide +kernel) rfl, by decide +kernel, by decide +kernel, by decide +kernel⟩
theorem Ks_Mod_sourcePart : Cond.instanceMethod yX12_sourcePart ∈ Tb := Tb_at 1437 (by decide +kernel) rfl
theorem Kv_Mod_sourcePart : Cond.selects RX12 yX12_sourcePart yX12_sourcePart ∈ Tb := Tb_at 48 (by decide +kernel) rfl
/-! ===== BatchShareModel.isOf(II)Z ===== -/
abbrev M_Mod_isOf : AMt := (yX12_isOf, cX12_isOf, 2, (some .boolean))
def T_Mod_isOf : List (Nat × Instr × Nat) := [(0, .iload_n 0, 1), (1, .iconst 2, 1), (2, .if_icmp .eq 25, 3), (5, .iload_n 0, 1), (6, .ifCond .ne 7, 3), (9, .iconst 1, 1), (10, .goto 4, 3), (13, .iconst 0, 1), (14, .iload_n 1, 1), (15, .iconst 3, 1), (16, .if_icmp .ge 7, 3), (19, .iconst 1, 1), (20, .goto 4, 3), (23, .iconst 0, 1), (24, .if_icmp .ne 7, 3), (27, .iconst 1, 1), (28, .goto 4, 3), (31, .iconst 0, 1), (32, .ireturn, 1)]
set_option maxRecDepth 20000 in
theorem D_Mod_isOf : (T_Mod_isOf.all fun q => decide (decode M_Mod_isOf.2.1 q.1 = .ok q.2)) = true := by decide +kernel
def Mod_isOf_L14 (v1 : Int) (s0 : Int) (h : AH) : Option (Int × AH) := if (3 : Int) ≤ v1 then (if ¬ (s0 : Int) = 0 then (some (0, h)) else (some (1, h))) else (if ¬ (s0 : Int) = 1 then (some (0, h)) else (some (1, h)))
set_option maxHeartbeats 4000000 in
set_option maxRecDepth 20000 in
theorem s_Mod_isOf_L14 (v1 : Int) (s0 : Int) (h : AH) : Sd M_Mod_isOf 1 0 emI 14 [(1, vi v1)] [vi s0] h (Mod_isOf_L14 v1 s0 h) := by
  unfold Mod_isOf_L14
  refine Sd_iload_n (pc' := 15) (dc D_Mod_isOf 8 rfl) rfl 0 rfl rfl ?_
  refine Sd_iconst (pc' := 16) (dc D_Mod_isOf 9 rfl) rfl ⟨by decide, by decide⟩ ?_
  refine Sd_icmp_ge (tgt := 23) (pc' := 19) (dc D_Mod_isOf 10 rfl) (by decide) rfl (fun _ => ?_) (fun _ => ?_)
  · refine Sd_iconst (pc' := 24) (dc D_Mod_isOf 13 rfl) rfl ⟨by decide, by decide⟩ ?_
    refine Sd_icmp_ne (tgt := 31) (pc' := 27) (dc D_Mod_isOf 14 rfl) (by decide) rfl (fun _ => ?_) (fun _ => ?_)
    · refine Sd_iconst (pc' := 32) (dc D_Mod_isOf 17 rfl) rfl ⟨by decide, by decide⟩ ?_
      exact Sd_zret (dc D_Mod_isOf 18 rfl) rfl (Or.inl rfl)
    · refine Sd_iconst (pc' := 28) (dc D_Mod_isOf 15 rfl) rfl ⟨by decide, by decide⟩ ?_
      refine Sd_goto (tgt := 32) (dc D_Mod_isOf 16 rfl) (by decide) ?_
      exact Sd_zret (dc D_Mod_isOf 18 rfl) rfl (Or.inr rfl)
  · refine Sd_iconst (pc' := 20) (dc D_Mod_isOf 11 rfl) rfl ⟨by decide, by decide⟩ ?_
    refine Sd_goto (tgt := 24) (dc D_Mod_isOf 12 rfl) (by decide) ?_
    refine Sd_icmp_ne (tgt := 31) (pc' := 27) (dc D_Mod_isOf 14 rfl) (by decide) rfl (fun _ => ?_) (fun _ => ?_)
    · refine Sd_iconst (pc' := 32) (dc D_Mod_isOf 17 rfl) rfl ⟨by decide, by decide⟩ ?_
      exact Sd_zret (dc D_Mod_isOf 18 rfl) rfl (Or.inl rfl)
    · refine Sd_iconst (pc' := 28) (dc D_Mod_isOf 15 rfl) rfl ⟨by decide, by decide⟩ ?_
      refine Sd_goto (tgt := 32) (dc D_Mod_isOf 16 rfl) (by decide) ?_
      exact Sd_zret (dc D_Mod_isOf 18 rfl) rfl (Or.inr rfl)
def Mod_isOf (v0 : Int) (v1 : Int) (h : AH) : Option (Int × AH) := if (v0 : Int) = 2 then (some (1, h)) else (if ¬ (v0 : Int) = 0 then (Mod_isOf_L14 v1 0 h) else (Mod_isOf_L14 v1 1 h))
set_option maxHeartbeats 4000000 in
set_option maxRecDepth 20000 in
theorem s_Mod_isOf (v0 : Int) (v1 : Int) (h : AH) : CS M_Mod_isOf 1 0 emI [vi v0, vi v1] h (Mod_isOf v0 v1 h) := by
  refine CS.of (by decide) (Nat.le_of_ble_eq_true rfl) ?_
  show Sd M_Mod_isOf 1 0 emI 0 [(0, vi v0), (1, vi v1)] [] h _
  unfold Mod_isOf
  refine Sd_iload_n (pc' := 1) (dc D_Mod_isOf 0 rfl) rfl 0 rfl rfl ?_
  refine Sd_iconst (pc' := 2) (dc D_Mod_isOf 1 rfl) rfl ⟨by decide, by decide⟩ ?_
  refine Sd_icmp_eq (tgt := 27) (pc' := 5) (dc D_Mod_isOf 2 rfl) (by decide) rfl (fun _ => ?_) (fun _ => ?_)
  · refine Sd_iconst (pc' := 28) (dc D_Mod_isOf 15 rfl) rfl ⟨by decide, by decide⟩ ?_
    refine Sd_goto (tgt := 32) (dc D_Mod_isOf 16 rfl) (by decide) ?_
    exact Sd_zret (dc D_Mod_isOf 18 rfl) rfl (Or.inr rfl)
  · refine Sd_iload_n (pc' := 6) (dc D_Mod_isOf 3 rfl) rfl 0 rfl rfl ?_
    refine Sd_if_ne (tgt := 13) (pc' := 9) (dc D_Mod_isOf 4 rfl) (by decide) rfl (fun _ => ?_) (fun _ => ?_)
    · refine Sd_iconst (pc' := 14) (dc D_Mod_isOf 7 rfl) rfl ⟨by decide, by decide⟩ ?_
      refine Sd.sub (l' := [(1, _)]) [1] rfl ?_
      exact s_Mod_isOf_L14 _ _ _
    · refine Sd_iconst (pc' := 10) (dc D_Mod_isOf 5 rfl) rfl ⟨by decide, by decide⟩ ?_
      refine Sd_goto (tgt := 14) (dc D_Mod_isOf 6 rfl) (by decide) ?_
      refine Sd.sub (l' := [(1, _)]) [1] rfl ?_
      exact s_Mod_isOf_L14 _ _ _
theorem K_Mod_isOf : MOk M_Mod_isOf 2 := ⟨Tb_at 133 (by decide +kernel) rfl, Tb_at 1455 (by decide +kernel) rfl, by decide +kernel, by decide +kernel, by decide +kernel⟩
theorem Ks_Mod_isOf : Cond.static yX12_isOf ∈ Tb := Tb_at 1454 (by decide +kernel) rfl
/-! ===== BatchShareModel.showsAll()V ===== -/
abbrev M_Mod_showsAll : AMt := (yX12_showsAll, cX12_showsAll, 2, none)
def T_Mod_showsAll : List (Nat × Instr × Nat) := [(0, .aload_n 0, 1), (1, .getfield 43, 3), (4, .aload_n 0, 1), (5, .getfield 191, 3), (8, .iconst 0, 1), (9, .iastore, 1), (10, .iconst 0, 1), (11, .istore_n 1, 1), (12, .iload_n 1, 1), (13, .iconst 5, 1), (14, .if_icmp .ge 60, 3), (17, .aload_n 0, 1), (18, .getfield 28, 3), (21, .aload_n 0, 1), (22, .getfield 191, 3), (25, .iaload, 1), (26, .iload_n 1, 1), (27, .invokestatic 194, 3), (30, .ifCond .eq 38, 3), (33, .aload_n 0, 1), (34, .getfield 46, 3), (37, .iconst 5, 1), (38, .aload_n 0, 1), (39, .getfield 191, 3), (42, .imul, 1), (43, .aload_n 0, 1), (44, .getfield 43, 3), (47, .aload_n 0, 1), (48, .getfield 191, 3), (51, .iaload, 1), (52, .iadd, 1), (53, .iload_n 1, 1), (54, .iastore, 1), (55, .aload_n 0, 1), (56, .getfield 43, 3), (59, .aload_n 0, 1), (60, .getfield 191, 3), (63, .dup2, 1), (64, .iaload, 1), (65, .iconst 1, 1), (66, .iadd, 1), (67, .iastore, 1), (68, .iinc 1 1, 3), (71, .goto (-59), 3), (74, .return_, 1)]
set_option maxRecDepth 20000 in
theorem D_Mod_showsAll : (T_Mod_showsAll.all fun q => decide (decode M_Mod_showsAll.2.1 q.1 = .ok q.2)) = true := by decide +kernel
def Mod_showsAll_L12 : Nat → Nat → Int → AH → Option (Unit × AH)
  | 0, _, _, _ => none
  | n + 1, v0, v1, h => if (5 : Int) ≤ v1 then (some ((), h)) else (gR h 13 v0 11 fun r1 => gI h 13 v0 22 fun x2 => aI h 21 r1 x2 fun x3 => bnd (Mod_isOf x3 v1 h) fun x5 h4 => if (x5 : Int) = 0 then (Mod_showsAll_L12 n v0 ((wr (v1 + 1))) h4) else (gR h4 13 v0 17 fun r7 => gI h4 13 v0 22 fun x8 => gR h4 13 v0 16 fun r9 => gI h4 13 v0 22 fun x10 => aI h4 21 r9 x10 fun x11 => wI h4 21 r7 (wr ((wr (5 * x8)) + x11)) v1 fun h12 => gR h12 13 v0 16 fun r13 => gI h12 13 v0 22 fun x14 => aI h12 21 r13 x14 fun x15 => wI h12 21 r13 x14 (wr (x15 + 1)) fun h16 => Mod_showsAll_L12 n v0 ((wr (v1 + 1))) h16))
set_option maxHeartbeats 4000000 in
set_option maxRecDepth 20000 in
theorem s_Mod_showsAll_L12 : ∀ (n : Nat) (v0 : Nat) (v1 : Int) (h : AH), Sd M_Mod_showsAll 2 21 emV 12 [(0, vr v0), (1, vi v1)] [] h (Mod_showsAll_L12 n v0 v1 h)
  | 0, _, _, _ => Sd.none
  | n + 1, v0, v1, h => by
    rw [Mod_showsAll_L12]
    refine Sd_iload_n (pc' := 13) (dc D_Mod_showsAll 8 rfl) rfl 1 rfl rfl ?_
    refine Sd_iconst (pc' := 14) (dc D_Mod_showsAll 9 rfl) rfl ⟨by decide, by decide⟩ ?_
    refine Sd_icmp_ge (tgt := 74) (pc' := 17) (dc D_Mod_showsAll 10 rfl) (by decide) rfl (fun _ => ?_) (fun _ => ?_)
    · exact Sd_vret (dc D_Mod_showsAll 44 rfl) rfl
    · refine Sd_aload_n (pc' := 18) (dc D_Mod_showsAll 11 rfl) rfl 0 rfl rfl ?_
      refine Sd_getR (pc' := 21) (dc D_Mod_showsAll 12 rfl) rfl F_Mod_28 rfl rfl ?_
      refine Sd_aload_n (pc' := 22) (dc D_Mod_showsAll 13 rfl) rfl 0 rfl rfl ?_
      refine Sd_getI (pc' := 25) (dc D_Mod_showsAll 14 rfl) rfl F_Mod_191 rfl rfl ?_
      refine Sd_iaload (pc' := 26) (dc D_Mod_showsAll 15 rfl) rfl ?_
      refine Sd_iload_n (pc' := 27) (dc D_Mod_showsAll 16 rfl) rfl 1 rfl rfl ?_
      refine Sd.callSI (as := [_, _]) (pc' := 30) (dc D_Mod_showsAll 17 rfl) rfl K_Mod_isOf L_Mod_194 Ks_Mod_isOf ⟨by decide, by decide⟩ rfl rfl (Nat.le_of_ble_eq_true rfl) (s_Mod_isOf _ _ _) (fun x5 h4 => ?_)
      refine Sd_if_eq (tgt := 68) (pc' := 33) (dc D_Mod_showsAll 18 rfl) (by decide) rfl (fun _ => ?_) (fun _ => ?_)
      · refine Sd_iinc (pc' := 71) (l' := [(1, _), (0, _)]) (dc D_Mod_showsAll 42 rfl) rfl 1 rfl (by decide) rfl ?_
        refine Sd_goto (tgt := 12) (dc D_Mod_showsAll 43 rfl) (by decide) ?_
        refine Sd.sub (l' := [(0, _), (1, _)]) [1, 0] rfl ?_
        exact s_Mod_showsAll_L12 n _ _ _
      · refine Sd_aload_n (pc' := 34) (dc D_Mod_showsAll 19 rfl) rfl 0 rfl rfl ?_
        refine Sd_getR (pc' := 37) (dc D_Mod_showsAll 20 rfl) rfl F_Mod_46 rfl rfl ?_
        refine Sd_iconst (pc' := 38) (dc D_Mod_showsAll 21 rfl) rfl ⟨by decide, by decide⟩ ?_
        refine Sd_aload_n (pc' := 39) (dc D_Mod_showsAll 22 rfl) rfl 0 rfl rfl ?_
        refine Sd_getI (pc' := 42) (dc D_Mod_showsAll 23 rfl) rfl F_Mod_191 rfl rfl ?_
        refine Sd_imul (pc' := 43) (dc D_Mod_showsAll 24 rfl) rfl ?_
        refine Sd_aload_n (pc' := 44) (dc D_Mod_showsAll 25 rfl) rfl 0 rfl rfl ?_
        refine Sd_getR (pc' := 47) (dc D_Mod_showsAll 26 rfl) rfl F_Mod_43 rfl rfl ?_
        refine Sd_aload_n (pc' := 48) (dc D_Mod_showsAll 27 rfl) rfl 0 rfl rfl ?_
        refine Sd_getI (pc' := 51) (dc D_Mod_showsAll 28 rfl) rfl F_Mod_191 rfl rfl ?_
        refine Sd_iaload (pc' := 52) (dc D_Mod_showsAll 29 rfl) rfl ?_
        refine Sd_iadd (pc' := 53) (dc D_Mod_showsAll 30 rfl) rfl ?_
        refine Sd_iload_n (pc' := 54) (dc D_Mod_showsAll 31 rfl) rfl 1 rfl rfl ?_
        refine Sd_iastore (pc' := 55) (dc D_Mod_showsAll 32 rfl) rfl (by decide) ?_
        refine Sd_aload_n (pc' := 56) (dc D_Mod_showsAll 33 rfl) rfl 0 rfl rfl ?_
        refine Sd_getR (pc' := 59) (dc D_Mod_showsAll 34 rfl) rfl F_Mod_43 rfl rfl ?_
        refine Sd_aload_n (pc' := 60) (dc D_Mod_showsAll 35 rfl) rfl 0 rfl rfl ?_
        refine Sd_getI (pc' := 63) (dc D_Mod_showsAll 36 rfl) rfl F_Mod_191 rfl rfl ?_
        refine Sd_dup2 (pc' := 64) (dc D_Mod_showsAll 37 rfl) rfl (cat_i _) (cat_r _) ?_
        refine Sd_iaload (pc' := 65) (dc D_Mod_showsAll 38 rfl) rfl ?_
        refine Sd_iconst (pc' := 66) (dc D_Mod_showsAll 39 rfl) rfl ⟨by decide, by decide⟩ ?_
        refine Sd_iadd (pc' := 67) (dc D_Mod_showsAll 40 rfl) rfl ?_
        refine Sd_iastore (pc' := 68) (dc D_Mod_showsAll 41 rfl) rfl (by decide) ?_
        refine Sd_iinc (pc' := 71) (l' := [(1, _), (0, _)]) (dc D_Mod_showsAll 42 rfl) rfl 1 rfl (by decide) rfl ?_
        refine Sd_goto (tgt := 12) (dc D_Mod_showsAll 43 rfl) (by decide) ?_
        refine Sd.sub (l' := [(0, _), (1, _)]) [1, 0] rfl ?_
        exact s_Mod_showsAll_L12 n _ _ _
def Mod_showsAll (v0 : Nat) (h : AH) : Option (Unit × AH) := gR h 13 v0 16 fun r1 => gI h 13 v0 22 fun x2 => wI h 21 r1 x2 0 fun h3 => Mod_showsAll_L12 FU v0 0 h3
set_option maxHeartbeats 4000000 in
set_option maxRecDepth 20000 in
theorem s_Mod_showsAll (v0 : Nat) (h : AH) : CS M_Mod_showsAll 2 21 emV [vr v0] h (Mod_showsAll v0 h) := by
  refine CS.of (by decide) (Nat.le_of_ble_eq_true rfl) ?_
  show Sd M_Mod_showsAll 2 21 emV 0 [(0, vr v0)] [] h _
  unfold Mod_showsAll
  refine Sd_aload_n (pc' := 1) (dc D_Mod_showsAll 0 rfl) rfl 0 rfl rfl ?_
  refine Sd_getR (pc' := 4) (dc D_Mod_showsAll 1 rfl) rfl F_Mod_43 rfl rfl ?_
  refine Sd_aload_n (pc' := 5) (dc D_Mod_showsAll 2 rfl) rfl 0 rfl rfl ?_
  refine Sd_getI (pc' := 8) (dc D_Mod_showsAll 3 rfl) rfl F_Mod_191 rfl rfl ?_
  refine Sd_iconst (pc' := 9) (dc D_Mod_showsAll 4 rfl) rfl ⟨by decide, by decide⟩ ?_
  refine Sd_iastore (pc' := 10) (dc D_Mod_showsAll 5 rfl) rfl (by decide) ?_
  refine Sd_iconst (pc' := 11) (dc D_Mod_showsAll 6 rfl) rfl ⟨by decide, by decide⟩ ?_
  refine Sd_istore_n (pc' := 12) (l' := [(1, _), (0, _)]) (dc D_Mod_showsAll 7 rfl) rfl rfl (by decide) rfl ?_
  refine Sd.sub (l' := [(0, _), (1, _)]) [1, 0] rfl ?_
  exact s_Mod_showsAll_L12 FU _ _ _
theorem K_Mod_showsAll : MOk M_Mod_showsAll 0 := ⟨Tb_at 133 (by decide +kernel) rfl, Tb_at 1452 (by decide +kernel) rfl, by decide +kernel, by decide +kernel, by decide +kernel⟩
theorem Ks_Mod_showsAll : Cond.instanceMethod yX12_showsAll ∈ Tb := Tb_at 1451 (by decide +kernel) rfl
theorem Kv_Mod_showsAll : Cond.selects RX12 yX12_showsAll yX12_showsAll ∈ Tb := Tb_at 51 (by decide +kernel) rfl
/-! ===== BatchShareModel.columnOf()I ===== -/
abbrev M_Mod_columnOf : AMt := (yX12_columnOf, cX12_columnOf, 1, (some .int))
def T_Mod_columnOf : List (Nat × Instr × Nat) := [(0, .aload_n 0, 1), (1, .aload_n 0, 1), (2, .getfield 28, 3), (5, .aload_n 0, 1), (6, .getfield 191, 3), (9, .iaload, 1), (10, .iconst 0, 1), (11, .invokestatic 194, 3), (14, .aload_n 0, 1), (15, .getfield 28, 3), (18, .aload_n 0, 1), (19, .getfield 191, 3), (22, .iaload, 1), (23, .iconst 3, 1), (24, .invokestatic 194, 3), (27, .invokevirtual 197, 3), (30, .ireturn, 1)]
set_option maxRecDepth 20000 in
theorem D_Mod_columnOf : (T_Mod_columnOf.all fun q => decide (decode M_Mod_columnOf.2.1 q.1 = .ok q.2)) = true := by decide +kernel
def Mod_columnOf (v0 : Nat) (h : AH) : Option (Int × AH) := gR h 13 v0 11 fun r1 => gI h 13 v0 22 fun x2 => aI h 21 r1 x2 fun x3 => bnd (Mod_isOf x3 0 h) fun x5 h4 => gR h4 13 v0 11 fun r7 => gI h4 13 v0 22 fun x8 => aI h4 21 r7 x8 fun x9 => bnd (Mod_isOf x9 3 h4) fun x11 h10 => rc h10 13 v0 <| bnd (Mod_column v0 x5 x11 h10) fun x14 h13 => some (x14, h13)
set_option maxHeartbeats 4000000 in
set_option maxRecDepth 20000 in
theorem s_Mod_columnOf (v0 : Nat) (h : AH) : CS M_Mod_columnOf 3 51 emI [vr v0] h (Mod_columnOf v0 h) := by
  refine CS.of (by decide) (Nat.le_of_ble_eq_true rfl) ?_
  show Sd M_Mod_columnOf 3 51 emI 0 [(0, vr v0)] [] h _
  unfold Mod_columnOf
  refine Sd_aload_n (pc' := 1) (dc D_Mod_columnOf 0 rfl) rfl 0 rfl rfl ?_
  refine Sd_aload_n (pc' := 2) (dc D_Mod_columnOf 1 rfl) rfl 0 rfl rfl ?_
  refine Sd_getR (pc' := 5) (dc D_Mod_columnOf 2 rfl) rfl F_Mod_28 rfl rfl ?_
  refine Sd_aload_n (pc' := 6) (dc D_Mod_columnOf 3 rfl) rfl 0 rfl rfl ?_
  refine Sd_getI (pc' := 9) (dc D_Mod_columnOf 4 rfl) rfl F_Mod_191 rfl rfl ?_
  refine Sd_iaload (pc' := 10) (dc D_Mod_columnOf 5 rfl) rfl ?_
  refine Sd_iconst (pc' := 11) (dc D_Mod_columnOf 6 rfl) rfl ⟨by decide, by decide⟩ ?_
  refine Sd.callSI (as := [_, _]) (pc' := 14) (dc D_Mod_columnOf 7 rfl) rfl K_Mod_isOf L_Mod_194 Ks_Mod_isOf ⟨by decide, by decide⟩ rfl rfl (Nat.le_of_ble_eq_true rfl) (s_Mod_isOf _ _ _) (fun x5 h4 => ?_)
  refine Sd_aload_n (pc' := 15) (dc D_Mod_columnOf 8 rfl) rfl 0 rfl rfl ?_
  refine Sd_getR (pc' := 18) (dc D_Mod_columnOf 9 rfl) rfl F_Mod_28 rfl rfl ?_
  refine Sd_aload_n (pc' := 19) (dc D_Mod_columnOf 10 rfl) rfl 0 rfl rfl ?_
  refine Sd_getI (pc' := 22) (dc D_Mod_columnOf 11 rfl) rfl F_Mod_191 rfl rfl ?_
  refine Sd_iaload (pc' := 23) (dc D_Mod_columnOf 12 rfl) rfl ?_
  refine Sd_iconst (pc' := 24) (dc D_Mod_columnOf 13 rfl) rfl ⟨by decide, by decide⟩ ?_
  refine Sd.callSI (as := [_, _]) (pc' := 27) (dc D_Mod_columnOf 14 rfl) rfl K_Mod_isOf L_Mod_194 Ks_Mod_isOf ⟨by decide, by decide⟩ rfl rfl (Nat.le_of_ble_eq_true rfl) (s_Mod_isOf _ _ _) (fun x11 h10 => ?_)
  refine Sd.callVI (ci := 12) (t := 13) (as := [_, _]) RX12 (pc' := 30) (dc D_Mod_columnOf 15 rfl) rfl rfl rfl rfl K_Mod_column L_Mod_197 Ks_Mod_column Kv_Mod_column ⟨by decide, by decide⟩ rfl rfl (Nat.le_of_ble_eq_true rfl) (s_Mod_column _ _ _ _) (fun x14 h13 => ?_)
  exact Sd_iret (dc D_Mod_columnOf 16 rfl) rfl
theorem K_Mod_columnOf : MOk M_Mod_columnOf 0 := ⟨Tb_at 133 (by decide +kernel) rfl, Tb_at 1472 (by decide +kernel) rfl, by decide +kernel, by decide +kernel, by decide +kernel⟩
theorem Ks_Mod_columnOf : Cond.instanceMethod yX12_columnOf ∈ Tb := Tb_at 1471 (by decide +kernel) rfl
theorem Kv_Mod_columnOf : Cond.selects RX12 yX12_columnOf yX12_columnOf ∈ Tb := Tb_at 55 (by decide +kernel) rfl
/-! ===== BatchShareModel.bounds(III)V ===== -/
abbrev M_Mod_bounds : AMt := (yX12_bounds, cX12_bounds, 5, none)
def T_Mod_bounds : List (Nat × Instr × Nat) := [(0, .iconst 5, 1), (1, .aload_n 0, 1), (2, .getfield 191, 3), (5, .imul, 1), (6, .iload_n 1, 1), (7, .iadd, 1), (8, .istore 4, 2), (10, .aload_n 0, 1), (11, .getfield 37, 3), (14, .iload 4, 2), (16, .iload_n 2, 1), (17, .aload_n 0, 1), (18, .getfield 37, 3), (21, .iload 4, 2), (23, .iaload, 1), (24, .if_icmp .le 7, 3), (27, .iload_n 2, 1), (28, .goto 10, 3), (31, .aload_n 0, 1), (32, .getfield 37, 3), (35, .iload 4, 2), (37, .iaload, 1), (38, .iastore, 1), (39, .aload_n 0, 1), (40, .getfield 40, 3), (43, .iload 4, 2), (45, .iload_n 3, 1), (46, .aload_n 0, 1), (47, .getfield 40, 3), (50, .iload 4, 2), (52, .iaload, 1), (53, .if_icmp .ge 7, 3), (56, .iload_n 3, 1), (57, .goto 10, 3), (60, .aload_n 0, 1), (61, .getfield 40, 3), (64, .iload 4, 2), (66, .iaload, 1), (67, .iastore, 1), (68, .return_, 1)]
set_option maxRecDepth 20000 in
theorem D_Mod_bounds : (T_Mod_bounds.all fun q => decide (decode M_Mod_bounds.2.1 q.1 = .ok q.2)) = true := by decide +kernel
def Mod_bounds_L38 (v0 : Nat) (v3 : Int) (v4 : Int) (s0 : Int) (s1 : Int) (s2 : Nat) (h : AH) : Option (Unit × AH) := wI h 21 s2 s1 s0 fun h1 => gR h1 13 v0 15 fun r2 => gR h1 13 v0 15 fun r3 => aI h1 21 r3 v4 fun x4 => if (x4 : Int) ≤ v3 then (gR h1 13 v0 15 fun r5 => aI h1 21 r5 v4 fun x6 => wI h1 21 r2 v4 x6 fun h7 => some ((), h7)) else (wI h1 21 r2 v4 v3 fun h8 => some ((), h8))
set_option maxHeartbeats 4000000 in
set_option maxRecDepth 20000 in
theorem s_Mod_bounds_L38 (v0 : Nat) (v3 : Int) (v4 : Int) (s0 : Int) (s1 : Int) (s2 : Nat) (h : AH) : Sd M_Mod_bounds 1 0 emV 38 [(0, vr v0), (3, vi v3), (4, vi v4)] [vi s0, vi s1, vr s2] h (Mod_bounds_L38 v0 v3 v4 s0 s1 s2 h) := by
  unfold Mod_bounds_L38
  refine Sd_iastore (pc' := 39) (dc D_Mod_bounds 22 rfl) rfl (by decide) ?_
  refine Sd_aload_n (pc' := 40) (dc D_Mod_bounds 23 rfl) rfl 0 rfl rfl ?_
  refine Sd_getR (pc' := 43) (dc D_Mod_bounds 24 rfl) rfl F_Mod_40 rfl rfl ?_
  refine Sd_iload (pc' := 45) (dc D_Mod_bounds 25 rfl) rfl 2 rfl ?_
  refine Sd_iload_n (pc' := 46) (dc D_Mod_bounds 26 rfl) rfl 1 rfl rfl ?_
  refine Sd_aload_n (pc' := 47) (dc D_Mod_bounds 27 rfl) rfl 0 rfl rfl ?_
  refine Sd_getR (pc' := 50) (dc D_Mod_bounds 28 rfl) rfl F_Mod_40 rfl rfl ?_
  refine Sd_iload (pc' := 52) (dc D_Mod_bounds 29 rfl) rfl 2 rfl ?_
  refine Sd_iaload (pc' := 53) (dc D_Mod_bounds 30 rfl) rfl ?_
  refine Sd_icmp_ge (tgt := 60) (pc' := 56) (dc D_Mod_bounds 31 rfl) (by decide) rfl (fun _ => ?_) (fun _ => ?_)
  · refine Sd_aload_n (pc' := 61) (dc D_Mod_bounds 34 rfl) rfl 0 rfl rfl ?_
    refine Sd_getR (pc' := 64) (dc D_Mod_bounds 35 rfl) rfl F_Mod_40 rfl rfl ?_
    refine Sd_iload (pc' := 66) (dc D_Mod_bounds 36 rfl) rfl 2 rfl ?_
    refine Sd_iaload (pc' := 67) (dc D_Mod_bounds 37 rfl) rfl ?_
    refine Sd_iastore (pc' := 68) (dc D_Mod_bounds 38 rfl) rfl (by decide) ?_
    exact Sd_vret (dc D_Mod_bounds 39 rfl) rfl
  · refine Sd_iload_n (pc' := 57) (dc D_Mod_bounds 32 rfl) rfl 1 rfl rfl ?_
    refine Sd_goto (tgt := 67) (dc D_Mod_bounds 33 rfl) (by decide) ?_
    refine Sd_iastore (pc' := 68) (dc D_Mod_bounds 38 rfl) rfl (by decide) ?_
    exact Sd_vret (dc D_Mod_bounds 39 rfl) rfl
def Mod_bounds (v0 : Nat) (v1 : Int) (v2 : Int) (v3 : Int) (h : AH) : Option (Unit × AH) := gI h 13 v0 22 fun x1 => gR h 13 v0 14 fun r2 => gR h 13 v0 14 fun r3 => aI h 21 r3 (wr ((wr (5 * x1)) + v1)) fun x4 => if (v2 : Int) ≤ x4 then (gR h 13 v0 14 fun r5 => aI h 21 r5 (wr ((wr (5 * x1)) + v1)) fun x6 => Mod_bounds_L38 v0 v3 ((wr ((wr (5 * x1)) + v1))) x6 ((wr ((wr (5 * x1)) + v1))) r2 h) else (Mod_bounds_L38 v0 v3 ((wr ((wr (5 * x1)) + v1))) v2 ((wr ((wr (5 * x1)) + v1))) r2 h)
set_option maxHeartbeats 4000000 in
set_option maxRecDepth 20000 in
theorem s_Mod_bounds (v0 : Nat) (v1 : Int) (v2 : Int) (v3 : Int) (h : AH) : CS M_Mod_bounds 1 0 emV [vr v0, vi v1, vi v2, vi v3] h (Mod_bounds v0 v1 v2 v3 h) := by
  refine CS.of (by decide) (Nat.le_of_ble_eq_true rfl) ?_
  show Sd M_Mod_bounds 1 0 emV 0 [(0, vr v0), (1, vi v1), (2, vi v2), (3, vi v3)] [] h _
  unfold Mod_bounds
  refine Sd_iconst (pc' := 1) (dc D_Mod_bounds 0 rfl) rfl ⟨by decide, by decide⟩ ?_
  refine Sd_aload_n (pc' := 2) (dc D_Mod_bounds 1 rfl) rfl 0 rfl rfl ?_
  refine Sd_getI (pc' := 5) (dc D_Mod_bounds 2 rfl) rfl F_Mod_191 rfl rfl ?_
  refine Sd_imul (pc' := 6) (dc D_Mod_bounds 3 rfl) rfl ?_
  refine Sd_iload_n (pc' := 7) (dc D_Mod_bounds 4 rfl) rfl 1 rfl rfl ?_
  refine Sd_iadd (pc' := 8) (dc D_Mod_bounds 5 rfl) rfl ?_
  refine Sd_istore (pc' := 10) (l' := [(4, _), (0, _), (1, _), (2, _), (3, _)]) (dc D_Mod_bounds 6 rfl) rfl (by decide) rfl ?_
  refine Sd_aload_n (pc' := 11) (dc D_Mod_bounds 7 rfl) rfl 1 rfl rfl ?_
  refine Sd_getR (pc' := 14) (dc D_Mod_bounds 8 rfl) rfl F_Mod_37 rfl rfl ?_
  refine Sd_iload (pc' := 16) (dc D_Mod_bounds 9 rfl) rfl 0 rfl ?_
  refine Sd_iload_n (pc' := 17) (dc D_Mod_bounds 10 rfl) rfl 3 rfl rfl ?_
  refine Sd_aload_n (pc' := 18) (dc D_Mod_bounds 11 rfl) rfl 1 rfl rfl ?_
  refine Sd_getR (pc' := 21) (dc D_Mod_bounds 12 rfl) rfl F_Mod_37 rfl rfl ?_
  refine Sd_iload (pc' := 23) (dc D_Mod_bounds 13 rfl) rfl 0 rfl ?_
  refine Sd_iaload (pc' := 24) (dc D_Mod_bounds 14 rfl) rfl ?_
  refine Sd_icmp_le (tgt := 31) (pc' := 27) (dc D_Mod_bounds 15 rfl) (by decide) rfl (fun _ => ?_) (fun _ => ?_)
  · refine Sd_aload_n (pc' := 32) (dc D_Mod_bounds 18 rfl) rfl 1 rfl rfl ?_
    refine Sd_getR (pc' := 35) (dc D_Mod_bounds 19 rfl) rfl F_Mod_37 rfl rfl ?_
    refine Sd_iload (pc' := 37) (dc D_Mod_bounds 20 rfl) rfl 0 rfl ?_
    refine Sd_iaload (pc' := 38) (dc D_Mod_bounds 21 rfl) rfl ?_
    refine Sd.sub (l' := [(0, _), (3, _), (4, _)]) [1, 4, 0] rfl ?_
    exact s_Mod_bounds_L38 _ _ _ _ _ _ _
  · refine Sd_iload_n (pc' := 28) (dc D_Mod_bounds 16 rfl) rfl 3 rfl rfl ?_
    refine Sd_goto (tgt := 38) (dc D_Mod_bounds 17 rfl) (by decide) ?_
    refine Sd.sub (l' := [(0, _), (3, _), (4, _)]) [1, 4, 0] rfl ?_
    exact s_Mod_bounds_L38 _ _ _ _ _ _ _
theorem K_Mod_bounds : MOk M_Mod_bounds 3 := ⟨Tb_at 133 (by decide +kernel) rfl, Tb_at 1476 (by decide +kernel) rfl, by decide +kernel, by decide +kernel, by decide +kernel⟩
theorem Ks_Mod_bounds : Cond.instanceMethod yX12_bounds ∈ Tb := Tb_at 1475 (by decide +kernel) rfl
theorem Kv_Mod_bounds : Cond.selects RX12 yX12_bounds yX12_bounds ∈ Tb := Tb_at 56 (by decide +kernel) rfl
/-! ===== BatchShareModel.testPart()V ===== -/
abbrev M_Mod_testPart : AMt := (yX12_testPart, cX12_testPart, 5, none)
def T_Mod_testPart : List (Nat × Instr × Nat) := [(0, .aload_n 0, 1), (1, .invokevirtual 206, 3), (4, .istore_n 1, 1), (5, .aload_n 0, 1), (6, .getfield 114, 3), (9, .ifCond .ne 21, 3), (12, .aload_n 0, 1), (13, .getfield 209, 3), (16, .bipush 12, 2), (18, .if_icmp .ne 12, 3), (21, .aload_n 0, 1), (22, .iconst 4, 1), (23, .aload_n 0, 1), (24, .getfield 117, 3), (27, .invokevirtual 132, 3), (30, .aload_n 0, 1), (31, .getfield 114, 3), (34, .ifCond .le 4, 3), (37, .return_, 1), (38, .aload_n 0, 1), (39, .dup, 1), (40, .getfield 209, 3), (43, .iconst 1, 1), (44, .iadd, 1), (45, .putfield 209, 3), (48, .aload_n 0, 1), (49, .dup, 1), (50, .getfield 117, 3), (53, .iconst 1, 1), (54, .iadd, 1), (55, .putfield 117, 3), (58, .aload_n 0, 1), (59, .invokevirtual 124, 3), (62, .istore_n 2, 1), (63, .iload_n 2, 1), (64, .bipush 60, 2), (66, .if_icmp .eq 25, 3), (69, .iload_n 2, 1), (70, .bipush 61, 2), (72, .if_icmp .eq 19, 3), (75, .iload_n 2, 1), (76, .bipush 62, 2), (78, .if_icmp .eq 13, 3), (81, .aload_n 0, 1), (82, .iconst 0, 1), (83, .aload_n 0, 1), (84, .getfield 117, 3), (87, .invokevirtual 132, 3), (90, .return_, 1), (91, .aload_n 0, 1), (92, .dup, 1), (93, .getfield 117, 3), (96, .iconst 1, 1), (97, .iadd, 1), (98, .putfield 117, 3), (101, .iload_n 2, 1), (102, .bipush 61, 2), (104, .if_icmp .eq 28, 3), (107, .aload_n 0, 1), (108, .getfield 117, 3), (111, .aload_n 0, 1), (112, .getfield 107, 3), (115, .if_icmp .ge 21, 3), (118, .aload_n 0, 1), (119, .getfield 49, 3), (122, .aload_n 0, 1), (123, .getfield 117, 3), (126, .baload, 1), (127, .bipush 61, 2), (129, .if_icmp .ne 7, 3), (132, .iconst 1, 1), (133, .goto 4, 3), (136, .iconst 0, 1), (137, .istore_n 3, 1), (138, .aload_n 0, 1), (139, .dup, 1), (140, .getfield 117, 3), (143, .iload_n 2, 1), (144, .bipush 61, 2), (146, .if_icmp .eq 11, 3), (149, .iload_n 3, 1), (150, .ifCond .eq 7, 3), (153, .iconst 1, 1), (154, .goto 4, 3), (157, .iconst 0, 1), (158, .iadd, 1), (159, .putfield 117, 3), (162, .aload_n 0, 1), (163, .iconst 0, 1), (164, .bipush 9, 2), (166, .invokevirtual 153, 3), (169, .istore 4, 2), (171, .aload_n 0, 1), (172, .getfield 114, 3), (175, .ifCond .ne 55, 3), (178, .aload_n 0, 1), (179, .iload_n 1, 1), (180, .iload_n 2, 1), (181, .bipush 60, 2), (183, .if_icmp .ne 7, 3), (186, .iconst 0, 1), (187, .goto 16, 3), (190, .iload_n 3, 1), (191, .ifCond .eq 8, 3), (194, .iload 4, 2), (196, .goto 7, 3), (199, .iload 4, 2), (201, .iconst 1, 1), (202, .iadd, 1), (203, .iload_n 2, 1), (204, .bipush 62, 2), (206, .if_icmp .ne 8, 3), (209, .bipush 9, 2), (211, .goto 16, 3), (214, .iload_n 3, 1), (215, .ifCond .eq 8, 3), (218, .iload 4, 2), (220, .goto 7, 3), (223, .iload 4, 2), (225, .iconst 1, 1), (226, .isub, 1), (227, .invokevirtual 212, 3), (230, .return_, 1)]
set_option maxRecDepth 20000 in
theorem D_Mod_testPart : (T_Mod_testPart.all fun q => decide (decode M_Mod_testPart.2.1 q.1 = .ok q.2)) = true := by decide +kernel
def Mod_testPart_L203 (v2 : Int) (v3 : Int) (v4 : Int) (s0 : Int) (s1 : Int) (s2 : Nat) (h : AH) : Option (Unit × AH) := if ¬ (v2 : Int) = 62 then (if (v3 : Int) = 0 then (rc h 13 s2 <| bnd (Mod_bounds s2 s1 s0 (wr (v4 - 1)) h) fun _ h1 => some ((), h1)) else (rc h 13 s2 <| bnd (Mod_bounds s2 s1 s0 v4 h) fun _ h4 => some ((), h4))) else (rc h 13 s2 <| bnd (Mod_bounds s2 s1 s0 9 h) fun _ h7 => some ((), h7))
set_option maxHeartbeats 4000000 in
set_option maxRecDepth 20000 in
theorem s_Mod_testPart_L203 (v2 : Int) (v3 : Int) (v4 : Int) (s0 : Int) (s1 : Int) (s2 : Nat) (h : AH) : Sd M_Mod_testPart 4 71 emV 203 [(2, vi v2), (3, vi v3), (4, vi v4)] [vi s0, vi s1, vr s2] h (Mod_testPart_L203 v2 v3 v4 s0 s1 s2 h) := by
  unfold Mod_testPart_L203
  refine Sd_iload_n (pc' := 204) (dc D_Mod_testPart 109 rfl) rfl 0 rfl rfl ?_
  refine Sd_bipush (pc' := 206) (dc D_Mod_testPart 110 rfl) rfl ⟨by decide, by decide⟩ (by decide) ?_
  refine Sd_icmp_ne (tgt := 214) (pc' := 209) (dc D_Mod_testPart 111 rfl) (by decide) rfl (fun _ => ?_) (fun _ => ?_)
  · refine Sd_iload_n (pc' := 215) (dc D_Mod_testPart 114 rfl) rfl 1 rfl rfl ?_
    refine Sd_if_eq (tgt := 223) (pc' := 218) (dc D_Mod_testPart 115 rfl) (by decide) rfl (fun _ => ?_) (fun _ => ?_)
    · refine Sd_iload (pc' := 225) (dc D_Mod_testPart 118 rfl) rfl 2 rfl ?_
      refine Sd_iconst (pc' := 226) (dc D_Mod_testPart 119 rfl) rfl ⟨by decide, by decide⟩ ?_
      refine Sd_isub (pc' := 227) (dc D_Mod_testPart 120 rfl) rfl ?_
      refine Sd.callVV (ci := 12) (t := 13) (as := [_, _, _]) RX12 (pc' := 230) (dc D_Mod_testPart 121 rfl) rfl rfl rfl rfl K_Mod_bounds L_Mod_212 Ks_Mod_bounds Kv_Mod_bounds ⟨by decide, by decide⟩ rfl rfl (Nat.le_of_ble_eq_true rfl) (s_Mod_bounds _ _ _ _ _) (fun _ h1 => ?_)
      exact Sd_vret (dc D_Mod_testPart 122 rfl) rfl
    · refine Sd_iload (pc' := 220) (dc D_Mod_testPart 116 rfl) rfl 2 rfl ?_
      refine Sd_goto (tgt := 227) (dc D_Mod_testPart 117 rfl) (by decide) ?_
      refine Sd.callVV (ci := 12) (t := 13) (as := [_, _, _]) RX12 (pc' := 230) (dc D_Mod_testPart 121 rfl) rfl rfl rfl rfl K_Mod_bounds L_Mod_212 Ks_Mod_bounds Kv_Mod_bounds ⟨by decide, by decide⟩ rfl rfl (Nat.le_of_ble_eq_true rfl) (s_Mod_bounds _ _ _ _ _) (fun _ h4 => ?_)
      exact Sd_vret (dc D_Mod_testPart 122 rfl) rfl
  · refine Sd_bipush (pc' := 211) (dc D_Mod_testPart 112 rfl) rfl ⟨by decide, by decide⟩ (by decide) ?_
    refine Sd_goto (tgt := 227) (dc D_Mod_testPart 113 rfl) (by decide) ?_
    refine Sd.callVV (ci := 12) (t := 13) (as := [_, _, _]) RX12 (pc' := 230) (dc D_Mod_testPart 121 rfl) rfl rfl rfl rfl K_Mod_bounds L_Mod_212 Ks_Mod_bounds Kv_Mod_bounds ⟨by decide, by decide⟩ rfl rfl (Nat.le_of_ble_eq_true rfl) (s_Mod_bounds _ _ _ _ _) (fun _ h7 => ?_)
    exact Sd_vret (dc D_Mod_testPart 122 rfl) rfl
def Mod_testPart_L158 (v0 : Nat) (v1 : Int) (v2 : Int) (v3 : Int) (s0 : Int) (s1 : Int) (s2 : Nat) (h : AH) : Option (Unit × AH) := pI h 13 s2 19 (wr (s1 + s0)) fun h1 => rc h1 13 v0 <| bnd (Mod_amount v0 0 9 h1) fun x3 h2 => gI h2 13 v0 20 fun x5 => if ¬ (x5 : Int) = 0 then (some ((), h2)) else (if ¬ (v2 : Int) = 60 then (if (v3 : Int) = 0 then (Mod_testPart_L203 v2 v3 x3 ((wr (x3 + 1))) v1 v0 h2) else (Mod_testPart_L203 v2 v3 x3 x3 v1 v0 h2)) else (Mod_testPart_L203 v2 v3 x3 0 v1 v0 h2))
set_option maxHeartbeats 4000000 in
set_option maxRecDepth 20000 in
theorem s_Mod_testPart_L158 (v0 : Nat) (v1 : Int) (v2 : Int) (v3 : Int) (s0 : Int) (s1 : Int) (s2 : Nat) (h : AH) : Sd M_Mod_testPart 4 71 emV 158 [(0, vr v0), (1, vi v1), (2, vi v2), (3, vi v3)] [vi s0, vi s1, vr s2] h (Mod_testPart_L158 v0 v1 v2 v3 s0 s1 s2 h) := by
  unfold Mod_testPart_L158
  refine Sd_iadd (pc' := 159) (dc D_Mod_testPart 85 rfl) rfl ?_
  refine Sd_putI (pc' := 162) (dc D_Mod_testPart 86 rfl) rfl F_Mod_117 rfl rfl rfl (finOk.no rfl) (by decide) ?_
  refine Sd_aload_n (pc' := 163) (dc D_Mod_testPart 87 rfl) rfl 0 rfl rfl ?_
  refine Sd_iconst (pc' := 164) (dc D_Mod_testPart 88 rfl) rfl ⟨by decide, by decide⟩ ?_
  refine Sd_bipush (pc' := 166) (dc D_Mod_testPart 89 rfl) rfl ⟨by decide, by decide⟩ (by decide) ?_
  refine Sd.callVI (ci := 12) (t := 13) (as := [_, _]) RX12 (pc' := 169) (dc D_Mod_testPart 90 rfl) rfl rfl rfl rfl K_Mod_amount L_Mod_153 Ks_Mod_amount Kv_Mod_amount ⟨by decide, by decide⟩ rfl rfl (Nat.le_of_ble_eq_true rfl) (s_Mod_amount _ _ _ _) (fun x3 h2 => ?_)
  refine Sd_istore (pc' := 171) (l' := [(4, _), (0, _), (1, _), (2, _), (3, _)]) (dc D_Mod_testPart 91 rfl) rfl (by decide) rfl ?_
  refine Sd_aload_n (pc' := 172) (dc D_Mod_testPart 92 rfl) rfl 1 rfl rfl ?_
  refine Sd_getI (pc' := 175) (dc D_Mod_testPart 93 rfl) rfl F_Mod_114 rfl rfl ?_
  refine Sd_if_ne (tgt := 230) (pc' := 178) (dc D_Mod_testPart 94 rfl) (by decide) rfl (fun _ => ?_) (fun _ => ?_)
  · exact Sd_vret (dc D_Mod_testPart 122 rfl) rfl
  · refine Sd_aload_n (pc' := 179) (dc D_Mod_testPart 95 rfl) rfl 1 rfl rfl ?_
    refine Sd_iload_n (pc' := 180) (dc D_Mod_testPart 96 rfl) rfl 2 rfl rfl ?_
    refine Sd_iload_n (pc' := 181) (dc D_Mod_testPart 97 rfl) rfl 3 rfl rfl ?_
    refine Sd_bipush (pc' := 183) (dc D_Mod_testPart 98 rfl) rfl ⟨by decide, by decide⟩ (by decide) ?_
    refine Sd_icmp_ne (tgt := 190) (pc' := 186) (dc D_Mod_testPart 99 rfl) (by decide) rfl (fun _ => ?_) (fun _ => ?_)
    · refine Sd_iload_n (pc' := 191) (dc D_Mod_testPart 102 rfl) rfl 4 rfl rfl ?_
      refine Sd_if_eq (tgt := 199) (pc' := 194) (dc D_Mod_testPart 103 rfl) (by decide) rfl (fun _ => ?_) (fun _ => ?_)
      · refine Sd_iload (pc' := 201) (dc D_Mod_testPart 106 rfl) rfl 0 rfl ?_
        refine Sd_iconst (pc' := 202) (dc D_Mod_testPart 107 rfl) rfl ⟨by decide, by decide⟩ ?_
        refine Sd_iadd (pc' := 203) (dc D_Mod_testPart 108 rfl) rfl ?_
        refine Sd.sub (l' := [(2, _), (3, _), (4, _)]) [3, 4, 0] rfl ?_
        exact s_Mod_testPart_L203 _ _ _ _ _ _ _
      · refine Sd_iload (pc' := 196) (dc D_Mod_testPart 104 rfl) rfl 0 rfl ?_
        refine Sd_goto (tgt := 203) (dc D_Mod_testPart 105 rfl) (by decide) ?_
        refine Sd.sub (l' := [(2, _), (3, _), (4, _)]) [3, 4, 0] rfl ?_
        exact s_Mod_testPart_L203 _ _ _ _ _ _ _
    · refine Sd_iconst (pc' := 187) (dc D_Mod_testPart 100 rfl) rfl ⟨by decide, by decide⟩ ?_
      refine Sd_goto (tgt := 203) (dc D_Mod_testPart 101 rfl) (by decide) ?_
      refine Sd.sub (l' := [(2, _), (3, _), (4, _)]) [3, 4, 0] rfl ?_
      exact s_Mod_testPart_L203 _ _ _ _ _ _ _
def Mod_testPart_L137 (v0 : Nat) (v1 : Int) (v2 : Int) (s0 : Int) (h : AH) : Option (Unit × AH) := gI h 13 v0 19 fun x1 => if (v2 : Int) = 61 then (Mod_testPart_L158 v0 v1 v2 s0 0 x1 v0 h) else (if (s0 : Int) = 0 then (Mod_testPart_L158 v0 v1 v2 s0 0 x1 v0 h) else (Mod_testPart_L158 v0 v1 v2 s0 1 x1 v0 h))
set_option maxHeartbeats 4000000 in
set_option maxRecDepth 20000 in
theorem s_Mod_testPart_L137 (v0 : Nat) (v1 : Int) (v2 : Int) (s0 : Int) (h : AH) : Sd M_Mod_testPart 4 71 emV 137 [(0, vr v0), (1, vi v1), (2, vi v2)] [vi s0] h (Mod_testPart_L137 v0 v1 v2 s0 h) := by
  unfold Mod_testPart_L137
  refine Sd_istore_n (pc' := 138) (l' := [(3, _), (0, _), (1, _), (2, _)]) (dc D_Mod_testPart 73 rfl) rfl rfl (by decide) rfl ?_
  refine Sd_aload_n (pc' := 139) (dc D_Mod_testPart 74 rfl) rfl 1 rfl rfl ?_
  refine Sd_dup (pc' := 140) (dc D_Mod_testPart 75 rfl) rfl (cat_r _) ?_
  refine Sd_getI (pc' := 143) (dc D_Mod_testPart 76 rfl) rfl F_Mod_117 rfl rfl ?_
  refine Sd_iload_n (pc' := 144) (dc D_Mod_testPart 77 rfl) rfl 3 rfl rfl ?_
  refine Sd_bipush (pc' := 146) (dc D_Mod_testPart 78 rfl) rfl ⟨by decide, by decide⟩ (by decide) ?_
  refine Sd_icmp_eq (tgt := 157) (pc' := 149) (dc D_Mod_testPart 79 rfl) (by decide) rfl (fun _ => ?_) (fun _ => ?_)
  · refine Sd_iconst (pc' := 158) (dc D_Mod_testPart 84 rfl) rfl ⟨by decide, by decide⟩ ?_
    refine Sd.sub (l' := [(0, _), (1, _), (2, _), (3, _)]) [1, 2, 3, 0] rfl ?_
    exact s_Mod_testPart_L158 _ _ _ _ _ _ _ _
  · refine Sd_iload_n (pc' := 150) (dc D_Mod_testPart 80 rfl) rfl 0 rfl rfl ?_
    refine Sd_if_eq (tgt := 157) (pc' := 153) (dc D_Mod_testPart 81 rfl) (by decide) rfl (fun _ => ?_) (fun _ => ?_)
    · refine Sd_iconst (pc' := 158) (dc D_Mod_testPart 84 rfl) rfl ⟨by decide, by decide⟩ ?_
      refine Sd.sub (l' := [(0, _), (1, _), (2, _), (3, _)]) [1, 2, 3, 0] rfl ?_
      exact s_Mod_testPart_L158 _ _ _ _ _ _ _ _
    · refine Sd_iconst (pc' := 154) (dc D_Mod_testPart 82 rfl) rfl ⟨by decide, by decide⟩ ?_
      refine Sd_goto (tgt := 158) (dc D_Mod_testPart 83 rfl) (by decide) ?_
      refine Sd.sub (l' := [(0, _), (1, _), (2, _), (3, _)]) [1, 2, 3, 0] rfl ?_
      exact s_Mod_testPart_L158 _ _ _ _ _ _ _ _
def Mod_testPart_L91 (v0 : Nat) (v1 : Int) (v2 : Int) (h : AH) : Option (Unit × AH) := gI h 13 v0 19 fun x1 => pI h 13 v0 19 (wr (x1 + 1)) fun h2 => if (v2 : Int) = 61 then (Mod_testPart_L137 v0 v1 v2 1 h2) else (gI h2 13 v0 19 fun x3 => gI h2 13 v0 18 fun x4 => if (x4 : Int) ≤ x3 then (Mod_testPart_L137 v0 v1 v2 0 h2) else (gR h2 13 v0 21 fun r5 => gI h2 13 v0 19 fun x6 => aI h2 22 r5 x6 fun x7 => if ¬ (x7 : Int) = 61 then (Mod_testPart_L137 v0 v1 v2 0 h2) else (Mod_testPart_L137 v0 v1 v2 1 h2)))
set_option maxHeartbeats 4000000 in
set_option maxRecDepth 20000 in
theorem s_Mod_testPart_L91 (v0 : Nat) (v1 : Int) (v2 : Int) (h : AH) : Sd M_Mod_testPart 4 71 emV 91 [(0, vr v0), (1, vi v1), (2, vi v2)] [] h (Mod_testPart_L91 v0 v1 v2 h) := by
  unfold Mod_testPart_L91
  refine Sd_aload_n (pc' := 92) (dc D_Mod_testPart 49 rfl) rfl 0 rfl rfl ?_
  refine Sd_dup (pc' := 93) (dc D_Mod_testPart 50 rfl) rfl (cat_r _) ?_
  refine Sd_getI (pc' := 96) (dc D_Mod_testPart 51 rfl) rfl F_Mod_117 rfl rfl ?_
  refine Sd_iconst (pc' := 97) (dc D_Mod_testPart 52 rfl) rfl ⟨by decide, by decide⟩ ?_
  refine Sd_iadd (pc' := 98) (dc D_Mod_testPart 53 rfl) rfl ?_
  refine Sd_putI (pc' := 101) (dc D_Mod_testPart 54 rfl) rfl F_Mod_117 rfl rfl rfl (finOk.no rfl) (by decide) ?_
  refine Sd_iload_n (pc' := 102) (dc D_Mod_testPart 55 rfl) rfl 2 rfl rfl ?_
  refine Sd_bipush (pc' := 104) (dc D_Mod_testPart 56 rfl) rfl ⟨by decide, by decide⟩ (by decide) ?_
  refine Sd_icmp_eq (tgt := 132) (pc' := 107) (dc D_Mod_testPart 57 rfl) (by decide) rfl (fun _ => ?_) (fun _ => ?_)
  · refine Sd_iconst (pc' := 133) (dc D_Mod_testPart 70 rfl) rfl ⟨by decide, by decide⟩ ?_
    refine Sd_goto (tgt := 137) (dc D_Mod_testPart 71 rfl) (by decide) ?_
    exact s_Mod_testPart_L137 _ _ _ _ _
  · refine Sd_aload_n (pc' := 108) (dc D_Mod_testPart 58 rfl) rfl 0 rfl rfl ?_
    refine Sd_getI (pc' := 111) (dc D_Mod_testPart 59 rfl) rfl F_Mod_117 rfl rfl ?_
    refine Sd_aload_n (pc' := 112) (dc D_Mod_testPart 60 rfl) rfl 0 rfl rfl ?_
    refine Sd_getI (pc' := 115) (dc D_Mod_testPart 61 rfl) rfl F_Mod_107 rfl rfl ?_
    refine Sd_icmp_ge (tgt := 136) (pc' := 118) (dc D_Mod_testPart 62 rfl) (by decide) rfl (fun _ => ?_) (fun _ => ?_)
    · refine Sd_iconst (pc' := 137) (dc D_Mod_testPart 72 rfl) rfl ⟨by decide, by decide⟩ ?_
      exact s_Mod_testPart_L137 _ _ _ _ _
    · refine Sd_aload_n (pc' := 119) (dc D_Mod_testPart 63 rfl) rfl 0 rfl rfl ?_
      refine Sd_getR (pc' := 122) (dc D_Mod_testPart 64 rfl) rfl F_Mod_49 rfl rfl ?_
      refine Sd_aload_n (pc' := 123) (dc D_Mod_testPart 65 rfl) rfl 0 rfl rfl ?_
      refine Sd_getI (pc' := 126) (dc D_Mod_testPart 66 rfl) rfl F_Mod_117 rfl rfl ?_
      refine Sd_baload (pc' := 127) (dc D_Mod_testPart 67 rfl) rfl ?_
      refine Sd_bipush (pc' := 129) (dc D_Mod_testPart 68 rfl) rfl ⟨by decide, by decide⟩ (by decide) ?_
      refine Sd_icmp_ne (tgt := 136) (pc' := 132) (dc D_Mod_testPart 69 rfl) (by decide) rfl (fun _ => ?_) (fun _ => ?_)
      · refine Sd_iconst (pc' := 137) (dc D_Mod_testPart 72 rfl) rfl ⟨by decide, by decide⟩ ?_
        exact s_Mod_testPart_L137 _ _ _ _ _
      · refine Sd_iconst (pc' := 133) (dc D_Mod_testPart 70 rfl) rfl ⟨by decide, by decide⟩ ?_
        refine Sd_goto (tgt := 137) (dc D_Mod_testPart 71 rfl) (by decide) ?_
        exact s_Mod_testPart_L137 _ _ _ _ _
def Mod_testPart_L30 (v0 : Nat) (v1 : Int) (h : AH) : Option (Unit × AH) := gI h 13 v0 20 fun x1 => if (x1 : Int) ≤ 0 then (gI h 13 v0 23 fun x2 => pI h 13 v0 23 (wr (x2 + 1)) fun h3 => gI h3 13 v0 19 fun x4 => pI h3 13 v0 19 (wr (x4 + 1)) fun h5 => rc h5 13 v0 <| bnd (Mod_sign v0 h5) fun x7 h6 => if (x7 : Int) = 60 then (Mod_testPart_L91 v0 v1 x7 h6) else (if (x7 : Int) = 61 then (Mod_testPart_L91 v0 v1 x7 h6) else (if (x7 : Int) = 62 then (Mod_testPart_L91 v0 v1 x7 h6) else (gI h6 13 v0 19 fun x9 => rc h6 13 v0 <| bnd (Mod_fails v0 0 x9 h6) fun _ h10 => some ((), h10))))) else (some ((), h))
set_option maxHeartbeats 4000000 in
set_option maxRecDepth 20000 in
theorem s_Mod_testPart_L30 (v0 : Nat) (v1 : Int) (h : AH) : Sd M_Mod_testPart 4 71 emV 30 [(0, vr v0), (1, vi v1)] [] h (Mod_testPart_L30 v0 v1 h) := by
  unfold Mod_testPart_L30
  refine Sd_aload_n (pc' := 31) (dc D_Mod_testPart 15 rfl) rfl 0 rfl rfl ?_
  refine Sd_getI (pc' := 34) (dc D_Mod_testPart 16 rfl) rfl F_Mod_114 rfl rfl ?_
  refine Sd_if_le (tgt := 38) (pc' := 37) (dc D_Mod_testPart 17 rfl) (by decide) rfl (fun _ => ?_) (fun _ => ?_)
  · refine Sd_aload_n (pc' := 39) (dc D_Mod_testPart 19 rfl) rfl 0 rfl rfl ?_
    refine Sd_dup (pc' := 40) (dc D_Mod_testPart 20 rfl) rfl (cat_r _) ?_
    refine Sd_getI (pc' := 43) (dc D_Mod_testPart 21 rfl) rfl F_Mod_209 rfl rfl ?_
    refine Sd_iconst (pc' := 44) (dc D_Mod_testPart 22 rfl) rfl ⟨by decide, by decide⟩ ?_
    refine Sd_iadd (pc' := 45) (dc D_Mod_testPart 23 rfl) rfl ?_
    refine Sd_putI (pc' := 48) (dc D_Mod_testPart 24 rfl) rfl F_Mod_209 rfl rfl rfl (finOk.no rfl) (by decide) ?_
    refine Sd_aload_n (pc' := 49) (dc D_Mod_testPart 25 rfl) rfl 0 rfl rfl ?_
    refine Sd_dup (pc' := 50) (dc D_Mod_testPart 26 rfl) rfl (cat_r _) ?_
    refine Sd_getI (pc' := 53) (dc D_Mod_testPart 27 rfl) rfl F_Mod_117 rfl rfl ?_
    refine Sd_iconst (pc' := 54) (dc D_Mod_testPart 28 rfl) rfl ⟨by decide, by decide⟩ ?_
    refine Sd_iadd (pc' := 55) (dc D_Mod_testPart 29 rfl) rfl ?_
    refine Sd_putI (pc' := 58) (dc D_Mod_testPart 30 rfl) rfl F_Mod_117 rfl rfl rfl (finOk.no rfl) (by decide) ?_
    refine Sd_aload_n (pc' := 59) (dc D_Mod_testPart 31 rfl) rfl 0 rfl rfl ?_
    refine Sd.callVI (ci := 12) (t := 13) (as := []) RX12 (pc' := 62) (dc D_Mod_testPart 32 rfl) rfl rfl rfl rfl K_Mod_sign L_Mod_124 Ks_Mod_sign Kv_Mod_sign ⟨by decide, by decide⟩ rfl rfl (Nat.le_of_ble_eq_true rfl) (s_Mod_sign _ _) (fun x7 h6 => ?_)
    refine Sd_istore_n (pc' := 63) (l' := [(2, _), (0, _), (1, _)]) (dc D_Mod_testPart 33 rfl) rfl rfl (by decide) rfl ?_
    refine Sd_iload_n (pc' := 64) (dc D_Mod_testPart 34 rfl) rfl 0 rfl rfl ?_
    refine Sd_bipush (pc' := 66) (dc D_Mod_testPart 35 rfl) rfl ⟨by decide, by decide⟩ (by decide) ?_
    refine Sd_icmp_eq (tgt := 91) (pc' := 69) (dc D_Mod_testPart 36 rfl) (by decide) rfl (fun _ => ?_) (fun _ => ?_)
    · refine Sd.sub (l' := [(0, _), (1, _), (2, _)]) [1, 2, 0] rfl ?_
      exact s_Mod_testPart_L91 _ _ _ _
    · refine Sd_iload_n (pc' := 70) (dc D_Mod_testPart 37 rfl) rfl 0 rfl rfl ?_
      refine Sd_bipush (pc' := 72) (dc D_Mod_testPart 38 rfl) rfl ⟨by decide, by decide⟩ (by decide) ?_
      refine Sd_icmp_eq (tgt := 91) (pc' := 75) (dc D_Mod_testPart 39 rfl) (by decide) rfl (fun _ => ?_) (fun _ => ?_)
      · refine Sd.sub (l' := [(0, _), (1, _), (2, _)]) [1, 2, 0] rfl ?_
        exact s_Mod_testPart_L91 _ _ _ _
      · refine Sd_iload_n (pc' := 76) (dc D_Mod_testPart 40 rfl) rfl 0 rfl rfl ?_
        refine Sd_bipush (pc' := 78) (dc D_Mod_testPart 41 rfl) rfl ⟨by decide, by decide⟩ (by decide) ?_
        refine Sd_icmp_eq (tgt := 91) (pc' := 81) (dc D_Mod_testPart 42 rfl) (by decide) rfl (fun _ => ?_) (fun _ => ?_)
        · refine Sd.sub (l' := [(0, _), (1, _), (2, _)]) [1, 2, 0] rfl ?_
          exact s_Mod_testPart_L91 _ _ _ _
        · refine Sd_aload_n (pc' := 82) (dc D_Mod_testPart 43 rfl) rfl 1 rfl rfl ?_
          refine Sd_iconst (pc' := 83) (dc D_Mod_testPart 44 rfl) rfl ⟨by decide, by decide⟩ ?_
          refine Sd_aload_n (pc' := 84) (dc D_Mod_testPart 45 rfl) rfl 1 rfl rfl ?_
          refine Sd_getI (pc' := 87) (dc D_Mod_testPart 46 rfl) rfl F_Mod_117 rfl rfl ?_
          refine Sd.callVV (ci := 12) (t := 13) (as := [_, _]) RX12 (pc' := 90) (dc D_Mod_testPart 47 rfl) rfl rfl rfl rfl K_Mod_fails L_Mod_132 Ks_Mod_fails Kv_Mod_fails ⟨by decide, by decide⟩ rfl rfl (Nat.le_of_ble_eq_true rfl) (s_Mod_fails _ _ _ _) (fun _ h10 => ?_)
          exact Sd_vret (dc D_Mod_testPart 48 rfl) rfl
  · exact Sd_vret (dc D_Mod_testPart 18 rfl) rfl
def Mod_testPart (v0 : Nat) (h : AH) : Option (Unit × AH) := rc h 13 v0 <| bnd (Mod_columnOf v0 h) fun x2 h1 => gI h1 13 v0 20 fun x4 => if ¬ (x4 : Int) = 0 then (Mod_testPart_L30 v0 x2 h1) else (gI h1 13 v0 23 fun x5 => if ¬ (x5 : Int) = 12 then (Mod_testPart_L30 v0 x2 h1) else (gI h1 13 v0 19 fun x6 => rc h1 13 v0 <| bnd (Mod_fails v0 4 x6 h1) fun _ h7 => Mod_testPart_L30 v0 x2 h7))
set_option maxHeartbeats 4000000 in
set_option maxRecDepth 20000 in
theorem s_Mod_testPart (v0 : Nat) (h : AH) : CS M_Mod_testPart 4 71 emV [vr v0] h (Mod_testPart v0 h) := by
  refine CS.of (by decide) (Nat.le_of_ble_eq_true rfl) ?_
  show Sd M_Mod_testPart 4 71 emV 0 [(0, vr v0)] [] h _
  unfold Mod_testPart
  refine Sd_aload_n (pc' := 1) (dc D_Mod_testPart 0 rfl) rfl 0 rfl rfl ?_
  refine Sd.callVI (ci := 12) (t := 13) (as := []) RX12 (pc' := 4) (dc D_Mod_testPart 1 rfl) rfl rfl rfl rfl K_Mod_columnOf L_Mod_206 Ks_Mod_columnOf Kv_Mod_columnOf ⟨by decide, by decide⟩ rfl rfl (Nat.le_of_ble_eq_true rfl) (s_Mod_columnOf _ _) (fun x2 h1 => ?_)
  refine Sd_istore_n (pc' := 5) (l' := [(1, _), (0, _)]) (dc D_Mod_testPart 2 rfl) rfl rfl (by decide) rfl ?_
  refine Sd_aload_n (pc' := 6) (dc D_Mod_testPart 3 rfl) rfl 1 rfl rfl ?_
  refine Sd_getI (pc' := 9) (dc D_Mod_testPart 4 rfl) rfl F_Mod_114 rfl rfl ?_
  refine Sd_if_ne (tgt := 30) (pc' := 12) (dc D_Mod_testPart 5 rfl) (by decide) rfl (fun _ => ?_) (fun _ => ?_)
  · refine Sd.sub (l' := [(0, _), (1, _)]) [1, 0] rfl ?_
    exact s_Mod_testPart_L30 _ _ _
  · refine Sd_aload_n (pc' := 13) (dc D_Mod_testPart 6 rfl) rfl 1 rfl rfl ?_
    refine Sd_getI (pc' := 16) (dc D_Mod_testPart 7 rfl) rfl F_Mod_209 rfl rfl ?_
    refine Sd_bipush (pc' := 18) (dc D_Mod_testPart 8 rfl) rfl ⟨by decide, by decide⟩ (by decide) ?_
    refine Sd_icmp_ne (tgt := 30) (pc' := 21) (dc D_Mod_testPart 9 rfl) (by decide) rfl (fun _ => ?_) (fun _ => ?_)
    · refine Sd.sub (l' := [(0, _), (1, _)]) [1, 0] rfl ?_
      exact s_Mod_testPart_L30 _ _ _
    · refine Sd_aload_n (pc' := 22) (dc D_Mod_testPart 10 rfl) rfl 1 rfl rfl ?_
      refine Sd_iconst (pc' := 23) (dc D_Mod_testPart 11 rfl) rfl ⟨by decide, by decide⟩ ?_
      refine Sd_aload_n (pc' := 24) (dc D_Mod_testPart 12 rfl) rfl 1 rfl rfl ?_
      refine Sd_getI (pc' := 27) (dc D_Mod_testPart 13 rfl) rfl F_Mod_117 rfl rfl ?_
      refine Sd.callVV (ci := 12) (t := 13) (as := [_, _]) RX12 (pc' := 30) (dc D_Mod_testPart 14 rfl) rfl rfl rfl rfl K_Mod_fails L_Mod_132 Ks_Mod_fails Kv_Mod_fails ⟨by decide, by decide⟩ rfl rfl (Nat.le_of_ble_eq_true rfl) (s_Mod_fails _ _ _ _) (fun _ h7 => ?_)
      refine Sd.sub (l' := [(0, _), (1, _)]) [1, 0] rfl ?_
      exact s_Mod_testPart_L30 _ _ _
theorem K_Mod_testPart : MOk M_Mod_testPart 0 := ⟨Tb_at 133 (by decide +kernel) rfl, Tb_at 1468 (by decide +kernel) rfl, by decide +kernel, by decide +kernel, by decide +kernel⟩
theorem Ks_Mod_testPart : Cond.instanceMethod yX12_testPart ∈ Tb := Tb_at 1467 (by decide +kernel) rfl
theorem Kv_Mod_testPart : Cond.selects RX12 yX12_testPart yX12_testPart ∈ Tb := Tb_at 54 (by decide +kernel) rfl
/-! ===== BatchShareModel.testsPart()V ===== -/
abbrev M_Mod_testsPart : AMt := (yX12_testsPart, cX12_testsPart, 1, none)
def T_Mod_testsPart : List (Nat × Instr × Nat) := [(0, .aload_n 0, 1), (1, .invokevirtual 216, 3), (4, .aload_n 0, 1), (5, .ldc 219, 2), (7, .invokevirtual 201, 3), (10, .ifCond .eq 10, 3), (13, .aload_n 0, 1), (14, .invokevirtual 216, 3), (17, .goto (-13), 3), (20, .return_, 1)]
set_option maxRecDepth 20000 in
theorem D_Mod_testsPart : (T_Mod_testsPart.all fun q => decide (decode M_Mod_testsPart.2.1 q.1 = .ok q.2)) = true := by decide +kernel
def Mod_testsPart_L4 : Nat → Nat → AH → Option (Unit × AH)
  | 0, _, _ => none
  | n + 1, v0, h => rc h 13 v0 <| bnd (Mod_takes v0 6 h) fun x2 h1 => if (x2 : Int) = 0 then (some ((), h1)) else (rc h1 13 v0 <| bnd (Mod_testPart v0 h1) fun _ h4 => Mod_testsPart_L4 n v0 h4)
set_option maxHeartbeats 4000000 in
set_option maxRecDepth 20000 in
theorem s_Mod_testsPart_L4 : ∀ (n : Nat) (v0 : Nat) (h : AH), Sd M_Mod_testsPart 8 197 emV 4 [(0, vr v0)] [] h (Mod_testsPart_L4 n v0 h)
  | 0, _, _ => Sd.none
  | n + 1, v0, h => by
    rw [Mod_testsPart_L4]
    refine Sd_aload_n (pc' := 5) (dc D_Mod_testsPart 2 rfl) rfl 0 rfl rfl ?_
    refine Sd_lds (a := 6) (pc' := 7) (dc D_Mod_testsPart 3 rfl) rfl (by decide) (List.mem_of_getElem? (i := 12) rfl) ?_
    refine Sd.callVI (ci := 12) (t := 13) (as := [_]) RX12 (pc' := 10) (dc D_Mod_testsPart 4 rfl) rfl rfl rfl rfl K_Mod_takes L_Mod_201 Ks_Mod_takes Kv_Mod_takes ⟨by decide, by decide⟩ rfl rfl (Nat.le_of_ble_eq_true rfl) (s_Mod_takes _ _ _) (fun x2 h1 => ?_)
    refine Sd_if_eq (tgt := 20) (pc' := 13) (dc D_Mod_testsPart 5 rfl) (by decide) rfl (fun _ => ?_) (fun _ => ?_)
    · exact Sd_vret (dc D_Mod_testsPart 9 rfl) rfl
    · refine Sd_aload_n (pc' := 14) (dc D_Mod_testsPart 6 rfl) rfl 0 rfl rfl ?_
      refine Sd.callVV (ci := 12) (t := 13) (as := []) RX12 (pc' := 17) (dc D_Mod_testsPart 7 rfl) rfl rfl rfl rfl K_Mod_testPart L_Mod_216 Ks_Mod_testPart Kv_Mod_testPart ⟨by decide, by decide⟩ rfl rfl (Nat.le_of_ble_eq_true rfl) (s_Mod_testPart _ _) (fun _ h4 => ?_)
      refine Sd_goto (tgt := 4) (dc D_Mod_testsPart 8 rfl) (by decide) ?_
      exact s_Mod_testsPart_L4 n _ _
def Mod_testsPart (v0 : Nat) (h : AH) : Option (Unit × AH) := rc h 13 v0 <| bnd (Mod_testPart v0 h) fun _ h1 => Mod_testsPart_L4 FU v0 h1
set_option maxHeartbeats 4000000 in
set_option maxRecDepth 20000 in
theorem s_Mod_testsPart (v0 : Nat) (h : AH) : CS M_Mod_testsPart 8 197 emV [vr v0] h (Mod_testsPart v0 h) := by
  refine CS.of (by decide) (Nat.le_of_ble_eq_true rfl) ?_
  show Sd M_Mod_testsPart 8 197 emV 0 [(0, vr v0)] [] h _
  unfold Mod_testsPart
  refine Sd_aload_n (pc' := 1) (dc D_Mod_testsPart 0 rfl) rfl 0 rfl rfl ?_
  refine Sd.callVV (ci := 12) (t := 13) (as := []) RX12 (pc' := 4) (dc D_Mod_testsPart 1 rfl) rfl rfl rfl rfl K_Mod_testPart L_Mod_216 Ks_Mod_testPart Kv_Mod_testPart ⟨by decide, by decide⟩ rfl rfl (Nat.le_of_ble_eq_true rfl) (s_Mod_testPart _ _) (fun _ h1 => ?_)
  exact s_Mod_testsPart_L4 FU _ _
theorem K_Mod_testsPart : MOk M_Mod_testsPart 0 := ⟨Tb_at 133 (by decide +kernel) rfl, Tb_at 1464 (by decide +kernel) rfl, by decide +kernel, by decide +kernel, by decide +kernel⟩
theorem Ks_Mod_testsPart : Cond.instanceMethod yX12_testsPart ∈ Tb := Tb_at 1463 (by decide +kernel) rfl
theorem Kv_Mod_testsPart : Cond.selects RX12 yX12_testsPart yX12_testsPart ∈ Tb := Tb_at 53 (by decide +kernel) rfl
/-! ===== BatchShareModel.showPart()V ===== -/
abbrev M_Mod_showPart : AMt := (yX12_showPart, cX12_showPart, 3, none)
def T_Mod_showPart : List (Nat × Instr × Nat) := [(0, .aload_n 0, 1), (1, .getfield 43, 3), (4, .aload_n 0, 1), (5, .getfield 191, 3), (8, .iconst 0, 1), (9, .iastore, 1), (10, .iconst 1, 1), (11, .istore_n 1, 1), (12, .iload_n 1, 1), (13, .ifCond .eq 126, 3), (16, .aload_n 0, 1), (17, .invokevirtual 206, 3), (20, .istore_n 2, 1), (21, .aload_n 0, 1), (22, .getfield 114, 3), (25, .ifCond .ne 25, 3), (28, .aload_n 0, 1), (29, .getfield 43, 3), (32, .aload_n 0, 1), (33, .getfield 191, 3), (36, .iaload, 1), (37, .iconst 5, 1), (38, .if_icmp .ne 12, 3), (41, .aload_n 0, 1), (42, .iconst 4, 1), (43, .aload_n 0, 1), (44, .getfield 117, 3), (47, .invokevirtual 132, 3), (50, .aload_n 0, 1), (51, .getfield 114, 3), (54, .ifCond .le 4, 3), (57, .return_, 1), (58, .aload_n 0, 1), (59, .getfield 46, 3), (62, .iconst 5, 1), (63, .aload_n 0, 1), (64, .getfield 191, 3), (67, .imul, 1), (68, .aload_n 0, 1), (69, .getfield 43, 3), (72, .aload_n 0, 1), (73, .getfield 191, 3), (76, .iaload, 1), (77, .iadd, 1), (78, .iload_n 2, 1), (79, .iastore, 1), (80, .aload_n 0, 1), (81, .getfield 43, 3), (84, .aload_n 0, 1), (85, .getfield 191, 3), (88, .dup2, 1), (89, .iaload, 1), (90, .iconst 1, 1), (91, .iadd, 1), (92, .iastore, 1), (93, .aload_n 0, 1), (94, .dup, 1), (95, .getfield 117, 3), (98, .iconst 1, 1), (99, .iadd, 1), (100, .putfield 117, 3), (103, .aload_n 0, 1), (104, .invokevirtual 124, 3), (107, .bipush 44, 2), (109, .if_icmp .ne 7, 3), (112, .iconst 1, 1), (113, .goto 4, 3), (116, .iconst 0, 1), (117, .istore_n 1, 1), (118, .aload_n 0, 1), (119, .dup, 1), (120, .getfield 117, 3), (123, .iload_n 1, 1), (124, .ifCond .eq 7, 3), (127, .iconst 1, 1), (128, .goto 4, 3), (131, .iconst 0, 1), (132, .iadd, 1), (133, .putfield 117, 3), (136, .goto (-124), 3), (139, .return_, 1)]
set_option maxRecDepth 20000 in
theorem D_Mod_showPart : (T_Mod_showPart.all fun q => decide (decode M_Mod_showPart.2.1 q.1 = .ok q.2)) = true := by decide +kernel
def Mod_showPart_L117 (k12 : Nat → Int → AH → Option (Unit × AH)) (v0 : Nat) (s0 : Int) (h : AH) : Option (Unit × AH) := gI h 13 v0 19 fun x1 => if (s0 : Int) = 0 then (pI h 13 v0 19 (wr (x1 + 0)) fun h2 => k12 v0 s0 h2) else (pI h 13 v0 19 (wr (x1 + 1)) fun h3 => k12 v0 s0 h3)
set_option maxHeartbeats 4000000 in
set_option maxRecDepth 20000 in
theorem s_Mod_showPart_L117 (k12 : Nat → Int → AH → Option (Unit × AH)) (hk12 : ∀ v0 v1 h, Sd M_Mod_showPart 4 71 emV 12 [(0, vr v0), (1, vi v1)] [] h (k12 v0 v1 h)) (v0 : Nat) (s0 : Int) (h : AH) : Sd M_Mod_showPart 4 71 emV 117 [(0, vr v0)] [vi s0] h (Mod_showPart_L117 k12 v0 s0 h) := by
  unfold Mod_showPart_L117
  refine Sd_istore_n (pc' := 118) (l' := [(1, _), (0, _)]) (dc D_Mod_showPart 68 rfl) rfl rfl (by decide) rfl ?_
  refine Sd_aload_n (pc' := 119) (dc D_Mod_showPart 69 rfl) rfl 1 rfl rfl ?_
  refine Sd_dup (pc' := 120) (dc D_Mod_showPart 70 rfl) rfl (cat_r _) ?_
  refine Sd_getI (pc' := 123) (dc D_Mod_showPart 71 rfl) rfl F_Mod_117 rfl rfl ?_
  refine Sd_iload_n (pc' := 124) (dc D_Mod_showPart 72 rfl) rfl 0 rfl rfl ?_
  refine Sd_if_eq (tgt := 131) (pc' := 127) (dc D_Mod_showPart 73 rfl) (by decide) rfl (fun _ => ?_) (fun _ => ?_)
  · refine Sd_iconst (pc' := 132) (dc D_Mod_showPart 76 rfl) rfl ⟨by decide, by decide⟩ ?_
    refine Sd_iadd (pc' := 133) (dc D_Mod_showPart 77 rfl) rfl ?_
    refine Sd_putI (pc' := 136) (dc D_Mod_showPart 78 rfl) rfl F_Mod_117 rfl rfl rfl (finOk.no rfl) (by decide) ?_
    refine Sd_goto (tgt := 12) (dc D_Mod_showPart 79 rfl) (by decide) ?_
    refine Sd.sub (l' := [(0, _), (1, _)]) [1, 0] rfl ?_
    exact hk12 _ _ _
  · refine Sd_iconst (pc' := 128) (dc D_Mod_showPart 74 rfl) rfl ⟨by decide, by decide⟩ ?_
    refine Sd_goto (tgt := 132) (dc D_Mod_showPart 75 rfl) (by decide) ?_
    refine Sd_iadd (pc' := 133) (dc D_Mod_showPart 77 rfl) rfl ?_
    refine Sd_putI (pc' := 136) (dc D_Mod_showPart 78 rfl) rfl F_Mod_117 rfl rfl rfl (finOk.no rfl) (by decide) ?_
    refine Sd_goto (tgt := 12) (dc D_Mod_showPart 79 rfl) (by decide) ?_
    refine Sd.sub (l' := [(0, _), (1, _)]) [1, 0] rfl ?_
    exact hk12 _ _ _
def Mod_showPart_L50 (k12 : Nat → Int → AH → Option (Unit × AH)) (v0 : Nat) (v2 : Int) (h : AH) : Option (Unit × AH) := gI h 13 v0 20 fun x1 => if (x1 : Int) ≤ 0 then (gR h 13 v0 17 fun r2 => gI h 13 v0 22 fun x3 => gR h 13 v0 16 fun r4 => gI h 13 v0 22 fun x5 => aI h 21 r4 x5 fun x6 => wI h 21 r2 (wr ((wr (5 * x3)) + x6)) v2 fun h7 => gR h7 13 v0 16 fun r8 => gI h7 13 v0 22 fun x9 => aI h7 21 r8 x9 fun x10 => wI h7 21 r8 x9 (wr (x10 + 1)) fun h11 => gI h11 13 v0 19 fun x12 => pI h11 13 v0 19 (wr (x12 + 1)) fun h13 => rc h13 13 v0 <| bnd (Mod_sign v0 h13) fun x15 h14 => if ¬ (x15 : Int) = 44 then (Mod_showPart_L117 k12 v0 0 h14) else (Mod_showPart_L117 k12 v0 1 h14)) else (some ((), h))
set_option maxHeartbeats 4000000 in
set_option maxRecDepth 20000 in
theorem s_Mod_showPart_L50 (k12 : Nat → Int → AH → Option (Unit × AH)) (hk12 : ∀ v0 v1 h, Sd M_Mod_showPart 4 71 emV 12 [(0, vr v0), (1, vi v1)] [] h (k12 v0 v1 h)) (v0 : Nat) (v2 : Int) (h : AH) : Sd M_Mod_showPart 4 71 emV 50 [(0, vr v0), (2, vi v2)] [] h (Mod_showPart_L50 k12 v0 v2 h) := by
  unfold Mod_showPart_L50
  refine Sd_aload_n (pc' := 51) (dc D_Mod_showPart 28 rfl) rfl 0 rfl rfl ?_
  refine Sd_getI (pc' := 54) (dc D_Mod_showPart 29 rfl) rfl F_Mod_114 rfl rfl ?_
  refine Sd_if_le (tgt := 58) (pc' := 57) (dc D_Mod_showPart 30 rfl) (by decide) rfl (fun _ => ?_) (fun _ => ?_)
  · refine Sd_aload_n (pc' := 59) (dc D_Mod_showPart 32 rfl) rfl 0 rfl rfl ?_
    refine Sd_getR (pc' := 62) (dc D_Mod_showPart 33 rfl) rfl F_Mod_46 rfl rfl ?_
    refine Sd_iconst (pc' := 63) (dc D_Mod_showPart 34 rfl) rfl ⟨by decide, by decide⟩ ?_
    refine Sd_aload_n (pc' := 64) (dc D_Mod_showPart 35 rfl) rfl 0 rfl rfl ?_
    refine Sd_getI (pc' := 67) (dc D_Mod_showPart 36 rfl) rfl F_Mod_191 rfl rfl ?_
    refine Sd_imul (pc' := 68) (dc D_Mod_showPart 37 rfl) rfl ?_
    refine Sd_aload_n (pc' := 69) (dc D_Mod_showPart 38 rfl) rfl 0 rfl rfl ?_
    refine Sd_getR (pc' := 72) (dc D_Mod_showPart 39 rfl) rfl F_Mod_43 rfl rfl ?_
    refine Sd_aload_n (pc' := 73) (dc D_Mod_showPart 40 rfl) rfl 0 rfl rfl ?_
    refine Sd_getI (pc' := 76) (dc D_Mod_showPart 41 rfl) rfl F_Mod_191 rfl rfl ?_
    refine Sd_iaload (pc' := 77) (dc D_Mod_showPart 42 rfl) rfl ?_
    refine Sd_iadd (pc' := 78) (dc D_Mod_showPart 43 rfl) rfl ?_
    refine Sd_iload_n (pc' := 79) (dc D_Mod_showPart 44 rfl) rfl 1 rfl rfl ?_
    refine Sd_iastore (pc' := 80) (dc D_Mod_showPart 45 rfl) rfl (by decide) ?_
    refine Sd_aload_n (pc' := 81) (dc D_Mod_showPart 46 rfl) rfl 0 rfl rfl ?_
    refine Sd_getR (pc' := 84) (dc D_Mod_showPart 47 rfl) rfl F_Mod_43 rfl rfl ?_
    refine Sd_aload_n (pc' := 85) (dc D_Mod_showPart 48 rfl) rfl 0 rfl rfl ?_
    refine Sd_getI (pc' := 88) (dc D_Mod_showPart 49 rfl) rfl F_Mod_191 rfl rfl ?_
    refine Sd_dup2 (pc' := 89) (dc D_Mod_showPart 50 rfl) rfl (cat_i _) (cat_r _) ?_
    refine Sd_iaload (pc' := 90) (dc D_Mod_showPart 51 rfl) rfl ?_
    refine Sd_iconst (pc' := 91) (dc D_Mod_showPart 52 rfl) rfl ⟨by decide, by decide⟩ ?_
    refine Sd_iadd (pc' := 92) (dc D_Mod_showPart 53 rfl) rfl ?_
    refine Sd_iastore (pc' := 93) (dc D_Mod_showPart 54 rfl) rfl (by decide) ?_
    refine Sd_aload_n (pc' := 94) (dc D_Mod_showPart 55 rfl) rfl 0 rfl rfl ?_
    refine Sd_dup (pc' := 95) (dc D_Mod_showPart 56 rfl) rfl (cat_r _) ?_
    refine Sd_getI (pc' := 98) (dc D_Mod_showPart 57 rfl) rfl F_Mod_117 rfl rfl ?_
    refine Sd_iconst (pc' := 99) (dc D_Mod_showPart 58 rfl) rfl ⟨by decide, by decide⟩ ?_
    refine Sd_iadd (pc' := 100) (dc D_Mod_showPart 59 rfl) rfl ?_
    refine Sd_putI (pc' := 103) (dc D_Mod_showPart 60 rfl) rfl F_Mod_117 rfl rfl rfl (finOk.no rfl) (by decide) ?_
    refine Sd_aload_n (pc' := 104) (dc D_Mod_showPart 61 rfl) rfl 0 rfl rfl ?_
    refine Sd.callVI (ci := 12) (t := 13) (as := []) RX12 (pc' := 107) (dc D_Mod_showPart 62 rfl) rfl rfl rfl rfl K_Mod_sign L_Mod_124 Ks_Mod_sign Kv_Mod_sign ⟨by decide, by decide⟩ rfl rfl (Nat.le_of_ble_eq_true rfl) (s_Mod_sign _ _) (fun x15 h14 => ?_)
    refine Sd_bipush (pc' := 109) (dc D_Mod_showPart 63 rfl) rfl ⟨by decide, by decide⟩ (by decide) ?_
    refine Sd_icmp_ne (tgt := 116) (pc' := 112) (dc D_Mod_showPart 64 rfl) (by decide) rfl (fun _ => ?_) (fun _ => ?_)
    · refine Sd_iconst (pc' := 117) (dc D_Mod_showPart 67 rfl) rfl ⟨by decide, by decide⟩ ?_
      refine Sd.sub (l' := [(0, _)]) [0] rfl ?_
      exact s_Mod_showPart_L117 k12 hk12 _ _ _
    · refine Sd_iconst (pc' := 113) (dc D_Mod_showPart 65 rfl) rfl ⟨by decide, by decide⟩ ?_
      refine Sd_goto (tgt := 117) (dc D_Mod_showPart 66 rfl) (by decide) ?_
      refine Sd.sub (l' := [(0, _)]) [0] rfl ?_
      exact s_Mod_showPart_L117 k12 hk12 _ _ _
  · exact Sd_vret (dc D_Mod_showPart 31 rfl) rfl
def Mod_showPart_L12 : Nat → Nat → Int → AH → Option (Unit × AH)
  | 0, _, _, _ => none
  | n + 1, v0, v1, h => if (v1 : Int) = 0 then (some ((), h)) else (rc h 13 v0 <| bnd (Mod_columnOf v0 h) fun x2 h1 => gI h1 13 v0 20 fun x4 => if ¬ (x4 : Int) = 0 then (Mod_showPart_L50 (Mod_showPart_L12 n) v0 x2 h1) else (gR h1 13 v0 16 fun r5 => gI h1 13 v0 22 fun x6 => aI h1 21 r5 x6 fun x7 => if ¬ (x7 : Int) = 5 then (Mod_showPart_L50 (Mod_showPart_L12 n) v0 x2 h1) else (gI h1 13 v0 19 fun x8 => rc h1 13 v0 <| bnd (Mod_fails v0 4 x8 h1) fun _ h9 => Mod_showPart_L50 (Mod_showPart_L12 n) v0 x2 h9)))
set_option maxHeartbeats 4000000 in
set_option maxRecDepth 20000 in
theorem s_Mod_showPart_L12 : ∀ (n : Nat) (v0 : Nat) (v1 : Int) (h : AH), Sd M_Mod_showPart 4 71 emV 12 [(0, vr v0), (1, vi v1)] [] h (Mod_showPart_L12 n v0 v1 h)
  | 0, _, _, _ => Sd.none
  | n + 1, v0, v1, h => by
    rw [Mod_showPart_L12]
    refine Sd_iload_n (pc' := 13) (dc D_Mod_showPart 8 rfl) rfl 1 rfl rfl ?_
    refine Sd_if_eq (tgt := 139) (pc' := 16) (dc D_Mod_showPart 9 rfl) (by decide) rfl (fun _ => ?_) (fun _ => ?_)
    · exact Sd_vret (dc D_Mod_showPart 80 rfl) rfl
    · refine Sd_aload_n (pc' := 17) (dc D_Mod_showPart 10 rfl) rfl 0 rfl rfl ?_
      refine Sd.callVI (ci := 12) (t := 13) (as := []) RX12 (pc' := 20) (dc D_Mod_showPart 11 rfl) rfl rfl rfl rfl K_Mod_columnOf L_Mod_206 Ks_Mod_columnOf Kv_Mod_columnOf ⟨by decide, by decide⟩ rfl rfl (Nat.le_of_ble_eq_true rfl) (s_Mod_columnOf _ _) (fun x2 h1 => ?_)
      refine Sd_istore_n (pc' := 21) (l' := [(2, _), (0, _), (1, _)]) (dc D_Mod_showPart 12 rfl) rfl rfl (by decide) rfl ?_
      refine Sd_aload_n (pc' := 22) (dc D_Mod_showPart 13 rfl) rfl 1 rfl rfl ?_
      refine Sd_getI (pc' := 25) (dc D_Mod_showPart 14 rfl) rfl F_Mod_114 rfl rfl ?_
      refine Sd_if_ne (tgt := 50) (pc' := 28) (dc D_Mod_showPart 15 rfl) (by decide) rfl (fun _ => ?_) (fun _ => ?_)
      · refine Sd.sub (l' := [(0, _), (2, _)]) [1, 0] rfl ?_
        exact s_Mod_showPart_L50 (Mod_showPart_L12 n) (s_Mod_showPart_L12 n) _ _ _
      · refine Sd_aload_n (pc' := 29) (dc D_Mod_showPart 16 rfl) rfl 1 rfl rfl ?_
        refine Sd_getR (pc' := 32) (dc D_Mod_showPart 17 rfl) rfl F_Mod_43 rfl rfl ?_
        refine Sd_aload_n (pc' := 33) (dc D_Mod_showPart 18 rfl) rfl 1 rfl rfl ?_
        refine Sd_getI (pc' := 36) (dc D_Mod_showPart 19 rfl) rfl F_Mod_191 rfl rfl ?_
        refine Sd_iaload (pc' := 37) (dc D_Mod_showPart 20 rfl) rfl ?_
        refine Sd_iconst (pc' := 38) (dc D_Mod_showPart 21 rfl) rfl ⟨by decide, by decide⟩ ?_
        refine Sd_icmp_ne (tgt := 50) (pc' := 41) (dc D_Mod_showPart 22 rfl) (by decide) rfl (fun _ => ?_) (fun _ => ?_)
        · refine Sd.sub (l' := [(0, _), (2, _)]) [1, 0] rfl ?_
          exact s_Mod_showPart_L50 (Mod_showPart_L12 n) (s_Mod_showPart_L12 n) _ _ _
        · refine Sd_aload_n (pc' := 42) (dc D_Mod_showPart 23 rfl) rfl 1 rfl rfl ?_
          refine Sd_iconst (pc' := 43) (dc D_Mod_showPart 24 rfl) rfl ⟨by decide, by decide⟩ ?_
          refine Sd_aload_n (pc' := 44) (dc D_Mod_showPart 25 rfl) rfl 1 rfl rfl ?_
          refine Sd_getI (pc' := 47) (dc D_Mod_showPart 26 rfl) rfl F_Mod_117 rfl rfl ?_
          refine Sd.callVV (ci := 12) (t := 13) (as := [_, _]) RX12 (pc' := 50) (dc D_Mod_showPart 27 rfl) rfl rfl rfl rfl K_Mod_fails L_Mod_132 Ks_Mod_fails Kv_Mod_fails ⟨by decide, by decide⟩ rfl rfl (Nat.le_of_ble_eq_true rfl) (s_Mod_fails _ _ _ _) (fun _ h9 => ?_)
          refine Sd.sub (l' := [(0, _), (2, _)]) [1, 0] rfl ?_
          exact s_Mod_showPart_L50 (Mod_showPart_L12 n) (s_Mod_showPart_L12 n) _ _ _
def Mod_showPart (v0 : Nat) (h : AH) : Option (Unit × AH) := gR h 13 v0 16 fun r1 => gI h 13 v0 22 fun x2 => wI h 21 r1 x2 0 fun h3 => Mod_showPart_L12 FU v0 1 h3
set_option maxHeartbeats 4000000 in
set_option maxRecDepth 20000 in
theorem s_Mod_showPart (v0 : Nat) (h : AH) : CS M_Mod_showPart 4 71 emV [vr v0] h (Mod_showPart v0 h) := by
  refine CS.of (by decide) (Nat.le_of_ble_eq_true rfl) ?_
  show Sd M_Mod_showPart 4 71 emV 0 [(0, vr v0)] [] h _
  unfold Mod_showPart
  refine Sd_aload_n (pc' := 1) (dc D_Mod_showPart 0 rfl) rfl 0 rfl rfl ?_
  refine Sd_getR (pc' := 4) (dc D_Mod_showPart 1 rfl) rfl F_Mod_43 rfl rfl ?_
  refine Sd_aload_n (pc' := 5) (dc D_Mod_showPart 2 rfl) rfl 0 rfl rfl ?_
  refine Sd_getI (pc' := 8) (dc D_Mod_showPart 3 rfl) rfl F_Mod_191 rfl rfl ?_
  refine Sd_iconst (pc' := 9) (dc D_Mod_showPart 4 rfl) rfl ⟨by decide, by decide⟩ ?_
  refine Sd_iastore (pc' := 10) (dc D_Mod_showPart 5 rfl) rfl (by decide) ?_
  refine Sd_iconst (pc' := 11) (dc D_Mod_showPart 6 rfl) rfl ⟨by decide, by decide⟩ ?_
  refine Sd_istore_n (pc' := 12) (l' := [(1, _), (0, _)]) (dc D_Mod_showPart 7 rfl) rfl rfl (by decide) rfl ?_
  refine Sd.sub (l' := [(0, _), (1, _)]) [1, 0] rfl ?_
  exact s_Mod_showPart_L12 FU _ _ _
theorem K_Mod_showPart : MOk M_Mod_showPart 0 := ⟨Tb_at 133 (by decide +kernel) rfl, Tb_at 1482 (by decide +kernel) rfl, by decide +kernel, by decide +kernel, by decide +kernel⟩
theorem Ks_Mod_showPart : Cond.instanceMethod yX12_showPart ∈ Tb := Tb_at 1481 (by decide +kernel) rfl
theorem Kv_Mod_showPart : Cond.selects RX12 yX12_showPart yX12_showPart ∈ Tb := Tb_at 57 (by decide +kernel) rfl
/-! ===== BatchShareModel.stepsPart()V ===== -/
abbrev M_Mod_stepsPart : AMt := (yX12_stepsPart, cX12_stepsPart, 1, none)
def T_Mod_stepsPart : List (Nat × Instr × Nat) := [(0, .aload_n 0, 1), (1, .getfield 114, 3), (4, .ifCond .ne 55, 3), (7, .aload_n 0, 1), (8, .invokevirtual 124, 3), (11, .iconst (-1), 1), (12, .if_icmp .eq 47, 3), (15, .aload_n 0, 1), (16, .ldc 221, 2), (18, .invokevirtual 201, 3), (21, .ifCond .eq 10, 3), (24, .aload_n 0, 1), (25, .invokevirtual 223, 3), (28, .goto (-28), 3), (31, .aload_n 0, 1), (32, .ldc 226, 2), (34, .invokevirtual 201, 3), (37, .ifCond .eq 10, 3), (40, .aload_n 0, 1), (41, .invokevirtual 228, 3), (44, .goto (-44), 3), (47, .aload_n 0, 1), (48, .iconst 0, 1), (49, .aload_n 0, 1), (50, .getfield 117, 3), (53, .invokevirtual 132, 3), (56, .goto (-56), 3), (59, .return_, 1)]
set_option maxRecDepth 20000 in
theorem D_Mod_stepsPart : (T_Mod_stepsPart.all fun q => decide (decode M_Mod_stepsPart.2.1 q.1 = .ok q.2)) = true := by decide +kernel
def Mod_stepsPart_L0 : Nat → Nat → AH → Option (Unit × AH)
  | 0, _, _ => none
  | n + 1, v0, h => gI h 13 v0 20 fun x1 => if ¬ (x1 : Int) = 0 then (some ((), h)) else (rc h 13 v0 <| bnd (Mod_sign v0 h) fun x3 h2 => if (x3 : Int) = (-1) then (some ((), h2)) else (rc h2 13 v0 <| bnd (Mod_takes v0 5 h2) fun x6 h5 => if (x6 : Int) = 0 then (rc h5 13 v0 <| bnd (Mod_takes v0 7 h5) fun x9 h8 => if (x9 : Int) = 0 then (gI h8 13 v0 19 fun x11 => rc h8 13 v0 <| bnd (Mod_fails v0 0 x11 h8) fun _ h12 => Mod_stepsPart_L0 n v0 h12) else (rc h8 13 v0 <| bnd (Mod_showPart v0 h8) fun _ h15 => Mod_stepsPart_L0 n v0 h15)) else (rc h5 13 v0 <| bnd (Mod_testsPart v0 h5) fun _ h18 => Mod_stepsPart_L0 n v0 h18)))
set_option maxHeartbeats 4000000 in
set_option maxRecDepth 20000 in
theorem s_Mod_stepsPart_L0 : ∀ (n : Nat) (v0 : Nat) (h : AH), Sd M_Mod_stepsPart 9 217 emV 0 [(0, vr v0)] [] h (Mod_stepsPart_L0 n v0 h)
  | 0, _, _ => Sd.none
  | n + 1, v0, h => by
    rw [Mod_stepsPart_L0]
    refine Sd_aload_n (pc' := 1) (dc D_Mod_stepsPart 0 rfl) rfl 0 rfl rfl ?_
    refine Sd_getI (pc' := 4) (dc D_Mod_stepsPart 1 rfl) rfl F_Mod_114 rfl rfl ?_
    refine Sd_if_ne (tgt := 59) (pc' := 7) (dc D_Mod_stepsPart 2 rfl) (by decide) rfl (fun _ => ?_) (fun _ => ?_)
    · exact Sd_vret (dc D_Mod_stepsPart 27 rfl) rfl
    · refine Sd_aload_n (pc' := 8) (dc D_Mod_stepsPart 3 rfl) rfl 0 rfl rfl ?_
      refine Sd.callVI (ci := 12) (t := 13) (as := []) RX12 (pc' := 11) (dc D_Mod_stepsPart 4 rfl) rfl rfl rfl rfl K_Mod_sign L_Mod_124 Ks_Mod_sign Kv_Mod_sign ⟨by decide, by decide⟩ rfl rfl (Nat.le_of_ble_eq_true rfl) (s_Mod_sign _ _) (fun x3 h2 => ?_)
      refine Sd_iconst (pc' := 12) (dc D_Mod_stepsPart 5 rfl) rfl ⟨by decide, by decide⟩ ?_
      refine Sd_icmp_eq (tgt := 59) (pc' := 15) (dc D_Mod_stepsPart 6 rfl) (by decide) rfl (fun _ => ?_) (fun _ => ?_)
      · exact Sd_vret (dc D_Mod_stepsPart 27 rfl) rfl
      · refine Sd_aload_n (pc' := 16) (dc D_Mod_stepsPart 7 rfl) rfl 0 rfl rfl ?_
        refine Sd_lds (a := 5) (pc' := 18) (dc D_Mod_stepsPart 8 rfl) rfl (by decide) (List.mem_of_getElem? (i := 11) rfl) ?_
        refine Sd.callVI (ci := 12) (t := 13) (as := [_]) RX12 (pc' := 21) (dc D_Mod_stepsPart 9 rfl) rfl rfl rfl rfl K_Mod_takes L_Mod_201 Ks_Mod_takes Kv_Mod_takes ⟨by decide, by decide⟩ rfl rfl (Nat.le_of_ble_eq_true rfl) (s_Mod_takes _ _ _) (fun x6 h5 => ?_)
        refine Sd_if_eq (tgt := 31) (pc' := 24) (dc D_Mod_stepsPart 10 rfl) (by decide) rfl (fun _ => ?_) (fun _ => ?_)
        · refine Sd_aload_n (pc' := 32) (dc D_Mod_stepsPart 14 rfl) rfl 0 rfl rfl ?_
          refine Sd_lds (a := 7) (pc' := 34) (dc D_Mod_stepsPart 15 rfl) rfl (by decide) (List.mem_of_getElem? (i := 13) rfl) ?_
          refine Sd.callVI (ci := 12) (t := 13) (as := [_]) RX12 (pc' := 37) (dc D_Mod_stepsPart 16 rfl) rfl rfl rfl rfl K_Mod_takes L_Mod_201 Ks_Mod_takes Kv_Mod_takes ⟨by decide, by decide⟩ rfl rfl (Nat.le_of_ble_eq_true rfl) (s_Mod_takes _ _ _) (fun x9 h8 => ?_)
          refine Sd_if_eq (tgt := 47) (pc' := 40) (dc D_Mod_stepsPart 17 rfl) (by decide) rfl (fun _ => ?_) (fun _ => ?_)
          · refine Sd_aload_n (pc' := 48) (dc D_Mod_stepsPart 21 rfl) rfl 0 rfl rfl ?_
            refine Sd_iconst (pc' := 49) (dc D_Mod_stepsPart 22 rfl) rfl ⟨by decide, by decide⟩ ?_
            refine Sd_aload_n (pc' := 50) (dc D_Mod_stepsPart 23 rfl) rfl 0 rfl rfl ?_
            refine Sd_getI (pc' := 53) (dc D_Mod_stepsPart 24 rfl) rfl F_Mod_117 rfl rfl ?_
            refine Sd.callVV (ci := 12) (t := 13) (as := [_, _]) RX12 (pc' := 56) (dc D_Mod_stepsPart 25 rfl) rfl rfl rfl rfl K_Mod_fails L_Mod_132 Ks_Mod_fails Kv_Mod_fails ⟨by decide, by decide⟩ rfl rfl (Nat.le_of_ble_eq_true rfl) (s_Mod_fails _ _ _ _) (fun _ h12 => ?_)
            refine Sd_goto (tgt := 0) (dc D_Mod_stepsPart 26 rfl) (by decide) ?_
            exact s_Mod_stepsPart_L0 n _ _
          · refine Sd_aload_n (pc' := 41) (dc D_Mod_stepsPart 18 rfl) rfl 0 rfl rfl ?_
            refine Sd.callVV (ci := 12) (t := 13) (as := []) RX12 (pc' := 44) (dc D_Mod_stepsPart 19 rfl) rfl rfl rfl rfl K_Mod_showPart L_Mod_228 Ks_Mod_showPart Kv_Mod_showPart ⟨by decide, by decide⟩ rfl rfl (Nat.le_of_ble_eq_true rfl) (s_Mod_showPart _ _) (fun _ h15 => ?_)
            refine Sd_goto (tgt := 0) (dc D_Mod_stepsPart 20 rfl) (by decide) ?_
            exact s_Mod_stepsPart_L0 n _ _
        · refine Sd_aload_n (pc' := 25) (dc D_Mod_stepsPart 11 rfl) rfl 0 rfl rfl ?_
          refine Sd.callVV (ci := 12) (t := 13) (as := []) RX12 (pc' := 28) (dc D_Mod_stepsPart 12 rfl) rfl rfl rfl rfl K_Mod_testsPart L_Mod_223 Ks_Mod_testsPart Kv_Mod_testsPart ⟨by decide, by decide⟩ rfl rfl (Nat.le_of_ble_eq_true rfl) (s_Mod_testsPart _ _) (fun _ h18 => ?_)
          refine Sd_goto (tgt := 0) (dc D_Mod_stepsPart 13 rfl) (by decide) ?_
          exact s_Mod_stepsPart_L0 n _ _
def Mod_stepsPart (v0 : Nat) (h : AH) : Option (Unit × AH) := Mod_stepsPart_L0 FU v0 h
set_option maxHeartbeats 4000000 in
set_option maxRecDepth 20000 in
theorem s_Mod_stepsPart (v0 : Nat) (h : AH) : CS M_Mod_stepsPart 9 217 emV [vr v0] h (Mod_stepsPart v0 h) := by
  refine CS.of (by decide) (Nat.le_of_ble_eq_true rfl) ?_
  show Sd M_Mod_stepsPart 9 217 emV 0 [(0, vr v0)] [] h _
  unfold Mod_stepsPart
  exact s_Mod_stepsPart_L0 FU _ _
theorem K_Mod_stepsPart : MOk M_Mod_stepsPart 0 := ⟨Tb_at 133 (by decide +kernel) rfl, Tb_at 1459 (by decide +kernel) rfl, by decide +kernel, by decide +kernel, by decide +kernel⟩
theorem Ks_Mod_stepsPart : Cond.instanceMethod yX12_stepsPart ∈ Tb := Tb_at 1458 (by decide +kernel) rfl
theorem Kv_Mod_stepsPart : Cond.selects RX12 yX12_stepsPart yX12_stepsPart ∈ Tb := Tb_at 52 (by decide +kernel) rfl
/-! ===== BatchShareModel.voids()V ===== -/
abbrev M_Mod_voids : AMt := (yX12_voids, cX12_voids, 3, none)
def T_Mod_voids : List (Nat × Instr × Nat) := [(0, .iconst 0, 1), (1, .istore_n 1, 1), (2, .iconst 0, 1), (3, .istore_n 2, 1), (4, .iload_n 2, 1), (5, .iconst 5, 1), (6, .if_icmp .ge 48, 3), (9, .iload_n 1, 1), (10, .ifCond .ne 32, 3), (13, .aload_n 0, 1), (14, .getfield 37, 3), (17, .iconst 5, 1), (18, .aload_n 0, 1), (19, .getfield 191, 3), (22, .imul, 1), (23, .iload_n 2, 1), (24, .iadd, 1), (25, .iaload, 1), (26, .aload_n 0, 1), (27, .getfield 40, 3), (30, .iconst 5, 1), (31, .aload_n 0, 1), (32, .getfield 191, 3), (35, .imul, 1), (36, .iload_n 2, 1), (37, .iadd, 1), (38, .iaload, 1), (39, .if_icmp .le 7, 3), (42, .iconst 1, 1), (43, .goto 4, 3), (46, .iconst 0, 1), (47, .istore_n 1, 1), (48, .iinc 2 1, 3), (51, .goto (-47), 3), (54, .iconst 0, 1), (55, .istore_n 2, 1), (56, .iload_n 2, 1), (57, .iconst 5, 1), (58, .if_icmp .ge 41, 3), (61, .iload_n 1, 1), (62, .ifCond .eq 37, 3), (65, .aload_n 0, 1), (66, .getfield 37, 3), (69, .iconst 5, 1), (70, .aload_n 0, 1), (71, .getfield 191, 3), (74, .imul, 1), (75, .iload_n 2, 1), (76, .iadd, 1), (77, .iconst 1, 1), (78, .iastore, 1), (79, .aload_n 0, 1), (80, .getfield 40, 3), (83, .iconst 5, 1), (84, .aload_n 0, 1), (85, .getfield 191, 3), (88, .imul, 1), (89, .iload_n 2, 1), (90, .iadd, 1), (91, .iconst 0, 1), (92, .iastore, 1), (93, .iinc 2 1, 3), (96, .goto (-40), 3), (99, .return_, 1)]
set_option maxRecDepth 20000 in
theorem D_Mod_voids : (T_Mod_voids.all fun q => decide (decode M_Mod_voids.2.1 q.1 = .ok q.2)) = true := by decide +kernel
def Mod_voids_L56 : Nat → Nat → Int → Int → AH → Option (Unit × AH)
  | 0, _, _, _, _ => none
  | n + 1, v0, v1, v2, h => if (5 : Int) ≤ v2 then (some ((), h)) else (if (v1 : Int) = 0 then (some ((), h)) else (gR h 13 v0 14 fun r1 => gI h 13 v0 22 fun x2 => wI h 21 r1 (wr ((wr (5 * x2)) + v2)) 1 fun h3 => gR h3 13 v0 15 fun r4 => gI h3 13 v0 22 fun x5 => wI h3 21 r4 (wr ((wr (5 * x5)) + v2)) 0 fun h6 => Mod_voids_L56 n v0 v1 ((wr (v2 + 1))) h6))
set_option maxHeartbeats 4000000 in
set_option maxRecDepth 20000 in
theorem s_Mod_voids_L56 : ∀ (n : Nat) (v0 : Nat) (v1 : Int) (v2 : Int) (h : AH), Sd M_Mod_voids 1 0 emV 56 [(0, vr v0), (1, vi v1), (2, vi v2)] [] h (Mod_voids_L56 n v0 v1 v2 h)
  | 0, _, _, _, _ => Sd.none
  | n + 1, v0, v1, v2, h => by
    rw [Mod_voids_L56]
    refine Sd_iload_n (pc' := 57) (dc D_Mod_voids 36 rfl) rfl 2 rfl rfl ?_
    refine Sd_iconst (pc' := 58) (dc D_Mod_voids 37 rfl) rfl ⟨by decide, by decide⟩ ?_
    refine Sd_icmp_ge (tgt := 99) (pc' := 61) (dc D_Mod_voids 38 rfl) (by decide) rfl (fun _ => ?_) (fun _ => ?_)
    · exact Sd_vret (dc D_Mod_voids 63 rfl) rfl
    · refine Sd_iload_n (pc' := 62) (dc D_Mod_voids 39 rfl) rfl 1 rfl rfl ?_
      refine Sd_if_eq (tgt := 99) (pc' := 65) (dc D_Mod_voids 40 rfl) (by decide) rfl (fun _ => ?_) (fun _ => ?_)
      · exact Sd_vret (dc D_Mod_voids 63 rfl) rfl
      · refine Sd_aload_n (pc' := 66) (dc D_Mod_voids 41 rfl) rfl 0 rfl rfl ?_
        refine Sd_getR (pc' := 69) (dc D_Mod_voids 42 rfl) rfl F_Mod_37 rfl rfl ?_
        refine Sd_iconst (pc' := 70) (dc D_Mod_voids 43 rfl) rfl ⟨by decide, by decide⟩ ?_
        refine Sd_aload_n (pc' := 71) (dc D_Mod_voids 44 rfl) rfl 0 rfl rfl ?_
        refine Sd_getI (pc' := 74) (dc D_Mod_voids 45 rfl) rfl F_Mod_191 rfl rfl ?_
        refine Sd_imul (pc' := 75) (dc D_Mod_voids 46 rfl) rfl ?_
        refine Sd_iload_n (pc' := 76) (dc D_Mod_voids 47 rfl) rfl 2 rfl rfl ?_
        refine Sd_iadd (pc' := 77) (dc D_Mod_voids 48 rfl) rfl ?_
        refine Sd_iconst (pc' := 78) (dc D_Mod_voids 49 rfl) rfl ⟨by decide, by decide⟩ ?_
        refine Sd_iastore (pc' := 79) (dc D_Mod_voids 50 rfl) rfl (by decide) ?_
        refine Sd_aload_n (pc' := 80) (dc D_Mod_voids 51 rfl) rfl 0 rfl rfl ?_
        refine Sd_getR (pc' := 83) (dc D_Mod_voids 52 rfl) rfl F_Mod_40 rfl rfl ?_
        refine Sd_iconst (pc' := 84) (dc D_Mod_voids 53 rfl) rfl ⟨by decide, by decide⟩ ?_
        refine Sd_aload_n (pc' := 85) (dc D_Mod_voids 54 rfl) rfl 0 rfl rfl ?_
        refine Sd_getI (pc' := 88) (dc D_Mod_voids 55 rfl) rfl F_Mod_191 rfl rfl ?_
        refine Sd_imul (pc' := 89) (dc D_Mod_voids 56 rfl) rfl ?_
        refine Sd_iload_n (pc' := 90) (dc D_Mod_voids 57 rfl) rfl 2 rfl rfl ?_
        refine Sd_iadd (pc' := 91) (dc D_Mod_voids 58 rfl) rfl ?_
        refine Sd_iconst (pc' := 92) (dc D_Mod_voids 59 rfl) rfl ⟨by decide, by decide⟩ ?_
        refine Sd_iastore (pc' := 93) (dc D_Mod_voids 60 rfl) rfl (by decide) ?_
        refine Sd_iinc (pc' := 96) (l' := [(2, _), (0, _), (1, _)]) (dc D_Mod_voids 61 rfl) rfl 2 rfl (by decide) rfl ?_
        refine Sd_goto (tgt := 56) (dc D_Mod_voids 62 rfl) (by decide) ?_
        refine Sd.sub (l' := [(0, _), (1, _), (2, _)]) [1, 2, 0] rfl ?_
        exact s_Mod_voids_L56 n _ _ _ _
def Mod_voids_L4 : Nat → Nat → Int → Int → AH → Option (Unit × AH)
  | 0, _, _, _, _ => none
  | n + 1, v0, v1, v2, h => if (5 : Int) ≤ v2 then (Mod_voids_L56 FU v0 v1 0 h) else (if ¬ (v1 : Int) = 0 then (Mod_voids_L4 n v0 1 ((wr (v2 + 1))) h) else (gR h 13 v0 14 fun r1 => gI h 13 v0 22 fun x2 => aI h 21 r1 (wr ((wr (5 * x2)) + v2)) fun x3 => gR h 13 v0 15 fun r4 => gI h 13 v0 22 fun x5 => aI h 21 r4 (wr ((wr (5 * x5)) + v2)) fun x6 => if (x3 : Int) ≤ x6 then (Mod_voids_L4 n v0 0 ((wr (v2 + 1))) h) else (Mod_voids_L4 n v0 1 ((wr (v2 + 1))) h)))
set_option maxHeartbeats 4000000 in
set_option maxRecDepth 20000 in
theorem s_Mod_voids_L4 : ∀ (n : Nat) (v0 : Nat) (v1 : Int) (v2 : Int) (h : AH), Sd M_Mod_voids 1 0 emV 4 [(0, vr v0), (1, vi v1), (2, vi v2)] [] h (Mod_voids_L4 n v0 v1 v2 h)
  | 0, _, _, _, _ => Sd.none
  | n + 1, v0, v1, v2, h => by
    rw [Mod_voids_L4]
    refine Sd_iload_n (pc' := 5) (dc D_Mod_voids 4 rfl) rfl 2 rfl rfl ?_
    refine Sd_iconst (pc' := 6) (dc D_Mod_voids 5 rfl) rfl ⟨by decide, by decide⟩ ?_
    refine Sd_icmp_ge (tgt := 54) (pc' := 9) (dc D_Mod_voids 6 rfl) (by decide) rfl (fun _ => ?_) (fun _ => ?_)
    · refine Sd_iconst (pc' := 55) (dc D_Mod_voids 34 rfl) rfl ⟨by decide, by decide⟩ ?_
      refine Sd_istore_n (pc' := 56) (l' := [(2, _), (0, _), (1, _)]) (dc D_Mod_voids 35 rfl) rfl rfl (by decide) rfl ?_
      refine Sd.sub (l' := [(0, _), (1, _), (2, _)]) [1, 2, 0] rfl ?_
      exact s_Mod_voids_L56 FU _ _ _ _
    · refine Sd_iload_n (pc' := 10) (dc D_Mod_voids 7 rfl) rfl 1 rfl rfl ?_
      refine Sd_if_ne (tgt := 42) (pc' := 13) (dc D_Mod_voids 8 rfl) (by decide) rfl (fun _ => ?_) (fun _ => ?_)
      · refine Sd_iconst (pc' := 43) (dc D_Mod_voids 28 rfl) rfl ⟨by decide, by decide⟩ ?_
        refine Sd_goto (tgt := 47) (dc D_Mod_voids 29 rfl) (by decide) ?_
        refine Sd_istore_n (pc' := 48) (l' := [(1, _), (0, _), (2, _)]) (dc D_Mod_voids 31 rfl) rfl rfl (by decide) rfl ?_
        refine Sd_iinc (pc' := 51) (l' := [(2, _), (1, _), (0, _)]) (dc D_Mod_voids 32 rfl) rfl 2 rfl (by decide) rfl ?_
        refine Sd_goto (tgt := 4) (dc D_Mod_voids 33 rfl) (by decide) ?_
        refine Sd.sub (l' := [(0, _), (1, _), (2, _)]) [2, 1, 0] rfl ?_
        exact s_Mod_voids_L4 n _ _ _ _
      · refine Sd_aload_n (pc' := 14) (dc D_Mod_voids 9 rfl) rfl 0 rfl rfl ?_
        refine Sd_getR (pc' := 17) (dc D_Mod_voids 10 rfl) rfl F_Mod_37 rfl rfl ?_
        refine Sd_iconst (pc' := 18) (dc D_Mod_voids 11 rfl) rfl ⟨by decide, by decide⟩ ?_
        refine Sd_aload_n (pc' := 19) (dc D_Mod_voids 12 rfl) rfl 0 rfl rfl ?_
        refine Sd_getI (pc' := 22) (dc D_Mod_voids 13 rfl) rfl F_Mod_191 rfl rfl ?_
        refine Sd_imul (pc' := 23) (dc D_Mod_voids 14 rfl) rfl ?_
        refine Sd_iload_n (pc' := 24) (dc D_Mod_voids 15 rfl) rfl 2 rfl rfl ?_
        refine Sd_iadd (pc' := 25) (dc D_Mod_voids 16 rfl) rfl ?_
        refine Sd_iaload (pc' := 26) (dc D_Mod_voids 17 rfl) rfl ?_
        refine Sd_aload_n (pc' := 27) (dc D_Mod_voids 18 rfl) rfl 0 rfl rfl ?_
        refine Sd_getR (pc' := 30) (dc D_Mod_voids 19 rfl) rfl F_Mod_40 rfl rfl ?_
        refine Sd_iconst (pc' := 31) (dc D_Mod_voids 20 rfl) rfl ⟨by decide, by decide⟩ ?_
        refine Sd_aload_n (pc' := 32) (dc D_Mod_voids 21 rfl) rfl 0 rfl rfl ?_
        refine Sd_getI (pc' := 35) (dc D_Mod_voids 22 rfl) rfl F_Mod_191 rfl rfl ?_
        refine Sd_imul (pc' := 36) (dc D_Mod_voids 23 rfl) rfl ?_
        refine Sd_iload_n (pc' := 37) (dc D_Mod_voids 24 rfl) rfl 2 rfl rfl ?_
        refine Sd_iadd (pc' := 38) (dc D_Mod_voids 25 rfl) rfl ?_
        refine Sd_iaload (pc' := 39) (dc D_Mod_voids 26 rfl) rfl ?_
        refine Sd_icmp_le (tgt := 46) (pc' := 42) (dc D_Mod_voids 27 rfl) (by decide) rfl (fun _ => ?_) (fun _ => ?_)
        · refine Sd_iconst (pc' := 47) (dc D_Mod_voids 30 rfl) rfl ⟨by decide, by decide⟩ ?_
          refine Sd_istore_n (pc' := 48) (l' := [(1, _), (0, _), (2, _)]) (dc D_Mod_voids 31 rfl) rfl rfl (by decide) rfl ?_
          refine Sd_iinc (pc' := 51) (l' := [(2, _), (1, _), (0, _)]) (dc D_Mod_voids 32 rfl) rfl 2 rfl (by decide) rfl ?_
          refine Sd_goto (tgt := 4) (dc D_Mod_voids 33 rfl) (by decide) ?_
          refine Sd.sub (l' := [(0, _), (1, _), (2, _)]) [2, 1, 0] rfl ?_
          exact s_Mod_voids_L4 n _ _ _ _
        · refine Sd_iconst (pc' := 43) (dc D_Mod_voids 28 rfl) rfl ⟨by decide, by decide⟩ ?_
          refine Sd_goto (tgt := 47) (dc D_Mod_voids 29 rfl) (by decide) ?_
          refine Sd_istore_n (pc' := 48) (l' := [(1, _), (0, _), (2, _)]) (dc D_Mod_voids 31 rfl) rfl rfl (by decide) rfl ?_
          refine Sd_iinc (pc' := 51) (l' := [(2, _), (1, _), (0, _)]) (dc D_Mod_voids 32 rfl) rfl 2 rfl (by decide) rfl ?_
          refine Sd_goto (tgt := 4) (dc D_Mod_voids 33 rfl) (by decide) ?_
          refine Sd.sub (l' := [(0, _), (1, _), (2, _)]) [2, 1, 0] rfl ?_
          exact s_Mod_voids_L4 n _ _ _ _
def Mod_voids (v0 : Nat) (h : AH) : Option (Unit × AH) := Mod_voids_L4 FU v0 0 0 h
set_option maxHeartbeats 4000000 in
set_option maxRecDepth 20000 in
theorem s_Mod_voids (v0 : Nat) (h : AH) : CS M_Mod_voids 1 0 emV [vr v0] h (Mod_voids v0 h) := by
  refine CS.of (by decide) (Nat.le_of_ble_eq_true rfl) ?_
  show Sd M_Mod_voids 1 0 emV 0 [(0, vr v0)] [] h _
  unfold Mod_voids
  refine Sd_iconst (pc' := 1) (dc D_Mod_voids 0 rfl) rfl ⟨by decide, by decide⟩ ?_
  refine Sd_istore_n (pc' := 2) (l' := [(1, _), (0, _)]) (dc D_Mod_voids 1 rfl) rfl rfl (by decide) rfl ?_
  refine Sd_iconst (pc' := 3) (dc D_Mod_voids 2 rfl) rfl ⟨by decide, by decide⟩ ?_
  refine Sd_istore_n (pc' := 4) (l' := [(2, _), (1, _), (0, _)]) (dc D_Mod_voids 3 rfl) rfl rfl (by decide) rfl ?_
  refine Sd.sub (l' := [(0, _), (1, _), (2, _)]) [2, 1, 0] rfl ?_
  exact s_Mod_voids_L4 FU _ _ _ _
theorem K_Mod_voids : MOk M_Mod_voids 0 := ⟨Tb_at 133 (by decide +kernel) rfl, Tb_at 1486 (by decide +kernel) rfl, by decide +kernel, by decide +kernel, by decide +kernel⟩
theorem Ks_Mod_voids : Cond.instanceMethod yX12_voids ∈ Tb := Tb_at 1485 (by decide +kernel) rfl
theorem Kv_Mod_voids : Cond.selects RX12 yX12_voids yX12_voids ∈ Tb := Tb_at 58 (by decide +kernel) rfl
/-! ===== BatchShareModel.query()I ===== -/
abbrev M_Mod_query : AMt := (yX12_query, cX12_query, 2, (some .int))
def T_Mod_query : List (Nat × Instr × Nat) := [(0, .aload_n 0, 1), (1, .getfield 96, 3), (4, .bipush 8, 2), (6, .if_icmp .ne 5, 3), (9, .iconst (-1), 1), (10, .ireturn, 1), (11, .aload_n 0, 1), (12, .aload_n 0, 1), (13, .getfield 96, 3), (16, .putfield 191, 3), (19, .aload_n 0, 1), (20, .iconst 0, 1), (21, .putfield 117, 3), (24, .aload_n 0, 1), (25, .iconst 0, 1), (26, .putfield 114, 3), (29, .aload_n 0, 1), (30, .iconst 0, 1), (31, .putfield 209, 3), (34, .iconst 0, 1), (35, .istore_n 1, 1), (36, .iload_n 1, 1), (37, .iconst 5, 1), (38, .if_icmp .ge 38, 3), (41, .aload_n 0, 1), (42, .getfield 37, 3), (45, .iconst 5, 1), (46, .aload_n 0, 1), (47, .getfield 191, 3), (50, .imul, 1), (51, .iload_n 1, 1), (52, .iadd, 1), (53, .iconst 0, 1), (54, .iastore, 1), (55, .aload_n 0, 1), (56, .getfield 40, 3), (59, .iconst 5, 1), (60, .aload_n 0, 1), (61, .getfield 191, 3), (64, .imul, 1), (65, .iload_n 1, 1), (66, .iadd, 1), (67, .bipush 9, 2), (69, .iastore, 1), (70, .iinc 1 1, 3), (73, .goto (-37), 3), (76, .aload_n 0, 1), (77, .invokevirtual 231, 3), (80, .aload_n 0, 1), (81, .getfield 114, 3), (84, .ifCond .ne 11, 3), (87, .aload_n 0, 1), (88, .invokevirtual 234, 3), (91, .aload_n 0, 1), (92, .invokevirtual 237, 3), (95, .aload_n 0, 1), (96, .iconst 0, 1), (97, .putfield 107, 3), (100, .aload_n 0, 1), (101, .getfield 114, 3), (104, .ifCond .le 11, 3), (107, .bipush (-2), 2), (109, .aload_n 0, 1), (110, .getfield 114, 3), (113, .isub, 1), (114, .ireturn, 1), (115, .aload_n 0, 1), (116, .invokevirtual 240, 3), (119, .aload_n 0, 1), (120, .dup, 1), (121, .getfield 96, 3), (124, .iconst 1, 1), (125, .iadd, 1), (126, .putfield 96, 3), (129, .aload_n 0, 1), (130, .getfield 191, 3), (133, .ireturn, 1)]
set_option maxRecDepth 20000 in
theorem D_Mod_query : (T_Mod_query.all fun q => decide (decode M_Mod_query.2.1 q.1 = .ok q.2)) = true := by decide +kernel
def Mod_query_L95 (v0 : Nat) (h : AH) : Option (Int × AH) := pI h 13 v0 18 0 fun h1 => gI h1 13 v0 20 fun x2 => if (x2 : Int) ≤ 0 then (rc h1 13 v0 <| bnd (Mod_voids v0 h1) fun _ h3 => gI h3 13 v0 10 fun x6 => pI h3 13 v0 10 (wr (x6 + 1)) fun h7 => gI h7 13 v0 22 fun x8 => some (x8, h7)) else (gI h1 13 v0 20 fun x9 => some ((wr ((-2) - x9)), h1))
set_option maxHeartbeats 4000000 in
set_option maxRecDepth 20000 in
theorem s_Mod_query_L95 (v0 : Nat) (h : AH) : Sd M_Mod_query 10 237 emI 95 [(0, vr v0)] [] h (Mod_query_L95 v0 h) := by
  unfold Mod_query_L95
  refine Sd_aload_n (pc' := 96) (dc D_Mod_query 55 rfl) rfl 0 rfl rfl ?_
  refine Sd_iconst (pc' := 97) (dc D_Mod_query 56 rfl) rfl ⟨by decide, by decide⟩ ?_
  refine Sd_putI (pc' := 100) (dc D_Mod_query 57 rfl) rfl F_Mod_107 rfl rfl rfl (finOk.no rfl) (by decide) ?_
  refine Sd_aload_n (pc' := 101) (dc D_Mod_query 58 rfl) rfl 0 rfl rfl ?_
  refine Sd_getI (pc' := 104) (dc D_Mod_query 59 rfl) rfl F_Mod_114 rfl rfl ?_
  refine Sd_if_le (tgt := 115) (pc' := 107) (dc D_Mod_query 60 rfl) (by decide) rfl (fun _ => ?_) (fun _ => ?_)
  · refine Sd_aload_n (pc' := 116) (dc D_Mod_query 66 rfl) rfl 0 rfl rfl ?_
    refine Sd.callVV (ci := 12) (t := 13) (as := []) RX12 (pc' := 119) (dc D_Mod_query 67 rfl) rfl rfl rfl rfl K_Mod_voids L_Mod_240 Ks_Mod_voids Kv_Mod_voids ⟨by decide, by decide⟩ rfl rfl (Nat.le_of_ble_eq_true rfl) (s_Mod_voids _ _) (fun _ h3 => ?_)
    refine Sd_aload_n (pc' := 120) (dc D_Mod_query 68 rfl) rfl 0 rfl rfl ?_
    refine Sd_dup (pc' := 121) (dc D_Mod_query 69 rfl) rfl (cat_r _) ?_
    refine Sd_getI (pc' := 124) (dc D_Mod_query 70 rfl) rfl F_Mod_96 rfl rfl ?_
    refine Sd_iconst (pc' := 125) (dc D_Mod_query 71 rfl) rfl ⟨by decide, by decide⟩ ?_
    refine Sd_iadd (pc' := 126) (dc D_Mod_query 72 rfl) rfl ?_
    refine Sd_putI (pc' := 129) (dc D_Mod_query 73 rfl) rfl F_Mod_96 rfl rfl rfl (finOk.no rfl) (by decide) ?_
    refine Sd_aload_n (pc' := 130) (dc D_Mod_query 74 rfl) rfl 0 rfl rfl ?_
    refine Sd_getI (pc' := 133) (dc D_Mod_query 75 rfl) rfl F_Mod_191 rfl rfl ?_
    exact Sd_iret (dc D_Mod_query 76 rfl) rfl
  · refine Sd_bipush (pc' := 109) (dc D_Mod_query 61 rfl) rfl ⟨by decide, by decide⟩ (by decide) ?_
    refine Sd_aload_n (pc' := 110) (dc D_Mod_query 62 rfl) rfl 0 rfl rfl ?_
    refine Sd_getI (pc' := 113) (dc D_Mod_query 63 rfl) rfl F_Mod_114 rfl rfl ?_
    refine Sd_isub (pc' := 114) (dc D_Mod_query 64 rfl) rfl ?_
    exact Sd_iret (dc D_Mod_query 65 rfl) rfl
def Mod_query_L36 : Nat → Nat → Int → AH → Option (Int × AH)
  | 0, _, _, _ => none
  | n + 1, v0, v1, h => if (5 : Int) ≤ v1 then (rc h 13 v0 <| bnd (Mod_sourcePart v0 h) fun _ h1 => gI h1 13 v0 20 fun x4 => if ¬ (x4 : Int) = 0 then (Mod_query_L95 v0 h1) else (rc h1 13 v0 <| bnd (Mod_showsAll v0 h1) fun _ h5 => rc h5 13 v0 <| bnd (Mod_stepsPart v0 h5) fun _ h8 => Mod_query_L95 v0 h8)) else (gR h 13 v0 14 fun r11 => gI h 13 v0 22 fun x12 => wI h 21 r11 (wr ((wr (5 * x12)) + v1)) 0 fun h13 => gR h13 13 v0 15 fun r14 => gI h13 13 v0 22 fun x15 => wI h13 21 r14 (wr ((wr (5 * x15)) + v1)) 9 fun h16 => Mod_query_L36 n v0 ((wr (v1 + 1))) h16)
set_option maxHeartbeats 4000000 in
set_option maxRecDepth 20000 in
theorem s_Mod_query_L36 : ∀ (n : Nat) (v0 : Nat) (v1 : Int) (h : AH), Sd M_Mod_query 10 237 emI 36 [(0, vr v0), (1, vi v1)] [] h (Mod_query_L36 n v0 v1 h)
  | 0, _, _, _ => Sd.none
  | n + 1, v0, v1, h => by
    rw [Mod_query_L36]
    refine Sd_iload_n (pc' := 37) (dc D_Mod_query 21 rfl) rfl 1 rfl rfl ?_
    refine Sd_iconst (pc' := 38) (dc D_Mod_query 22 rfl) rfl ⟨by decide, by decide⟩ ?_
    refine Sd_icmp_ge (tgt := 76) (pc' := 41) (dc D_Mod_query 23 rfl) (by decide) rfl (fun _ => ?_) (fun _ => ?_)
    · refine Sd_aload_n (pc' := 77) (dc D_Mod_query 46 rfl) rfl 0 rfl rfl ?_
      refine Sd.callVV (ci := 12) (t := 13) (as := []) RX12 (pc' := 80) (dc D_Mod_query 47 rfl) rfl rfl rfl rfl K_Mod_sourcePart L_Mod_231 Ks_Mod_sourcePart Kv_Mod_sourcePart ⟨by decide, by decide⟩ rfl rfl (Nat.le_of_ble_eq_true rfl) (s_Mod_sourcePart _ _) (fun _ h1 => ?_)
      refine Sd_aload_n (pc' := 81) (dc D_Mod_query 48 rfl) rfl 0 rfl rfl ?_
      refine Sd_getI (pc' := 84) (dc D_Mod_query 49 rfl) rfl F_Mod_114 rfl rfl ?_
      refine Sd_if_ne (tgt := 95) (pc' := 87) (dc D_Mod_query 50 rfl) (by decide) rfl (fun _ => ?_) (fun _ => ?_)
      · refine Sd.sub (l' := [(0, _)]) [0] rfl ?_
        exact s_Mod_query_L95 _ _
      · refine Sd_aload_n (pc' := 88) (dc D_Mod_query 51 rfl) rfl 0 rfl rfl ?_
        refine Sd.callVV (ci := 12) (t := 13) (as := []) RX12 (pc' := 91) (dc D_Mod_query 52 rfl) rfl rfl rfl rfl K_Mod_showsAll L_Mod_234 Ks_Mod_showsAll Kv_Mod_showsAll ⟨by decide, by decide⟩ rfl rfl (Nat.le_of_ble_eq_true rfl) (s_Mod_showsAll _ _) (fun _ h5 => ?_)
        refine Sd_aload_n (pc' := 92) (dc D_Mod_query 53 rfl) rfl 0 rfl rfl ?_
        refine Sd.callVV (ci := 12) (t := 13) (as := []) RX12 (pc' := 95) (dc D_Mod_query 54 rfl) rfl rfl rfl rfl K_Mod_stepsPart L_Mod_237 Ks_Mod_stepsPart Kv_Mod_stepsPart ⟨by decide, by decide⟩ rfl rfl (Nat.le_of_ble_eq_true rfl) (s_Mod_stepsPart _ _) (fun _ h8 => ?_)
        refine Sd.sub (l' := [(0, _)]) [0] rfl ?_
        exact s_Mod_query_L95 _ _
    · refine Sd_aload_n (pc' := 42) (dc D_Mod_query 24 rfl) rfl 0 rfl rfl ?_
      refine Sd_getR (pc' := 45) (dc D_Mod_query 25 rfl) rfl F_Mod_37 rfl rfl ?_
      refine Sd_iconst (pc' := 46) (dc D_Mod_query 26 rfl) rfl ⟨by decide, by decide⟩ ?_
      refine Sd_aload_n (pc' := 47) (dc D_Mod_query 27 rfl) rfl 0 rfl rfl ?_
      refine Sd_getI (pc' := 50) (dc D_Mod_query 28 rfl) rfl F_Mod_191 rfl rfl ?_
      refine Sd_imul (pc' := 51) (dc D_Mod_query 29 rfl) rfl ?_
      refine Sd_iload_n (pc' := 52) (dc D_Mod_query 30 rfl) rfl 1 rfl rfl ?_
      refine Sd_iadd (pc' := 53) (dc D_Mod_query 31 rfl) rfl ?_
      refine Sd_iconst (pc' := 54) (dc D_Mod_query 32 rfl) rfl ⟨by decide, by decide⟩ ?_
      refine Sd_iastore (pc' := 55) (dc D_Mod_query 33 rfl) rfl (by decide) ?_
      refine Sd_aload_n (pc' := 56) (dc D_Mod_query 34 rfl) rfl 0 rfl rfl ?_
      refine Sd_getR (pc' := 59) (dc D_Mod_query 35 rfl) rfl F_Mod_40 rfl rfl ?_
      refine Sd_iconst (pc' := 60) (dc D_Mod_query 36 rfl) rfl ⟨by decide, by decide⟩ ?_
      refine Sd_aload_n (pc' := 61) (dc D_Mod_query 37 rfl) rfl 0 rfl rfl ?_
      refine Sd_getI (pc' := 64) (dc D_Mod_query 38 rfl) rfl F_Mod_191 rfl rfl ?_
      refine Sd_imul (pc' := 65) (dc D_Mod_query 39 rfl) rfl ?_
      refine Sd_iload_n (pc' := 66) (dc D_Mod_query 40 rfl) rfl 1 rfl rfl ?_
      refine Sd_iadd (pc' := 67) (dc D_Mod_query 41 rfl) rfl ?_
      refine Sd_bipush (pc' := 69) (dc D_Mod_query 42 rfl) rfl ⟨by decide, by decide⟩ (by decide) ?_
      refine Sd_iastore (pc' := 70) (dc D_Mod_query 43 rfl) rfl (by decide) ?_
      refine Sd_iinc (pc' := 73) (l' := [(1, _), (0, _)]) (dc D_Mod_query 44 rfl) rfl 1 rfl (by decide) rfl ?_
      refine Sd_goto (tgt := 36) (dc D_Mod_query 45 rfl) (by decide) ?_
      refine Sd.sub (l' := [(0, _), (1, _)]) [1, 0] rfl ?_
      exact s_Mod_query_L36 n _ _ _
def Mod_query (v0 : Nat) (h : AH) : Option (Int × AH) := gI h 13 v0 10 fun x1 => if ¬ (x1 : Int) = 8 then (gI h 13 v0 10 fun x2 => pI h 13 v0 22 x2 fun h3 => pI h3 13 v0 19 0 fun h4 => pI h4 13 v0 20 0 fun h5 => pI h5 13 v0 23 0 fun h6 => Mod_query_L36 FU v0 0 h6) else (some ((-1), h))
set_option maxHeartbeats 4000000 in
set_option maxRecDepth 20000 in
theorem s_Mod_query (v0 : Nat) (h : AH) : CS M_Mod_query 10 237 emI [vr v0] h (Mod_query v0 h) := by
  refine CS.of (by decide) (Nat.le_of_ble_eq_true rfl) ?_
  show Sd M_Mod_query 10 237 emI 0 [(0, vr v0)] [] h _
  unfold Mod_query
  refine Sd_aload_n (pc' := 1) (dc D_Mod_query 0 rfl) rfl 0 rfl rfl ?_
  refine Sd_getI (pc' := 4) (dc D_Mod_query 1 rfl) rfl F_Mod_96 rfl rfl ?_
  refine Sd_bipush (pc' := 6) (dc D_Mod_query 2 rfl) rfl ⟨by decide, by decide⟩ (by decide) ?_
  refine Sd_icmp_ne (tgt := 11) (pc' := 9) (dc D_Mod_query 3 rfl) (by decide) rfl (fun _ => ?_) (fun _ => ?_)
  · refine Sd_aload_n (pc' := 12) (dc D_Mod_query 6 rfl) rfl 0 rfl rfl ?_
    refine Sd_aload_n (pc' := 13) (dc D_Mod_query 7 rfl) rfl 0 rfl rfl ?_
    refine Sd_getI (pc' := 16) (dc D_Mod_query 8 rfl) rfl F_Mod_96 rfl rfl ?_
    refine Sd_putI (pc' := 19) (dc D_Mod_query 9 rfl) rfl F_Mod_191 rfl rfl rfl (finOk.no rfl) (by decide) ?_
    refine Sd_aload_n (pc' := 20) (dc D_Mod_query 10 rfl) rfl 0 rfl rfl ?_
    refine Sd_iconst (pc' := 21) (dc D_Mod_query 11 rfl) rfl ⟨by decide, by decide⟩ ?_
    refine Sd_putI (pc' := 24) (dc D_Mod_query 12 rfl) rfl F_Mod_117 rfl rfl rfl (finOk.no rfl) (by decide) ?_
    refine Sd_aload_n (pc' := 25) (dc D_Mod_query 13 rfl) rfl 0 rfl rfl ?_
    refine Sd_iconst (pc' := 26) (dc D_Mod_query 14 rfl) rfl ⟨by decide, by decide⟩ ?_
    refine Sd_putI (pc' := 29) (dc D_Mod_query 15 rfl) rfl F_Mod_114 rfl rfl rfl (finOk.no rfl) (by decide) ?_
    refine Sd_aload_n (pc' := 30) (dc D_Mod_query 16 rfl) rfl 0 rfl rfl ?_
    refine Sd_iconst (pc' := 31) (dc D_Mod_query 17 rfl) rfl ⟨by decide, by decide⟩ ?_
    refine Sd_putI (pc' := 34) (dc D_Mod_query 18 rfl) rfl F_Mod_209 rfl rfl rfl (finOk.no rfl) (by decide) ?_
    refine Sd_iconst (pc' := 35) (dc D_Mod_query 19 rfl) rfl ⟨by decide, by decide⟩ ?_
    refine Sd_istore_n (pc' := 36) (l' := [(1, _), (0, _)]) (dc D_Mod_query 20 rfl) rfl rfl (by decide) rfl ?_
    refine Sd.sub (l' := [(0, _), (1, _)]) [1, 0] rfl ?_
    exact s_Mod_query_L36 FU _ _ _
  · refine Sd_iconst (pc' := 10) (dc D_Mod_query 4 rfl) rfl ⟨by decide, by decide⟩ ?_
    exact Sd_iret (dc D_Mod_query 5 rfl) rfl
theorem K_Mod_query : MOk M_Mod_query 0 := ⟨Tb_at 133 (by decide +kernel) rfl, Tb_at 1434 (by decide +kernel) rfl, by decide +kernel, by decide +kernel, by decide +kernel⟩
theorem Ks_Mod_query : Cond.instanceMethod yX12_query ∈ Tb := Tb_at 1432 (by decide +kernel) rfl
theorem Kv_Mod_query : Cond.selects RX12 yX12_query yX12_query ∈ Tb := Tb_at 1433 (by decide +kernel) rfl
/-! ===== BatchShareModel.manyOf(I)I ===== -/
abbrev M_Mod_manyOf : AMt := (yX12_manyOf, cX12_manyOf, 2, (some .int))
def T_Mod_manyOf : List (Nat × Instr × Nat) := [(0, .iload_n 1, 1), (1, .ifCond .ne 12, 3), (4, .aload_n 0, 1), (5, .getfield 9, 3), (8, .iconst 2, 1), (9, .iaload, 1), (10, .goto 9, 3), (13, .aload_n 0, 1), (14, .getfield 9, 3), (17, .iconst 3, 1), (18, .iaload, 1), (19, .ireturn, 1)]
set_option maxRecDepth 20000 in
theorem D_Mod_manyOf : (T_Mod_manyOf.all fun q => decide (decode M_Mod_manyOf.2.1 q.1 = .ok q.2)) = true := by decide +kernel
def Mod_manyOf (v0 : Nat) (v1 : Int) (h : AH) : Option (Int × AH) := if ¬ (v1 : Int) = 0 then (gR h 13 v0 1 fun r1 => aI h 21 r1 3 fun x2 => some (x2, h)) else (gR h 13 v0 1 fun r3 => aI h 21 r3 2 fun x4 => some (x4, h))
set_option maxHeartbeats 4000000 in
set_option maxRecDepth 20000 in
theorem s_Mod_manyOf (v0 : Nat) (v1 : Int) (h : AH) : CS M_Mod_manyOf 1 0 emI [vr v0, vi v1] h (Mod_manyOf v0 v1 h) := by
  refine CS.of (by decide) (Nat.le_of_ble_eq_true rfl) ?_
  show Sd M_Mod_manyOf 1 0 emI 0 [(0, vr v0), (1, vi v1)] [] h _
  unfold Mod_manyOf
  refine Sd_iload_n (pc' := 1) (dc D_Mod_manyOf 0 rfl) rfl 1 rfl rfl ?_
  refine Sd_if_ne (tgt := 13) (pc' := 4) (dc D_Mod_manyOf 1 rfl) (by decide) rfl (fun _ => ?_) (fun _ => ?_)
  · refine Sd_aload_n (pc' := 14) (dc D_Mod_manyOf 7 rfl) rfl 0 rfl rfl ?_
    refine Sd_getR (pc' := 17) (dc D_Mod_manyOf 8 rfl) rfl F_Mod_9 rfl rfl ?_
    refine Sd_iconst (pc' := 18) (dc D_Mod_manyOf 9 rfl) rfl ⟨by decide, by decide⟩ ?_
    refine Sd_iaload (pc' := 19) (dc D_Mod_manyOf 10 rfl) rfl ?_
    exact Sd_iret (dc D_Mod_manyOf 11 rfl) rfl
  · refine Sd_aload_n (pc' := 5) (dc D_Mod_manyOf 2 rfl) rfl 0 rfl rfl ?_
    refine Sd_getR (pc' := 8) (dc D_Mod_manyOf 3 rfl) rfl F_Mod_9 rfl rfl ?_
    refine Sd_iconst (pc' := 9) (dc D_Mod_manyOf 4 rfl) rfl ⟨by decide, by decide⟩ ?_
    refine Sd_iaload (pc' := 10) (dc D_Mod_manyOf 5 rfl) rfl ?_
    refine Sd_goto (tgt := 19) (dc D_Mod_manyOf 6 rfl) (by decide) ?_
    exact Sd_iret (dc D_Mod_manyOf 11 rfl) rfl
theorem K_Mod_manyOf : MOk M_Mod_manyOf 1 := ⟨Tb_at 133 (by decide +kernel) rfl, Tb_at 1498 (by decide +kernel) rfl, by decide +kernel, by decide +kernel, by decide +kernel⟩
theorem Ks_Mod_manyOf : Cond.instanceMethod yX12_manyOf ∈ Tb := Tb_at 1497 (by decide +kernel) rfl
theorem Kv_Mod_manyOf : Cond.selects RX12 yX12_manyOf yX12_manyOf ∈ Tb := Tb_at 60 (by decide +kernel) rfl
/-! ===== BatchShareModel.isRow(II)Z ===== -/
abbrev M_Mod_isRow : AMt := (yX12_isRow, cX12_isRow, 3, (some .boolean))
def T_Mod_isRow : List (Nat × Instr × Nat) := [(0, .iload_n 1, 1), (1, .i2l, 1), (2, .lconst 0, 1), (3, .lconst 1, 1), (4, .invokestatic 88, 3), (7, .ifCond .eq 24, 3), (10, .iload_n 2, 1), (11, .i2l, 1), (12, .lconst 0, 1), (13, .aload_n 0, 1), (14, .iload_n 1, 1), (15, .invokevirtual 92, 3), (18, .iconst 1, 1), (19, .isub, 1), (20, .i2l, 1), (21, .invokestatic 88, 3), (24, .ifCond .eq 7, 3), (27, .iconst 1, 1), (28, .goto 4, 3), (31, .iconst 0, 1), (32, .ireturn, 1)]
set_option maxRecDepth 20000 in
theorem D_Mod_isRow : (T_Mod_isRow.all fun q => decide (decode M_Mod_isRow.2.1 q.1 = .ok q.2)) = true := by decide +kernel
def Mod_isRow (v0 : Nat) (v1 : Int) (v2 : Int) (h : AH) : Option (Int × AH) := bnd (Mod_in v1 0 1 h) fun x2 h1 => if (x2 : Int) = 0 then (some (0, h1)) else (rc h1 13 v0 <| bnd (Mod_manyOf v0 v1 h1) fun x5 h4 => bnd (Mod_in v2 0 (wr (x5 - 1)) h4) fun x8 h7 => if (x8 : Int) = 0 then (some (0, h7)) else (some (1, h7)))
set_option maxHeartbeats 4000000 in
set_option maxRecDepth 20000 in
theorem s_Mod_isRow (v0 : Nat) (v1 : Int) (v2 : Int) (h : AH) : CS M_Mod_isRow 2 25 emI [vr v0, vi v1, vi v2] h (Mod_isRow v0 v1 v2 h) := by
  refine CS.of (by decide) (Nat.le_of_ble_eq_true rfl) ?_
  show Sd M_Mod_isRow 2 25 emI 0 [(0, vr v0), (1, vi v1), (2, vi v2)] [] h _
  unfold Mod_isRow
  refine Sd_iload_n (pc' := 1) (dc D_Mod_isRow 0 rfl) rfl 1 rfl rfl ?_
  refine Sd_i2l (pc' := 2) (dc D_Mod_isRow 1 rfl) rfl ?_
  refine Sd_lconst (z := 0) (pc' := 3) (dc D_Mod_isRow 2 rfl) rfl ⟨by decide, by decide⟩ (by decide) ?_
  refine Sd_lconst (z := 1) (pc' := 4) (dc D_Mod_isRow 3 rfl) rfl ⟨by decide, by decide⟩ (by decide) ?_
  refine Sd.callSI (as := [_, _, _]) (pc' := 7) (dc D_Mod_isRow 4 rfl) rfl K_Mod_in L_Mod_88 Ks_Mod_in ⟨by decide, by decide⟩ rfl rfl (Nat.le_of_ble_eq_true rfl) (s_Mod_in _ _ _ _) (fun x2 h1 => ?_)
  refine Sd_if_eq (tgt := 31) (pc' := 10) (dc D_Mod_isRow 5 rfl) (by decide) rfl (fun _ => ?_) (fun _ => ?_)
  · refine Sd_iconst (pc' := 32) (dc D_Mod_isRow 19 rfl) rfl ⟨by decide, by decide⟩ ?_
    exact Sd_zret (dc D_Mod_isRow 20 rfl) rfl (Or.inl rfl)
  · refine Sd_iload_n (pc' := 11) (dc D_Mod_isRow 6 rfl) rfl 2 rfl rfl ?_
    refine Sd_i2l (pc' := 12) (dc D_Mod_isRow 7 rfl) rfl ?_
    refine Sd_lconst (z := 0) (pc' := 13) (dc D_Mod_isRow 8 rfl) rfl ⟨by decide, by decide⟩ (by decide) ?_
    refine Sd_aload_n (pc' := 14) (dc D_Mod_isRow 9 rfl) rfl 0 rfl rfl ?_
    refine Sd_iload_n (pc' := 15) (dc D_Mod_isRow 10 rfl) rfl 1 rfl rfl ?_
    refine Sd.callVI (ci := 12) (t := 13) (as := [_]) RX12 (pc' := 18) (dc D_Mod_isRow 11 rfl) rfl rfl rfl rfl K_Mod_manyOf L_Mod_92 Ks_Mod_manyOf Kv_Mod_manyOf ⟨by decide, by decide⟩ rfl rfl (Nat.le_of_ble_eq_true rfl) (s_Mod_manyOf _ _ _) (fun x5 h4 => ?_)
    refine Sd_iconst (pc' := 19) (dc D_Mod_isRow 12 rfl) rfl ⟨by decide, by decide⟩ ?_
    refine Sd_isub (pc' := 20) (dc D_Mod_isRow 13 rfl) rfl ?_
    refine Sd_i2l (pc' := 21) (dc D_Mod_isRow 14 rfl) rfl ?_
    refine Sd.callSI (as := [_, _, _]) (pc' := 24) (dc D_Mod_isRow 15 rfl) rfl K_Mod_in L_Mod_88 Ks_Mod_in ⟨by decide, by decide⟩ rfl rfl (Nat.le_of_ble_eq_true rfl) (s_Mod_in _ _ _ _) (fun x8 h7 => ?_)
    refine Sd_if_eq (tgt := 31) (pc' := 27) (dc D_Mod_isRow 16 rfl) (by decide) rfl (fun _ => ?_) (fun _ => ?_)
    · refine Sd_iconst (pc' := 32) (dc D_Mod_isRow 19 rfl) rfl ⟨by decide, by decide⟩ ?_
      exact Sd_zret (dc D_Mod_isRow 20 rfl) rfl (Or.inl rfl)
    · refine Sd_iconst (pc' := 28) (dc D_Mod_isRow 17 rfl) rfl ⟨by decide, by decide⟩ ?_
      refine Sd_goto (tgt := 32) (dc D_Mod_isRow 18 rfl) (by decide) ?_
      exact Sd_zret (dc D_Mod_isRow 20 rfl) rfl (Or.inr rfl)
theorem K_Mod_isRow : MOk M_Mod_isRow 2 := ⟨Tb_at 133 (by decide +kernel) rfl, Tb_at 1494 (by decide +kernel) rfl, by decide +kernel, by decide +kernel, by decide +kernel⟩
theorem Ks_Mod_isRow : Cond.instanceMethod yX12_isRow ∈ Tb := Tb_at 1493 (by decide +kernel) rfl
theorem Kv_Mod_isRow : Cond.selects RX12 yX12_isRow yX12_isRow ∈ Tb := Tb_at 59 (by decide +kernel) rfl
/-! ===== BatchShareModel.numberAt(II)I ===== -/
abbrev M_Mod_numberAt : AMt := (yX12_numberAt, cX12_numberAt, 3, (some .int))
def T_Mod_numberAt : List (Nat × Instr × Nat) := [(0, .iload_n 2, 1), (1, .iconst 3, 1), (2, .if_icmp .ge 16, 3), (5, .aload_n 0, 1), (6, .getfield 13, 3), (9, .iconst 3, 1), (10, .iload_n 1, 1), (11, .imul, 1), (12, .iload_n 2, 1), (13, .iadd, 1), (14, .iaload, 1), (15, .goto 15, 3), (18, .aload_n 0, 1), (19, .getfield 16, 3), (22, .iconst 2, 1), (23, .iload_n 1, 1), (24, .imul, 1), (25, .iload_n 2, 1), (26, .iadd, 1), (27, .iconst 3, 1), (28, .isub, 1), (29, .iaload, 1), (30, .ireturn, 1)]
set_option maxRecDepth 20000 in
theorem D_Mod_numberAt : (T_Mod_numberAt.all fun q => decide (decode M_Mod_numberAt.2.1 q.1 = .ok q.2)) = true := by decide +kernel
def Mod_numberAt (v0 : Nat) (v1 : Int) (v2 : Int) (h : AH) : Option (Int × AH) := if (3 : Int) ≤ v2 then (gR h 13 v0 3 fun r1 => aI h 21 r1 (wr ((wr ((wr (2 * v1)) + v2)) - 3)) fun x2 => some (x2, h)) else (gR h 13 v0 2 fun r3 => aI h 21 r3 (wr ((wr (3 * v1)) + v2)) fun x4 => some (x4, h))
set_option maxHeartbeats 4000000 in
set_option maxRecDepth 20000 in
theorem s_Mod_numberAt (v0 : Nat) (v1 : Int) (v2 : Int) (h : AH) : CS M_Mod_numberAt 1 0 emI [vr v0, vi v1, vi v2] h (Mod_numberAt v0 v1 v2 h) := by
  refine CS.of (by decide) (Nat.le_of_ble_eq_true rfl) ?_
  show Sd M_Mod_numberAt 1 0 emI 0 [(0, vr v0), (1, vi v1), (2, vi v2)] [] h _
  unfold Mod_numberAt
  refine Sd_iload_n (pc' := 1) (dc D_Mod_numberAt 0 rfl) rfl 2 rfl rfl ?_
  refine Sd_iconst (pc' := 2) (dc D_Mod_numberAt 1 rfl) rfl ⟨by decide, by decide⟩ ?_
  refine Sd_icmp_ge (tgt := 18) (pc' := 5) (dc D_Mod_numberAt 2 rfl) (by decide) rfl (fun _ => ?_) (fun _ => ?_)
  · refine Sd_aload_n (pc' := 19) (dc D_Mod_numberAt 12 rfl) rfl 0 rfl rfl ?_
    refine Sd_getR (pc' := 22) (dc D_Mod_numberAt 13 rfl) rfl F_Mod_16 rfl rfl ?_
    refine Sd_iconst (pc' := 23) (dc D_Mod_numberAt 14 rfl) rfl ⟨by decide, by decide⟩ ?_
    refine Sd_iload_n (pc' := 24) (dc D_Mod_numberAt 15 rfl) rfl 1 rfl rfl ?_
    refine Sd_imul (pc' := 25) (dc D_Mod_numberAt 16 rfl) rfl ?_
    refine Sd_iload_n (pc' := 26) (dc D_Mod_numberAt 17 rfl) rfl 2 rfl rfl ?_
    refine Sd_iadd (pc' := 27) (dc D_Mod_numberAt 18 rfl) rfl ?_
    refine Sd_iconst (pc' := 28) (dc D_Mod_numberAt 19 rfl) rfl ⟨by decide, by decide⟩ ?_
    refine Sd_isub (pc' := 29) (dc D_Mod_numberAt 20 rfl) rfl ?_
    refine Sd_iaload (pc' := 30) (dc D_Mod_numberAt 21 rfl) rfl ?_
    exact Sd_iret (dc D_Mod_numberAt 22 rfl) rfl
  · refine Sd_aload_n (pc' := 6) (dc D_Mod_numberAt 3 rfl) rfl 0 rfl rfl ?_
    refine Sd_getR (pc' := 9) (dc D_Mod_numberAt 4 rfl) rfl F_Mod_13 rfl rfl ?_
    refine Sd_iconst (pc' := 10) (dc D_Mod_numberAt 5 rfl) rfl ⟨by decide, by decide⟩ ?_
    refine Sd_iload_n (pc' := 11) (dc D_Mod_numberAt 6 rfl) rfl 1 rfl rfl ?_
    refine Sd_imul (pc' := 12) (dc D_Mod_numberAt 7 rfl) rfl ?_
    refine Sd_iload_n (pc' := 13) (dc D_Mod_numberAt 8 rfl) rfl 2 rfl rfl ?_
    refine Sd_iadd (pc' := 14) (dc D_Mod_numberAt 9 rfl) rfl ?_
    refine Sd_iaload (pc' := 15) (dc D_Mod_numberAt 10 rfl) rfl ?_
    refine Sd_goto (tgt := 30) (dc D_Mod_numberAt 11 rfl) (by decide) ?_
    exact Sd_iret (dc D_Mod_numberAt 22 rfl) rfl
theorem K_Mod_numberAt : MOk M_Mod_numberAt 2 := ⟨Tb_at 133 (by decide +kernel) rfl, Tb_at 1505 (by decide +kernel) rfl, by decide +kernel, by decide +kernel, by decide +kernel⟩
theorem Ks_Mod_numberAt : Cond.instanceMethod yX12_numberAt ∈ Tb := Tb_at 1504 (by decide +kernel) rfl
theorem Kv_Mod_numberAt : Cond.selects RX12 yX12_numberAt yX12_numberAt ∈ Tb := Tb_at 61 (by decide +kernel) rfl
/-! ===== BatchShareModel.cell(III)I ===== -/
abbrev M_Mod_cell : AMt := (yX12_cell, cX12_cell, 4, (some .int))
def T_Mod_cell : List (Nat × Instr × Nat) := [(0, .aload_n 0, 1), (1, .iload_n 1, 1), (2, .iload_n 2, 1), (3, .invokevirtual 243, 3), (6, .ifCond .eq 35, 3), (9, .iload_n 3, 1), (10, .i2l, 1), (11, .iload_n 1, 1), (12, .ifCond .ne 7, 3), (15, .lconst 0, 1), (16, .goto 6, 3), (19, .ldc2_w 246, 3), (22, .iload_n 1, 1), (23, .ifCond .ne 9, 3), (26, .ldc2_w 248, 3), (29, .goto 6, 3), (32, .ldc2_w 250, 3), (35, .invokestatic 88, 3), (38, .ifCond .ne 5, 3), (41, .iconst (-1), 1), (42, .ireturn, 1), (43, .aload_n 0, 1), (44, .iload_n 2, 1), (45, .iload_n 3, 1), (46, .invokevirtual 252, 3), (49, .ireturn, 1)]
set_option maxRecDepth 20000 in
theorem D_Mod_cell : (T_Mod_cell.all fun q => decide (decode M_Mod_cell.2.1 q.1 = .ok q.2)) = true := by decide +kernel
def Mod_cell_L35 (v0 : Nat) (v2 : Int) (v3 : Int) (s0 : Int) (s1 : Int) (s2 : Int) (h : AH) : Option (Int × AH) := bnd (Mod_in s2 s1 s0 h) fun x2 h1 => if ¬ (x2 : Int) = 0 then (rc h1 13 v0 <| bnd (Mod_numberAt v0 v2 v3 h1) fun x5 h4 => some (x5, h4)) else (some ((-1), h1))
set_option maxHeartbeats 4000000 in
set_option maxRecDepth 20000 in
theorem s_Mod_cell_L35 (v0 : Nat) (v2 : Int) (v3 : Int) (s0 : Int) (s1 : Int) (s2 : Int) (h : AH) : Sd M_Mod_cell 3 47 emI 35 [(0, vr v0), (2, vi v2), (3, vi v3)] [vl s0, vl s1, vl s2] h (Mod_cell_L35 v0 v2 v3 s0 s1 s2 h) := by
  unfold Mod_cell_L35
  refine Sd.callSI (as := [_, _, _]) (pc' := 38) (dc D_Mod_cell 17 rfl) rfl K_Mod_in L_Mod_88 Ks_Mod_in ⟨by decide, by decide⟩ rfl rfl (Nat.le_of_ble_eq_true rfl) (s_Mod_in _ _ _ _) (fun x2 h1 => ?_)
  refine Sd_if_ne (tgt := 43) (pc' := 41) (dc D_Mod_cell 18 rfl) (by decide) rfl (fun _ => ?_) (fun _ => ?_)
  · refine Sd_aload_n (pc' := 44) (dc D_Mod_cell 21 rfl) rfl 0 rfl rfl ?_
    refine Sd_iload_n (pc' := 45) (dc D_Mod_cell 22 rfl) rfl 1 rfl rfl ?_
    refine Sd_iload_n (pc' := 46) (dc D_Mod_cell 23 rfl) rfl 2 rfl rfl ?_
    refine Sd.callVI (ci := 12) (t := 13) (as := [_, _]) RX12 (pc' := 49) (dc D_Mod_cell 24 rfl) rfl rfl rfl rfl K_Mod_numberAt L_Mod_252 Ks_Mod_numberAt Kv_Mod_numberAt ⟨by decide, by decide⟩ rfl rfl (Nat.le_of_ble_eq_true rfl) (s_Mod_numberAt _ _ _ _) (fun x5 h4 => ?_)
    exact Sd_iret (dc D_Mod_cell 25 rfl) rfl
  · refine Sd_iconst (pc' := 42) (dc D_Mod_cell 19 rfl) rfl ⟨by decide, by decide⟩ ?_
    exact Sd_iret (dc D_Mod_cell 20 rfl) rfl
def Mod_cell (v0 : Nat) (v1 : Int) (v2 : Int) (v3 : Int) (h : AH) : Option (Int × AH) := rc h 13 v0 <| bnd (Mod_isRow v0 v1 v2 h) fun x2 h1 => if (x2 : Int) = 0 then (some ((-1), h1)) else (if ¬ (v1 : Int) = 0 then (if ¬ (v1 : Int) = 0 then (Mod_cell_L35 v0 v2 v3 4 3 v3 h1) else (Mod_cell_L35 v0 v2 v3 2 3 v3 h1)) else (if ¬ (v1 : Int) = 0 then (Mod_cell_L35 v0 v2 v3 4 0 v3 h1) else (Mod_cell_L35 v0 v2 v3 2 0 v3 h1)))
set_option maxHeartbeats 4000000 in
set_option maxRecDepth 20000 in
theorem s_Mod_cell (v0 : Nat) (v1 : Int) (v2 : Int) (v3 : Int) (h : AH) : CS M_Mod_cell 3 47 emI [vr v0, vi v1, vi v2, vi v3] h (Mod_cell v0 v1 v2 v3 h) := by
  refine CS.of (by decide) (Nat.le_of_ble_eq_true rfl) ?_
  show Sd M_Mod_cell 3 47 emI 0 [(0, vr v0), (1, vi v1), (2, vi v2), (3, vi v3)] [] h _
  unfold Mod_cell
  refine Sd_aload_n (pc' := 1) (dc D_Mod_cell 0 rfl) rfl 0 rfl rfl ?_
  refine Sd_iload_n (pc' := 2) (dc D_Mod_cell 1 rfl) rfl 1 rfl rfl ?_
  refine Sd_iload_n (pc' := 3) (dc D_Mod_cell 2 rfl) rfl 2 rfl rfl ?_
  refine Sd.callVI (ci := 12) (t := 13) (as := [_, _]) RX12 (pc' := 6) (dc D_Mod_cell 3 rfl) rfl rfl rfl rfl K_Mod_isRow L_Mod_243 Ks_Mod_isRow Kv_Mod_isRow ⟨by decide, by decide⟩ rfl rfl (Nat.le_of_ble_eq_true rfl) (s_Mod_isRow _ _ _ _) (fun x2 h1 => ?_)
  refine Sd_if_eq (tgt := 41) (pc' := 9) (dc D_Mod_cell 4 rfl) (by decide) rfl (fun _ => ?_) (fun _ => ?_)
  · refine Sd_iconst (pc' := 42) (dc D_Mod_cell 19 rfl) rfl ⟨by decide, by decide⟩ ?_
    exact Sd_iret (dc D_Mod_cell 20 rfl) rfl
  · refine Sd_iload_n (pc' := 10) (dc D_Mod_cell 5 rfl) rfl 3 rfl rfl ?_
    refine Sd_i2l (pc' := 11) (dc D_Mod_cell 6 rfl) rfl ?_
    refine Sd_iload_n (pc' := 12) (dc D_Mod_cell 7 rfl) rfl 1 rfl rfl ?_
    refine Sd_if_ne (tgt := 19) (pc' := 15) (dc D_Mod_cell 8 rfl) (by decide) rfl (fun _ => ?_) (fun _ => ?_)
    · refine Sd_ldc2 (n := 3) (pc' := 22) (dc D_Mod_cell 11 rfl) rfl ⟨by decide, by decide⟩ Q_Mod_246 ?_
      refine Sd_iload_n (pc' := 23) (dc D_Mod_cell 12 rfl) rfl 1 rfl rfl ?_
      refine Sd_if_ne (tgt := 32) (pc' := 26) (dc D_Mod_cell 13 rfl) (by decide) rfl (fun _ => ?_) (fun _ => ?_)
      · refine Sd_ldc2 (n := 4) (pc' := 35) (dc D_Mod_cell 16 rfl) rfl ⟨by decide, by decide⟩ Q_Mod_250 ?_
        refine Sd.sub (l' := [(0, _), (2, _), (3, _)]) [0, 2, 3] rfl ?_
        exact s_Mod_cell_L35 _ _ _ _ _ _ _
      · refine Sd_ldc2 (n := 2) (pc' := 29) (dc D_Mod_cell 14 rfl) rfl ⟨by decide, by decide⟩ Q_Mod_248 ?_
        refine Sd_goto (tgt := 35) (dc D_Mod_cell 15 rfl) (by decide) ?_
        refine Sd.sub (l' := [(0, _), (2, _), (3, _)]) [0, 2, 3] rfl ?_
        exact s_Mod_cell_L35 _ _ _ _ _ _ _
    · refine Sd_lconst (z := 0) (pc' := 16) (dc D_Mod_cell 9 rfl) rfl ⟨by decide, by decide⟩ (by decide) ?_
      refine Sd_goto (tgt := 22) (dc D_Mod_cell 10 rfl) (by decide) ?_
      refine Sd_iload_n (pc' := 23) (dc D_Mod_cell 12 rfl) rfl 1 rfl rfl ?_
      refine Sd_if_ne (tgt := 32) (pc' := 26) (dc D_Mod_cell 13 rfl) (by decide) rfl (fun _ => ?_) (fun _ => ?_)
      · refine Sd_ldc2 (n := 4) (pc' := 35) (dc D_Mod_cell 16 rfl) rfl ⟨by decide, by decide⟩ Q_Mod_250 ?_
        refine Sd.sub (l' := [(0, _), (2, _), (3, _)]) [0, 2, 3] rfl ?_
        exact s_Mod_cell_L35 _ _ _ _ _ _ _
      · refine Sd_ldc2 (n := 2) (pc' := 29) (dc D_Mod_cell 14 rfl) rfl ⟨by decide, by decide⟩ Q_Mod_248 ?_
        refine Sd_goto (tgt := 35) (dc D_Mod_cell 15 rfl) (by decide) ?_
        refine Sd.sub (l' := [(0, _), (2, _), (3, _)]) [0, 2, 3] rfl ?_
        exact s_Mod_cell_L35 _ _ _ _ _ _ _
theorem K_Mod_cell : MOk M_Mod_cell 3 := ⟨Tb_at 133 (by decide +kernel) rfl, Tb_at 1490 (by decide +kernel) rfl, by decide +kernel, by decide +kernel, by decide +kernel⟩
theorem Ks_Mod_cell : Cond.instanceMethod yX12_cell ∈ Tb := Tb_at 1488 (by decide +kernel) rfl
theorem Kv_Mod_cell : Cond.selects RX12 yX12_cell yX12_cell ∈ Tb := Tb_at 1489 (by decide +kernel) rfl
/-! ===== BatchShareModel.isQuery(I)Z ===== -/
abbrev M_Mod_isQuery : AMt := (yX12_isQuery, cX12_isQuery, 2, (some .boolean))
def T_Mod_isQuery : List (Nat × Instr × Nat) := [(0, .iload_n 1, 1), (1, .i2l, 1), (2, .lconst 0, 1), (3, .aload_n 0, 1), (4, .getfield 96, 3), (7, .iconst 1, 1), (8, .isub, 1), (9, .i2l, 1), (10, .invokestatic 88, 3), (13, .ireturn, 1)]
set_option maxRecDepth 20000 in
theorem D_Mod_isQuery : (T_Mod_isQuery.all fun q => decide (decode M_Mod_isQuery.2.1 q.1 = .ok q.2)) = true := by decide +kernel
def Mod_isQuery (v0 : Nat) (v1 : Int) (h : AH) : Option (Int × AH) := gI h 13 v0 10 fun x1 => bnd (Mod_in v1 0 (wr (x1 - 1)) h) fun x3 h2 => rz x3 h2
set_option maxHeartbeats 4000000 in
set_option maxRecDepth 20000 in
theorem s_Mod_isQuery (v0 : Nat) (v1 : Int) (h : AH) : CS M_Mod_isQuery 2 25 emI [vr v0, vi v1] h (Mod_isQuery v0 v1 h) := by
  refine CS.of (by decide) (Nat.le_of_ble_eq_true rfl) ?_
  show Sd M_Mod_isQuery 2 25 emI 0 [(0, vr v0), (1, vi v1)] [] h _
  unfold Mod_isQuery
  refine Sd_iload_n (pc' := 1) (dc D_Mod_isQuery 0 rfl) rfl 1 rfl rfl ?_
  refine Sd_i2l (pc' := 2) (dc D_Mod_isQuery 1 rfl) rfl ?_
  refine Sd_lconst (z := 0) (pc' := 3) (dc D_Mod_isQuery 2 rfl) rfl ⟨by decide, by decide⟩ (by decide) ?_
  refine Sd_aload_n (pc' := 4) (dc D_Mod_isQuery 3 rfl) rfl 0 rfl rfl ?_
  refine Sd_getI (pc' := 7) (dc D_Mod_isQuery 4 rfl) rfl F_Mod_96 rfl rfl ?_
  refine Sd_iconst (pc' := 8) (dc D_Mod_isQuery 5 rfl) rfl ⟨by decide, by decide⟩ ?_
  refine Sd_isub (pc' := 9) (dc D_Mod_isQuery 6 rfl) rfl ?_
  refine Sd_i2l (pc' := 10) (dc D_Mod_isQuery 7 rfl) rfl ?_
  refine Sd.callSI (as := [_, _, _]) (pc' := 13) (dc D_Mod_isQuery 8 rfl) rfl K_Mod_in L_Mod_88 Ks_Mod_in ⟨by decide, by decide⟩ rfl rfl (Nat.le_of_ble_eq_true rfl) (s_Mod_in _ _ _ _) (fun x3 h2 => ?_)
  exact Sd_zret' (dc D_Mod_isQuery 9 rfl) rfl
theorem K_Mod_isQuery : MOk M_Mod_isQuery 1 := ⟨Tb_at 133 (by decide +kernel) rfl, Tb_at 1513 (by decide +kernel) rfl, by decide +kernel, by decide +kernel, by decide +kernel⟩
theorem Ks_Mod_isQuery : Cond.instanceMethod yX12_isQuery ∈ Tb := Tb_at 1512 (by decide +kernel) rfl
theorem Kv_Mod_isQuery : Cond.selects RX12 yX12_isQuery yX12_isQuery ∈ Tb := Tb_at 62 (by decide +kernel) rfl
/-! ===== BatchShareModel.boundOf(II)I ===== -/
abbrev M_Mod_boundOf : AMt := (yX12_boundOf, cX12_boundOf, 3, (some .int))
def T_Mod_boundOf : List (Nat × Instr × Nat) := [(0, .iload_n 2, 1), (1, .iconst 2, 1), (2, .irem, 1), (3, .ifCond .ne 18, 3), (6, .aload_n 0, 1), (7, .getfield 37, 3), (10, .iconst 5, 1), (11, .iload_n 1, 1), (12, .imul, 1), (13, .iload_n 2, 1), (14, .iconst 2, 1), (15, .idiv, 1), (16, .iadd, 1), (17, .iaload, 1), (18, .goto 15, 3), (21, .aload_n 0, 1), (22, .getfield 40, 3), (25, .iconst 5, 1), (26, .iload_n 1, 1), (27, .imul, 1), (28, .iload_n 2, 1), (29, .iconst 2, 1), (30, .idiv, 1), (31, .iadd, 1), (32, .iaload, 1), (33, .ireturn, 1)]
set_option maxRecDepth 20000 in
theorem D_Mod_boundOf : (T_Mod_boundOf.all fun q => decide (decode M_Mod_boundOf.2.1 q.1 = .ok q.2)) = true := by decide +kernel
def Mod_boundOf (v0 : Nat) (v1 : Int) (v2 : Int) (h : AH) : Option (Int × AH) := if (2 : Int) = 0 then none else if ¬ ((iRem v2 2) : Int) = 0 then (gR h 13 v0 15 fun r1 => if (2 : Int) = 0 then none else aI h 21 r1 (wr ((wr (5 * v1)) + (iDiv v2 2))) fun x2 => some (x2, h)) else (gR h 13 v0 14 fun r3 => if (2 : Int) = 0 then none else aI h 21 r3 (wr ((wr (5 * v1)) + (iDiv v2 2))) fun x4 => some (x4, h))
set_option maxHeartbeats 4000000 in
set_option maxRecDepth 20000 in
theorem s_Mod_boundOf (v0 : Nat) (v1 : Int) (v2 : Int) (h : AH) : CS M_Mod_boundOf 1 0 emI [vr v0, vi v1, vi v2] h (Mod_boundOf v0 v1 v2 h) := by
  refine CS.of (by decide) (Nat.le_of_ble_eq_true rfl) ?_
  show Sd M_Mod_boundOf 1 0 emI 0 [(0, vr v0), (1, vi v1), (2, vi v2)] [] h _
  unfold Mod_boundOf
  refine Sd_iload_n (pc' := 1) (dc D_Mod_boundOf 0 rfl) rfl 2 rfl rfl ?_
  refine Sd_iconst (pc' := 2) (dc D_Mod_boundOf 1 rfl) rfl ⟨by decide, by decide⟩ ?_
  refine Sd_irem (pc' := 3) (dc D_Mod_boundOf 2 rfl) rfl ?_
  refine Sd_if_ne (tgt := 21) (pc' := 6) (dc D_Mod_boundOf 3 rfl) (by decide) rfl (fun _ => ?_) (fun _ => ?_)
  · refine Sd_aload_n (pc' := 22) (dc D_Mod_boundOf 15 rfl) rfl 0 rfl rfl ?_
    refine Sd_getR (pc' := 25) (dc D_Mod_boundOf 16 rfl) rfl F_Mod_40 rfl rfl ?_
    refine Sd_iconst (pc' := 26) (dc D_Mod_boundOf 17 rfl) rfl ⟨by decide, by decide⟩ ?_
    refine Sd_iload_n (pc' := 27) (dc D_Mod_boundOf 18 rfl) rfl 1 rfl rfl ?_
    refine Sd_imul (pc' := 28) (dc D_Mod_boundOf 19 rfl) rfl ?_
    refine Sd_iload_n (pc' := 29) (dc D_Mod_boundOf 20 rfl) rfl 2 rfl rfl ?_
    refine Sd_iconst (pc' := 30) (dc D_Mod_boundOf 21 rfl) rfl ⟨by decide, by decide⟩ ?_
    refine Sd_idiv (pc' := 31) (dc D_Mod_boundOf 22 rfl) rfl ?_
    refine Sd_iadd (pc' := 32) (dc D_Mod_boundOf 23 rfl) rfl ?_
    refine Sd_iaload (pc' := 33) (dc D_Mod_boundOf 24 rfl) rfl ?_
    exact Sd_iret (dc D_Mod_boundOf 25 rfl) rfl
  · refine Sd_aload_n (pc' := 7) (dc D_Mod_boundOf 4 rfl) rfl 0 rfl rfl ?_
    refine Sd_getR (pc' := 10) (dc D_Mod_boundOf 5 rfl) rfl F_Mod_37 rfl rfl ?_
    refine Sd_iconst (pc' := 11) (dc D_Mod_boundOf 6 rfl) rfl ⟨by decide, by decide⟩ ?_
    refine Sd_iload_n (pc' := 12) (dc D_Mod_boundOf 7 rfl) rfl 1 rfl rfl ?_
    refine Sd_imul (pc' := 13) (dc D_Mod_boundOf 8 rfl) rfl ?_
    refine Sd_iload_n (pc' := 14) (dc D_Mod_boundOf 9 rfl) rfl 2 rfl rfl ?_
    refine Sd_iconst (pc' := 15) (dc D_Mod_boundOf 10 rfl) rfl ⟨by decide, by decide⟩ ?_
    refine Sd_idiv (pc' := 16) (dc D_Mod_boundOf 11 rfl) rfl ?_
    refine Sd_iadd (pc' := 17) (dc D_Mod_boundOf 12 rfl) rfl ?_
    refine Sd_iaload (pc' := 18) (dc D_Mod_boundOf 13 rfl) rfl ?_
    refine Sd_goto (tgt := 33) (dc D_Mod_boundOf 14 rfl) (by decide) ?_
    exact Sd_iret (dc D_Mod_boundOf 25 rfl) rfl
theorem K_Mod_boundOf : MOk M_Mod_boundOf 2 := ⟨Tb_at 133 (by decide +kernel) rfl, Tb_at 1518 (by decide +kernel) rfl, by decide +kernel, by decide +kernel, by decide +kernel⟩
theorem Ks_Mod_boundOf : Cond.instanceMethod yX12_boundOf ∈ Tb := Tb_at 1517 (by decide +kernel) rfl
theorem Kv_Mod_boundOf : Cond.selects RX12 yX12_boundOf yX12_boundOf ∈ Tb := Tb_at 63 (by decide +kernel) rfl
/-! ===== BatchShareModel.isVoid(I)Z ===== -/
abbrev M_Mod_isVoid : AMt := (yX12_isVoid, cX12_isVoid, 2, (some .boolean))
def T_Mod_isVoid : List (Nat × Instr × Nat) := [(0, .aload_n 0, 1), (1, .getfield 37, 3), (4, .iconst 5, 1), (5, .iload_n 1, 1), (6, .imul, 1), (7, .iaload, 1), (8, .aload_n 0, 1), (9, .getfield 40, 3), (12, .iconst 5, 1), (13, .iload_n 1, 1), (14, .imul, 1), (15, .iaload, 1), (16, .if_icmp .le 7, 3), (19, .iconst 1, 1), (20, .goto 4, 3), (23, .iconst 0, 1), (24, .ireturn, 1)]
set_option maxRecDepth 20000 in
theorem D_Mod_isVoid : (T_Mod_isVoid.all fun q => decide (decode M_Mod_isVoid.2.1 q.1 = .ok q.2)) = true := by decide +kernel
def Mod_isVoid (v0 : Nat) (v1 : Int) (h : AH) : Option (Int × AH) := gR h 13 v0 14 fun r1 => aI h 21 r1 (wr (5 * v1)) fun x2 => gR h 13 v0 15 fun r3 => aI h 21 r3 (wr (5 * v1)) fun x4 => if (x2 : Int) ≤ x4 then (some (0, h)) else (some (1, h))
set_option maxHeartbeats 4000000 in
set_option maxRecDepth 20000 in
theorem s_Mod_isVoid (v0 : Nat) (v1 : Int) (h : AH) : CS M_Mod_isVoid 1 0 emI [vr v0, vi v1] h (Mod_isVoid v0 v1 h) := by
  refine CS.of (by decide) (Nat.le_of_ble_eq_true rfl) ?_
  show Sd M_Mod_isVoid 1 0 emI 0 [(0, vr v0), (1, vi v1)] [] h _
  unfold Mod_isVoid
  refine Sd_aload_n (pc' := 1) (dc D_Mod_isVoid 0 rfl) rfl 0 rfl rfl ?_
  refine Sd_getR (pc' := 4) (dc D_Mod_isVoid 1 rfl) rfl F_Mod_37 rfl rfl ?_
  refine Sd_iconst (pc' := 5) (dc D_Mod_isVoid 2 rfl) rfl ⟨by decide, by decide⟩ ?_
  refine Sd_iload_n (pc' := 6) (dc D_Mod_isVoid 3 rfl) rfl 1 rfl rfl ?_
  refine Sd_imul (pc' := 7) (dc D_Mod_isVoid 4 rfl) rfl ?_
  refine Sd_iaload (pc' := 8) (dc D_Mod_isVoid 5 rfl) rfl ?_
  refine Sd_aload_n (pc' := 9) (dc D_Mod_isVoid 6 rfl) rfl 0 rfl rfl ?_
  refine Sd_getR (pc' := 12) (dc D_Mod_isVoid 7 rfl) rfl F_Mod_40 rfl rfl ?_
  refine Sd_iconst (pc' := 13) (dc D_Mod_isVoid 8 rfl) rfl ⟨by decide, by decide⟩ ?_
  refine Sd_iload_n (pc' := 14) (dc D_Mod_isVoid 9 rfl) rfl 1 rfl rfl ?_
  refine Sd_imul (pc' := 15) (dc D_Mod_isVoid 10 rfl) rfl ?_
  refine Sd_iaload (pc' := 16) (dc D_Mod_isVoid 11 rfl) rfl ?_
  refine Sd_icmp_le (tgt := 23) (pc' := 19) (dc D_Mod_isVoid 12 rfl) (by decide) rfl (fun _ => ?_) (fun _ => ?_)
  · refine Sd_iconst (pc' := 24) (dc D_Mod_isVoid 15 rfl) rfl ⟨by decide, by decide⟩ ?_
    exact Sd_zret (dc D_Mod_isVoid 16 rfl) rfl (Or.inl rfl)
  · refine Sd_iconst (pc' := 20) (dc D_Mod_isVoid 13 rfl) rfl ⟨by decide, by decide⟩ ?_
    refine Sd_goto (tgt := 24) (dc D_Mod_isVoid 14 rfl) (by decide) ?_
    exact Sd_zret (dc D_Mod_isVoid 16 rfl) rfl (Or.inr rfl)
theorem K_Mod_isVoid : MOk M_Mod_isVoid 1 := ⟨Tb_at 133 (by decide +kernel) rfl, Tb_at 1522 (by decide +kernel) rfl, by decide +kernel, by decide +kernel, by decide +kernel⟩
theorem Ks_Mod_isVoid : Cond.instanceMethod yX12_isVoid ∈ Tb := Tb_at 1521 (by decide +kernel) rfl
theorem Kv_Mod_isVoid : Cond.selects RX12 yX12_isVoid yX12_isVoid ∈ Tb := Tb_at 64 (by decide +kernel) rfl
/-! ===== BatchShareModel.has(II)Z ===== -/
abbrev M_Mod_has : AMt := (yX12_has, cX12_has, 2, (some .boolean))
def T_Mod_has : List (Nat × Instr × Nat) := [(0, .iload_n 0, 1), (1, .iload_n 1, 1), (2, .ishr, 1), (3, .iconst 1, 1), (4, .iand, 1), (5, .iconst 1, 1), (6, .if_icmp .ne 7, 3), (9, .iconst 1, 1), (10, .goto 4, 3), (13, .iconst 0, 1), (14, .ireturn, 1)]
set_option maxRecDepth 20000 in
theorem D_Mod_has : (T_Mod_has.all fun q => decide (decode M_Mod_has.2.1 q.1 = .ok q.2)) = true := by decide +kernel
def Mod_has (v0 : Int) (v1 : Int) (h : AH) : Option (Int × AH) := if ¬ ((iAnd (iShr v0 v1) 1) : Int) = 1 then (some (0, h)) else (some (1, h))
set_option maxHeartbeats 4000000 in
set_option maxRecDepth 20000 in
theorem s_Mod_has (v0 : Int) (v1 : Int) (h : AH) : CS M_Mod_has 1 0 emI [vi v0, vi v1] h (Mod_has v0 v1 h) := by
  refine CS.of (by decide) (Nat.le_of_ble_eq_true rfl) ?_
  show Sd M_Mod_has 1 0 emI 0 [(0, vi v0), (1, vi v1)] [] h _
  unfold Mod_has
  refine Sd_iload_n (pc' := 1) (dc D_Mod_has 0 rfl) rfl 0 rfl rfl ?_
  refine Sd_iload_n (pc' := 2) (dc D_Mod_has 1 rfl) rfl 1 rfl rfl ?_
  refine Sd_ishr (pc' := 3) (dc D_Mod_has 2 rfl) rfl ?_
  refine Sd_iconst (pc' := 4) (dc D_Mod_has 3 rfl) rfl ⟨by decide, by decide⟩ ?_
  refine Sd_iand (pc' := 5) (dc D_Mod_has 4 rfl) rfl ?_
  refine Sd_iconst (pc' := 6) (dc D_Mod_has 5 rfl) rfl ⟨by decide, by decide⟩ ?_
  refine Sd_icmp_ne (tgt := 13) (pc' := 9) (dc D_Mod_has 6 rfl) (by decide) rfl (fun _ => ?_) (fun _ => ?_)
  · refine Sd_iconst (pc' := 14) (dc D_Mod_has 9 rfl) rfl ⟨by decide, by decide⟩ ?_
    exact Sd_zret (dc D_Mod_has 10 rfl) rfl (Or.inl rfl)
  · refine Sd_iconst (pc' := 10) (dc D_Mod_has 7 rfl) rfl ⟨by decide, by decide⟩ ?_
    refine Sd_goto (tgt := 14) (dc D_Mod_has 8 rfl) (by decide) ?_
    exact Sd_zret (dc D_Mod_has 10 rfl) rfl (Or.inr rfl)
theorem K_Mod_has : MOk M_Mod_has 2 := ⟨Tb_at 133 (by decide +kernel) rfl, Tb_at 1525 (by decide +kernel) rfl, by decide +kernel, by decide +kernel, by decide +kernel⟩
theorem Ks_Mod_has : Cond.static yX12_has ∈ Tb := Tb_at 1524 (by decide +kernel) rfl
/-! ===== BatchShareModel.form(II)I ===== -/
abbrev M_Mod_form : AMt := (yX12_form, cX12_form, 3, (some .int))
def T_Mod_form : List (Nat × Instr × Nat) := [(0, .aload_n 0, 1), (1, .iload_n 1, 1), (2, .invokevirtual 255, 3), (5, .ifCond .eq 15, 3), (8, .iload_n 2, 1), (9, .i2l, 1), (10, .lconst 0, 1), (11, .ldc2_w 258, 3), (14, .invokestatic 88, 3), (17, .ifCond .ne 6, 3), (20, .bipush (-2), 2), (22, .ireturn, 1), (23, .iload_n 2, 1), (24, .iconst 3, 1), (25, .if_icmp .lt 18, 3), (28, .iload_n 2, 1), (29, .bipush 12, 2), (31, .if_icmp .gt 12, 3), (34, .aload_n 0, 1), (35, .iload_n 1, 1), (36, .iload_n 2, 1), (37, .iconst 3, 1), (38, .isub, 1), (39, .invokevirtual 260, 3), (42, .ireturn, 1), (43, .iload_n 2, 1), (44, .lookupswitch 121 #[(0, 60), (1, 67), (2, 74), (13, 81), (19, 88), (20, 102)], 60), (104, .aload_n 0, 1), (105, .getfield 28, 3), (108, .iload_n 1, 1), (109, .iaload, 1), (110, .ireturn, 1), (111, .aload_n 0, 1), (112, .getfield 31, 3), (115, .iload_n 1, 1), (116, .iaload, 1), (117, .ireturn, 1), (118, .aload_n 0, 1), (119, .getfield 34, 3), (122, .iload_n 1, 1), (123, .iaload, 1), (124, .ireturn, 1), (125, .aload_n 0, 1), (126, .getfield 43, 3), (129, .iload_n 1, 1), (130, .iaload, 1), (131, .ireturn, 1), (132, .aload_n 0, 1), (133, .iload_n 1, 1), (134, .invokevirtual 99, 3), (137, .ifCond .eq 7, 3), (140, .iconst 1, 1), (141, .goto 4, 3), (144, .iconst 0, 1), (145, .ireturn, 1), (146, .aload_n 0, 1), (147, .getfield 9, 3), (150, .iconst 4, 1), (151, .iaload, 1), (152, .iload_n 1, 1), (153, .invokestatic 103, 3), (156, .ifCond .eq 7, 3), (159, .iconst 1, 1), (160, .goto 4, 3), (163, .iconst 0, 1), (164, .ireturn, 1), (165, .iload_n 2, 1), (166, .bipush 14, 2), (168, .isub, 1), (169, .aload_n 0, 1), (170, .getfield 43, 3), (173, .iload_n 1, 1), (174, .iaload, 1), (175, .if_icmp .ge 19, 3), (178, .aload_n 0, 1), (179, .getfield 46, 3), (182, .iconst 5, 1), (183, .iload_n 1, 1), (184, .imul, 1), (185, .iload_n 2, 1), (186, .iadd, 1), (187, .bipush 14, 2), (189, .isub, 1), (190, .iaload, 1), (191, .goto 4, 3), (194, .iconst (-1), 1), (195, .ireturn, 1)]
set_option maxRecDepth 20000 in
theorem D_Mod_form : (T_Mod_form.all fun q => decide (decode M_Mod_form.2.1 q.1 = .ok q.2)) = true := by decide +kernel
def Mod_form_L43 (v0 : Nat) (v1 : Int) (v2 : Int) (h : AH) : Option (Int × AH) := if (v2 : Int) = 0 then (gR h 13 v0 11 fun r1 => aI h 21 r1 v1 fun x2 => some (x2, h)) else (if (v2 : Int) = 1 then (gR h 13 v0 12 fun r3 => aI h 21 r3 v1 fun x4 => some (x4, h)) else (if (v2 : Int) = 2 then (gR h 13 v0 13 fun r5 => aI h 21 r5 v1 fun x6 => some (x6, h)) else (if (v2 : Int) = 13 then (gR h 13 v0 16 fun r7 => aI h 21 r7 v1 fun x8 => some (x8, h)) else (if (v2 : Int) = 19 then (rc h 13 v0 <| bnd (Mod_isVoid v0 v1 h) fun x10 h9 => if (x10 : Int) = 0 then (some (0, h9)) else (some (1, h9))) else (if (v2 : Int) = 20 then (gR h 13 v0 1 fun r12 => aI h 21 r12 4 fun x13 => bnd (Mod_has x13 v1 h) fun x15 h14 => if (x15 : Int) = 0 then (some (0, h14)) else (some (1, h14))) else (gR h 13 v0 16 fun r17 => aI h 21 r17 v1 fun x18 => if (x18 : Int) ≤ (wr (v2 - 14)) then (some ((-1), h)) else (gR h 13 v0 17 fun r19 => aI h 21 r19 (wr ((wr ((wr (5 * v1)) + v2)) - 14)) fun x20 => some (x20, h))))))))
set_option maxHeartbeats 4000000 in
set_option maxRecDepth 20000 in
theorem s_Mod_form_L43 (v0 : Nat) (v1 : Int) (v2 : Int) (h : AH) : Sd M_Mod_form 3 46 emI 43 [(0, vr v0), (1, vi v1), (2, vi v2)] [] h (Mod_form_L43 v0 v1 v2 h) := by
  unfold Mod_form_L43
  refine Sd_iload_n (pc' := 44) (dc D_Mod_form 25 rfl) rfl 2 rfl rfl ?_
  refine Sd_lcase (i := 0) (tgt := 104) (dc D_Mod_form 26 rfl) (by decide) rfl (by decide) (fun _ => ?_) (fun hn0 => ?_)
  · refine Sd_aload_n (pc' := 105) (dc D_Mod_form 27 rfl) rfl 0 rfl rfl ?_
    refine Sd_getR (pc' := 108) (dc D_Mod_form 28 rfl) rfl F_Mod_28 rfl rfl ?_
    refine Sd_iload_n (pc' := 109) (dc D_Mod_form 29 rfl) rfl 1 rfl rfl ?_
    refine Sd_iaload (pc' := 110) (dc D_Mod_form 30 rfl) rfl ?_
    exact Sd_iret (dc D_Mod_form 31 rfl) rfl
  refine Sd_lcase (i := 1) (tgt := 111) (dc D_Mod_form 26 rfl) (by decide) rfl (by decide) (fun _ => ?_) (fun hn1 => ?_)
  · refine Sd_aload_n (pc' := 112) (dc D_Mod_form 32 rfl) rfl 0 rfl rfl ?_
    refine Sd_getR (pc' := 115) (dc D_Mod_form 33 rfl) rfl F_Mod_31 rfl rfl ?_
    refine Sd_iload_n (pc' := 116) (dc D_Mod_form 34 rfl) rfl 1 rfl rfl ?_
    refine Sd_iaload (pc' := 117) (dc D_Mod_form 35 rfl) rfl ?_
    exact Sd_iret (dc D_Mod_form 36 rfl) rfl
  refine Sd_lcase (i := 2) (tgt := 118) (dc D_Mod_form 26 rfl) (by decide) rfl (by decide) (fun _ => ?_) (fun hn2 => ?_)
  · refine Sd_aload_n (pc' := 119) (dc D_Mod_form 37 rfl) rfl 0 rfl rfl ?_
    refine Sd_getR (pc' := 122) (dc D_Mod_form 38 rfl) rfl F_Mod_34 rfl rfl ?_
    refine Sd_iload_n (pc' := 123) (dc D_Mod_form 39 rfl) rfl 1 rfl rfl ?_
    refine Sd_iaload (pc' := 124) (dc D_Mod_form 40 rfl) rfl ?_
    exact Sd_iret (dc D_Mod_form 41 rfl) rfl
  refine Sd_lcase (i := 13) (tgt := 125) (dc D_Mod_form 26 rfl) (by decide) rfl (by decide) (fun _ => ?_) (fun hn3 => ?_)
  · refine Sd_aload_n (pc' := 126) (dc D_Mod_form 42 rfl) rfl 0 rfl rfl ?_
    refine Sd_getR (pc' := 129) (dc D_Mod_form 43 rfl) rfl F_Mod_43 rfl rfl ?_
    refine Sd_iload_n (pc' := 130) (dc D_Mod_form 44 rfl) rfl 1 rfl rfl ?_
    refine Sd_iaload (pc' := 131) (dc D_Mod_form 45 rfl) rfl ?_
    exact Sd_iret (dc D_Mod_form 46 rfl) rfl
  refine Sd_lcase (i := 19) (tgt := 132) (dc D_Mod_form 26 rfl) (by decide) rfl (by decide) (fun _ => ?_) (fun hn4 => ?_)
  · refine Sd_aload_n (pc' := 133) (dc D_Mod_form 47 rfl) rfl 0 rfl rfl ?_
    refine Sd_iload_n (pc' := 134) (dc D_Mod_form 48 rfl) rfl 1 rfl rfl ?_
    refine Sd.callVI (ci := 12) (t := 13) (as := [_]) RX12 (pc' := 137) (dc D_Mod_form 49 rfl) rfl rfl rfl rfl K_Mod_isVoid L_Mod_99 Ks_Mod_isVoid Kv_Mod_isVoid ⟨by decide, by decide⟩ rfl rfl (Nat.le_of_ble_eq_true rfl) (s_Mod_isVoid _ _ _) (fun x10 h9 => ?_)
    refine Sd_if_eq (tgt := 144) (pc' := 140) (dc D_Mod_form 50 rfl) (by decide) rfl (fun _ => ?_) (fun _ => ?_)
    · refine Sd_iconst (pc' := 145) (dc D_Mod_form 53 rfl) rfl ⟨by decide, by decide⟩ ?_
      exact Sd_iret (dc D_Mod_form 54 rfl) rfl
    · refine Sd_iconst (pc' := 141) (dc D_Mod_form 51 rfl) rfl ⟨by decide, by decide⟩ ?_
      refine Sd_goto (tgt := 145) (dc D_Mod_form 52 rfl) (by decide) ?_
      exact Sd_iret (dc D_Mod_form 54 rfl) rfl
  refine Sd_lcase (i := 20) (tgt := 146) (dc D_Mod_form 26 rfl) (by decide) rfl (by decide) (fun _ => ?_) (fun hn5 => ?_)
  · refine Sd_aload_n (pc' := 147) (dc D_Mod_form 55 rfl) rfl 0 rfl rfl ?_
    refine Sd_getR (pc' := 150) (dc D_Mod_form 56 rfl) rfl F_Mod_9 rfl rfl ?_
    refine Sd_iconst (pc' := 151) (dc D_Mod_form 57 rfl) rfl ⟨by decide, by decide⟩ ?_
    refine Sd_iaload (pc' := 152) (dc D_Mod_form 58 rfl) rfl ?_
    refine Sd_iload_n (pc' := 153) (dc D_Mod_form 59 rfl) rfl 1 rfl rfl ?_
    refine Sd.callSI (as := [_, _]) (pc' := 156) (dc D_Mod_form 60 rfl) rfl K_Mod_has L_Mod_103 Ks_Mod_has ⟨by decide, by decide⟩ rfl rfl (Nat.le_of_ble_eq_true rfl) (s_Mod_has _ _ _) (fun x15 h14 => ?_)
    refine Sd_if_eq (tgt := 163) (pc' := 159) (dc D_Mod_form 61 rfl) (by decide) rfl (fun _ => ?_) (fun _ => ?_)
    · refine Sd_iconst (pc' := 164) (dc D_Mod_form 64 rfl) rfl ⟨by decide, by decide⟩ ?_
      exact Sd_iret (dc D_Mod_form 65 rfl) rfl
    · refine Sd_iconst (pc' := 160) (dc D_Mod_form 62 rfl) rfl ⟨by decide, by decide⟩ ?_
      refine Sd_goto (tgt := 164) (dc D_Mod_form 63 rfl) (by decide) ?_
      exact Sd_iret (dc D_Mod_form 65 rfl) rfl
  refine Sd_ldef (tgt := 165) (dc D_Mod_form 26 rfl) (by decide) (by show Op.lookupswitch.offset [(0, 60), (1, 67), (2, 74), (13, 81), (19, 88), (20, 102)] 121 _ = _; rw [lk_ne hn0, lk_ne hn1, lk_ne hn2, lk_ne hn3, lk_ne hn4, lk_ne hn5]; rfl) (by decide) ?_
  refine Sd_iload_n (pc' := 166) (dc D_Mod_form 66 rfl) rfl 2 rfl rfl ?_
  refine Sd_bipush (pc' := 168) (dc D_Mod_form 67 rfl) rfl ⟨by decide, by decide⟩ (by decide) ?_
  refine Sd_isub (pc' := 169) (dc D_Mod_form 68 rfl) rfl ?_
  refine Sd_aload_n (pc' := 170) (dc D_Mod_form 69 rfl) rfl 0 rfl rfl ?_
  refine Sd_getR (pc' := 173) (dc D_Mod_form 70 rfl) rfl F_Mod_43 rfl rfl ?_
  refine Sd_iload_n (pc' := 174) (dc D_Mod_form 71 rfl) rfl 1 rfl rfl ?_
  refine Sd_iaload (pc' := 175) (dc D_Mod_form 72 rfl) rfl ?_
  refine Sd_icmp_ge (tgt := 194) (pc' := 178) (dc D_Mod_form 73 rfl) (by decide) rfl (fun _ => ?_) (fun _ => ?_)
  · refine Sd_iconst (pc' := 195) (dc D_Mod_form 85 rfl) rfl ⟨by decide, by decide⟩ ?_
    exact Sd_iret (dc D_Mod_form 86 rfl) rfl
  · refine Sd_aload_n (pc' := 179) (dc D_Mod_form 74 rfl) rfl 0 rfl rfl ?_
    refine Sd_getR (pc' := 182) (dc D_Mod_form 75 rfl) rfl F_Mod_46 rfl rfl ?_
    refine Sd_iconst (pc' := 183) (dc D_Mod_form 76 rfl) rfl ⟨by decide, by decide⟩ ?_
    refine Sd_iload_n (pc' := 184) (dc D_Mod_form 77 rfl) rfl 1 rfl rfl ?_
    refine Sd_imul (pc' := 185) (dc D_Mod_form 78 rfl) rfl ?_
    refine Sd_iload_n (pc' := 186) (dc D_Mod_form 79 rfl) rfl 2 rfl rfl ?_
    refine Sd_iadd (pc' := 187) (dc D_Mod_form 80 rfl) rfl ?_
    refine Sd_bipush (pc' := 189) (dc D_Mod_form 81 rfl) rfl ⟨by decide, by decide⟩ (by decide) ?_
    refine Sd_isub (pc' := 190) (dc D_Mod_form 82 rfl) rfl ?_
    refine Sd_iaload (pc' := 191) (dc D_Mod_form 83 rfl) rfl ?_
    refine Sd_goto (tgt := 195) (dc D_Mod_form 84 rfl) (by decide) ?_
    exact Sd_iret (dc D_Mod_form 86 rfl) rfl
def Mod_form (v0 : Nat) (v1 : Int) (v2 : Int) (h : AH) : Option (Int × AH) := rc h 13 v0 <| bnd (Mod_isQuery v0 v1 h) fun x2 h1 => if (x2 : Int) = 0 then (some ((-2), h1)) else (bnd (Mod_in v2 0 20 h1) fun x5 h4 => if ¬ (x5 : Int) = 0 then (if (v2 : Int) < 3 then (Mod_form_L43 v0 v1 v2 h4) else (if (12 : Int) < v2 then (Mod_form_L43 v0 v1 v2 h4) else (rc h4 13 v0 <| bnd (Mod_boundOf v0 v1 (wr (v2 - 3)) h4) fun x8 h7 => some (x8, h7)))) else (some ((-2), h4)))
set_option maxHeartbeats 4000000 in
set_option maxRecDepth 20000 in
theorem s_Mod_form (v0 : Nat) (v1 : Int) (v2 : Int) (h : AH) : CS M_Mod_form 3 46 emI [vr v0, vi v1, vi v2] h (Mod_form v0 v1 v2 h) := by
  refine CS.of (by decide) (Nat.le_of_ble_eq_true rfl) ?_
  show Sd M_Mod_form 3 46 emI 0 [(0, vr v0), (1, vi v1), (2, vi v2)] [] h _
  unfold Mod_form
  refine Sd_aload_n (pc' := 1) (dc D_Mod_form 0 rfl) rfl 0 rfl rfl ?_
  refine Sd_iload_n (pc' := 2) (dc D_Mod_form 1 rfl) rfl 1 rfl rfl ?_
  refine Sd.callVI (ci := 12) (t := 13) (as := [_]) RX12 (pc' := 5) (dc D_Mod_form 2 rfl) rfl rfl rfl rfl K_Mod_isQuery L_Mod_255 Ks_Mod_isQuery Kv_Mod_isQuery ⟨by decide, by decide⟩ rfl rfl (Nat.le_of_ble_eq_true rfl) (s_Mod_isQuery _ _ _) (fun x2 h1 => ?_)
  refine Sd_if_eq (tgt := 20) (pc' := 8) (dc D_Mod_form 3 rfl) (by decide) rfl (fun _ => ?_) (fun _ => ?_)
  · refine Sd_bipush (pc' := 22) (dc D_Mod_form 10 rfl) rfl ⟨by decide, by decide⟩ (by decide) ?_
    exact Sd_iret (dc D_Mod_form 11 rfl) rfl
  · refine Sd_iload_n (pc' := 9) (dc D_Mod_form 4 rfl) rfl 2 rfl rfl ?_
    refine Sd_i2l (pc' := 10) (dc D_Mod_form 5 rfl) rfl ?_
    refine Sd_lconst (z := 0) (pc' := 11) (dc D_Mod_form 6 rfl) rfl ⟨by decide, by decide⟩ (by decide) ?_
    refine Sd_ldc2 (n := 20) (pc' := 14) (dc D_Mod_form 7 rfl) rfl ⟨by decide, by decide⟩ Q_Mod_258 ?_
    refine Sd.callSI (as := [_, _, _]) (pc' := 17) (dc D_Mod_form 8 rfl) rfl K_Mod_in L_Mod_88 Ks_Mod_in ⟨by decide, by decide⟩ rfl rfl (Nat.le_of_ble_eq_true rfl) (s_Mod_in _ _ _ _) (fun x5 h4 => ?_)
    refine Sd_if_ne (tgt := 23) (pc' := 20) (dc D_Mod_form 9 rfl) (by decide) rfl (fun _ => ?_) (fun _ => ?_)
    · refine Sd_iload_n (pc' := 24) (dc D_Mod_form 12 rfl) rfl 2 rfl rfl ?_
      refine Sd_iconst (pc' := 25) (dc D_Mod_form 13 rfl) rfl ⟨by decide, by decide⟩ ?_
      refine Sd_icmp_lt (tgt := 43) (pc' := 28) (dc D_Mod_form 14 rfl) (by decide) rfl (fun _ => ?_) (fun _ => ?_)
      · exact s_Mod_form_L43 _ _ _ _
      · refine Sd_iload_n (pc' := 29) (dc D_Mod_form 15 rfl) rfl 2 rfl rfl ?_
        refine Sd_bipush (pc' := 31) (dc D_Mod_form 16 rfl) rfl ⟨by decide, by decide⟩ (by decide) ?_
        refine Sd_icmp_gt (tgt := 43) (pc' := 34) (dc D_Mod_form 17 rfl) (by decide) rfl (fun _ => ?_) (fun _ => ?_)
        · exact s_Mod_form_L43 _ _ _ _
        · refine Sd_aload_n (pc' := 35) (dc D_Mod_form 18 rfl) rfl 0 rfl rfl ?_
          refine Sd_iload_n (pc' := 36) (dc D_Mod_form 19 rfl) rfl 1 rfl rfl ?_
          refine Sd_iload_n (pc' := 37) (dc D_Mod_form 20 rfl) rfl 2 rfl rfl ?_
          refine Sd_iconst (pc' := 38) (dc D_Mod_form 21 rfl) rfl ⟨by decide, by decide⟩ ?_
          refine Sd_isub (pc' := 39) (dc D_Mod_form 22 rfl) rfl ?_
          refine Sd.callVI (ci := 12) (t := 13) (as := [_, _]) RX12 (pc' := 42) (dc D_Mod_form 23 rfl) rfl rfl rfl rfl K_Mod_boundOf L_Mod_260 Ks_Mod_boundOf Kv_Mod_boundOf ⟨by decide, by decide⟩ rfl rfl (Nat.le_of_ble_eq_true rfl) (s_Mod_boundOf _ _ _ _) (fun x8 h7 => ?_)
          exact Sd_iret (dc D_Mod_form 24 rfl) rfl
    · refine Sd_bipush (pc' := 22) (dc D_Mod_form 10 rfl) rfl ⟨by decide, by decide⟩ (by decide) ?_
      exact Sd_iret (dc D_Mod_form 11 rfl) rfl
theorem K_Mod_form : MOk M_Mod_form 2 := ⟨Tb_at 133 (by decide +kernel) rfl, Tb_at 1509 (by decide +kernel) rfl, by decide +kernel, by decide +kernel, by decide +kernel⟩
theorem Ks_Mod_form : Cond.instanceMethod yX12_form ∈ Tb := Tb_at 1507 (by decide +kernel) rfl
theorem Kv_Mod_form : Cond.selects RX12 yX12_form yX12_form ∈ Tb := Tb_at 1508 (by decide +kernel) rfl
/-! ===== BatchShareModel.digests(II)I ===== -/
abbrev M_Mod_digests : AMt := (yX12_digests, cX12_digests, 2, (some .int))
def T_Mod_digests : List (Nat × Instr × Nat) := [(0, .ldc2_w 263, 3), (3, .iload_n 0, 1), (4, .i2l, 1), (5, .lmul, 1), (6, .iload_n 1, 1), (7, .i2l, 1), (8, .ladd, 1), (9, .ldc2_w 265, 3), (12, .lrem, 1), (13, .l2i, 1), (14, .ireturn, 1)]
set_option maxRecDepth 20000 in
theorem D_Mod_digests : (T_Mod_digests.all fun q => decide (decode M_Mod_digests.2.1 q.1 = .ok q.2)) = true := by decide +kernel
def Mod_digests (v0 : Int) (v1 : Int) (h : AH) : Option (Int × AH) := if (1000003 : Int) = 0 then none else some ((wr (lRem (wr64 ((wr64 (31 * v0)) + v1)) 1000003)), h)
set_option maxHeartbeats 4000000 in
set_option maxRecDepth 20000 in
theorem s_Mod_digests (v0 : Int) (v1 : Int) (h : AH) : CS M_Mod_digests 1 0 emI [vi v0, vi v1] h (Mod_digests v0 v1 h) := by
  refine CS.of (by decide) (Nat.le_of_ble_eq_true rfl) ?_
  show Sd M_Mod_digests 1 0 emI 0 [(0, vi v0), (1, vi v1)] [] h _
  unfold Mod_digests
  refine Sd_ldc2 (n := 31) (pc' := 3) (dc D_Mod_digests 0 rfl) rfl ⟨by decide, by decide⟩ Q_Mod_263 ?_
  refine Sd_iload_n (pc' := 4) (dc D_Mod_digests 1 rfl) rfl 0 rfl rfl ?_
  refine Sd_i2l (pc' := 5) (dc D_Mod_digests 2 rfl) rfl ?_
  refine Sd_lmul (pc' := 6) (dc D_Mod_digests 3 rfl) rfl ?_
  refine Sd_iload_n (pc' := 7) (dc D_Mod_digests 4 rfl) rfl 1 rfl rfl ?_
  refine Sd_i2l (pc' := 8) (dc D_Mod_digests 5 rfl) rfl ?_
  refine Sd_ladd (pc' := 9) (dc D_Mod_digests 6 rfl) rfl ?_
  refine Sd_ldc2 (n := 1000003) (pc' := 12) (dc D_Mod_digests 7 rfl) rfl ⟨by decide, by decide⟩ Q_Mod_265 ?_
  refine Sd_lrem (pc' := 13) (dc D_Mod_digests 8 rfl) rfl ?_
  refine Sd_l2i (pc' := 14) (dc D_Mod_digests 9 rfl) rfl ?_
  exact Sd_iret (dc D_Mod_digests 10 rfl) rfl
theorem K_Mod_digests : MOk M_Mod_digests 2 := ⟨Tb_at 133 (by decide +kernel) rfl, Tb_at 1532 (by decide +kernel) rfl, by decide +kernel, by decide +kernel, by decide +kernel⟩
theorem Ks_Mod_digests : Cond.static yX12_digests ∈ Tb := Tb_at 1531 (by decide +kernel) rfl
/-! ===== BatchShareModel.digest(I)I ===== -/
abbrev M_Mod_digest : AMt := (yX12_digest, cX12_digest, 4, (some .int))
def T_Mod_digest : List (Nat × Instr × Nat) := [(0, .aload_n 0, 1), (1, .iload_n 1, 1), (2, .invokevirtual 255, 3), (5, .ifCond .ne 5, 3), (8, .iconst (-1), 1), (9, .ireturn, 1), (10, .bipush 7, 2), (12, .aload_n 0, 1), (13, .getfield 28, 3), (16, .iload_n 1, 1), (17, .iaload, 1), (18, .invokestatic 267, 3), (21, .istore_n 2, 1), (22, .iload_n 2, 1), (23, .aload_n 0, 1), (24, .getfield 31, 3), (27, .iload_n 1, 1), (28, .iaload, 1), (29, .iconst (-1), 1), (30, .if_icmp .ne 8, 3), (33, .bipush 9, 2), (35, .goto 9, 3), (38, .aload_n 0, 1), (39, .getfield 31, 3), (42, .iload_n 1, 1), (43, .iaload, 1), (44, .invokestatic 267, 3), (47, .istore_n 2, 1), (48, .iload_n 2, 1), (49, .aload_n 0, 1), (50, .getfield 34, 3), (53, .iload_n 1, 1), (54, .iaload, 1), (55, .iconst (-1), 1), (56, .if_icmp .ne 8, 3), (59, .bipush 9, 2), (61, .goto 9, 3), (64, .aload_n 0, 1), (65, .getfield 34, 3), (68, .iload_n 1, 1), (69, .iaload, 1), (70, .invokestatic 267, 3), (73, .istore_n 2, 1), (74, .iconst 0, 1), (75, .istore_n 3, 1), (76, .iload_n 3, 1), (77, .bipush 10, 2), (79, .if_icmp .ge 20, 3), (82, .iload_n 2, 1), (83, .aload_n 0, 1), (84, .iload_n 1, 1), (85, .iload_n 3, 1), (86, .invokevirtual 260, 3), (89, .invokestatic 267, 3), (92, .istore_n 2, 1), (93, .iinc 3 1, 3), (96, .goto (-20), 3), (99, .iload_n 2, 1), (100, .aload_n 0, 1), (101, .getfield 43, 3), (104, .iload_n 1, 1), (105, .iaload, 1), (106, .invokestatic 267, 3), (109, .istore_n 2, 1), (110, .iconst 0, 1), (111, .istore_n 3, 1), (112, .iload_n 3, 1), (113, .aload_n 0, 1), (114, .getfield 43, 3), (117, .iload_n 1, 1), (118, .iaload, 1), (119, .if_icmp .ge 24, 3), (122, .iload_n 2, 1), (123, .aload_n 0, 1), (124, .getfield 46, 3), (127, .iconst 5, 1), (128, .iload_n 1, 1), (129, .imul, 1), (130, .iload_n 3, 1), (131, .iadd, 1), (132, .iaload, 1), (133, .invokestatic 267, 3), (136, .istore_n 2, 1), (137, .iinc 3 1, 3), (140, .goto (-28), 3), (143, .iload_n 2, 1), (144, .ireturn, 1)]
set_option maxRecDepth 20000 in
theorem D_Mod_digest : (T_Mod_digest.all fun q => decide (decode M_Mod_digest.2.1 q.1 = .ok q.2)) = true := by decide +kernel
def Mod_digest_L112 : Nat → Nat → Int → Int → Int → AH → Option (Int × AH)
  | 0, _, _, _, _, _ => none
  | n + 1, v0, v1, v2, v3, h => gR h 13 v0 16 fun r1 => aI h 21 r1 v1 fun x2 => if (x2 : Int) ≤ v3 then (some (v2, h)) else (gR h 13 v0 17 fun r3 => aI h 21 r3 (wr ((wr (5 * v1)) + v3)) fun x4 => bnd (Mod_digests v2 x4 h) fun x6 h5 => Mod_digest_L112 n v0 v1 x6 ((wr (v3 + 1))) h5)
set_option maxHeartbeats 4000000 in
set_option maxRecDepth 20000 in
theorem s_Mod_digest_L112 : ∀ (n : Nat) (v0 : Nat) (v1 : Int) (v2 : Int) (v3 : Int) (h : AH), Sd M_Mod_digest 3 46 emI 112 [(0, vr v0), (1, vi v1), (2, vi v2), (3, vi v3)] [] h (Mod_digest_L112 n v0 v1 v2 v3 h)
  | 0, _, _, _, _, _ => Sd.none
  | n + 1, v0, v1, v2, v3, h => by
    rw [Mod_digest_L112]
    refine Sd_iload_n (pc' := 113) (dc D_Mod_digest 66 rfl) rfl 3 rfl rfl ?_
    refine Sd_aload_n (pc' := 114) (dc D_Mod_digest 67 rfl) rfl 0 rfl rfl ?_
    refine Sd_getR (pc' := 117) (dc D_Mod_digest 68 rfl) rfl F_Mod_43 rfl rfl ?_
    refine Sd_iload_n (pc' := 118) (dc D_Mod_digest 69 rfl) rfl 1 rfl rfl ?_
    refine Sd_iaload (pc' := 119) (dc D_Mod_digest 70 rfl) rfl ?_
    refine Sd_icmp_ge (tgt := 143) (pc' := 122) (dc D_Mod_digest 71 rfl) (by decide) rfl (fun _ => ?_) (fun _ => ?_)
    · refine Sd_iload_n (pc' := 144) (dc D_Mod_digest 85 rfl) rfl 2 rfl rfl ?_
      exact Sd_iret (dc D_Mod_digest 86 rfl) rfl
    · refine Sd_iload_n (pc' := 123) (dc D_Mod_digest 72 rfl) rfl 2 rfl rfl ?_
      refine Sd_aload_n (pc' := 124) (dc D_Mod_digest 73 rfl) rfl 0 rfl rfl ?_
      refine Sd_getR (pc' := 127) (dc D_Mod_digest 74 rfl) rfl F_Mod_46 rfl rfl ?_
      refine Sd_iconst (pc' := 128) (dc D_Mod_digest 75 rfl) rfl ⟨by decide, by decide⟩ ?_
      refine Sd_iload_n (pc' := 129) (dc D_Mod_digest 76 rfl) rfl 1 rfl rfl ?_
      refine Sd_imul (pc' := 130) (dc D_Mod_digest 77 rfl) rfl ?_
      refine Sd_iload_n (pc' := 131) (dc D_Mod_digest 78 rfl) rfl 3 rfl rfl ?_
      refine Sd_iadd (pc' := 132) (dc D_Mod_digest 79 rfl) rfl ?_
      refine Sd_iaload (pc' := 133) (dc D_Mod_digest 80 rfl) rfl ?_
      refine Sd.callSI (as := [_, _]) (pc' := 136) (dc D_Mod_digest 81 rfl) rfl K_Mod_digests L_Mod_267 Ks_Mod_digests ⟨by decide, by decide⟩ rfl rfl (Nat.le_of_ble_eq_true rfl) (s_Mod_digests _ _ _) (fun x6 h5 => ?_)
      refine Sd_istore_n (pc' := 137) (l' := [(2, _), (0, _), (1, _), (3, _)]) (dc D_Mod_digest 82 rfl) rfl rfl (by decide) rfl ?_
      refine Sd_iinc (pc' := 140) (l' := [(3, _), (2, _), (0, _), (1, _)]) (dc D_Mod_digest 83 rfl) rfl 3 rfl (by decide) rfl ?_
      refine Sd_goto (tgt := 112) (dc D_Mod_digest 84 rfl) (by decide) ?_
      refine Sd.sub (l' := [(0, _), (1, _), (2, _), (3, _)]) [2, 3, 1, 0] rfl ?_
      exact s_Mod_digest_L112 n _ _ _ _ _
def Mod_digest_L76 : Nat → Nat → Int → Int → Int → AH → Option (Int × AH)
  | 0, _, _, _, _, _ => none
  | n + 1, v0, v1, v2, v3, h => if (10 : Int) ≤ v3 then (gR h 13 v0 16 fun r1 => aI h 21 r1 v1 fun x2 => bnd (Mod_digests v2 x2 h) fun x4 h3 => Mod_digest_L112 FU v0 v1 x4 0 h3) else (rc h 13 v0 <| bnd (Mod_boundOf v0 v1 v3 h) fun x7 h6 => bnd (Mod_digests v2 x7 h6) fun x10 h9 => Mod_digest_L76 n v0 v1 x10 ((wr (v3 + 1))) h9)
set_option maxHeartbeats 4000000 in
set_option maxRecDepth 20000 in
theorem s_Mod_digest_L76 : ∀ (n : Nat) (v0 : Nat) (v1 : Int) (v2 : Int) (v3 : Int) (h : AH), Sd M_Mod_digest 3 46 emI 76 [(0, vr v0), (1, vi v1), (2, vi v2), (3, vi v3)] [] h (Mod_digest_L76 n v0 v1 v2 v3 h)
  | 0, _, _, _, _, _ => Sd.none
  | n + 1, v0, v1, v2, v3, h => by
    rw [Mod_digest_L76]
    refine Sd_iload_n (pc' := 77) (dc D_Mod_digest 45 rfl) rfl 3 rfl rfl ?_
    refine Sd_bipush (pc' := 79) (dc D_Mod_digest 46 rfl) rfl ⟨by decide, by decide⟩ (by decide) ?_
    refine Sd_icmp_ge (tgt := 99) (pc' := 82) (dc D_Mod_digest 47 rfl) (by decide) rfl (fun _ => ?_) (fun _ => ?_)
    · refine Sd_iload_n (pc' := 100) (dc D_Mod_digest 57 rfl) rfl 2 rfl rfl ?_
      refine Sd_aload_n (pc' := 101) (dc D_Mod_digest 58 rfl) rfl 0 rfl rfl ?_
      refine Sd_getR (pc' := 104) (dc D_Mod_digest 59 rfl) rfl F_Mod_43 rfl rfl ?_
      refine Sd_iload_n (pc' := 105) (dc D_Mod_digest 60 rfl) rfl 1 rfl rfl ?_
      refine Sd_iaload (pc' := 106) (dc D_Mod_digest 61 rfl) rfl ?_
      refine Sd.callSI (as := [_, _]) (pc' := 109) (dc D_Mod_digest 62 rfl) rfl K_Mod_digests L_Mod_267 Ks_Mod_digests ⟨by decide, by decide⟩ rfl rfl (Nat.le_of_ble_eq_true rfl) (s_Mod_digests _ _ _) (fun x4 h3 => ?_)
      refine Sd_istore_n (pc' := 110) (l' := [(2, _), (0, _), (1, _), (3, _)]) (dc D_Mod_digest 63 rfl) rfl rfl (by decide) rfl ?_
      refine Sd_iconst (pc' := 111) (dc D_Mod_digest 64 rfl) rfl ⟨by decide, by decide⟩ ?_
      refine Sd_istore_n (pc' := 112) (l' := [(3, _), (2, _), (0, _), (1, _)]) (dc D_Mod_digest 65 rfl) rfl rfl (by decide) rfl ?_
      refine Sd.sub (l' := [(0, _), (1, _), (2, _), (3, _)]) [2, 3, 1, 0] rfl ?_
      exact s_Mod_digest_L112 FU _ _ _ _ _
    · refine Sd_iload_n (pc' := 83) (dc D_Mod_digest 48 rfl) rfl 2 rfl rfl ?_
      refine Sd_aload_n (pc' := 84) (dc D_Mod_digest 49 rfl) rfl 0 rfl rfl ?_
      refine Sd_iload_n (pc' := 85) (dc D_Mod_digest 50 rfl) rfl 1 rfl rfl ?_
      refine Sd_iload_n (pc' := 86) (dc D_Mod_digest 51 rfl) rfl 3 rfl rfl ?_
      refine Sd.callVI (ci := 12) (t := 13) (as := [_, _]) RX12 (pc' := 89) (dc D_Mod_digest 52 rfl) rfl rfl rfl rfl K_Mod_boundOf L_Mod_260 Ks_Mod_boundOf Kv_Mod_boundOf ⟨by decide, by decide⟩ rfl rfl (Nat.le_of_ble_eq_true rfl) (s_Mod_boundOf _ _ _ _) (fun x7 h6 => ?_)
      refine Sd.callSI (as := [_, _]) (pc' := 92) (dc D_Mod_digest 53 rfl) rfl K_Mod_digests L_Mod_267 Ks_Mod_digests ⟨by decide, by decide⟩ rfl rfl (Nat.le_of_ble_eq_true rfl) (s_Mod_digests _ _ _) (fun x10 h9 => ?_)
      refine Sd_istore_n (pc' := 93) (l' := [(2, _), (0, _), (1, _), (3, _)]) (dc D_Mod_digest 54 rfl) rfl rfl (by decide) rfl ?_
      refine Sd_iinc (pc' := 96) (l' := [(3, _), (2, _), (0, _), (1, _)]) (dc D_Mod_digest 55 rfl) rfl 3 rfl (by decide) rfl ?_
      refine Sd_goto (tgt := 76) (dc D_Mod_digest 56 rfl) (by decide) ?_
      refine Sd.sub (l' := [(0, _), (1, _), (2, _), (3, _)]) [2, 3, 1, 0] rfl ?_
      exact s_Mod_digest_L76 n _ _ _ _ _
def Mod_digest_L44 (v0 : Nat) (v1 : Int) (s0 : Int) (s1 : Int) (h : AH) : Option (Int × AH) := bnd (Mod_digests s1 s0 h) fun x2 h1 => gR h1 13 v0 13 fun r4 => aI h1 21 r4 v1 fun x5 => if ¬ (x5 : Int) = (-1) then (gR h1 13 v0 13 fun r6 => aI h1 21 r6 v1 fun x7 => bnd (Mod_digests x2 x7 h1) fun x9 h8 => Mod_digest_L76 FU v0 v1 x9 0 h8) else (bnd (Mod_digests x2 9 h1) fun x12 h11 => Mod_digest_L76 FU v0 v1 x12 0 h11)
set_option maxHeartbeats 4000000 in
set_option maxRecDepth 20000 in
theorem s_Mod_digest_L44 (v0 : Nat) (v1 : Int) (s0 : Int) (s1 : Int) (h : AH) : Sd M_Mod_digest 3 46 emI 44 [(0, vr v0), (1, vi v1)] [vi s0, vi s1] h (Mod_digest_L44 v0 v1 s0 s1 h) := by
  unfold Mod_digest_L44
  refine Sd.callSI (as := [_, _]) (pc' := 47) (dc D_Mod_digest 26 rfl) rfl K_Mod_digests L_Mod_267 Ks_Mod_digests ⟨by decide, by decide⟩ rfl rfl (Nat.le_of_ble_eq_true rfl) (s_Mod_digests _ _ _) (fun x2 h1 => ?_)
  refine Sd_istore_n (pc' := 48) (l' := [(2, _), (0, _), (1, _)]) (dc D_Mod_digest 27 rfl) rfl rfl (by decide) rfl ?_
  refine Sd_iload_n (pc' := 49) (dc D_Mod_digest 28 rfl) rfl 0 rfl rfl ?_
  refine Sd_aload_n (pc' := 50) (dc D_Mod_digest 29 rfl) rfl 1 rfl rfl ?_
  refine Sd_getR (pc' := 53) (dc D_Mod_digest 30 rfl) rfl F_Mod_34 rfl rfl ?_
  refine Sd_iload_n (pc' := 54) (dc D_Mod_digest 31 rfl) rfl 2 rfl rfl ?_
  refine Sd_iaload (pc' := 55) (dc D_Mod_digest 32 rfl) rfl ?_
  refine Sd_iconst (pc' := 56) (dc D_Mod_digest 33 rfl) rfl ⟨by decide, by decide⟩ ?_
  refine Sd_icmp_ne (tgt := 64) (pc' := 59) (dc D_Mod_digest 34 rfl) (by decide) rfl (fun _ => ?_) (fun _ => ?_)
  · refine Sd_aload_n (pc' := 65) (dc D_Mod_digest 37 rfl) rfl 1 rfl rfl ?_
    refine Sd_getR (pc' := 68) (dc D_Mod_digest 38 rfl) rfl F_Mod_34 rfl rfl ?_
    refine Sd_iload_n (pc' := 69) (dc D_Mod_digest 39 rfl) rfl 2 rfl rfl ?_
    refine Sd_iaload (pc' := 70) (dc D_Mod_digest 40 rfl) rfl ?_
    refine Sd.callSI (as := [_, _]) (pc' := 73) (dc D_Mod_digest 41 rfl) rfl K_Mod_digests L_Mod_267 Ks_Mod_digests ⟨by decide, by decide⟩ rfl rfl (Nat.le_of_ble_eq_true rfl) (s_Mod_digests _ _ _) (fun x9 h8 => ?_)
    refine Sd_istore_n (pc' := 74) (l' := [(2, _), (0, _), (1, _)]) (dc D_Mod_digest 42 rfl) rfl rfl (by decide) rfl ?_
    refine Sd_iconst (pc' := 75) (dc D_Mod_digest 43 rfl) rfl ⟨by decide, by decide⟩ ?_
    refine Sd_istore_n (pc' := 76) (l' := [(3, _), (2, _), (0, _), (1, _)]) (dc D_Mod_digest 44 rfl) rfl rfl (by decide) rfl ?_
    refine Sd.sub (l' := [(0, _), (1, _), (2, _), (3, _)]) [2, 3, 1, 0] rfl ?_
    exact s_Mod_digest_L76 FU _ _ _ _ _
  · refine Sd_bipush (pc' := 61) (dc D_Mod_digest 35 rfl) rfl ⟨by decide, by decide⟩ (by decide) ?_
    refine Sd_goto (tgt := 70) (dc D_Mod_digest 36 rfl) (by decide) ?_
    refine Sd.callSI (as := [_, _]) (pc' := 73) (dc D_Mod_digest 41 rfl) rfl K_Mod_digests L_Mod_267 Ks_Mod_digests ⟨by decide, by decide⟩ rfl rfl (Nat.le_of_ble_eq_true rfl) (s_Mod_digests _ _ _) (fun x12 h11 => ?_)
    refine Sd_istore_n (pc' := 74) (l' := [(2, _), (0, _), (1, _)]) (dc D_Mod_digest 42 rfl) rfl rfl (by decide) rfl ?_
    refine Sd_iconst (pc' := 75) (dc D_Mod_digest 43 rfl) rfl ⟨by decide, by decide⟩ ?_
    refine Sd_istore_n (pc' := 76) (l' := [(3, _), (2, _), (0, _), (1, _)]) (dc D_Mod_digest 44 rfl) rfl rfl (by decide) rfl ?_
    refine Sd.sub (l' := [(0, _), (1, _), (2, _), (3, _)]) [2, 3, 1, 0] rfl ?_
    exact s_Mod_digest_L76 FU _ _ _ _ _
def Mod_digest (v0 : Nat) (v1 : Int) (h : AH) : Option (Int × AH) := rc h 13 v0 <| bnd (Mod_isQuery v0 v1 h) fun x2 h1 => if ¬ (x2 : Int) = 0 then (gR h1 13 v0 11 fun r4 => aI h1 21 r4 v1 fun x5 => bnd (Mod_digests 7 x5 h1) fun x7 h6 => gR h6 13 v0 12 fun r9 => aI h6 21 r9 v1 fun x10 => if ¬ (x10 : Int) = (-1) then (gR h6 13 v0 12 fun r11 => aI h6 21 r11 v1 fun x12 => Mod_digest_L44 v0 v1 x12 x7 h6) else (Mod_digest_L44 v0 v1 9 x7 h6)) else (some ((-1), h1))
set_option maxHeartbeats 4000000 in
set_option maxRecDepth 20000 in
theorem s_Mod_digest (v0 : Nat) (v1 : Int) (h : AH) : CS M_Mod_digest 3 46 emI [vr v0, vi v1] h (Mod_digest v0 v1 h) := by
  refine CS.of (by decide) (Nat.le_of_ble_eq_true rfl) ?_
  show Sd M_Mod_digest 3 46 emI 0 [(0, vr v0), (1, vi v1)] [] h _
  unfold Mod_digest
  refine Sd_aload_n (pc' := 1) (dc D_Mod_digest 0 rfl) rfl 0 rfl rfl ?_
  refine Sd_iload_n (pc' := 2) (dc D_Mod_digest 1 rfl) rfl 1 rfl rfl ?_
  refine Sd.callVI (ci := 12) (t := 13) (as := [_]) RX12 (pc' := 5) (dc D_Mod_digest 2 rfl) rfl rfl rfl rfl K_Mod_isQuery L_Mod_255 Ks_Mod_isQuery Kv_Mod_isQuery ⟨by decide, by decide⟩ rfl rfl (Nat.le_of_ble_eq_true rfl) (s_Mod_isQuery _ _ _) (fun x2 h1 => ?_)
  refine Sd_if_ne (tgt := 10) (pc' := 8) (dc D_Mod_digest 3 rfl) (by decide) rfl (fun _ => ?_) (fun _ => ?_)
  · refine Sd_bipush (pc' := 12) (dc D_Mod_digest 6 rfl) rfl ⟨by decide, by decide⟩ (by decide) ?_
    refine Sd_aload_n (pc' := 13) (dc D_Mod_digest 7 rfl) rfl 0 rfl rfl ?_
    refine Sd_getR (pc' := 16) (dc D_Mod_digest 8 rfl) rfl F_Mod_28 rfl rfl ?_
    refine Sd_iload_n (pc' := 17) (dc D_Mod_digest 9 rfl) rfl 1 rfl rfl ?_
    refine Sd_iaload (pc' := 18) (dc D_Mod_digest 10 rfl) rfl ?_
    refine Sd.callSI (as := [_, _]) (pc' := 21) (dc D_Mod_digest 11 rfl) rfl K_Mod_digests L_Mod_267 Ks_Mod_digests ⟨by decide, by decide⟩ rfl rfl (Nat.le_of_ble_eq_true rfl) (s_Mod_digests _ _ _) (fun x7 h6 => ?_)
    refine Sd_istore_n (pc' := 22) (l' := [(2, _), (0, _), (1, _)]) (dc D_Mod_digest 12 rfl) rfl rfl (by decide) rfl ?_
    refine Sd_iload_n (pc' := 23) (dc D_Mod_digest 13 rfl) rfl 0 rfl rfl ?_
    refine Sd_aload_n (pc' := 24) (dc D_Mod_digest 14 rfl) rfl 1 rfl rfl ?_
    refine Sd_getR (pc' := 27) (dc D_Mod_digest 15 rfl) rfl F_Mod_31 rfl rfl ?_
    refine Sd_iload_n (pc' := 28) (dc D_Mod_digest 16 rfl) rfl 2 rfl rfl ?_
    refine Sd_iaload (pc' := 29) (dc D_Mod_digest 17 rfl) rfl ?_
    refine Sd_iconst (pc' := 30) (dc D_Mod_digest 18 rfl) rfl ⟨by decide, by decide⟩ ?_
    refine Sd_icmp_ne (tgt := 38) (pc' := 33) (dc D_Mod_digest 19 rfl) (by decide) rfl (fun _ => ?_) (fun _ => ?_)
    · refine Sd_aload_n (pc' := 39) (dc D_Mod_digest 22 rfl) rfl 1 rfl rfl ?_
      refine Sd_getR (pc' := 42) (dc D_Mod_digest 23 rfl) rfl F_Mod_31 rfl rfl ?_
      refine Sd_iload_n (pc' := 43) (dc D_Mod_digest 24 rfl) rfl 2 rfl rfl ?_
      refine Sd_iaload (pc' := 44) (dc D_Mod_digest 25 rfl) rfl ?_
      refine Sd.sub (l' := [(0, _), (1, _)]) [1, 2] rfl ?_
      exact s_Mod_digest_L44 _ _ _ _ _
    · refine Sd_bipush (pc' := 35) (dc D_Mod_digest 20 rfl) rfl ⟨by decide, by decide⟩ (by decide) ?_
      refine Sd_goto (tgt := 44) (dc D_Mod_digest 21 rfl) (by decide) ?_
      refine Sd.sub (l' := [(0, _), (1, _)]) [1, 2] rfl ?_
      exact s_Mod_digest_L44 _ _ _ _ _
  · refine Sd_iconst (pc' := 9) (dc D_Mod_digest 4 rfl) rfl ⟨by decide, by decide⟩ ?_
    exact Sd_iret (dc D_Mod_digest 5 rfl) rfl
theorem K_Mod_digest : MOk M_Mod_digest 1 := ⟨Tb_at 133 (by decide +kernel) rfl, Tb_at 1529 (by decide +kernel) rfl, by decide +kernel, by decide +kernel, by decide +kernel⟩
theorem Ks_Mod_digest : Cond.instanceMethod yX12_digest ∈ Tb := Tb_at 1527 (by decide +kernel) rfl
theorem Kv_Mod_digest : Cond.selects RX12 yX12_digest yX12_digest ∈ Tb := Tb_at 1528 (by decide +kernel) rfl
/-! ===== BatchShareModel.areAlike(II)Z ===== -/
abbrev M_Mod_areAlike : AMt := (yX12_areAlike, cX12_areAlike, 4, (some .boolean))
def T_Mod_areAlike : List (Nat × Instr × Nat) := [(0, .iconst 0, 1), (1, .istore_n 3, 1), (2, .iload_n 3, 1), (3, .bipush 19, 2), (5, .if_icmp .ge 26, 3), (8, .aload_n 0, 1), (9, .iload_n 1, 1), (10, .iload_n 3, 1), (11, .invokevirtual 270, 3), (14, .aload_n 0, 1), (15, .iload_n 2, 1), (16, .iload_n 3, 1), (17, .invokevirtual 270, 3), (20, .if_icmp .eq 5, 3), (23, .iconst 0, 1), (24, .ireturn, 1), (25, .iinc 3 1, 3), (28, .goto (-26), 3), (31, .iconst 1, 1), (32, .ireturn, 1)]
set_option maxRecDepth 20000 in
theorem D_Mod_areAlike : (T_Mod_areAlike.all fun q => decide (decode M_Mod_areAlike.2.1 q.1 = .ok q.2)) = true := by decide +kernel
def Mod_areAlike_L2 : Nat → Nat → Int → Int → Int → AH → Option (Int × AH)
  | 0, _, _, _, _, _ => none
  | n + 1, v0, v1, v2, v3, h => if (19 : Int) ≤ v3 then (some (1, h)) else (rc h 13 v0 <| bnd (Mod_form v0 v1 v3 h) fun x2 h1 => rc h1 13 v0 <| bnd (Mod_form v0 v2 v3 h1) fun x5 h4 => if (x2 : Int) = x5 then (Mod_areAlike_L2 n v0 v1 v2 ((wr (v3 + 1))) h4) else (some (0, h4)))
set_option maxHeartbeats 4000000 in
set_option maxRecDepth 20000 in
theorem s_Mod_areAlike_L2 : ∀ (n : Nat) (v0 : Nat) (v1 : Int) (v2 : Int) (v3 : Int) (h : AH), Sd M_Mod_areAlike 4 68 emI 2 [(0, vr v0), (1, vi v1), (2, vi v2), (3, vi v3)] [] h (Mod_areAlike_L2 n v0 v1 v2 v3 h)
  | 0, _, _, _, _, _ => Sd.none
  | n + 1, v0, v1, v2, v3, h => by
    rw [Mod_areAlike_L2]
    refine Sd_iload_n (pc' := 3) (dc D_Mod_areAlike 2 rfl) rfl 3 rfl rfl ?_
    refine Sd_bipush (pc' := 5) (dc D_Mod_areAlike 3 rfl) rfl ⟨by decide, by decide⟩ (by decide) ?_
    refine Sd_icmp_ge (tgt := 31) (pc' := 8) (dc D_Mod_areAlike 4 rfl) (by decide) rfl (fun _ => ?_) (fun _ => ?_)
    · refine Sd_iconst (pc' := 32) (dc D_Mod_areAlike 18 rfl) rfl ⟨by decide, by decide⟩ ?_
      exact Sd_zret (dc D_Mod_areAlike 19 rfl) rfl (Or.inr rfl)
    · refine Sd_aload_n (pc' := 9) (dc D_Mod_areAlike 5 rfl) rfl 0 rfl rfl ?_
      refine Sd_iload_n (pc' := 10) (dc D_Mod_areAlike 6 rfl) rfl 1 rfl rfl ?_
      refine Sd_iload_n (pc' := 11) (dc D_Mod_areAlike 7 rfl) rfl 3 rfl rfl ?_
      refine Sd.callVI (ci := 12) (t := 13) (as := [_, _]) RX12 (pc' := 14) (dc D_Mod_areAlike 8 rfl) rfl rfl rfl rfl K_Mod_form L_Mod_270 Ks_Mod_form Kv_Mod_form ⟨by decide, by decide⟩ rfl rfl (Nat.le_of_ble_eq_true rfl) (s_Mod_form _ _ _ _) (fun x2 h1 => ?_)
      refine Sd_aload_n (pc' := 15) (dc D_Mod_areAlike 9 rfl) rfl 0 rfl rfl ?_
      refine Sd_iload_n (pc' := 16) (dc D_Mod_areAlike 10 rfl) rfl 2 rfl rfl ?_
      refine Sd_iload_n (pc' := 17) (dc D_Mod_areAlike 11 rfl) rfl 3 rfl rfl ?_
      refine Sd.callVI (ci := 12) (t := 13) (as := [_, _]) RX12 (pc' := 20) (dc D_Mod_areAlike 12 rfl) rfl rfl rfl rfl K_Mod_form L_Mod_270 Ks_Mod_form Kv_Mod_form ⟨by decide, by decide⟩ rfl rfl (Nat.le_of_ble_eq_true rfl) (s_Mod_form _ _ _ _) (fun x5 h4 => ?_)
      refine Sd_icmp_eq (tgt := 25) (pc' := 23) (dc D_Mod_areAlike 13 rfl) (by decide) rfl (fun _ => ?_) (fun _ => ?_)
      · refine Sd_iinc (pc' := 28) (l' := [(3, _), (0, _), (1, _), (2, _)]) (dc D_Mod_areAlike 16 rfl) rfl 3 rfl (by decide) rfl ?_
        refine Sd_goto (tgt := 2) (dc D_Mod_areAlike 17 rfl) (by decide) ?_
        refine Sd.sub (l' := [(0, _), (1, _), (2, _), (3, _)]) [1, 2, 3, 0] rfl ?_
        exact s_Mod_areAlike_L2 n _ _ _ _ _
      · refine Sd_iconst (pc' := 24) (dc D_Mod_areAlike 14 rfl) rfl ⟨by decide, by decide⟩ ?_
        exact Sd_zret (dc D_Mod_areAlike 15 rfl) rfl (Or.inl rfl)
def Mod_areAlike (v0 : Nat) (v1 : Int) (v2 : Int) (h : AH) : Option (Int × AH) := Mod_areAlike_L2 FU v0 v1 v2 0 h
set_option maxHeartbeats 4000000 in
set_option maxRecDepth 20000 in
theorem s_Mod_areAlike (v0 : Nat) (v1 : Int) (v2 : Int) (h : AH) : CS M_Mod_areAlike 4 68 emI [vr v0, vi v1, vi v2] h (Mod_areAlike v0 v1 v2 h) := by
  refine CS.of (by decide) (Nat.le_of_ble_eq_true rfl) ?_
  show Sd M_Mod_areAlike 4 68 emI 0 [(0, vr v0), (1, vi v1), (2, vi v2)] [] h _
  unfold Mod_areAlike
  refine Sd_iconst (pc' := 1) (dc D_Mod_areAlike 0 rfl) rfl ⟨by decide, by decide⟩ ?_
  refine Sd_istore_n (pc' := 2) (l' := [(3, _), (0, _), (1, _), (2, _)]) (dc D_Mod_areAlike 1 rfl) rfl rfl (by decide) rfl ?_
  refine Sd.sub (l' := [(0, _), (1, _), (2, _), (3, _)]) [1, 2, 3, 0] rfl ?_
  exact s_Mod_areAlike_L2 FU _ _ _ _ _
theorem K_Mod_areAlike : MOk M_Mod_areAlike 2 := ⟨Tb_at 133 (by decide +kernel) rfl, Tb_at 1542 (by decide +kernel) rfl, by decide +kernel, by decide +kernel, by decide +kernel⟩
theorem Ks_Mod_areAlike : Cond.instanceMethod yX12_areAlike ∈ Tb := Tb_at 1541 (by decide +kernel) rfl
theorem Kv_Mod_areAlike : Cond.selects RX12 yX12_areAlike yX12_areAlike ∈ Tb := Tb_at 65 (by decide +kernel) rfl
/-! ===== BatchShareModel.alike(I)I ===== -/
abbrev M_Mod_alike : AMt := (yX12_alike, cX12_alike, 3, (some .int))
def T_Mod_alike : List (Nat × Instr × Nat) := [(0, .aload_n 0, 1), (1, .iload_n 1, 1), (2, .invokevirtual 255, 3), (5, .ifCond .ne 5, 3), (8, .iconst (-1), 1), (9, .ireturn, 1), (10, .iconst 0, 1), (11, .istore_n 2, 1), (12, .aload_n 0, 1), (13, .iload_n 2, 1), (14, .iload_n 1, 1), (15, .invokevirtual 273, 3), (18, .ifCond .ne 9, 3), (21, .iinc 2 1, 3), (24, .goto (-12), 3), (27, .iload_n 2, 1), (28, .ireturn, 1)]
set_option maxRecDepth 20000 in
theorem D_Mod_alike : (T_Mod_alike.all fun q => decide (decode M_Mod_alike.2.1 q.1 = .ok q.2)) = true := by decide +kernel
def Mod_alike_L12 : Nat → Nat → Int → Int → AH → Option (Int × AH)
  | 0, _, _, _, _ => none
  | n + 1, v0, v1, v2, h => rc h 13 v0 <| bnd (Mod_areAlike v0 v2 v1 h) fun x2 h1 => if ¬ (x2 : Int) = 0 then (some (v2, h1)) else (Mod_alike_L12 n v0 v1 ((wr (v2 + 1))) h1)
set_option maxHeartbeats 4000000 in
set_option maxRecDepth 20000 in
theorem s_Mod_alike_L12 : ∀ (n : Nat) (v0 : Nat) (v1 : Int) (v2 : Int) (h : AH), Sd M_Mod_alike 5 91 emI 12 [(0, vr v0), (1, vi v1), (2, vi v2)] [] h (Mod_alike_L12 n v0 v1 v2 h)
  | 0, _, _, _, _ => Sd.none
  | n + 1, v0, v1, v2, h => by
    rw [Mod_alike_L12]
    refine Sd_aload_n (pc' := 13) (dc D_Mod_alike 8 rfl) rfl 0 rfl rfl ?_
    refine Sd_iload_n (pc' := 14) (dc D_Mod_alike 9 rfl) rfl 2 rfl rfl ?_
    refine Sd_iload_n (pc' := 15) (dc D_Mod_alike 10 rfl) rfl 1 rfl rfl ?_
    refine Sd.callVI (ci := 12) (t := 13) (as := [_, _]) RX12 (pc' := 18) (dc D_Mod_alike 11 rfl) rfl rfl rfl rfl K_Mod_areAlike L_Mod_273 Ks_Mod_areAlike Kv_Mod_areAlike ⟨by decide, by decide⟩ rfl rfl (Nat.le_of_ble_eq_true rfl) (s_Mod_areAlike _ _ _ _) (fun x2 h1 => ?_)
    refine Sd_if_ne (tgt := 27) (pc' := 21) (dc D_Mod_alike 12 rfl) (by decide) rfl (fun _ => ?_) (fun _ => ?_)
    · refine Sd_iload_n (pc' := 28) (dc D_Mod_alike 15 rfl) rfl 2 rfl rfl ?_
      exact Sd_iret (dc D_Mod_alike 16 rfl) rfl
    · refine Sd_iinc (pc' := 24) (l' := [(2, _), (0, _), (1, _)]) (dc D_Mod_alike 13 rfl) rfl 2 rfl (by decide) rfl ?_
      refine Sd_goto (tgt := 12) (dc D_Mod_alike 14 rfl) (by decide) ?_
      refine Sd.sub (l' := [(0, _), (1, _), (2, _)]) [1, 2, 0] rfl ?_
      exact s_Mod_alike_L12 n _ _ _ _
def Mod_alike (v0 : Nat) (v1 : Int) (h : AH) : Option (Int × AH) := rc h 13 v0 <| bnd (Mod_isQuery v0 v1 h) fun x2 h1 => if ¬ (x2 : Int) = 0 then (Mod_alike_L12 FU v0 v1 0 h1) else (some ((-1), h1))
set_option maxHeartbeats 4000000 in
set_option maxRecDepth 20000 in
theorem s_Mod_alike (v0 : Nat) (v1 : Int) (h : AH) : CS M_Mod_alike 5 91 emI [vr v0, vi v1] h (Mod_alike v0 v1 h) := by
  refine CS.of (by decide) (Nat.le_of_ble_eq_true rfl) ?_
  show Sd M_Mod_alike 5 91 emI 0 [(0, vr v0), (1, vi v1)] [] h _
  unfold Mod_alike
  refine Sd_aload_n (pc' := 1) (dc D_Mod_alike 0 rfl) rfl 0 rfl rfl ?_
  refine Sd_iload_n (pc' := 2) (dc D_Mod_alike 1 rfl) rfl 1 rfl rfl ?_
  refine Sd.callVI (ci := 12) (t := 13) (as := [_]) RX12 (pc' := 5) (dc D_Mod_alike 2 rfl) rfl rfl rfl rfl K_Mod_isQuery L_Mod_255 Ks_Mod_isQuery Kv_Mod_isQuery ⟨by decide, by decide⟩ rfl rfl (Nat.le_of_ble_eq_true rfl) (s_Mod_isQuery _ _ _) (fun x2 h1 => ?_)
  refine Sd_if_ne (tgt := 10) (pc' := 8) (dc D_Mod_alike 3 rfl) (by decide) rfl (fun _ => ?_) (fun _ => ?_)
  · refine Sd_iconst (pc' := 11) (dc D_Mod_alike 6 rfl) rfl ⟨by decide, by decide⟩ ?_
    refine Sd_istore_n (pc' := 12) (l' := [(2, _), (0, _), (1, _)]) (dc D_Mod_alike 7 rfl) rfl rfl (by decide) rfl ?_
    refine Sd.sub (l' := [(0, _), (1, _), (2, _)]) [1, 2, 0] rfl ?_
    exact s_Mod_alike_L12 FU _ _ _ _
  · refine Sd_iconst (pc' := 9) (dc D_Mod_alike 4 rfl) rfl ⟨by decide, by decide⟩ ?_
    exact Sd_iret (dc D_Mod_alike 5 rfl) rfl
theorem K_Mod_alike : MOk M_Mod_alike 1 := ⟨Tb_at 133 (by decide +kernel) rfl, Tb_at 1538 (by decide +kernel) rfl, by decide +kernel, by decide +kernel, by decide +kernel⟩
theorem Ks_Mod_alike : Cond.instanceMethod yX12_alike ∈ Tb := Tb_at 1536 (by decide +kernel) rfl
theorem Kv_Mod_alike : Cond.selects RX12 yX12_alike yX12_alike ∈ Tb := Tb_at 1537 (by decide +kernel) rfl
/-! ===== BatchShareModel.isIn(III)Z ===== -/
abbrev M_Mod_isIn : AMt := (yX12_isIn, cX12_isIn, 7, (some .boolean))
def T_Mod_isIn : List (Nat × Instr × Nat) := [(0, .iload_n 2, 1), (1, .ifCond .ne 7, 3), (4, .iconst 0, 1), (5, .goto 4, 3), (8, .iconst 3, 1), (9, .istore 4, 2), (11, .iload_n 2, 1), (12, .ifCond .ne 7, 3), (15, .iconst 3, 1), (16, .goto 4, 3), (19, .iconst 5, 1), (20, .istore 5, 2), (22, .iload 4, 2), (24, .istore 6, 2), (26, .iload 6, 2), (28, .iload 5, 2), (30, .if_icmp .ge 49, 3), (33, .aload_n 0, 1), (34, .iload_n 3, 1), (35, .iload 6, 2), (37, .invokevirtual 252, 3), (40, .i2l, 1), (41, .aload_n 0, 1), (42, .getfield 37, 3), (45, .iconst 5, 1), (46, .iload_n 1, 1), (47, .imul, 1), (48, .iload 6, 2), (50, .iadd, 1), (51, .iaload, 1), (52, .i2l, 1), (53, .aload_n 0, 1), (54, .getfield 40, 3), (57, .iconst 5, 1), (58, .iload_n 1, 1), (59, .imul, 1), (60, .iload 6, 2), (62, .iadd, 1), (63, .iaload, 1), (64, .i2l, 1), (65, .invokestatic 88, 3), (68, .ifCond .ne 5, 3), (71, .iconst 0, 1), (72, .ireturn, 1), (73, .iinc 6 1, 3), (76, .goto (-50), 3), (79, .iconst 1, 1), (80, .ireturn, 1)]
set_option maxRecDepth 20000 in
theorem D_Mod_isIn : (T_Mod_isIn.all fun q => decide (decode M_Mod_isIn.2.1 q.1 = .ok q.2)) = true := by decide +kernel
def Mod_isIn_L26 : Nat → Nat → Int → Int → Int → Int → AH → Option (Int × AH)
  | 0, _, _, _, _, _, _ => none
  | n + 1, v0, v1, v3, v5, v6, h => if (v5 : Int) ≤ v6 then (some (1, h)) else (rc h 13 v0 <| bnd (Mod_numberAt v0 v3 v6 h) fun x2 h1 => gR h1 13 v0 14 fun r4 => aI h1 21 r4 (wr ((wr (5 * v1)) + v6)) fun x5 => gR h1 13 v0 15 fun r6 => aI h1 21 r6 (wr ((wr (5 * v1)) + v6)) fun x7 => bnd (Mod_in x2 x5 x7 h1) fun x9 h8 => if ¬ (x9 : Int) = 0 then (Mod_isIn_L26 n v0 v1 v3 v5 ((wr (v6 + 1))) h8) else (some (0, h8)))
set_option maxHeartbeats 4000000 in
set_option maxRecDepth 20000 in
theorem s_Mod_isIn_L26 : ∀ (n : Nat) (v0 : Nat) (v1 : Int) (v3 : Int) (v5 : Int) (v6 : Int) (h : AH), Sd M_Mod_isIn 2 25 emI 26 [(0, vr v0), (1, vi v1), (3, vi v3), (5, vi v5), (6, vi v6)] [] h (Mod_isIn_L26 n v0 v1 v3 v5 v6 h)
  | 0, _, _, _, _, _, _ => Sd.none
  | n + 1, v0, v1, v3, v5, v6, h => by
    rw [Mod_isIn_L26]
    refine Sd_iload (pc' := 28) (dc D_Mod_isIn 14 rfl) rfl 4 rfl ?_
    refine Sd_iload (pc' := 30) (dc D_Mod_isIn 15 rfl) rfl 3 rfl ?_
    refine Sd_icmp_ge (tgt := 79) (pc' := 33) (dc D_Mod_isIn 16 rfl) (by decide) rfl (fun _ => ?_) (fun _ => ?_)
    · refine Sd_iconst (pc' := 80) (dc D_Mod_isIn 46 rfl) rfl ⟨by decide, by decide⟩ ?_
      exact Sd_zret (dc D_Mod_isIn 47 rfl) rfl (Or.inr rfl)
    · refine Sd_aload_n (pc' := 34) (dc D_Mod_isIn 17 rfl) rfl 0 rfl rfl ?_
      refine Sd_iload_n (pc' := 35) (dc D_Mod_isIn 18 rfl) rfl 2 rfl rfl ?_
      refine Sd_iload (pc' := 37) (dc D_Mod_isIn 19 rfl) rfl 4 rfl ?_
      refine Sd.callVI (ci := 12) (t := 13) (as := [_, _]) RX12 (pc' := 40) (dc D_Mod_isIn 20 rfl) rfl rfl rfl rfl K_Mod_numberAt L_Mod_252 Ks_Mod_numberAt Kv_Mod_numberAt ⟨by decide, by decide⟩ rfl rfl (Nat.le_of_ble_eq_true rfl) (s_Mod_numberAt _ _ _ _) (fun x2 h1 => ?_)
      refine Sd_i2l (pc' := 41) (dc D_Mod_isIn 21 rfl) rfl ?_
      refine Sd_aload_n (pc' := 42) (dc D_Mod_isIn 22 rfl) rfl 0 rfl rfl ?_
      refine Sd_getR (pc' := 45) (dc D_Mod_isIn 23 rfl) rfl F_Mod_37 rfl rfl ?_
      refine Sd_iconst (pc' := 46) (dc D_Mod_isIn 24 rfl) rfl ⟨by decide, by decide⟩ ?_
      refine Sd_iload_n (pc' := 47) (dc D_Mod_isIn 25 rfl) rfl 1 rfl rfl ?_
      refine Sd_imul (pc' := 48) (dc D_Mod_isIn 26 rfl) rfl ?_
      refine Sd_iload (pc' := 50) (dc D_Mod_isIn 27 rfl) rfl 4 rfl ?_
      refine Sd_iadd (pc' := 51) (dc D_Mod_isIn 28 rfl) rfl ?_
      refine Sd_iaload (pc' := 52) (dc D_Mod_isIn 29 rfl) rfl ?_
      refine Sd_i2l (pc' := 53) (dc D_Mod_isIn 30 rfl) rfl ?_
      refine Sd_aload_n (pc' := 54) (dc D_Mod_isIn 31 rfl) rfl 0 rfl rfl ?_
      refine Sd_getR (pc' := 57) (dc D_Mod_isIn 32 rfl) rfl F_Mod_40 rfl rfl ?_
      refine Sd_iconst (pc' := 58) (dc D_Mod_isIn 33 rfl) rfl ⟨by decide, by decide⟩ ?_
      refine Sd_iload_n (pc' := 59) (dc D_Mod_isIn 34 rfl) rfl 1 rfl rfl ?_
      refine Sd_imul (pc' := 60) (dc D_Mod_isIn 35 rfl) rfl ?_
      refine Sd_iload (pc' := 62) (dc D_Mod_isIn 36 rfl) rfl 4 rfl ?_
      refine Sd_iadd (pc' := 63) (dc D_Mod_isIn 37 rfl) rfl ?_
      refine Sd_iaload (pc' := 64) (dc D_Mod_isIn 38 rfl) rfl ?_
      refine Sd_i2l (pc' := 65) (dc D_Mod_isIn 39 rfl) rfl ?_
      refine Sd.callSI (as := [_, _, _]) (pc' := 68) (dc D_Mod_isIn 40 rfl) rfl K_Mod_in L_Mod_88 Ks_Mod_in ⟨by decide, by decide⟩ rfl rfl (Nat.le_of_ble_eq_true rfl) (s_Mod_in _ _ _ _) (fun x9 h8 => ?_)
      refine Sd_if_ne (tgt := 73) (pc' := 71) (dc D_Mod_isIn 41 rfl) (by decide) rfl (fun _ => ?_) (fun _ => ?_)
      · refine Sd_iinc (pc' := 76) (l' := [(6, _), (0, _), (1, _), (3, _), (5, _)]) (dc D_Mod_isIn 44 rfl) rfl 4 rfl (by decide) rfl ?_
        refine Sd_goto (tgt := 26) (dc D_Mod_isIn 45 rfl) (by decide) ?_
        refine Sd.sub (l' := [(0, _), (1, _), (3, _), (5, _), (6, _)]) [1, 2, 3, 4, 0] rfl ?_
        exact s_Mod_isIn_L26 n _ _ _ _ _ _
      · refine Sd_iconst (pc' := 72) (dc D_Mod_isIn 42 rfl) rfl ⟨by decide, by decide⟩ ?_
        exact Sd_zret (dc D_Mod_isIn 43 rfl) rfl (Or.inl rfl)
def Mod_isIn_L9 (v0 : Nat) (v1 : Int) (v2 : Int) (v3 : Int) (s0 : Int) (h : AH) : Option (Int × AH) := if ¬ (v2 : Int) = 0 then (Mod_isIn_L26 FU v0 v1 v3 5 s0 h) else (Mod_isIn_L26 FU v0 v1 v3 3 s0 h)
set_option maxHeartbeats 4000000 in
set_option maxRecDepth 20000 in
theorem s_Mod_isIn_L9 (v0 : Nat) (v1 : Int) (v2 : Int) (v3 : Int) (s0 : Int) (h : AH) : Sd M_Mod_isIn 2 25 emI 9 [(0, vr v0), (1, vi v1), (2, vi v2), (3, vi v3)] [vi s0] h (Mod_isIn_L9 v0 v1 v2 v3 s0 h) := by
  unfold Mod_isIn_L9
  refine Sd_istore (pc' := 11) (l' := [(4, _), (0, _), (1, _), (2, _), (3, _)]) (dc D_Mod_isIn 5 rfl) rfl (by decide) rfl ?_
  refine Sd_iload_n (pc' := 12) (dc D_Mod_isIn 6 rfl) rfl 3 rfl rfl ?_
  refine Sd_if_ne (tgt := 19) (pc' := 15) (dc D_Mod_isIn 7 rfl) (by decide) rfl (fun _ => ?_) (fun _ => ?_)
  · refine Sd_iconst (pc' := 20) (dc D_Mod_isIn 10 rfl) rfl ⟨by decide, by decide⟩ ?_
    refine Sd_istore (pc' := 22) (l' := [(5, _), (4, _), (0, _), (1, _), (2, _), (3, _)]) (dc D_Mod_isIn 11 rfl) rfl (by decide) rfl ?_
    refine Sd_iload (pc' := 24) (dc D_Mod_isIn 12 rfl) rfl 1 rfl ?_
    refine Sd_istore (pc' := 26) (l' := [(6, _), (5, _), (4, _), (0, _), (1, _), (2, _), (3, _)]) (dc D_Mod_isIn 13 rfl) rfl (by decide) rfl ?_
    refine Sd.sub (l' := [(0, _), (1, _), (3, _), (5, _), (6, _)]) [3, 4, 6, 1, 0] rfl ?_
    exact s_Mod_isIn_L26 FU _ _ _ _ _ _
  · refine Sd_iconst (pc' := 16) (dc D_Mod_isIn 8 rfl) rfl ⟨by decide, by decide⟩ ?_
    refine Sd_goto (tgt := 20) (dc D_Mod_isIn 9 rfl) (by decide) ?_
    refine Sd_istore (pc' := 22) (l' := [(5, _), (4, _), (0, _), (1, _), (2, _), (3, _)]) (dc D_Mod_isIn 11 rfl) rfl (by decide) rfl ?_
    refine Sd_iload (pc' := 24) (dc D_Mod_isIn 12 rfl) rfl 1 rfl ?_
    refine Sd_istore (pc' := 26) (l' := [(6, _), (5, _), (4, _), (0, _), (1, _), (2, _), (3, _)]) (dc D_Mod_isIn 13 rfl) rfl (by decide) rfl ?_
    refine Sd.sub (l' := [(0, _), (1, _), (3, _), (5, _), (6, _)]) [3, 4, 6, 1, 0] rfl ?_
    exact s_Mod_isIn_L26 FU _ _ _ _ _ _
def Mod_isIn (v0 : Nat) (v1 : Int) (v2 : Int) (v3 : Int) (h : AH) : Option (Int × AH) := if ¬ (v2 : Int) = 0 then (Mod_isIn_L9 v0 v1 v2 v3 3 h) else (Mod_isIn_L9 v0 v1 v2 v3 0 h)
set_option maxHeartbeats 4000000 in
set_option maxRecDepth 20000 in
theorem s_Mod_isIn (v0 : Nat) (v1 : Int) (v2 : Int) (v3 : Int) (h : AH) : CS M_Mod_isIn 2 25 emI [vr v0, vi v1, vi v2, vi v3] h (Mod_isIn v0 v1 v2 v3 h) := by
  refine CS.of (by decide) (Nat.le_of_ble_eq_true rfl) ?_
  show Sd M_Mod_isIn 2 25 emI 0 [(0, vr v0), (1, vi v1), (2, vi v2), (3, vi v3)] [] h _
  unfold Mod_isIn
  refine Sd_iload_n (pc' := 1) (dc D_Mod_isIn 0 rfl) rfl 2 rfl rfl ?_
  refine Sd_if_ne (tgt := 8) (pc' := 4) (dc D_Mod_isIn 1 rfl) (by decide) rfl (fun _ => ?_) (fun _ => ?_)
  · refine Sd_iconst (pc' := 9) (dc D_Mod_isIn 4 rfl) rfl ⟨by decide, by decide⟩ ?_
    exact s_Mod_isIn_L9 _ _ _ _ _ _
  · refine Sd_iconst (pc' := 5) (dc D_Mod_isIn 2 rfl) rfl ⟨by decide, by decide⟩ ?_
    refine Sd_goto (tgt := 9) (dc D_Mod_isIn 3 rfl) (by decide) ?_
    exact s_Mod_isIn_L9 _ _ _ _ _ _
theorem K_Mod_isIn : MOk M_Mod_isIn 3 := ⟨Tb_at 133 (by decide +kernel) rfl, Tb_at 1559 (by decide +kernel) rfl, by decide +kernel, by decide +kernel, by decide +kernel⟩
theorem Ks_Mod_isIn : Cond.instanceMethod yX12_isIn ∈ Tb := Tb_at 1558 (by decide +kernel) rfl
theorem Kv_Mod_isIn : Cond.selects RX12 yX12_isIn yX12_isIn ∈ Tb := Tb_at 68 (by decide +kernel) rfl
/-! ===== BatchShareModel.isAnswer(III)Z ===== -/
abbrev M_Mod_isAnswer : AMt := (yX12_isAnswer, cX12_isAnswer, 5, (some .boolean))
def T_Mod_isAnswer : List (Nat × Instr × Nat) := [(0, .aload_n 0, 1), (1, .getfield 28, 3), (4, .iload_n 1, 1), (5, .iaload, 1), (6, .iconst 1, 1), (7, .if_icmp .eq 13, 3), (10, .aload_n 0, 1), (11, .iload_n 1, 1), (12, .iconst 0, 1), (13, .iload_n 2, 1), (14, .invokevirtual 276, 3), (17, .ifCond .eq 7, 3), (20, .iconst 1, 1), (21, .goto 4, 3), (24, .iconst 0, 1), (25, .istore 4, 2), (27, .iload 4, 2), (29, .ifCond .eq 26, 3), (32, .aload_n 0, 1), (33, .getfield 28, 3), (36, .iload_n 1, 1), (37, .iaload, 1), (38, .ifCond .eq 13, 3), (41, .aload_n 0, 1), (42, .iload_n 1, 1), (43, .iconst 1, 1), (44, .iload_n 3, 1), (45, .invokevirtual 276, 3), (48, .ifCond .eq 7, 3), (51, .iconst 1, 1), (52, .goto 4, 3), (55, .iconst 0, 1), (56, .istore 4, 2), (58, .iload 4, 2), (60, .ifCond .eq 42, 3), (63, .aload_n 0, 1), (64, .getfield 28, 3), (67, .iload_n 1, 1), (68, .iaload, 1), (69, .iconst 2, 1), (70, .if_icmp .lt 28, 3), (73, .aload_n 0, 1), (74, .iload_n 2, 1), (75, .aload_n 0, 1), (76, .getfield 31, 3), (79, .iload_n 1, 1), (80, .iaload, 1), (81, .invokevirtual 252, 3), (84, .aload_n 0, 1), (85, .iload_n 3, 1), (86, .aload_n 0, 1), (87, .getfield 34, 3), (90, .iload_n 1, 1), (91, .iaload, 1), (92, .invokevirtual 252, 3), (95, .if_icmp .ne 7, 3), (98, .iconst 1, 1), (99, .goto 4, 3), (102, .iconst 0, 1), (103, .ireturn, 1)]
set_option maxRecDepth 20000 in
theorem D_Mod_isAnswer : (T_Mod_isAnswer.all fun q => decide (decode M_Mod_isAnswer.2.1 q.1 = .ok q.2)) = true := by decide +kernel
def Mod_isAnswer_L56 (v0 : Nat) (v1 : Int) (v2 : Int) (v3 : Int) (s0 : Int) (h : AH) : Option (Int × AH) := if (s0 : Int) = 0 then (some (0, h)) else (gR h 13 v0 11 fun r1 => aI h 21 r1 v1 fun x2 => if (x2 : Int) < 2 then (some (1, h)) else (gR h 13 v0 12 fun r3 => aI h 21 r3 v1 fun x4 => rc h 13 v0 <| bnd (Mod_numberAt v0 v2 x4 h) fun x6 h5 => gR h5 13 v0 13 fun r8 => aI h5 21 r8 v1 fun x9 => rc h5 13 v0 <| bnd (Mod_numberAt v0 v3 x9 h5) fun x11 h10 => if ¬ (x6 : Int) = x11 then (some (0, h10)) else (some (1, h10))))
set_option maxHeartbeats 4000000 in
set_option maxRecDepth 20000 in
theorem s_Mod_isAnswer_L56 (v0 : Nat) (v1 : Int) (v2 : Int) (v3 : Int) (s0 : Int) (h : AH) : Sd M_Mod_isAnswer 3 51 emI 56 [(0, vr v0), (1, vi v1), (2, vi v2), (3, vi v3)] [vi s0] h (Mod_isAnswer_L56 v0 v1 v2 v3 s0 h) := by
  unfold Mod_isAnswer_L56
  refine Sd_istore (pc' := 58) (l' := [(4, _), (0, _), (1, _), (2, _), (3, _)]) (dc D_Mod_isAnswer 32 rfl) rfl (by decide) rfl ?_
  refine Sd_iload (pc' := 60) (dc D_Mod_isAnswer 33 rfl) rfl 0 rfl ?_
  refine Sd_if_eq (tgt := 102) (pc' := 63) (dc D_Mod_isAnswer 34 rfl) (by decide) rfl (fun _ => ?_) (fun _ => ?_)
  · refine Sd_iconst (pc' := 103) (dc D_Mod_isAnswer 58 rfl) rfl ⟨by decide, by decide⟩ ?_
    exact Sd_zret (dc D_Mod_isAnswer 59 rfl) rfl (Or.inl rfl)
  · refine Sd_aload_n (pc' := 64) (dc D_Mod_isAnswer 35 rfl) rfl 1 rfl rfl ?_
    refine Sd_getR (pc' := 67) (dc D_Mod_isAnswer 36 rfl) rfl F_Mod_28 rfl rfl ?_
    refine Sd_iload_n (pc' := 68) (dc D_Mod_isAnswer 37 rfl) rfl 2 rfl rfl ?_
    refine Sd_iaload (pc' := 69) (dc D_Mod_isAnswer 38 rfl) rfl ?_
    refine Sd_iconst (pc' := 70) (dc D_Mod_isAnswer 39 rfl) rfl ⟨by decide, by decide⟩ ?_
    refine Sd_icmp_lt (tgt := 98) (pc' := 73) (dc D_Mod_isAnswer 40 rfl) (by decide) rfl (fun _ => ?_) (fun _ => ?_)
    · refine Sd_iconst (pc' := 99) (dc D_Mod_isAnswer 56 rfl) rfl ⟨by decide, by decide⟩ ?_
      refine Sd_goto (tgt := 103) (dc D_Mod_isAnswer 57 rfl) (by decide) ?_
      exact Sd_zret (dc D_Mod_isAnswer 59 rfl) rfl (Or.inr rfl)
    · refine Sd_aload_n (pc' := 74) (dc D_Mod_isAnswer 41 rfl) rfl 1 rfl rfl ?_
      refine Sd_iload_n (pc' := 75) (dc D_Mod_isAnswer 42 rfl) rfl 3 rfl rfl ?_
      refine Sd_aload_n (pc' := 76) (dc D_Mod_isAnswer 43 rfl) rfl 1 rfl rfl ?_
      refine Sd_getR (pc' := 79) (dc D_Mod_isAnswer 44 rfl) rfl F_Mod_31 rfl rfl ?_
      refine Sd_iload_n (pc' := 80) (dc D_Mod_isAnswer 45 rfl) rfl 2 rfl rfl ?_
      refine Sd_iaload (pc' := 81) (dc D_Mod_isAnswer 46 rfl) rfl ?_
      refine Sd.callVI (ci := 12) (t := 13) (as := [_, _]) RX12 (pc' := 84) (dc D_Mod_isAnswer 47 rfl) rfl rfl rfl rfl K_Mod_numberAt L_Mod_252 Ks_Mod_numberAt Kv_Mod_numberAt ⟨by decide, by decide⟩ rfl rfl (Nat.le_of_ble_eq_true rfl) (s_Mod_numberAt _ _ _ _) (fun x6 h5 => ?_)
      refine Sd_aload_n (pc' := 85) (dc D_Mod_isAnswer 48 rfl) rfl 1 rfl rfl ?_
      refine Sd_iload_n (pc' := 86) (dc D_Mod_isAnswer 49 rfl) rfl 4 rfl rfl ?_
      refine Sd_aload_n (pc' := 87) (dc D_Mod_isAnswer 50 rfl) rfl 1 rfl rfl ?_
      refine Sd_getR (pc' := 90) (dc D_Mod_isAnswer 51 rfl) rfl F_Mod_34 rfl rfl ?_
      refine Sd_iload_n (pc' := 91) (dc D_Mod_isAnswer 52 rfl) rfl 2 rfl rfl ?_
      refine Sd_iaload (pc' := 92) (dc D_Mod_isAnswer 53 rfl) rfl ?_
      refine Sd.callVI (ci := 12) (t := 13) (as := [_, _]) RX12 (pc' := 95) (dc D_Mod_isAnswer 54 rfl) rfl rfl rfl rfl K_Mod_numberAt L_Mod_252 Ks_Mod_numberAt Kv_Mod_numberAt ⟨by decide, by decide⟩ rfl rfl (Nat.le_of_ble_eq_true rfl) (s_Mod_numberAt _ _ _ _) (fun x11 h10 => ?_)
      refine Sd_icmp_ne (tgt := 102) (pc' := 98) (dc D_Mod_isAnswer 55 rfl) (by decide) rfl (fun _ => ?_) (fun _ => ?_)
      · refine Sd_iconst (pc' := 103) (dc D_Mod_isAnswer 58 rfl) rfl ⟨by decide, by decide⟩ ?_
        exact Sd_zret (dc D_Mod_isAnswer 59 rfl) rfl (Or.inl rfl)
      · refine Sd_iconst (pc' := 99) (dc D_Mod_isAnswer 56 rfl) rfl ⟨by decide, by decide⟩ ?_
        refine Sd_goto (tgt := 103) (dc D_Mod_isAnswer 57 rfl) (by decide) ?_
        exact Sd_zret (dc D_Mod_isAnswer 59 rfl) rfl (Or.inr rfl)
def Mod_isAnswer_L25 (v0 : Nat) (v1 : Int) (v2 : Int) (v3 : Int) (s0 : Int) (h : AH) : Option (Int × AH) := if (s0 : Int) = 0 then (Mod_isAnswer_L56 v0 v1 v2 v3 0 h) else (gR h 13 v0 11 fun r1 => aI h 21 r1 v1 fun x2 => if (x2 : Int) = 0 then (Mod_isAnswer_L56 v0 v1 v2 v3 1 h) else (rc h 13 v0 <| bnd (Mod_isIn v0 v1 1 v3 h) fun x4 h3 => if (x4 : Int) = 0 then (Mod_isAnswer_L56 v0 v1 v2 v3 0 h3) else (Mod_isAnswer_L56 v0 v1 v2 v3 1 h3)))
set_option maxHeartbeats 4000000 in
set_option maxRecDepth 20000 in
theorem s_Mod_isAnswer_L25 (v0 : Nat) (v1 : Int) (v2 : Int) (v3 : Int) (s0 : Int) (h : AH) : Sd M_Mod_isAnswer 3 51 emI 25 [(0, vr v0), (1, vi v1), (2, vi v2), (3, vi v3)] [vi s0] h (Mod_isAnswer_L25 v0 v1 v2 v3 s0 h) := by
  unfold Mod_isAnswer_L25
  refine Sd_istore (pc' := 27) (l' := [(4, _), (0, _), (1, _), (2, _), (3, _)]) (dc D_Mod_isAnswer 15 rfl) rfl (by decide) rfl ?_
  refine Sd_iload (pc' := 29) (dc D_Mod_isAnswer 16 rfl) rfl 0 rfl ?_
  refine Sd_if_eq (tgt := 55) (pc' := 32) (dc D_Mod_isAnswer 17 rfl) (by decide) rfl (fun _ => ?_) (fun _ => ?_)
  · refine Sd_iconst (pc' := 56) (dc D_Mod_isAnswer 31 rfl) rfl ⟨by decide, by decide⟩ ?_
    refine Sd.sub (l' := [(0, _), (1, _), (2, _), (3, _)]) [1, 2, 3, 4] rfl ?_
    exact s_Mod_isAnswer_L56 _ _ _ _ _ _
  · refine Sd_aload_n (pc' := 33) (dc D_Mod_isAnswer 18 rfl) rfl 1 rfl rfl ?_
    refine Sd_getR (pc' := 36) (dc D_Mod_isAnswer 19 rfl) rfl F_Mod_28 rfl rfl ?_
    refine Sd_iload_n (pc' := 37) (dc D_Mod_isAnswer 20 rfl) rfl 2 rfl rfl ?_
    refine Sd_iaload (pc' := 38) (dc D_Mod_isAnswer 21 rfl) rfl ?_
    refine Sd_if_eq (tgt := 51) (pc' := 41) (dc D_Mod_isAnswer 22 rfl) (by decide) rfl (fun _ => ?_) (fun _ => ?_)
    · refine Sd_iconst (pc' := 52) (dc D_Mod_isAnswer 29 rfl) rfl ⟨by decide, by decide⟩ ?_
      refine Sd_goto (tgt := 56) (dc D_Mod_isAnswer 30 rfl) (by decide) ?_
      refine Sd.sub (l' := [(0, _), (1, _), (2, _), (3, _)]) [1, 2, 3, 4] rfl ?_
      exact s_Mod_isAnswer_L56 _ _ _ _ _ _
    · refine Sd_aload_n (pc' := 42) (dc D_Mod_isAnswer 23 rfl) rfl 1 rfl rfl ?_
      refine Sd_iload_n (pc' := 43) (dc D_Mod_isAnswer 24 rfl) rfl 2 rfl rfl ?_
      refine Sd_iconst (pc' := 44) (dc D_Mod_isAnswer 25 rfl) rfl ⟨by decide, by decide⟩ ?_
      refine Sd_iload_n (pc' := 45) (dc D_Mod_isAnswer 26 rfl) rfl 4 rfl rfl ?_
      refine Sd.callVI (ci := 12) (t := 13) (as := [_, _, _]) RX12 (pc' := 48) (dc D_Mod_isAnswer 27 rfl) rfl rfl rfl rfl K_Mod_isIn L_Mod_276 Ks_Mod_isIn Kv_Mod_isIn ⟨by decide, by decide⟩ rfl rfl (Nat.le_of_ble_eq_true rfl) (s_Mod_isIn _ _ _ _ _) (fun x4 h3 => ?_)
      refine Sd_if_eq (tgt := 55) (pc' := 51) (dc D_Mod_isAnswer 28 rfl) (by decide) rfl (fun _ => ?_) (fun _ => ?_)
      · refine Sd_iconst (pc' := 56) (dc D_Mod_isAnswer 31 rfl) rfl ⟨by decide, by decide⟩ ?_
        refine Sd.sub (l' := [(0, _), (1, _), (2, _), (3, _)]) [1, 2, 3, 4] rfl ?_
        exact s_Mod_isAnswer_L56 _ _ _ _ _ _
      · refine Sd_iconst (pc' := 52) (dc D_Mod_isAnswer 29 rfl) rfl ⟨by decide, by decide⟩ ?_
        refine Sd_goto (tgt := 56) (dc D_Mod_isAnswer 30 rfl) (by decide) ?_
        refine Sd.sub (l' := [(0, _), (1, _), (2, _), (3, _)]) [1, 2, 3, 4] rfl ?_
        exact s_Mod_isAnswer_L56 _ _ _ _ _ _
def Mod_isAnswer (v0 : Nat) (v1 : Int) (v2 : Int) (v3 : Int) (h : AH) : Option (Int × AH) := gR h 13 v0 11 fun r1 => aI h 21 r1 v1 fun x2 => if (x2 : Int) = 1 then (Mod_isAnswer_L25 v0 v1 v2 v3 1 h) else (rc h 13 v0 <| bnd (Mod_isIn v0 v1 0 v2 h) fun x4 h3 => if (x4 : Int) = 0 then (Mod_isAnswer_L25 v0 v1 v2 v3 0 h3) else (Mod_isAnswer_L25 v0 v1 v2 v3 1 h3))
set_option maxHeartbeats 4000000 in
set_option maxRecDepth 20000 in
theorem s_Mod_isAnswer (v0 : Nat) (v1 : Int) (v2 : Int) (v3 : Int) (h : AH) : CS M_Mod_isAnswer 3 51 emI [vr v0, vi v1, vi v2, vi v3] h (Mod_isAnswer v0 v1 v2 v3 h) := by
  refine CS.of (by decide) (Nat.le_of_ble_eq_true rfl) ?_
  show Sd M_Mod_isAnswer 3 51 emI 0 [(0, vr v0), (1, vi v1), (2, vi v2), (3, vi v3)] [] h _
  unfold Mod_isAnswer
  refine Sd_aload_n (pc' := 1) (dc D_Mod_isAnswer 0 rfl) rfl 0 rfl rfl ?_
  refine Sd_getR (pc' := 4) (dc D_Mod_isAnswer 1 rfl) rfl F_Mod_28 rfl rfl ?_
  refine Sd_iload_n (pc' := 5) (dc D_Mod_isAnswer 2 rfl) rfl 1 rfl rfl ?_
  refine Sd_iaload (pc' := 6) (dc D_Mod_isAnswer 3 rfl) rfl ?_
  refine Sd_iconst (pc' := 7) (dc D_Mod_isAnswer 4 rfl) rfl ⟨by decide, by decide⟩ ?_
  refine Sd_icmp_eq (tgt := 20) (pc' := 10) (dc D_Mod_isAnswer 5 rfl) (by decide) rfl (fun _ => ?_) (fun _ => ?_)
  · refine Sd_iconst (pc' := 21) (dc D_Mod_isAnswer 12 rfl) rfl ⟨by decide, by decide⟩ ?_
    refine Sd_goto (tgt := 25) (dc D_Mod_isAnswer 13 rfl) (by decide) ?_
    exact s_Mod_isAnswer_L25 _ _ _ _ _ _
  · refine Sd_aload_n (pc' := 11) (dc D_Mod_isAnswer 6 rfl) rfl 0 rfl rfl ?_
    refine Sd_iload_n (pc' := 12) (dc D_Mod_isAnswer 7 rfl) rfl 1 rfl rfl ?_
    refine Sd_iconst (pc' := 13) (dc D_Mod_isAnswer 8 rfl) rfl ⟨by decide, by decide⟩ ?_
    refine Sd_iload_n (pc' := 14) (dc D_Mod_isAnswer 9 rfl) rfl 2 rfl rfl ?_
    refine Sd.callVI (ci := 12) (t := 13) (as := [_, _, _]) RX12 (pc' := 17) (dc D_Mod_isAnswer 10 rfl) rfl rfl rfl rfl K_Mod_isIn L_Mod_276 Ks_Mod_isIn Kv_Mod_isIn ⟨by decide, by decide⟩ rfl rfl (Nat.le_of_ble_eq_true rfl) (s_Mod_isIn _ _ _ _ _) (fun x4 h3 => ?_)
    refine Sd_if_eq (tgt := 24) (pc' := 20) (dc D_Mod_isAnswer 11 rfl) (by decide) rfl (fun _ => ?_) (fun _ => ?_)
    · refine Sd_iconst (pc' := 25) (dc D_Mod_isAnswer 14 rfl) rfl ⟨by decide, by decide⟩ ?_
      exact s_Mod_isAnswer_L25 _ _ _ _ _ _
    · refine Sd_iconst (pc' := 21) (dc D_Mod_isAnswer 12 rfl) rfl ⟨by decide, by decide⟩ ?_
      refine Sd_goto (tgt := 25) (dc D_Mod_isAnswer 13 rfl) (by decide) ?_
      exact s_Mod_isAnswer_L25 _ _ _ _ _ _
theorem K_Mod_isAnswer : MOk M_Mod_isAnswer 3 := ⟨Tb_at 133 (by decide +kernel) rfl, Tb_at 1555 (by decide +kernel) rfl, by decide +kernel, by decide +kernel, by decide +kernel⟩
theorem Ks_Mod_isAnswer : Cond.instanceMethod yX12_isAnswer ∈ Tb := Tb_at 1554 (by decide +kernel) rfl
theorem Kv_Mod_isAnswer : Cond.selects RX12 yX12_isAnswer yX12_isAnswer ∈ Tb := Tb_at 67 (by decide +kernel) rfl
