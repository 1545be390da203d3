/-! ===== BatchShare.<init>()V ===== -/
abbrev M_Bat_init : AMt := (yX11_init, cX11_init, 2, none)
def T_Bat_init : List (Nat × Instr × Nat) := [(0, .aload_n 0, 1), (1, .invokespecial 3, 3), (4, .aload_n 0, 1), (5, .sipush 400, 3), (8, .newarray .int, 2), (10, .putfield 9, 3), (13, .aload_n 0, 1), (14, .new 13, 3), (17, .dup, 1), (18, .aload_n 0, 1), (19, .getfield 9, 3), (22, .invokespecial 15, 3), (25, .putfield 18, 3), (28, .aload_n 0, 1), (29, .bipush 8, 2), (31, .anewarray 22, 3), (34, .putfield 24, 3), (37, .aload_n 0, 1), (38, .new 28, 3), (41, .dup, 1), (42, .invokespecial 30, 3), (45, .putfield 31, 3), (48, .aload_n 0, 1), (49, .iconst 4, 1), (50, .anewarray 28, 3), (53, .putfield 35, 3), (56, .aload_n 0, 1), (57, .new 39, 3), (60, .dup, 1), (61, .invokespecial 41, 3), (64, .putfield 42, 3), (67, .aload_n 0, 1), (68, .new 46, 3), (71, .dup, 1), (72, .aload_n 0, 1), (73, .getfield 24, 3), (76, .invokespecial 48, 3), (79, .putfield 51, 3), (82, .aload_n 0, 1), (83, .new 55, 3), (86, .dup, 1), (87, .invokespecial 57, 3), (90, .putfield 58, 3), (93, .aload_n 0, 1), (94, .new 62, 3), (97, .dup, 1), (98, .aload_n 0, 1), (99, .getfield 51, 3), (102, .aload_n 0, 1), (103, .getfield 58, 3), (106, .invokespecial 64, 3), (109, .putfield 67, 3), (112, .aload_n 0, 1), (113, .new 71, 3), (116, .dup, 1), (117, .iconst 0, 1), (118, .invokespecial 73, 3), (121, .putfield 76, 3), (124, .iconst 0, 1), (125, .istore_n 1, 1), (126, .iload_n 1, 1), (127, .aload_n 0, 1), (128, .getfield 24, 3), (131, .arraylength, 1), (132, .if_icmp .ge 22, 3), (135, .aload_n 0, 1), (136, .getfield 24, 3), (139, .iload_n 1, 1), (140, .new 22, 3), (143, .dup, 1), (144, .invokespecial 80, 3), (147, .aastore, 1), (148, .iinc 1 1, 3), (151, .goto (-25), 3), (154, .return_, 1)]
set_option maxRecDepth 20000 in
theorem D_Bat_init : (T_Bat_init.all fun q => decide (decode M_Bat_init.2.1 q.1 = .ok q.2)) = true := by decide +kernel
def Bat_init_L126 : Nat → Nat → Int → AH → Option (Unit × AH)
  | 0, _, _, _ => none
  | n + 1, v0, v1, h => gR h 12 v0 3 fun r1 => aN h 31 r1 fun x2 => if (x2 : Int) ≤ v1 then (some ((), h)) else (gR h 12 v0 3 fun r3 => nO h 6 3 fun r4 h5 => bnd (Que_init r4 h5) fun _ h6 => wR h6 31 r3 v1 6 r4 fun h9 => Bat_init_L126 n v0 ((wr (v1 + 1))) h9)
set_option maxHeartbeats 4000000 in
set_option maxRecDepth 20000 in
theorem s_Bat_init_L126 : ∀ (n : Nat) (v0 : Nat) (v1 : Int) (h : AH), Sd M_Bat_init 6 122 emV 126 [(0, vr v0), (1, vi v1)] [] h (Bat_init_L126 n v0 v1 h)
  | 0, _, _, _ => Sd.none
  | n + 1, v0, v1, h => by
    rw [Bat_init_L126]
    refine Sd_iload_n (pc' := 127) (dc D_Bat_init 60 rfl) rfl 1 rfl rfl ?_
    refine Sd_aload_n (pc' := 128) (dc D_Bat_init 61 rfl) rfl 0 rfl rfl ?_
    refine Sd_getR (pc' := 131) (dc D_Bat_init 62 rfl) rfl F_Bat_24 rfl rfl ?_
    refine Sd_alen (t := 31) (j := 3) (pc' := 132) (dc D_Bat_init 63 rfl) rfl rfl (by decide) (by decide) ?_
    refine Sd_icmp_ge (tgt := 154) (pc' := 135) (dc D_Bat_init 64 rfl) (by decide) rfl (fun _ => ?_) (fun _ => ?_)
    · exact Sd_vret (dc D_Bat_init 74 rfl) rfl
    · refine Sd_aload_n (pc' := 136) (dc D_Bat_init 65 rfl) rfl 0 rfl rfl ?_
      refine Sd_getR (pc' := 139) (dc D_Bat_init 66 rfl) rfl F_Bat_24 rfl rfl ?_
      refine Sd_iload_n (pc' := 140) (dc D_Bat_init 67 rfl) rfl 1 rfl rfl ?_
      refine Sd_new (ci := 5) (t := 6) (sl := 3) RX5 (pc' := 143) (dc D_Bat_init 68 rfl) rfl rfl rfl C_Bat_22 Ni_Que Nz_Que ?_
      refine Sd_dup (pc' := 144) (dc D_Bat_init 69 rfl) rfl (cat_r _) ?_
      refine Sd.callIV (as := []) (pc' := 147) (dc D_Bat_init 70 rfl) rfl (Nat.le_add_right 16 _) K_Que_init L_Bat_80 Ks_Que_init rfl rfl ⟨by decide, by decide⟩ rfl rfl (Nat.le_of_ble_eq_true rfl) (s_Que_init _ _) (fun _ h6 => ?_)
      refine Sd_aastore (t := 31) (j := 3) (ci := 5) (tv := 6) (C0 := RX5) (pc' := 148) (dc D_Bat_init 71 rfl) rfl (by decide) rfl rfl rfl (by decide) ?_
      refine Sd_iinc (pc' := 151) (l' := [(1, _), (0, _)]) (dc D_Bat_init 72 rfl) rfl 1 rfl (by decide) rfl ?_
      refine Sd_goto (tgt := 126) (dc D_Bat_init 73 rfl) (by decide) ?_
      refine Sd.sub (l' := [(0, _), (1, _)]) [1, 0] rfl ?_
      exact s_Bat_init_L126 n _ _ _
def Bat_init (v0 : Nat) (h : AH) : Option (Unit × AH) := oi v0 <| nA h 21 400 fun r1 h2 => pR h2 12 v0 0 r1 fun h3 => nO h3 7 5 fun r4 h5 => gR h5 12 v0 0 fun r6 => bnd (Rea_init r4 r6 h5) fun _ h7 => pR h7 12 v0 2 r4 fun h10 => nA h10 31 8 fun r11 h12 => pR h12 12 v0 3 r11 fun h13 => nO h13 11 5 fun r14 h15 => bnd (Wor_init r14 h15) fun _ h16 => pR h16 12 v0 5 r14 fun h19 => nA h19 32 4 fun r20 h21 => pR h21 12 v0 6 r20 fun h22 => nO h22 9 7 fun r23 h24 => bnd (Sta_init r23 h24) fun _ h25 => pR h25 12 v0 7 r23 fun h28 => nO h28 5 6 fun r29 h30 => gR h30 12 v0 3 fun r31 => bnd (Pri_init r29 r31 h30) fun _ h32 => pR h32 12 v0 8 r29 fun h35 => nO h35 1 5 fun r36 h37 => bnd (Cho_init r36 h37) fun _ h38 => pR h38 12 v0 9 r36 fun h41 => nO h41 2 7 fun r42 h43 => gR h43 12 v0 8 fun r44 => gR h43 12 v0 9 fun r45 => bnd (Chr_init r42 r44 r45 h43) fun _ h46 => pR h46 12 v0 10 r42 fun h49 => nO h49 8 2 fun r50 h51 => bnd (She_init r50 0 h51) fun _ h52 => pR h52 12 v0 11 r50 fun h55 => Bat_init_L126 FU v0 0 h55
set_option maxHeartbeats 4000000 in
set_option maxRecDepth 20000 in
theorem s_Bat_init (v0 : Nat) (h : AH) : CS M_Bat_init 6 122 emV [vr v0] h (Bat_init v0 h) := by
  refine CS.of (by decide) (Nat.le_of_ble_eq_true rfl) ?_
  show Sd M_Bat_init 6 122 emV 0 [(0, vr v0)] [] h _
  unfold Bat_init
  refine Sd_aload_n (pc' := 1) (dc D_Bat_init 0 rfl) rfl 0 rfl rfl ?_
  refine Sd_oi (pc' := 4) (dc D_Bat_init 1 rfl) rfl L_Bat_3 W_obj2 W_obj3 (by decide) (Nat.le_of_ble_eq_true rfl) ?_
  refine Sd_aload_n (pc' := 5) (dc D_Bat_init 2 rfl) rfl 0 rfl rfl ?_
  refine Sd_sipush (pc' := 8) (dc D_Bat_init 3 rfl) rfl ⟨by decide, by decide⟩ (by decide) ?_
  refine Sd_newarray (t := 21) (j := 0) (ty := .int) (pc' := 10) (dc D_Bat_init 4 rfl) rfl rfl (by decide) rfl W_aI (by decide) rfl (fun _ _ h => h) ?_
  refine Sd_putR (pc' := 13) (dc D_Bat_init 5 rfl) rfl F_Bat_9 rfl rfl rfl (finOk.yes rfl rfl) (by decide) ?_
  refine Sd_aload_n (pc' := 14) (dc D_Bat_init 6 rfl) rfl 0 rfl rfl ?_
  refine Sd_new (ci := 6) (t := 7) (sl := 5) RX6 (pc' := 17) (dc D_Bat_init 7 rfl) rfl rfl rfl C_Bat_13 Ni_Rea Nz_Rea ?_
  refine Sd_dup (pc' := 18) (dc D_Bat_init 8 rfl) rfl (cat_r _) ?_
  refine Sd_aload_n (pc' := 19) (dc D_Bat_init 9 rfl) rfl 0 rfl rfl ?_
  refine Sd_getR (pc' := 22) (dc D_Bat_init 10 rfl) rfl F_Bat_9 rfl rfl ?_
  refine Sd.callIV (as := [_]) (pc' := 25) (dc D_Bat_init 11 rfl) rfl (Nat.le_add_right 16 _) K_Rea_init L_Bat_15 Ks_Rea_init rfl rfl ⟨by decide, by decide⟩ rfl rfl (Nat.le_of_ble_eq_true rfl) (s_Rea_init _ _ _) (fun _ h7 => ?_)
  refine Sd_putR (pc' := 28) (dc D_Bat_init 12 rfl) rfl F_Bat_18 rfl rfl rfl (finOk.yes rfl rfl) (by decide) ?_
  refine Sd_aload_n (pc' := 29) (dc D_Bat_init 13 rfl) rfl 0 rfl rfl ?_
  refine Sd_bipush (pc' := 31) (dc D_Bat_init 14 rfl) rfl ⟨by decide, by decide⟩ (by decide) ?_
  refine Sd_anewarray (t := 31) (j := 3) (C0 := RX5) (pc' := 34) (dc D_Bat_init 15 rfl) rfl (by decide) rfl C_Bat_22 (List.mem_of_getElem? (i := 0) rfl) ?_
  refine Sd_putR (pc' := 37) (dc D_Bat_init 16 rfl) rfl F_Bat_24 rfl rfl rfl (finOk.yes rfl rfl) (by decide) ?_
  refine Sd_aload_n (pc' := 38) (dc D_Bat_init 17 rfl) rfl 0 rfl rfl ?_
  refine Sd_new (ci := 10) (t := 11) (sl := 5) RX10 (pc' := 41) (dc D_Bat_init 18 rfl) rfl rfl rfl C_Bat_28 Ni_Wor Nz_Wor ?_
  refine Sd_dup (pc' := 42) (dc D_Bat_init 19 rfl) rfl (cat_r _) ?_
  refine Sd.callNV (as := []) (pc' := 45) (dc D_Bat_init 20 rfl) rfl (Nat.le_add_right 16 _) K_Wor_init (List.mem_of_getElem? (i := 0) rfl) Ks_Wor_init rfl rfl ⟨by decide, by decide⟩ rfl rfl (Nat.le_of_ble_eq_true rfl) (s_Wor_init _ _) (fun _ h16 => ?_)
  refine Sd_putR (pc' := 48) (dc D_Bat_init 21 rfl) rfl F_Bat_31 rfl rfl rfl (finOk.yes rfl rfl) (by decide) ?_
  refine Sd_aload_n (pc' := 49) (dc D_Bat_init 22 rfl) rfl 0 rfl rfl ?_
  refine Sd_iconst (pc' := 50) (dc D_Bat_init 23 rfl) rfl ⟨by decide, by decide⟩ ?_
  refine Sd_anewarray (t := 32) (j := 4) (C0 := RX10) (pc' := 53) (dc D_Bat_init 24 rfl) rfl (by decide) rfl C_Bat_28 (List.mem_of_getElem? (i := 1) rfl) ?_
  refine Sd_putR (pc' := 56) (dc D_Bat_init 25 rfl) rfl F_Bat_35 rfl rfl rfl (finOk.yes rfl rfl) (by decide) ?_
  refine Sd_aload_n (pc' := 57) (dc D_Bat_init 26 rfl) rfl 0 rfl rfl ?_
  refine Sd_new (ci := 8) (t := 9) (sl := 7) RX8 (pc' := 60) (dc D_Bat_init 27 rfl) rfl rfl rfl C_Bat_39 Ni_Sta Nz_Sta ?_
  refine Sd_dup (pc' := 61) (dc D_Bat_init 28 rfl) rfl (cat_r _) ?_
  refine Sd.callIV (as := []) (pc' := 64) (dc D_Bat_init 29 rfl) rfl (Nat.le_add_right 16 _) K_Sta_init L_Bat_41 Ks_Sta_init rfl rfl ⟨by decide, by decide⟩ rfl rfl (Nat.le_of_ble_eq_true rfl) (s_Sta_init _ _) (fun _ h25 => ?_)
  refine Sd_putR (pc' := 67) (dc D_Bat_init 30 rfl) rfl F_Bat_42 rfl rfl rfl (finOk.yes rfl rfl) (by decide) ?_
  refine Sd_aload_n (pc' := 68) (dc D_Bat_init 31 rfl) rfl 0 rfl rfl ?_
  refine Sd_new (ci := 4) (t := 5) (sl := 6) RX4 (pc' := 71) (dc D_Bat_init 32 rfl) rfl rfl rfl C_Bat_46 Ni_Pri Nz_Pri ?_
  refine Sd_dup (pc' := 72) (dc D_Bat_init 33 rfl) rfl (cat_r _) ?_
  refine Sd_aload_n (pc' := 73) (dc D_Bat_init 34 rfl) rfl 0 rfl rfl ?_
  refine Sd_getR (pc' := 76) (dc D_Bat_init 35 rfl) rfl F_Bat_24 rfl rfl ?_
  refine Sd.callIV (as := [_]) (pc' := 79) (dc D_Bat_init 36 rfl) rfl (Nat.le_add_right 16 _) K_Pri_init L_Bat_48 Ks_Pri_init rfl rfl ⟨by decide, by decide⟩ rfl rfl (Nat.le_of_ble_eq_true rfl) (s_Pri_init _ _ _) (fun _ h32 => ?_)
  refine Sd_putR (pc' := 82) (dc D_Bat_init 37 rfl) rfl F_Bat_51 rfl rfl rfl (finOk.yes rfl rfl) (by decide) ?_
  refine Sd_aload_n (pc' := 83) (dc D_Bat_init 38 rfl) rfl 0 rfl rfl ?_
  refine Sd_new (ci := 0) (t := 1) (sl := 5) RX0 (pc' := 86) (dc D_Bat_init 39 rfl) rfl rfl rfl C_Bat_55 Ni_Cho Nz_Cho ?_
  refine Sd_dup (pc' := 87) (dc D_Bat_init 40 rfl) rfl (cat_r _) ?_
  refine Sd.callIV (as := []) (pc' := 90) (dc D_Bat_init 41 rfl) rfl (Nat.le_add_right 16 _) K_Cho_init L_Bat_57 Ks_Cho_init rfl rfl ⟨by decide, by decide⟩ rfl rfl (Nat.le_of_ble_eq_true rfl) (s_Cho_init _ _) (fun _ h38 => ?_)
  refine Sd_putR (pc' := 93) (dc D_Bat_init 42 rfl) rfl F_Bat_58 rfl rfl rfl (finOk.yes rfl rfl) (by decide) ?_
  refine Sd_aload_n (pc' := 94) (dc D_Bat_init 43 rfl) rfl 0 rfl rfl ?_
  refine Sd_new (ci := 1) (t := 2) (sl := 7) RX1 (pc' := 97) (dc D_Bat_init 44 rfl) rfl rfl rfl C_Bat_62 Ni_Chr Nz_Chr ?_
  refine Sd_dup (pc' := 98) (dc D_Bat_init 45 rfl) rfl (cat_r _) ?_
  refine Sd_aload_n (pc' := 99) (dc D_Bat_init 46 rfl) rfl 0 rfl rfl ?_
  refine Sd_getR (pc' := 102) (dc D_Bat_init 47 rfl) rfl F_Bat_51 rfl rfl ?_
  refine Sd_aload_n (pc' := 103) (dc D_Bat_init 48 rfl) rfl 0 rfl rfl ?_
  refine Sd_getR (pc' := 106) (dc D_Bat_init 49 rfl) rfl F_Bat_58 rfl rfl ?_
  refine Sd.callIV (as := [_, _]) (pc' := 109) (dc D_Bat_init 50 rfl) rfl (Nat.le_add_right 16 _) K_Chr_init L_Bat_64 Ks_Chr_init rfl rfl ⟨by decide, by decide⟩ rfl rfl (Nat.le_of_ble_eq_true rfl) (s_Chr_init _ _ _ _) (fun _ h46 => ?_)
  refine Sd_putR (pc' := 112) (dc D_Bat_init 51 rfl) rfl F_Bat_67 rfl rfl rfl (finOk.yes rfl rfl) (by decide) ?_
  refine Sd_aload_n (pc' := 113) (dc D_Bat_init 52 rfl) rfl 0 rfl rfl ?_
  refine Sd_new (ci := 7) (t := 8) (sl := 2) RX7 (pc' := 116) (dc D_Bat_init 53 rfl) rfl rfl rfl C_Bat_71 Ni_She Nz_She ?_
  refine Sd_dup (pc' := 117) (dc D_Bat_init 54 rfl) rfl (cat_r _) ?_
  refine Sd_iconst (pc' := 118) (dc D_Bat_init 55 rfl) rfl ⟨by decide, by decide⟩ ?_
  refine Sd.callIV (as := [_]) (pc' := 121) (dc D_Bat_init 56 rfl) rfl (Nat.le_add_right 16 _) K_She_init L_Bat_73 Ks_She_init rfl rfl ⟨by decide, by decide⟩ rfl rfl (Nat.le_of_ble_eq_true rfl) (s_She_init _ _ _) (fun _ h52 => ?_)
  refine Sd_putR (pc' := 124) (dc D_Bat_init 57 rfl) rfl F_Bat_76 rfl rfl rfl (finOk.yes rfl rfl) (by decide) ?_
  refine Sd_iconst (pc' := 125) (dc D_Bat_init 58 rfl) rfl ⟨by decide, by decide⟩ ?_
  refine Sd_istore_n (pc' := 126) (l' := [(1, _), (0, _)]) (dc D_Bat_init 59 rfl) rfl rfl (by decide) rfl ?_
  refine Sd.sub (l' := [(0, _), (1, _)]) [1, 0] rfl ?_
  exact s_Bat_init_L126 FU _ _ _
theorem K_Bat_init : MOk M_Bat_init 0 := ⟨Tb_at 121 (by decide +kernel) rfl, Tb_at 146 (by decide +kernel) rfl, by decide +kernel, by decide +kernel, by decide +kernel⟩
theorem Ks_Bat_init : Cond.instanceMethod yX11_init ∈ Tb := Tb_at 145 (by decide +kernel) rfl
/-! ===== BatchShare.addBytes(I)V ===== -/
abbrev M_Bat_addBytes : AMt := (yX11_addBytes, cX11_addBytes, 3, none)
def T_Bat_addBytes : List (Nat × Instr × Nat) := [(0, .bipush 24, 2), (2, .istore_n 2, 1), (3, .iload_n 2, 1), (4, .ifCond .lt 47, 3), (7, .aload_n 0, 1), (8, .getfield 81, 3), (11, .aload_n 0, 1), (12, .getfield 9, 3), (15, .arraylength, 1), (16, .if_icmp .ge 29, 3), (19, .aload_n 0, 1), (20, .getfield 9, 3), (23, .aload_n 0, 1), (24, .getfield 81, 3), (27, .iload_n 1, 1), (28, .iload_n 2, 1), (29, .iushr, 1), (30, .sipush 255, 3), (33, .iand, 1), (34, .iastore, 1), (35, .aload_n 0, 1), (36, .dup, 1), (37, .getfield 81, 3), (40, .iconst 1, 1), (41, .iadd, 1), (42, .putfield 81, 3), (45, .iinc 2 (-8), 3), (48, .goto (-45), 3), (51, .return_, 1)]
set_option maxRecDepth 20000 in
theorem D_Bat_addBytes : (T_Bat_addBytes.all fun q => decide (decode M_Bat_addBytes.2.1 q.1 = .ok q.2)) = true := by decide +kernel
def Bat_addBytes_L3 : Nat → Nat → Int → Int → AH → Option (Unit × AH)
  | 0, _, _, _, _ => none
  | n + 1, v0, v1, v2, h => if (v2 : Int) < 0 then (some ((), h)) else (gI h 12 v0 1 fun x1 => gR h 12 v0 0 fun r2 => aN h 21 r2 fun x3 => if (x3 : Int) ≤ x1 then (Bat_addBytes_L3 n v0 v1 ((wr (v2 + (-8)))) h) else (gR h 12 v0 0 fun r4 => gI h 12 v0 1 fun x5 => wI h 21 r4 x5 (iAnd (iUshr v1 v2) 255) fun h6 => gI h6 12 v0 1 fun x7 => pI h6 12 v0 1 (wr (x7 + 1)) fun h8 => Bat_addBytes_L3 n v0 v1 ((wr (v2 + (-8)))) h8))
set_option maxHeartbeats 4000000 in
set_option maxRecDepth 20000 in
theorem s_Bat_addBytes_L3 : ∀ (n : Nat) (v0 : Nat) (v1 : Int) (v2 : Int) (h : AH), Sd M_Bat_addBytes 1 0 emV 3 [(0, vr v0), (1, vi v1), (2, vi v2)] [] h (Bat_addBytes_L3 n v0 v1 v2 h)
  | 0, _, _, _, _ => Sd.none
  | n + 1, v0, v1, v2, h => by
    rw [Bat_addBytes_L3]
    refine Sd_iload_n (pc' := 4) (dc D_Bat_addBytes 2 rfl) rfl 2 rfl rfl ?_
    refine Sd_if_lt (tgt := 51) (pc' := 7) (dc D_Bat_addBytes 3 rfl) (by decide) rfl (fun _ => ?_) (fun _ => ?_)
    · exact Sd_vret (dc D_Bat_addBytes 28 rfl) rfl
    · refine Sd_aload_n (pc' := 8) (dc D_Bat_addBytes 4 rfl) rfl 0 rfl rfl ?_
      refine Sd_getI (pc' := 11) (dc D_Bat_addBytes 5 rfl) rfl F_Bat_81 rfl rfl ?_
      refine Sd_aload_n (pc' := 12) (dc D_Bat_addBytes 6 rfl) rfl 0 rfl rfl ?_
      refine Sd_getR (pc' := 15) (dc D_Bat_addBytes 7 rfl) rfl F_Bat_9 rfl rfl ?_
      refine Sd_alen (t := 21) (j := 0) (pc' := 16) (dc D_Bat_addBytes 8 rfl) rfl rfl (by decide) (by decide) ?_
      refine Sd_icmp_ge (tgt := 45) (pc' := 19) (dc D_Bat_addBytes 9 rfl) (by decide) rfl (fun _ => ?_) (fun _ => ?_)
      · refine Sd_iinc (pc' := 48) (l' := [(2, _), (0, _), (1, _)]) (dc D_Bat_addBytes 26 rfl) rfl 2 rfl (by decide) rfl ?_
        refine Sd_goto (tgt := 3) (dc D_Bat_addBytes 27 rfl) (by decide) ?_
        refine Sd.sub (l' := [(0, _), (1, _), (2, _)]) [1, 2, 0] rfl ?_
        exact s_Bat_addBytes_L3 n _ _ _ _
      · refine Sd_aload_n (pc' := 20) (dc D_Bat_addBytes 10 rfl) rfl 0 rfl rfl ?_
        refine Sd_getR (pc' := 23) (dc D_Bat_addBytes 11 rfl) rfl F_Bat_9 rfl rfl ?_
        refine Sd_aload_n (pc' := 24) (dc D_Bat_addBytes 12 rfl) rfl 0 rfl rfl ?_
        refine Sd_getI (pc' := 27) (dc D_Bat_addBytes 13 rfl) rfl F_Bat_81 rfl rfl ?_
        refine Sd_iload_n (pc' := 28) (dc D_Bat_addBytes 14 rfl) rfl 1 rfl rfl ?_
        refine Sd_iload_n (pc' := 29) (dc D_Bat_addBytes 15 rfl) rfl 2 rfl rfl ?_
        refine Sd_iushr (pc' := 30) (dc D_Bat_addBytes 16 rfl) rfl ?_
        refine Sd_sipush (pc' := 33) (dc D_Bat_addBytes 17 rfl) rfl ⟨by decide, by decide⟩ (by decide) ?_
        refine Sd_iand (pc' := 34) (dc D_Bat_addBytes 18 rfl) rfl ?_
        refine Sd_iastore (pc' := 35) (dc D_Bat_addBytes 19 rfl) rfl (by decide) ?_
        refine Sd_aload_n (pc' := 36) (dc D_Bat_addBytes 20 rfl) rfl 0 rfl rfl ?_
        refine Sd_dup (pc' := 37) (dc D_Bat_addBytes 21 rfl) rfl (cat_r _) ?_
        refine Sd_getI (pc' := 40) (dc D_Bat_addBytes 22 rfl) rfl F_Bat_81 rfl rfl ?_
        refine Sd_iconst (pc' := 41) (dc D_Bat_addBytes 23 rfl) rfl ⟨by decide, by decide⟩ ?_
        refine Sd_iadd (pc' := 42) (dc D_Bat_addBytes 24 rfl) rfl ?_
        refine Sd_putI (pc' := 45) (dc D_Bat_addBytes 25 rfl) rfl F_Bat_81 rfl rfl rfl (finOk.no rfl) (by decide) ?_
        refine Sd_iinc (pc' := 48) (l' := [(2, _), (0, _), (1, _)]) (dc D_Bat_addBytes 26 rfl) rfl 2 rfl (by decide) rfl ?_
        refine Sd_goto (tgt := 3) (dc D_Bat_addBytes 27 rfl) (by decide) ?_
        refine Sd.sub (l' := [(0, _), (1, _), (2, _)]) [1, 2, 0] rfl ?_
        exact s_Bat_addBytes_L3 n _ _ _ _
def Bat_addBytes (v0 : Nat) (v1 : Int) (h : AH) : Option (Unit × AH) := Bat_addBytes_L3 FU v0 v1 24 h
set_option maxHeartbeats 4000000 in
set_option maxRecDepth 20000 in
theorem s_Bat_addBytes (v0 : Nat) (v1 : Int) (h : AH) : CS M_Bat_addBytes 1 0 emV [vr v0, vi v1] h (Bat_addBytes v0 v1 h) := by
  refine CS.of (by decide) (Nat.le_of_ble_eq_true rfl) ?_
  show Sd M_Bat_addBytes 1 0 emV 0 [(0, vr v0), (1, vi v1)] [] h _
  unfold Bat_addBytes
  refine Sd_bipush (pc' := 2) (dc D_Bat_addBytes 0 rfl) rfl ⟨by decide, by decide⟩ (by decide) ?_
  refine Sd_istore_n (pc' := 3) (l' := [(2, _), (0, _), (1, _)]) (dc D_Bat_addBytes 1 rfl) rfl rfl (by decide) rfl ?_
  refine Sd.sub (l' := [(0, _), (1, _), (2, _)]) [1, 2, 0] rfl ?_
  exact s_Bat_addBytes_L3 FU _ _ _ _
theorem K_Bat_addBytes : MOk M_Bat_addBytes 1 := ⟨Tb_at 121 (by decide +kernel) rfl, Tb_at 496 (by decide +kernel) rfl, by decide +kernel, by decide +kernel, by decide +kernel⟩
theorem Ks_Bat_addBytes : Cond.instanceMethod yX11_addBytes ∈ Tb := Tb_at 495 (by decide +kernel) rfl
theorem Kv_Bat_addBytes : Cond.selects RX11 yX11_addBytes yX11_addBytes ∈ Tb := Tb_at 0 (by decide +kernel) rfl
/-! ===== BatchShare.feed(IIIII)I ===== -/
abbrev M_Bat_feed : AMt := (yX11_feed, cX11_feed, 6, (some .int))
def T_Bat_feed : List (Nat × Instr × Nat) := [(0, .aload_n 0, 1), (1, .getfield 81, 3), (4, .bipush 20, 2), (6, .iadd, 1), (7, .sipush 400, 3), (10, .if_icmp .le 5, 3), (13, .iconst (-1), 1), (14, .ireturn, 1), (15, .aload_n 0, 1), (16, .iload_n 1, 1), (17, .invokevirtual 85, 3), (20, .aload_n 0, 1), (21, .iload_n 2, 1), (22, .invokevirtual 85, 3), (25, .aload_n 0, 1), (26, .iload_n 3, 1), (27, .invokevirtual 85, 3), (30, .aload_n 0, 1), (31, .iload 4, 2), (33, .invokevirtual 85, 3), (36, .aload_n 0, 1), (37, .iload 5, 2), (39, .invokevirtual 85, 3), (42, .aload_n 0, 1), (43, .getfield 81, 3), (46, .ireturn, 1)]
set_option maxRecDepth 20000 in
theorem D_Bat_feed : (T_Bat_feed.all fun q => decide (decode M_Bat_feed.2.1 q.1 = .ok q.2)) = true := by decide +kernel
def Bat_feed (v0 : Nat) (v1 : Int) (v2 : Int) (v3 : Int) (v4 : Int) (v5 : Int) (h : AH) : Option (Int × AH) := gI h 12 v0 1 fun x1 => if ((wr (x1 + 20)) : Int) ≤ 400 then (rc h 12 v0 <| bnd (Bat_addBytes v0 v1 h) fun _ h2 => rc h2 12 v0 <| bnd (Bat_addBytes v0 v2 h2) fun _ h5 => rc h5 12 v0 <| bnd (Bat_addBytes v0 v3 h5) fun _ h8 => rc h8 12 v0 <| bnd (Bat_addBytes v0 v4 h8) fun _ h11 => rc h11 12 v0 <| bnd (Bat_addBytes v0 v5 h11) fun _ h14 => gI h14 12 v0 1 fun x17 => some (x17, h14)) else (some ((-1), h))
set_option maxHeartbeats 4000000 in
set_option maxRecDepth 20000 in
theorem s_Bat_feed (v0 : Nat) (v1 : Int) (v2 : Int) (v3 : Int) (v4 : Int) (v5 : Int) (h : AH) : CS M_Bat_feed 2 22 emI [vr v0, vi v1, vi v2, vi v3, vi v4, vi v5] h (Bat_feed v0 v1 v2 v3 v4 v5 h) := by
  refine CS.of (by decide) (Nat.le_of_ble_eq_true rfl) ?_
  show Sd M_Bat_feed 2 22 emI 0 [(0, vr v0), (1, vi v1), (2, vi v2), (3, vi v3), (4, vi v4), (5, vi v5)] [] h _
  unfold Bat_feed
  refine Sd_aload_n (pc' := 1) (dc D_Bat_feed 0 rfl) rfl 0 rfl rfl ?_
  refine Sd_getI (pc' := 4) (dc D_Bat_feed 1 rfl) rfl F_Bat_81 rfl rfl ?_
  refine Sd_bipush (pc' := 6) (dc D_Bat_feed 2 rfl) rfl ⟨by decide, by decide⟩ (by decide) ?_
  refine Sd_iadd (pc' := 7) (dc D_Bat_feed 3 rfl) rfl ?_
  refine Sd_sipush (pc' := 10) (dc D_Bat_feed 4 rfl) rfl ⟨by decide, by decide⟩ (by decide) ?_
  refine Sd_icmp_le (tgt := 15) (pc' := 13) (dc D_Bat_feed 5 rfl) (by decide) rfl (fun _ => ?_) (fun _ => ?_)
  · refine Sd_aload_n (pc' := 16) (dc D_Bat_feed 8 rfl) rfl 0 rfl rfl ?_
    refine Sd_iload_n (pc' := 17) (dc D_Bat_feed 9 rfl) rfl 1 rfl rfl ?_
    refine Sd.callVV (ci := 11) (t := 12) (as := [_]) RX11 (pc' := 20) (dc D_Bat_feed 10 rfl) rfl rfl rfl rfl K_Bat_addBytes L_Bat_85 Ks_Bat_addBytes Kv_Bat_addBytes ⟨by decide, by decide⟩ rfl rfl (Nat.le_of_ble_eq_true rfl) (s_Bat_addBytes _ _ _) (fun _ h2 => ?_)
    refine Sd_aload_n (pc' := 21) (dc D_Bat_feed 11 rfl) rfl 0 rfl rfl ?_
    refine Sd_iload_n (pc' := 22) (dc D_Bat_feed 12 rfl) rfl 2 rfl rfl ?_
    refine Sd.callVV (ci := 11) (t := 12) (as := [_]) RX11 (pc' := 25) (dc D_Bat_feed 13 rfl) rfl rfl rfl rfl K_Bat_addBytes L_Bat_85 Ks_Bat_addBytes Kv_Bat_addBytes ⟨by decide, by decide⟩ rfl rfl (Nat.le_of_ble_eq_true rfl) (s_Bat_addBytes _ _ _) (fun _ h5 => ?_)
    refine Sd_aload_n (pc' := 26) (dc D_Bat_feed 14 rfl) rfl 0 rfl rfl ?_
    refine Sd_iload_n (pc' := 27) (dc D_Bat_feed 15 rfl) rfl 3 rfl rfl ?_
    refine Sd.callVV (ci := 11) (t := 12) (as := [_]) RX11 (pc' := 30) (dc D_Bat_feed 16 rfl) rfl rfl rfl rfl K_Bat_addBytes L_Bat_85 Ks_Bat_addBytes Kv_Bat_addBytes ⟨by decide, by decide⟩ rfl rfl (Nat.le_of_ble_eq_true rfl) (s_Bat_addBytes _ _ _) (fun _ h8 => ?_)
    refine Sd_aload_n (pc' := 31) (dc D_Bat_feed 17 rfl) rfl 0 rfl rfl ?_
    refine Sd_iload (pc' := 33) (dc D_Bat_feed 18 rfl) rfl 4 rfl ?_
    refine Sd.callVV (ci := 11) (t := 12) (as := [_]) RX11 (pc' := 36) (dc D_Bat_feed 19 rfl) rfl rfl rfl rfl K_Bat_addBytes L_Bat_85 Ks_Bat_addBytes Kv_Bat_addBytes ⟨by decide, by decide⟩ rfl rfl (Nat.le_of_ble_eq_true rfl) (s_Bat_addBytes _ _ _) (fun _ h11 => ?_)
    refine Sd_aload_n (pc' := 37) (dc D_Bat_feed 20 rfl) rfl 0 rfl rfl ?_
    refine Sd_iload (pc' := 39) (dc D_Bat_feed 21 rfl) rfl 5 rfl ?_
    refine Sd.callVV (ci := 11) (t := 12) (as := [_]) RX11 (pc' := 42) (dc D_Bat_feed 22 rfl) rfl rfl rfl rfl K_Bat_addBytes L_Bat_85 Ks_Bat_addBytes Kv_Bat_addBytes ⟨by decide, by decide⟩ rfl rfl (Nat.le_of_ble_eq_true rfl) (s_Bat_addBytes _ _ _) (fun _ h14 => ?_)
    refine Sd_aload_n (pc' := 43) (dc D_Bat_feed 23 rfl) rfl 0 rfl rfl ?_
    refine Sd_getI (pc' := 46) (dc D_Bat_feed 24 rfl) rfl F_Bat_81 rfl rfl ?_
    exact Sd_iret (dc D_Bat_feed 25 rfl) rfl
  · refine Sd_iconst (pc' := 14) (dc D_Bat_feed 6 rfl) rfl ⟨by decide, by decide⟩ ?_
    exact Sd_iret (dc D_Bat_feed 7 rfl) rfl
theorem K_Bat_feed : MOk M_Bat_feed 5 := ⟨Tb_at 121 (by decide +kernel) rfl, Tb_at 492 (by decide +kernel) rfl, by decide +kernel, by decide +kernel, by decide +kernel⟩
theorem Ks_Bat_feed : Cond.instanceMethod yX11_feed ∈ Tb := Tb_at 490 (by decide +kernel) rfl
theorem Kv_Bat_feed : Cond.selects RX11 yX11_feed yX11_feed ∈ Tb := Tb_at 491 (by decide +kernel) rfl
/-! ===== BatchShare.end(I)I ===== -/
abbrev M_Bat_end : AMt := (yX11_end, cX11_end, 2, (some .int))
def T_Bat_end : List (Nat × Instr × Nat) := [(0, .iload_n 1, 1), (1, .ifCond .lt 11, 3), (4, .iload_n 1, 1), (5, .aload_n 0, 1), (6, .getfield 81, 3), (9, .if_icmp .le 5, 3), (12, .iconst (-1), 1), (13, .ireturn, 1), (14, .aload_n 0, 1), (15, .iload_n 1, 1), (16, .putfield 81, 3), (19, .iload_n 1, 1), (20, .ireturn, 1)]
set_option maxRecDepth 20000 in
theorem D_Bat_end : (T_Bat_end.all fun q => decide (decode M_Bat_end.2.1 q.1 = .ok q.2)) = true := by decide +kernel
def Bat_end (v0 : Nat) (v1 : Int) (h : AH) : Option (Int × AH) := if (v1 : Int) < 0 then (some ((-1), h)) else (gI h 12 v0 1 fun x1 => if (v1 : Int) ≤ x1 then (pI h 12 v0 1 v1 fun h2 => some (v1, h2)) else (some ((-1), h)))
set_option maxHeartbeats 4000000 in
set_option maxRecDepth 20000 in
theorem s_Bat_end (v0 : Nat) (v1 : Int) (h : AH) : CS M_Bat_end 1 0 emI [vr v0, vi v1] h (Bat_end v0 v1 h) := by
  refine CS.of (by decide) (Nat.le_of_ble_eq_true rfl) ?_
  show Sd M_Bat_end 1 0 emI 0 [(0, vr v0), (1, vi v1)] [] h _
  unfold Bat_end
  refine Sd_iload_n (pc' := 1) (dc D_Bat_end 0 rfl) rfl 1 rfl rfl ?_
  refine Sd_if_lt (tgt := 12) (pc' := 4) (dc D_Bat_end 1 rfl) (by decide) rfl (fun _ => ?_) (fun _ => ?_)
  · refine Sd_iconst (pc' := 13) (dc D_Bat_end 6 rfl) rfl ⟨by decide, by decide⟩ ?_
    exact Sd_iret (dc D_Bat_end 7 rfl) rfl
  · refine Sd_iload_n (pc' := 5) (dc D_Bat_end 2 rfl) rfl 1 rfl rfl ?_
    refine Sd_aload_n (pc' := 6) (dc D_Bat_end 3 rfl) rfl 0 rfl rfl ?_
    refine Sd_getI (pc' := 9) (dc D_Bat_end 4 rfl) rfl F_Bat_81 rfl rfl ?_
    refine Sd_icmp_le (tgt := 14) (pc' := 12) (dc D_Bat_end 5 rfl) (by decide) rfl (fun _ => ?_) (fun _ => ?_)
    · refine Sd_aload_n (pc' := 15) (dc D_Bat_end 8 rfl) rfl 0 rfl rfl ?_
      refine Sd_iload_n (pc' := 16) (dc D_Bat_end 9 rfl) rfl 1 rfl rfl ?_
      refine Sd_putI (pc' := 19) (dc D_Bat_end 10 rfl) rfl F_Bat_81 rfl rfl rfl (finOk.no rfl) (by decide) ?_
      refine Sd_iload_n (pc' := 20) (dc D_Bat_end 11 rfl) rfl 1 rfl rfl ?_
      exact Sd_iret (dc D_Bat_end 12 rfl) rfl
    · refine Sd_iconst (pc' := 13) (dc D_Bat_end 6 rfl) rfl ⟨by decide, by decide⟩ ?_
      exact Sd_iret (dc D_Bat_end 7 rfl) rfl
theorem K_Bat_end : MOk M_Bat_end 1 := ⟨Tb_at 121 (by decide +kernel) rfl, Tb_at 500 (by decide +kernel) rfl, by decide +kernel, by decide +kernel, by decide +kernel⟩
theorem Ks_Bat_end : Cond.instanceMethod yX11_end ∈ Tb := Tb_at 498 (by decide +kernel) rfl
theorem Kv_Bat_end : Cond.selects RX11 yX11_end yX11_end ∈ Tb := Tb_at 499 (by decide +kernel) rfl
/-! ===== BatchShare.base()I ===== -/
abbrev M_Bat_base : AMt := (yX11_base, cX11_base, 2, (some .int))
def T_Bat_base : List (Nat × Instr × Nat) := [(0, .aload_n 0, 1), (1, .getfield 18, 3), (4, .aload_n 0, 1), (5, .getfield 81, 3), (8, .aload_n 0, 1), (9, .getfield 42, 3), (12, .invokevirtual 88, 3), (15, .istore_n 1, 1), (16, .aload_n 0, 1), (17, .iconst 0, 1), (18, .putfield 81, 3), (21, .iload_n 1, 1), (22, .ifCond .eq 8, 3), (25, .bipush (-2), 2), (27, .iload_n 1, 1), (28, .isub, 1), (29, .ireturn, 1), (30, .aload_n 0, 1), (31, .getfield 31, 3), (34, .aload_n 0, 1), (35, .getfield 42, 3), (38, .invokevirtual 92, 3), (41, .aload_n 0, 1), (42, .getfield 42, 3), (45, .getfield 96, 3), (48, .iconst 0, 1), (49, .aaload, 1), (50, .getfield 100, 3), (53, .aload_n 0, 1), (54, .getfield 42, 3), (57, .getfield 96, 3), (60, .iconst 1, 1), (61, .aaload, 1), (62, .getfield 100, 3), (65, .iadd, 1), (66, .ireturn, 1)]
set_option maxRecDepth 20000 in
theorem D_Bat_base : (T_Bat_base.all fun q => decide (decode M_Bat_base.2.1 q.1 = .ok q.2)) = true := by decide +kernel
def Bat_base (v0 : Nat) (h : AH) : Option (Int × AH) := gR h 12 v0 2 fun r1 => gI h 12 v0 1 fun x2 => gR h 12 v0 7 fun r3 => rc h 7 r1 <| bnd (Rea_readBase r1 x2 r3 h) fun x5 h4 => pI h4 12 v0 1 0 fun h7 => if (x5 : Int) = 0 then (gR h7 12 v0 5 fun r8 => gR h7 12 v0 7 fun r9 => rc h7 11 r8 <| bnd (Wor_beginWith r8 r9 h7) fun _ h10 => gR h10 12 v0 7 fun r13 => gR h10 9 r13 0 fun r14 => aR h10 34 r14 0 fun r15 => gI h10 10 r15 3 fun x16 => gR h10 12 v0 7 fun r17 => gR h10 9 r17 0 fun r18 => aR h10 34 r18 1 fun r19 => gI h10 10 r19 3 fun x20 => some ((wr (x16 + x20)), h10)) else (some ((wr ((-2) - x5)), h7))
set_option maxHeartbeats 4000000 in
set_option maxRecDepth 20000 in
theorem s_Bat_base (v0 : Nat) (h : AH) : CS M_Bat_base 9 220 emI [vr v0] h (Bat_base v0 h) := by
  refine CS.of (by decide) (Nat.le_of_ble_eq_true rfl) ?_
  show Sd M_Bat_base 9 220 emI 0 [(0, vr v0)] [] h _
  unfold Bat_base
  refine Sd_aload_n (pc' := 1) (dc D_Bat_base 0 rfl) rfl 0 rfl rfl ?_
  refine Sd_getR (pc' := 4) (dc D_Bat_base 1 rfl) rfl F_Bat_18 rfl rfl ?_
  refine Sd_aload_n (pc' := 5) (dc D_Bat_base 2 rfl) rfl 0 rfl rfl ?_
  refine Sd_getI (pc' := 8) (dc D_Bat_base 3 rfl) rfl F_Bat_81 rfl rfl ?_
  refine Sd_aload_n (pc' := 9) (dc D_Bat_base 4 rfl) rfl 0 rfl rfl ?_
  refine Sd_getR (pc' := 12) (dc D_Bat_base 5 rfl) rfl F_Bat_42 rfl rfl ?_
  refine Sd.callVI (ci := 6) (t := 7) (as := [_, _]) RX6 (pc' := 15) (dc D_Bat_base 6 rfl) rfl rfl rfl rfl K_Rea_readBase L_Bat_88 Ks_Rea_readBase Kv_Rea_readBase ⟨by decide, by decide⟩ rfl rfl (Nat.le_of_ble_eq_true rfl) (s_Rea_readBase _ _ _ _) (fun x5 h4 => ?_)
  refine Sd_istore_n (pc' := 16) (l' := [(1, _), (0, _)]) (dc D_Bat_base 7 rfl) rfl rfl (by decide) rfl ?_
  refine Sd_aload_n (pc' := 17) (dc D_Bat_base 8 rfl) rfl 1 rfl rfl ?_
  refine Sd_iconst (pc' := 18) (dc D_Bat_base 9 rfl) rfl ⟨by decide, by decide⟩ ?_
  refine Sd_putI (pc' := 21) (dc D_Bat_base 10 rfl) rfl F_Bat_81 rfl rfl rfl (finOk.no rfl) (by decide) ?_
  refine Sd_iload_n (pc' := 22) (dc D_Bat_base 11 rfl) rfl 0 rfl rfl ?_
  refine Sd_if_eq (tgt := 30) (pc' := 25) (dc D_Bat_base 12 rfl) (by decide) rfl (fun _ => ?_) (fun _ => ?_)
  · refine Sd_aload_n (pc' := 31) (dc D_Bat_base 17 rfl) rfl 1 rfl rfl ?_
    refine Sd_getR (pc' := 34) (dc D_Bat_base 18 rfl) rfl F_Bat_31 rfl rfl ?_
    refine Sd_aload_n (pc' := 35) (dc D_Bat_base 19 rfl) rfl 1 rfl rfl ?_
    refine Sd_getR (pc' := 38) (dc D_Bat_base 20 rfl) rfl F_Bat_42 rfl rfl ?_
    refine Sd.callVV (ci := 10) (t := 11) (as := [_]) RX10 (pc' := 41) (dc D_Bat_base 21 rfl) rfl rfl rfl rfl K_Wor_beginWith L_Bat_92 Ks_Wor_beginWith Kv_Wor_beginWith ⟨by decide, by decide⟩ rfl rfl (Nat.le_of_ble_eq_true rfl) (s_Wor_beginWith _ _ _) (fun _ h10 => ?_)
    refine Sd_aload_n (pc' := 42) (dc D_Bat_base 22 rfl) rfl 1 rfl rfl ?_
    refine Sd_getR (pc' := 45) (dc D_Bat_base 23 rfl) rfl F_Bat_42 rfl rfl ?_
    refine Sd_getR (pc' := 48) (dc D_Bat_base 24 rfl) rfl F_Bat_96 rfl rfl ?_
    refine Sd_iconst (pc' := 49) (dc D_Bat_base 25 rfl) rfl ⟨by decide, by decide⟩ ?_
    refine Sd_aaload (t := 34) (j := 6) (C0 := RX9) (pc' := 50) (dc D_Bat_base 26 rfl) rfl rfl (by decide) ?_
    refine Sd_getI (pc' := 53) (dc D_Bat_base 27 rfl) rfl F_Bat_100 rfl rfl ?_
    refine Sd_aload_n (pc' := 54) (dc D_Bat_base 28 rfl) rfl 1 rfl rfl ?_
    refine Sd_getR (pc' := 57) (dc D_Bat_base 29 rfl) rfl F_Bat_42 rfl rfl ?_
    refine Sd_getR (pc' := 60) (dc D_Bat_base 30 rfl) rfl F_Bat_96 rfl rfl ?_
    refine Sd_iconst (pc' := 61) (dc D_Bat_base 31 rfl) rfl ⟨by decide, by decide⟩ ?_
    refine Sd_aaload (t := 34) (j := 6) (C0 := RX9) (pc' := 62) (dc D_Bat_base 32 rfl) rfl rfl (by decide) ?_
    refine Sd_getI (pc' := 65) (dc D_Bat_base 33 rfl) rfl F_Bat_100 rfl rfl ?_
    refine Sd_iadd (pc' := 66) (dc D_Bat_base 34 rfl) rfl ?_
    exact Sd_iret (dc D_Bat_base 35 rfl) rfl
  · refine Sd_bipush (pc' := 27) (dc D_Bat_base 13 rfl) rfl ⟨by decide, by decide⟩ (by decide) ?_
    refine Sd_iload_n (pc' := 28) (dc D_Bat_base 14 rfl) rfl 0 rfl rfl ?_
    refine Sd_isub (pc' := 29) (dc D_Bat_base 15 rfl) rfl ?_
    exact Sd_iret (dc D_Bat_base 16 rfl) rfl
theorem K_Bat_base : MOk M_Bat_base 0 := ⟨Tb_at 121 (by decide +kernel) rfl, Tb_at 504 (by decide +kernel) rfl, by decide +kernel, by decide +kernel, by decide +kernel⟩
theorem Ks_Bat_base : Cond.instanceMethod yX11_base ∈ Tb := Tb_at 502 (by decide +kernel) rfl
theorem Kv_Bat_base : Cond.selects RX11 yX11_base yX11_base ∈ Tb := Tb_at 503 (by decide +kernel) rfl
/-! ===== BatchShare.query()I ===== -/
abbrev M_Bat_query : AMt := (yX11_query, cX11_query, 2, (some .int))
def T_Bat_query : List (Nat × Instr × Nat) := [(0, .aload_n 0, 1), (1, .getfield 105, 3), (4, .bipush 8, 2), (6, .if_icmp .lt 5, 3), (9, .iconst (-1), 1), (10, .ireturn, 1), (11, .aload_n 0, 1), (12, .getfield 18, 3), (15, .aload_n 0, 1), (16, .getfield 81, 3), (19, .aload_n 0, 1), (20, .getfield 24, 3), (23, .aload_n 0, 1), (24, .getfield 105, 3), (27, .aaload, 1), (28, .invokevirtual 108, 3), (31, .istore_n 1, 1), (32, .aload_n 0, 1), (33, .iconst 0, 1), (34, .putfield 81, 3), (37, .iload_n 1, 1), (38, .ifCond .eq 8, 3), (41, .bipush (-2), 2), (43, .iload_n 1, 1), (44, .isub, 1), (45, .ireturn, 1), (46, .aload_n 0, 1), (47, .dup, 1), (48, .getfield 105, 3), (51, .iconst 1, 1), (52, .iadd, 1), (53, .putfield 105, 3), (56, .aload_n 0, 1), (57, .getfield 105, 3), (60, .iconst 1, 1), (61, .isub, 1), (62, .ireturn, 1)]
set_option maxRecDepth 20000 in
theorem D_Bat_query : (T_Bat_query.all fun q => decide (decode M_Bat_query.2.1 q.1 = .ok q.2)) = true := by decide +kernel
def Bat_query (v0 : Nat) (h : AH) : Option (Int × AH) := gI h 12 v0 4 fun x1 => if (x1 : Int) < 8 then (gR h 12 v0 2 fun r2 => gI h 12 v0 1 fun x3 => gR h 12 v0 3 fun r4 => gI h 12 v0 4 fun x5 => aR h 31 r4 x5 fun r6 => rc h 7 r2 <| bnd (Rea_readQuery r2 x3 r6 h) fun x8 h7 => pI h7 12 v0 1 0 fun h10 => if (x8 : Int) = 0 then (gI h10 12 v0 4 fun x11 => pI h10 12 v0 4 (wr (x11 + 1)) fun h12 => gI h12 12 v0 4 fun x13 => some ((wr (x13 - 1)), h12)) else (some ((wr ((-2) - x8)), h10))) else (some ((-1), h))
set_option maxHeartbeats 4000000 in
set_option maxRecDepth 20000 in
theorem s_Bat_query (v0 : Nat) (h : AH) : CS M_Bat_query 9 219 emI [vr v0] h (Bat_query v0 h) := by
  refine CS.of (by decide) (Nat.le_of_ble_eq_true rfl) ?_
  show Sd M_Bat_query 9 219 emI 0 [(0, vr v0)] [] h _
  unfold Bat_query
  refine Sd_aload_n (pc' := 1) (dc D_Bat_query 0 rfl) rfl 0 rfl rfl ?_
  refine Sd_getI (pc' := 4) (dc D_Bat_query 1 rfl) rfl F_Bat_105 rfl rfl ?_
  refine Sd_bipush (pc' := 6) (dc D_Bat_query 2 rfl) rfl ⟨by decide, by decide⟩ (by decide) ?_
  refine Sd_icmp_lt (tgt := 11) (pc' := 9) (dc D_Bat_query 3 rfl) (by decide) rfl (fun _ => ?_) (fun _ => ?_)
  · refine Sd_aload_n (pc' := 12) (dc D_Bat_query 6 rfl) rfl 0 rfl rfl ?_
    refine Sd_getR (pc' := 15) (dc D_Bat_query 7 rfl) rfl F_Bat_18 rfl rfl ?_
    refine Sd_aload_n (pc' := 16) (dc D_Bat_query 8 rfl) rfl 0 rfl rfl ?_
    refine Sd_getI (pc' := 19) (dc D_Bat_query 9 rfl) rfl F_Bat_81 rfl rfl ?_
    refine Sd_aload_n (pc' := 20) (dc D_Bat_query 10 rfl) rfl 0 rfl rfl ?_
    refine Sd_getR (pc' := 23) (dc D_Bat_query 11 rfl) rfl F_Bat_24 rfl rfl ?_
    refine Sd_aload_n (pc' := 24) (dc D_Bat_query 12 rfl) rfl 0 rfl rfl ?_
    refine Sd_getI (pc' := 27) (dc D_Bat_query 13 rfl) rfl F_Bat_105 rfl rfl ?_
    refine Sd_aaload (t := 31) (j := 3) (C0 := RX5) (pc' := 28) (dc D_Bat_query 14 rfl) rfl rfl (by decide) ?_
    refine Sd.callVI (ci := 6) (t := 7) (as := [_, _]) RX6 (pc' := 31) (dc D_Bat_query 15 rfl) rfl rfl rfl rfl K_Rea_readQuery L_Bat_108 Ks_Rea_readQuery Kv_Rea_readQuery ⟨by decide, by decide⟩ rfl rfl (Nat.le_of_ble_eq_true rfl) (s_Rea_readQuery _ _ _ _) (fun x8 h7 => ?_)
    refine Sd_istore_n (pc' := 32) (l' := [(1, _), (0, _)]) (dc D_Bat_query 16 rfl) rfl rfl (by decide) rfl ?_
    refine Sd_aload_n (pc' := 33) (dc D_Bat_query 17 rfl) rfl 1 rfl rfl ?_
    refine Sd_iconst (pc' := 34) (dc D_Bat_query 18 rfl) rfl ⟨by decide, by decide⟩ ?_
    refine Sd_putI (pc' := 37) (dc D_Bat_query 19 rfl) rfl F_Bat_81 rfl rfl rfl (finOk.no rfl) (by decide) ?_
    refine Sd_iload_n (pc' := 38) (dc D_Bat_query 20 rfl) rfl 0 rfl rfl ?_
    refine Sd_if_eq (tgt := 46) (pc' := 41) (dc D_Bat_query 21 rfl) (by decide) rfl (fun _ => ?_) (fun _ => ?_)
    · refine Sd_aload_n (pc' := 47) (dc D_Bat_query 26 rfl) rfl 1 rfl rfl ?_
      refine Sd_dup (pc' := 48) (dc D_Bat_query 27 rfl) rfl (cat_r _) ?_
      refine Sd_getI (pc' := 51) (dc D_Bat_query 28 rfl) rfl F_Bat_105 rfl rfl ?_
      refine Sd_iconst (pc' := 52) (dc D_Bat_query 29 rfl) rfl ⟨by decide, by decide⟩ ?_
      refine Sd_iadd (pc' := 53) (dc D_Bat_query 30 rfl) rfl ?_
      refine Sd_putI (pc' := 56) (dc D_Bat_query 31 rfl) rfl F_Bat_105 rfl rfl rfl (finOk.no rfl) (by decide) ?_
      refine Sd_aload_n (pc' := 57) (dc D_Bat_query 32 rfl) rfl 1 rfl rfl ?_
      refine Sd_getI (pc' := 60) (dc D_Bat_query 33 rfl) rfl F_Bat_105 rfl rfl ?_
      refine Sd_iconst (pc' := 61) (dc D_Bat_query 34 rfl) rfl ⟨by decide, by decide⟩ ?_
      refine Sd_isub (pc' := 62) (dc D_Bat_query 35 rfl) rfl ?_
      exact Sd_iret (dc D_Bat_query 36 rfl) rfl
    · refine Sd_bipush (pc' := 43) (dc D_Bat_query 22 rfl) rfl ⟨by decide, by decide⟩ (by decide) ?_
      refine Sd_iload_n (pc' := 44) (dc D_Bat_query 23 rfl) rfl 0 rfl rfl ?_
      refine Sd_isub (pc' := 45) (dc D_Bat_query 24 rfl) rfl ?_
      exact Sd_iret (dc D_Bat_query 25 rfl) rfl
  · refine Sd_iconst (pc' := 10) (dc D_Bat_query 4 rfl) rfl ⟨by decide, by decide⟩ ?_
    exact Sd_iret (dc D_Bat_query 5 rfl) rfl
theorem K_Bat_query : MOk M_Bat_query 0 := ⟨Tb_at 121 (by decide +kernel) rfl, Tb_at 666 (by decide +kernel) rfl, by decide +kernel, by decide +kernel, by decide +kernel⟩
theorem Ks_Bat_query : Cond.instanceMethod yX11_query ∈ Tb := Tb_at 664 (by decide +kernel) rfl
theorem Kv_Bat_query : Cond.selects RX11 yX11_query yX11_query ∈ Tb := Tb_at 665 (by decide +kernel) rfl
/-! ===== BatchShare.isTable(I)Z ===== -/
abbrev M_Bat_isTable : AMt := (yX11_isTable, cX11_isTable, 1, (some .boolean))
def T_Bat_isTable : List (Nat × Instr × Nat) := [(0, .iload_n 0, 1), (1, .ifCond .eq 8, 3), (4, .iload_n 0, 1), (5, .iconst 1, 1), (6, .if_icmp .ne 7, 3), (9, .iconst 1, 1), (10, .goto 4, 3), (13, .iconst 0, 1), (14, .ireturn, 1)]
set_option maxRecDepth 20000 in
theorem D_Bat_isTable : (T_Bat_isTable.all fun q => decide (decode M_Bat_isTable.2.1 q.1 = .ok q.2)) = true := by decide +kernel
def Bat_isTable (v0 : Int) (h : AH) : Option (Int × AH) := if (v0 : Int) = 0 then (some (1, h)) else (if ¬ (v0 : Int) = 1 then (some (0, h)) else (some (1, h)))
set_option maxHeartbeats 4000000 in
set_option maxRecDepth 20000 in
theorem s_Bat_isTable (v0 : Int) (h : AH) : CS M_Bat_isTable 1 0 emI [vi v0] h (Bat_isTable v0 h) := by
  refine CS.of (by decide) (Nat.le_of_ble_eq_true rfl) ?_
  show Sd M_Bat_isTable 1 0 emI 0 [(0, vi v0)] [] h _
  unfold Bat_isTable
  refine Sd_iload_n (pc' := 1) (dc D_Bat_isTable 0 rfl) rfl 0 rfl rfl ?_
  refine Sd_if_eq (tgt := 9) (pc' := 4) (dc D_Bat_isTable 1 rfl) (by decide) rfl (fun _ => ?_) (fun _ => ?_)
  · refine Sd_iconst (pc' := 10) (dc D_Bat_isTable 5 rfl) rfl ⟨by decide, by decide⟩ ?_
    refine Sd_goto (tgt := 14) (dc D_Bat_isTable 6 rfl) (by decide) ?_
    exact Sd_zret (dc D_Bat_isTable 8 rfl) rfl (Or.inr rfl)
  · refine Sd_iload_n (pc' := 5) (dc D_Bat_isTable 2 rfl) rfl 0 rfl rfl ?_
    refine Sd_iconst (pc' := 6) (dc D_Bat_isTable 3 rfl) rfl ⟨by decide, by decide⟩ ?_
    refine Sd_icmp_ne (tgt := 13) (pc' := 9) (dc D_Bat_isTable 4 rfl) (by decide) rfl (fun _ => ?_) (fun _ => ?_)
    · refine Sd_iconst (pc' := 14) (dc D_Bat_isTable 7 rfl) rfl ⟨by decide, by decide⟩ ?_
      exact Sd_zret (dc D_Bat_isTable 8 rfl) rfl (Or.inl rfl)
    · refine Sd_iconst (pc' := 10) (dc D_Bat_isTable 5 rfl) rfl ⟨by decide, by decide⟩ ?_
      refine Sd_goto (tgt := 14) (dc D_Bat_isTable 6 rfl) (by decide) ?_
      exact Sd_zret (dc D_Bat_isTable 8 rfl) rfl (Or.inr rfl)
theorem K_Bat_isTable : MOk M_Bat_isTable 1 := ⟨Tb_at 121 (by decide +kernel) rfl, Tb_at 766 (by decide +kernel) rfl, by decide +kernel, by decide +kernel, by decide +kernel⟩
theorem Ks_Bat_isTable : Cond.static yX11_isTable ∈ Tb := Tb_at 765 (by decide +kernel) rfl
/-! ===== BatchShare.hasRow(II)Z ===== -/
abbrev M_Bat_hasRow : AMt := (yX11_hasRow, cX11_hasRow, 3, (some .boolean))
def T_Bat_hasRow : List (Nat × Instr × Nat) := [(0, .iload_n 1, 1), (1, .invokestatic 213, 3), (4, .ifCond .eq 26, 3), (7, .aload_n 0, 1), (8, .getfield 31, 3), (11, .getfield 116, 3), (14, .getfield 96, 3), (17, .iload_n 1, 1), (18, .aaload, 1), (19, .iload_n 2, 1), (20, .invokevirtual 354, 3), (23, .ifCond .eq 7, 3), (26, .iconst 1, 1), (27, .goto 4, 3), (30, .iconst 0, 1), (31, .ireturn, 1)]
set_option maxRecDepth 20000 in
theorem D_Bat_hasRow : (T_Bat_hasRow.all fun q => decide (decode M_Bat_hasRow.2.1 q.1 = .ok q.2)) = true := by decide +kernel
def Bat_hasRow (v0 : Nat) (v1 : Int) (v2 : Int) (h : AH) : Option (Int × AH) := bnd (Bat_isTable v1 h) fun x2 h1 => if (x2 : Int) = 0 then (some (0, h1)) else (gR h1 12 v0 5 fun r4 => gR h1 11 r4 0 fun r5 => gR h1 9 r5 0 fun r6 => aR h1 34 r6 v1 fun r7 => rc h1 10 r7 <| bnd (Tab_hasRow r7 v2 h1) fun x9 h8 => if (x9 : Int) = 0 then (some (0, h8)) else (some (1, h8)))
set_option maxHeartbeats 4000000 in
set_option maxRecDepth 20000 in
theorem s_Bat_hasRow (v0 : Nat) (v1 : Int) (v2 : Int) (h : AH) : CS M_Bat_hasRow 2 21 emI [vr v0, vi v1, vi v2] h (Bat_hasRow v0 v1 v2 h) := by
  refine CS.of (by decide) (Nat.le_of_ble_eq_true rfl) ?_
  show Sd M_Bat_hasRow 2 21 emI 0 [(0, vr v0), (1, vi v1), (2, vi v2)] [] h _
  unfold Bat_hasRow
  refine Sd_iload_n (pc' := 1) (dc D_Bat_hasRow 0 rfl) rfl 1 rfl rfl ?_
  refine Sd.callSI (as := [_]) (pc' := 4) (dc D_Bat_hasRow 1 rfl) rfl K_Bat_isTable L_Bat_213 Ks_Bat_isTable ⟨by decide, by decide⟩ rfl rfl (Nat.le_of_ble_eq_true rfl) (s_Bat_isTable _ _) (fun x2 h1 => ?_)
  refine Sd_if_eq (tgt := 30) (pc' := 7) (dc D_Bat_hasRow 2 rfl) (by decide) rfl (fun _ => ?_) (fun _ => ?_)
  · refine Sd_iconst (pc' := 31) (dc D_Bat_hasRow 14 rfl) rfl ⟨by decide, by decide⟩ ?_
    exact Sd_zret (dc D_Bat_hasRow 15 rfl) rfl (Or.inl rfl)
  · refine Sd_aload_n (pc' := 8) (dc D_Bat_hasRow 3 rfl) rfl 0 rfl rfl ?_
    refine Sd_getR (pc' := 11) (dc D_Bat_hasRow 4 rfl) rfl F_Bat_31 rfl rfl ?_
    refine Sd_getR (pc' := 14) (dc D_Bat_hasRow 5 rfl) rfl F_Bat_116 rfl rfl ?_
    refine Sd_getR (pc' := 17) (dc D_Bat_hasRow 6 rfl) rfl F_Bat_96 rfl rfl ?_
    refine Sd_iload_n (pc' := 18) (dc D_Bat_hasRow 7 rfl) rfl 1 rfl rfl ?_
    refine Sd_aaload (t := 34) (j := 6) (C0 := RX9) (pc' := 19) (dc D_Bat_hasRow 8 rfl) rfl rfl (by decide) ?_
    refine Sd_iload_n (pc' := 20) (dc D_Bat_hasRow 9 rfl) rfl 2 rfl rfl ?_
    refine Sd.callVI (ci := 9) (t := 10) (as := [_]) RX9 (pc' := 23) (dc D_Bat_hasRow 10 rfl) rfl rfl rfl rfl K_Tab_hasRow L_Bat_354 Ks_Tab_hasRow Kv_Tab_hasRow ⟨by decide, by decide⟩ rfl rfl (Nat.le_of_ble_eq_true rfl) (s_Tab_hasRow _ _ _) (fun x9 h8 => ?_)
    refine Sd_if_eq (tgt := 30) (pc' := 26) (dc D_Bat_hasRow 11 rfl) (by decide) rfl (fun _ => ?_) (fun _ => ?_)
    · refine Sd_iconst (pc' := 31) (dc D_Bat_hasRow 14 rfl) rfl ⟨by decide, by decide⟩ ?_
      exact Sd_zret (dc D_Bat_hasRow 15 rfl) rfl (Or.inl rfl)
    · refine Sd_iconst (pc' := 27) (dc D_Bat_hasRow 12 rfl) rfl ⟨by decide, by decide⟩ ?_
      refine Sd_goto (tgt := 31) (dc D_Bat_hasRow 13 rfl) (by decide) ?_
      exact Sd_zret (dc D_Bat_hasRow 15 rfl) rfl (Or.inr rfl)
theorem K_Bat_hasRow : MOk M_Bat_hasRow 2 := ⟨Tb_at 121 (by decide +kernel) rfl, Tb_at 763 (by decide +kernel) rfl, by decide +kernel, by decide +kernel, by decide +kernel⟩
theorem Ks_Bat_hasRow : Cond.instanceMethod yX11_hasRow ∈ Tb := Tb_at 762 (by decide +kernel) rfl
theorem Kv_Bat_hasRow : Cond.selects RX11 yX11_hasRow yX11_hasRow ∈ Tb := Tb_at 19 (by decide +kernel) rfl
/-! ===== BatchShare.hasCell(III)Z ===== -/
abbrev M_Bat_hasCell : AMt := (yX11_hasCell, cX11_hasCell, 4, (some .boolean))
def T_Bat_hasCell : List (Nat × Instr × Nat) := [(0, .aload_n 0, 1), (1, .iload_n 1, 1), (2, .iload_n 2, 1), (3, .invokevirtual 234, 3), (6, .ifCond .eq 26, 3), (9, .aload_n 0, 1), (10, .getfield 31, 3), (13, .getfield 116, 3), (16, .getfield 96, 3), (19, .iload_n 1, 1), (20, .aaload, 1), (21, .iload_n 3, 1), (22, .invokevirtual 356, 3), (25, .ifCond .eq 7, 3), (28, .iconst 1, 1), (29, .goto 4, 3), (32, .iconst 0, 1), (33, .ireturn, 1)]
set_option maxRecDepth 20000 in
theorem D_Bat_hasCell : (T_Bat_hasCell.all fun q => decide (decode M_Bat_hasCell.2.1 q.1 = .ok q.2)) = true := by decide +kernel
def Bat_hasCell (v0 : Nat) (v1 : Int) (v2 : Int) (v3 : Int) (h : AH) : Option (Int × AH) := rc h 12 v0 <| bnd (Bat_hasRow v0 v1 v2 h) fun x2 h1 => if (x2 : Int) = 0 then (some (0, h1)) else (gR h1 12 v0 5 fun r4 => gR h1 11 r4 0 fun r5 => gR h1 9 r5 0 fun r6 => aR h1 34 r6 v1 fun r7 => rc h1 10 r7 <| bnd (Tab_hasCol r7 v3 h1) fun x9 h8 => if (x9 : Int) = 0 then (some (0, h8)) else (some (1, h8)))
set_option maxHeartbeats 4000000 in
set_option maxRecDepth 20000 in
theorem s_Bat_hasCell (v0 : Nat) (v1 : Int) (v2 : Int) (v3 : Int) (h : AH) : CS M_Bat_hasCell 3 43 emI [vr v0, vi v1, vi v2, vi v3] h (Bat_hasCell v0 v1 v2 v3 h) := by
  refine CS.of (by decide) (Nat.le_of_ble_eq_true rfl) ?_
  show Sd M_Bat_hasCell 3 43 emI 0 [(0, vr v0), (1, vi v1), (2, vi v2), (3, vi v3)] [] h _
  unfold Bat_hasCell
  refine Sd_aload_n (pc' := 1) (dc D_Bat_hasCell 0 rfl) rfl 0 rfl rfl ?_
  refine Sd_iload_n (pc' := 2) (dc D_Bat_hasCell 1 rfl) rfl 1 rfl rfl ?_
  refine Sd_iload_n (pc' := 3) (dc D_Bat_hasCell 2 rfl) rfl 2 rfl rfl ?_
  refine Sd.callVI (ci := 11) (t := 12) (as := [_, _]) RX11 (pc' := 6) (dc D_Bat_hasCell 3 rfl) rfl rfl rfl rfl K_Bat_hasRow L_Bat_234 Ks_Bat_hasRow Kv_Bat_hasRow ⟨by decide, by decide⟩ rfl rfl (Nat.le_of_ble_eq_true rfl) (s_Bat_hasRow _ _ _ _) (fun x2 h1 => ?_)
  refine Sd_if_eq (tgt := 32) (pc' := 9) (dc D_Bat_hasCell 4 rfl) (by decide) rfl (fun _ => ?_) (fun _ => ?_)
  · refine Sd_iconst (pc' := 33) (dc D_Bat_hasCell 16 rfl) rfl ⟨by decide, by decide⟩ ?_
    exact Sd_zret (dc D_Bat_hasCell 17 rfl) rfl (Or.inl rfl)
  · refine Sd_aload_n (pc' := 10) (dc D_Bat_hasCell 5 rfl) rfl 0 rfl rfl ?_
    refine Sd_getR (pc' := 13) (dc D_Bat_hasCell 6 rfl) rfl F_Bat_31 rfl rfl ?_
    refine Sd_getR (pc' := 16) (dc D_Bat_hasCell 7 rfl) rfl F_Bat_116 rfl rfl ?_
    refine Sd_getR (pc' := 19) (dc D_Bat_hasCell 8 rfl) rfl F_Bat_96 rfl rfl ?_
    refine Sd_iload_n (pc' := 20) (dc D_Bat_hasCell 9 rfl) rfl 1 rfl rfl ?_
    refine Sd_aaload (t := 34) (j := 6) (C0 := RX9) (pc' := 21) (dc D_Bat_hasCell 10 rfl) rfl rfl (by decide) ?_
    refine Sd_iload_n (pc' := 22) (dc D_Bat_hasCell 11 rfl) rfl 3 rfl rfl ?_
    refine Sd.callVI (ci := 9) (t := 10) (as := [_]) RX9 (pc' := 25) (dc D_Bat_hasCell 12 rfl) rfl rfl rfl rfl K_Tab_hasCol L_Bat_356 Ks_Tab_hasCol Kv_Tab_hasCol ⟨by decide, by decide⟩ rfl rfl (Nat.le_of_ble_eq_true rfl) (s_Tab_hasCol _ _ _) (fun x9 h8 => ?_)
    refine Sd_if_eq (tgt := 32) (pc' := 28) (dc D_Bat_hasCell 13 rfl) (by decide) rfl (fun _ => ?_) (fun _ => ?_)
    · refine Sd_iconst (pc' := 33) (dc D_Bat_hasCell 16 rfl) rfl ⟨by decide, by decide⟩ ?_
      exact Sd_zret (dc D_Bat_hasCell 17 rfl) rfl (Or.inl rfl)
    · refine Sd_iconst (pc' := 29) (dc D_Bat_hasCell 14 rfl) rfl ⟨by decide, by decide⟩ ?_
      refine Sd_goto (tgt := 33) (dc D_Bat_hasCell 15 rfl) (by decide) ?_
      exact Sd_zret (dc D_Bat_hasCell 17 rfl) rfl (Or.inr rfl)
theorem K_Bat_hasCell : MOk M_Bat_hasCell 3 := ⟨Tb_at 121 (by decide +kernel) rfl, Tb_at 759 (by decide +kernel) rfl, by decide +kernel, by decide +kernel, by decide +kernel⟩
theorem Ks_Bat_hasCell : Cond.instanceMethod yX11_hasCell ∈ Tb := Tb_at 758 (by decide +kernel) rfl
theorem Kv_Bat_hasCell : Cond.selects RX11 yX11_hasCell yX11_hasCell ∈ Tb := Tb_at 18 (by decide +kernel) rfl
/-! ===== BatchShare.cell(III)I ===== -/
abbrev M_Bat_cell : AMt := (yX11_cell, cX11_cell, 4, (some .int))
def T_Bat_cell : List (Nat × Instr × Nat) := [(0, .aload_n 0, 1), (1, .iload_n 1, 1), (2, .iload_n 2, 1), (3, .iload_n 3, 1), (4, .invokevirtual 112, 3), (7, .ifCond .eq 23, 3), (10, .aload_n 0, 1), (11, .getfield 31, 3), (14, .getfield 116, 3), (17, .getfield 96, 3), (20, .iload_n 1, 1), (21, .aaload, 1), (22, .iload_n 2, 1), (23, .iload_n 3, 1), (24, .invokevirtual 119, 3), (27, .goto 4, 3), (30, .iconst (-1), 1), (31, .ireturn, 1)]
set_option maxRecDepth 20000 in
theorem D_Bat_cell : (T_Bat_cell.all fun q => decide (decode M_Bat_cell.2.1 q.1 = .ok q.2)) = true := by decide +kernel
def Bat_cell (v0 : Nat) (v1 : Int) (v2 : Int) (v3 : Int) (h : AH) : Option (Int × AH) := rc h 12 v0 <| bnd (Bat_hasCell v0 v1 v2 v3 h) fun x2 h1 => if (x2 : Int) = 0 then (some ((-1), h1)) else (gR h1 12 v0 5 fun r4 => gR h1 11 r4 0 fun r5 => gR h1 9 r5 0 fun r6 => aR h1 34 r6 v1 fun r7 => rc h1 10 r7 <| bnd (Tab_at r7 v2 v3 h1) fun x9 h8 => some (x9, h8))
set_option maxHeartbeats 4000000 in
set_option maxRecDepth 20000 in
theorem s_Bat_cell (v0 : Nat) (v1 : Int) (v2 : Int) (v3 : Int) (h : AH) : CS M_Bat_cell 4 66 emI [vr v0, vi v1, vi v2, vi v3] h (Bat_cell v0 v1 v2 v3 h) := by
  refine CS.of (by decide) (Nat.le_of_ble_eq_true rfl) ?_
  show Sd M_Bat_cell 4 66 emI 0 [(0, vr v0), (1, vi v1), (2, vi v2), (3, vi v3)] [] h _
  unfold Bat_cell
  refine Sd_aload_n (pc' := 1) (dc D_Bat_cell 0 rfl) rfl 0 rfl rfl ?_
  refine Sd_iload_n (pc' := 2) (dc D_Bat_cell 1 rfl) rfl 1 rfl rfl ?_
  refine Sd_iload_n (pc' := 3) (dc D_Bat_cell 2 rfl) rfl 2 rfl rfl ?_
  refine Sd_iload_n (pc' := 4) (dc D_Bat_cell 3 rfl) rfl 3 rfl rfl ?_
  refine Sd.callVI (ci := 11) (t := 12) (as := [_, _, _]) RX11 (pc' := 7) (dc D_Bat_cell 4 rfl) rfl rfl rfl rfl K_Bat_hasCell L_Bat_112 Ks_Bat_hasCell Kv_Bat_hasCell ⟨by decide, by decide⟩ rfl rfl (Nat.le_of_ble_eq_true rfl) (s_Bat_hasCell _ _ _ _ _) (fun x2 h1 => ?_)
  refine Sd_if_eq (tgt := 30) (pc' := 10) (dc D_Bat_cell 5 rfl) (by decide) rfl (fun _ => ?_) (fun _ => ?_)
  · refine Sd_iconst (pc' := 31) (dc D_Bat_cell 16 rfl) rfl ⟨by decide, by decide⟩ ?_
    exact Sd_iret (dc D_Bat_cell 17 rfl) rfl
  · refine Sd_aload_n (pc' := 11) (dc D_Bat_cell 6 rfl) rfl 0 rfl rfl ?_
    refine Sd_getR (pc' := 14) (dc D_Bat_cell 7 rfl) rfl F_Bat_31 rfl rfl ?_
    refine Sd_getR (pc' := 17) (dc D_Bat_cell 8 rfl) rfl F_Bat_116 rfl rfl ?_
    refine Sd_getR (pc' := 20) (dc D_Bat_cell 9 rfl) rfl F_Bat_96 rfl rfl ?_
    refine Sd_iload_n (pc' := 21) (dc D_Bat_cell 10 rfl) rfl 1 rfl rfl ?_
    refine Sd_aaload (t := 34) (j := 6) (C0 := RX9) (pc' := 22) (dc D_Bat_cell 11 rfl) rfl rfl (by decide) ?_
    refine Sd_iload_n (pc' := 23) (dc D_Bat_cell 12 rfl) rfl 2 rfl rfl ?_
    refine Sd_iload_n (pc' := 24) (dc D_Bat_cell 13 rfl) rfl 3 rfl rfl ?_
    refine Sd.callVI (ci := 9) (t := 10) (as := [_, _]) RX9 (pc' := 27) (dc D_Bat_cell 14 rfl) rfl rfl rfl rfl K_Tab_at L_Bat_119 Ks_Tab_at Kv_Tab_at ⟨by decide, by decide⟩ rfl rfl (Nat.le_of_ble_eq_true rfl) (s_Tab_at _ _ _ _) (fun x9 h8 => ?_)
    refine Sd_goto (tgt := 31) (dc D_Bat_cell 15 rfl) (by decide) ?_
    exact Sd_iret (dc D_Bat_cell 17 rfl) rfl
theorem K_Bat_cell : MOk M_Bat_cell 3 := ⟨Tb_at 121 (by decide +kernel) rfl, Tb_at 755 (by decide +kernel) rfl, by decide +kernel, by decide +kernel, by decide +kernel⟩
theorem Ks_Bat_cell : Cond.instanceMethod yX11_cell ∈ Tb := Tb_at 753 (by decide +kernel) rfl
theorem Kv_Bat_cell : Cond.selects RX11 yX11_cell yX11_cell ∈ Tb := Tb_at 754 (by decide +kernel) rfl
/-! ===== BatchShare.hasQuery(I)Z ===== -/
abbrev M_Bat_hasQuery : AMt := (yX11_hasQuery, cX11_hasQuery, 2, (some .boolean))
def T_Bat_hasQuery : List (Nat × Instr × Nat) := [(0, .iload_n 1, 1), (1, .ifCond .lt 15, 3), (4, .iload_n 1, 1), (5, .aload_n 0, 1), (6, .getfield 105, 3), (9, .if_icmp .ge 7, 3), (12, .iconst 1, 1), (13, .goto 4, 3), (16, .iconst 0, 1), (17, .ireturn, 1)]
set_option maxRecDepth 20000 in
theorem D_Bat_hasQuery : (T_Bat_hasQuery.all fun q => decide (decode M_Bat_hasQuery.2.1 q.1 = .ok q.2)) = true := by decide +kernel
def Bat_hasQuery (v0 : Nat) (v1 : Int) (h : AH) : Option (Int × AH) := if (v1 : Int) < 0 then (some (0, h)) else (gI h 12 v0 4 fun x1 => if (x1 : Int) ≤ v1 then (some (0, h)) else (some (1, h)))
set_option maxHeartbeats 4000000 in
set_option maxRecDepth 20000 in
theorem s_Bat_hasQuery (v0 : Nat) (v1 : Int) (h : AH) : CS M_Bat_hasQuery 1 0 emI [vr v0, vi v1] h (Bat_hasQuery v0 v1 h) := by
  refine CS.of (by decide) (Nat.le_of_ble_eq_true rfl) ?_
  show Sd M_Bat_hasQuery 1 0 emI 0 [(0, vr v0), (1, vi v1)] [] h _
  unfold Bat_hasQuery
  refine Sd_iload_n (pc' := 1) (dc D_Bat_hasQuery 0 rfl) rfl 1 rfl rfl ?_
  refine Sd_if_lt (tgt := 16) (pc' := 4) (dc D_Bat_hasQuery 1 rfl) (by decide) rfl (fun _ => ?_) (fun _ => ?_)
  · refine Sd_iconst (pc' := 17) (dc D_Bat_hasQuery 8 rfl) rfl ⟨by decide, by decide⟩ ?_
    exact Sd_zret (dc D_Bat_hasQuery 9 rfl) rfl (Or.inl rfl)
  · refine Sd_iload_n (pc' := 5) (dc D_Bat_hasQuery 2 rfl) rfl 1 rfl rfl ?_
    refine Sd_aload_n (pc' := 6) (dc D_Bat_hasQuery 3 rfl) rfl 0 rfl rfl ?_
    refine Sd_getI (pc' := 9) (dc D_Bat_hasQuery 4 rfl) rfl F_Bat_105 rfl rfl ?_
    refine Sd_icmp_ge (tgt := 16) (pc' := 12) (dc D_Bat_hasQuery 5 rfl) (by decide) rfl (fun _ => ?_) (fun _ => ?_)
    · refine Sd_iconst (pc' := 17) (dc D_Bat_hasQuery 8 rfl) rfl ⟨by decide, by decide⟩ ?_
      exact Sd_zret (dc D_Bat_hasQuery 9 rfl) rfl (Or.inl rfl)
    · refine Sd_iconst (pc' := 13) (dc D_Bat_hasQuery 6 rfl) rfl ⟨by decide, by decide⟩ ?_
      refine Sd_goto (tgt := 17) (dc D_Bat_hasQuery 7 rfl) (by decide) ?_
      exact Sd_zret (dc D_Bat_hasQuery 9 rfl) rfl (Or.inr rfl)
theorem K_Bat_hasQuery : MOk M_Bat_hasQuery 1 := ⟨Tb_at 121 (by decide +kernel) rfl, Tb_at 780 (by decide +kernel) rfl, by decide +kernel, by decide +kernel, by decide +kernel⟩
theorem Ks_Bat_hasQuery : Cond.instanceMethod yX11_hasQuery ∈ Tb := Tb_at 779 (by decide +kernel) rfl
theorem Kv_Bat_hasQuery : Cond.selects RX11 yX11_hasQuery yX11_hasQuery ∈ Tb := Tb_at 20 (by decide +kernel) rfl
/-! ===== BatchShare.form(II)I ===== -/
abbrev M_Bat_form : AMt := (yX11_form, cX11_form, 4, (some .int))
def T_Bat_form : List (Nat × Instr × Nat) := [(0, .aload_n 0, 1), (1, .iload_n 1, 1), (2, .invokevirtual 123, 3), (5, .ifCond .eq 13, 3), (8, .iload_n 2, 1), (9, .ifCond .lt 9, 3), (12, .iload_n 2, 1), (13, .bipush 20, 2), (15, .if_icmp .le 6, 3), (18, .bipush (-2), 2), (20, .ireturn, 1), (21, .iload_n 2, 1), (22, .bipush 19, 2), (24, .if_icmp .ge 15, 3), (27, .aload_n 0, 1), (28, .getfield 24, 3), (31, .iload_n 1, 1), (32, .aaload, 1), (33, .getfield 127, 3), (36, .iload_n 2, 1), (37, .iaload, 1), (38, .ireturn, 1), (39, .iload_n 2, 1), (40, .bipush 19, 2), (42, .if_icmp .ne 15, 3), (45, .aload_n 0, 1), (46, .getfield 24, 3), (49, .iload_n 1, 1), (50, .aaload, 1), (51, .getfield 130, 3), (54, .goto 14, 3), (57, .aload_n 0, 1), (58, .getfield 31, 3), (61, .getfield 116, 3), (64, .iload_n 1, 1), (65, .invokevirtual 134, 3), (68, .istore_n 3, 1), (69, .iload_n 3, 1), (70, .ifCond .eq 7, 3), (73, .iconst 1, 1), (74, .goto 4, 3), (77, .iconst 0, 1), (78, .ireturn, 1)]
set_option maxRecDepth 20000 in
theorem D_Bat_form : (T_Bat_form.all fun q => decide (decode M_Bat_form.2.1 q.1 = .ok q.2)) = true := by decide +kernel
def Bat_form (v0 : Nat) (v1 : Int) (v2 : Int) (h : AH) : Option (Int × AH) := rc h 12 v0 <| bnd (Bat_hasQuery v0 v1 h) fun x2 h1 => if (x2 : Int) = 0 then (some ((-2), h1)) else (if (v2 : Int) < 0 then (some ((-2), h1)) else (if (v2 : Int) ≤ 20 then (if (19 : Int) ≤ v2 then (if ¬ (v2 : Int) = 19 then (gR h1 12 v0 5 fun r4 => gR h1 11 r4 0 fun r5 => rc h1 9 r5 <| bnd (Sta_isStruck r5 v1 h1) fun x7 h6 => if (x7 : Int) = 0 then (some (0, h6)) else (some (1, h6))) else (gR h1 12 v0 3 fun r9 => aR h1 31 r9 v1 fun r10 => gI h1 6 r10 2 fun x11 => if (x11 : Int) = 0 then (some (0, h1)) else (some (1, h1)))) else (gR h1 12 v0 3 fun r12 => aR h1 31 r12 v1 fun r13 => gR h1 6 r13 0 fun r14 => aI h1 21 r14 v2 fun x15 => some (x15, h1))) else (some ((-2), h1))))
set_option maxHeartbeats 4000000 in
set_option maxRecDepth 20000 in
theorem s_Bat_form (v0 : Nat) (v1 : Int) (v2 : Int) (h : AH) : CS M_Bat_form 2 21 emI [vr v0, vi v1, vi v2] h (Bat_form v0 v1 v2 h) := by
  refine CS.of (by decide) (Nat.le_of_ble_eq_true rfl) ?_
  show Sd M_Bat_form 2 21 emI 0 [(0, vr v0), (1, vi v1), (2, vi v2)] [] h _
  unfold Bat_form
  refine Sd_aload_n (pc' := 1) (dc D_Bat_form 0 rfl) rfl 0 rfl rfl ?_
  refine Sd_iload_n (pc' := 2) (dc D_Bat_form 1 rfl) rfl 1 rfl rfl ?_
  refine Sd.callVI (ci := 11) (t := 12) (as := [_]) RX11 (pc' := 5) (dc D_Bat_form 2 rfl) rfl rfl rfl rfl K_Bat_hasQuery L_Bat_123 Ks_Bat_hasQuery Kv_Bat_hasQuery ⟨by decide, by decide⟩ rfl rfl (Nat.le_of_ble_eq_true rfl) (s_Bat_hasQuery _ _ _) (fun x2 h1 => ?_)
  refine Sd_if_eq (tgt := 18) (pc' := 8) (dc D_Bat_form 3 rfl) (by decide) rfl (fun _ => ?_) (fun _ => ?_)
  · refine Sd_bipush (pc' := 20) (dc D_Bat_form 9 rfl) rfl ⟨by decide, by decide⟩ (by decide) ?_
    exact Sd_iret (dc D_Bat_form 10 rfl) rfl
  · refine Sd_iload_n (pc' := 9) (dc D_Bat_form 4 rfl) rfl 2 rfl rfl ?_
    refine Sd_if_lt (tgt := 18) (pc' := 12) (dc D_Bat_form 5 rfl) (by decide) rfl (fun _ => ?_) (fun _ => ?_)
    · refine Sd_bipush (pc' := 20) (dc D_Bat_form 9 rfl) rfl ⟨by decide, by decide⟩ (by decide) ?_
      exact Sd_iret (dc D_Bat_form 10 rfl) rfl
    · refine Sd_iload_n (pc' := 13) (dc D_Bat_form 6 rfl) rfl 2 rfl rfl ?_
      refine Sd_bipush (pc' := 15) (dc D_Bat_form 7 rfl) rfl ⟨by decide, by decide⟩ (by decide) ?_
      refine Sd_icmp_le (tgt := 21) (pc' := 18) (dc D_Bat_form 8 rfl) (by decide) rfl (fun _ => ?_) (fun _ => ?_)
      · refine Sd_iload_n (pc' := 22) (dc D_Bat_form 11 rfl) rfl 2 rfl rfl ?_
        refine Sd_bipush (pc' := 24) (dc D_Bat_form 12 rfl) rfl ⟨by decide, by decide⟩ (by decide) ?_
        refine Sd_icmp_ge (tgt := 39) (pc' := 27) (dc D_Bat_form 13 rfl) (by decide) rfl (fun _ => ?_) (fun _ => ?_)
        · refine Sd_iload_n (pc' := 40) (dc D_Bat_form 22 rfl) rfl 2 rfl rfl ?_
          refine Sd_bipush (pc' := 42) (dc D_Bat_form 23 rfl) rfl ⟨by decide, by decide⟩ (by decide) ?_
          refine Sd_icmp_ne (tgt := 57) (pc' := 45) (dc D_Bat_form 24 rfl) (by decide) rfl (fun _ => ?_) (fun _ => ?_)
          · refine Sd_aload_n (pc' := 58) (dc D_Bat_form 31 rfl) rfl 0 rfl rfl ?_
            refine Sd_getR (pc' := 61) (dc D_Bat_form 32 rfl) rfl F_Bat_31 rfl rfl ?_
            refine Sd_getR (pc' := 64) (dc D_Bat_form 33 rfl) rfl F_Bat_116 rfl rfl ?_
            refine Sd_iload_n (pc' := 65) (dc D_Bat_form 34 rfl) rfl 1 rfl rfl ?_
            refine Sd.callVI (ci := 8) (t := 9) (as := [_]) RX8 (pc' := 68) (dc D_Bat_form 35 rfl) rfl rfl rfl rfl K_Sta_isStruck L_Bat_134 Ks_Sta_isStruck Kv_Sta_isStruck ⟨by decide, by decide⟩ rfl rfl (Nat.le_of_ble_eq_true rfl) (s_Sta_isStruck _ _ _) (fun x7 h6 => ?_)
            refine Sd_istore_n (pc' := 69) (l' := [(3, _), (0, _), (1, _), (2, _)]) (dc D_Bat_form 36 rfl) rfl rfl (by decide) rfl ?_
            refine Sd_iload_n (pc' := 70) (dc D_Bat_form 37 rfl) rfl 0 rfl rfl ?_
            refine Sd_if_eq (tgt := 77) (pc' := 73) (dc D_Bat_form 38 rfl) (by decide) rfl (fun _ => ?_) (fun _ => ?_)
            · refine Sd_iconst (pc' := 78) (dc D_Bat_form 41 rfl) rfl ⟨by decide, by decide⟩ ?_
              exact Sd_iret (dc D_Bat_form 42 rfl) rfl
            · refine Sd_iconst (pc' := 74) (dc D_Bat_form 39 rfl) rfl ⟨by decide, by decide⟩ ?_
              refine Sd_goto (tgt := 78) (dc D_Bat_form 40 rfl) (by decide) ?_
              exact Sd_iret (dc D_Bat_form 42 rfl) rfl
          · refine Sd_aload_n (pc' := 46) (dc D_Bat_form 25 rfl) rfl 0 rfl rfl ?_
            refine Sd_getR (pc' := 49) (dc D_Bat_form 26 rfl) rfl F_Bat_24 rfl rfl ?_
            refine Sd_iload_n (pc' := 50) (dc D_Bat_form 27 rfl) rfl 1 rfl rfl ?_
            refine Sd_aaload (t := 31) (j := 3) (C0 := RX5) (pc' := 51) (dc D_Bat_form 28 rfl) rfl rfl (by decide) ?_
            refine Sd_getI (pc' := 54) (dc D_Bat_form 29 rfl) rfl F_Bat_130 rfl rfl ?_
            refine Sd_goto (tgt := 68) (dc D_Bat_form 30 rfl) (by decide) ?_
            refine Sd_istore_n (pc' := 69) (l' := [(3, _), (0, _), (1, _), (2, _)]) (dc D_Bat_form 36 rfl) rfl rfl (by decide) rfl ?_
            refine Sd_iload_n (pc' := 70) (dc D_Bat_form 37 rfl) rfl 0 rfl rfl ?_
            refine Sd_if_eq (tgt := 77) (pc' := 73) (dc D_Bat_form 38 rfl) (by decide) rfl (fun _ => ?_) (fun _ => ?_)
            · refine Sd_iconst (pc' := 78) (dc D_Bat_form 41 rfl) rfl ⟨by decide, by decide⟩ ?_
              exact Sd_iret (dc D_Bat_form 42 rfl) rfl
            · refine Sd_iconst (pc' := 74) (dc D_Bat_form 39 rfl) rfl ⟨by decide, by decide⟩ ?_
              refine Sd_goto (tgt := 78) (dc D_Bat_form 40 rfl) (by decide) ?_
              exact Sd_iret (dc D_Bat_form 42 rfl) rfl
        · refine Sd_aload_n (pc' := 28) (dc D_Bat_form 14 rfl) rfl 0 rfl rfl ?_
          refine Sd_getR (pc' := 31) (dc D_Bat_form 15 rfl) rfl F_Bat_24 rfl rfl ?_
          refine Sd_iload_n (pc' := 32) (dc D_Bat_form 16 rfl) rfl 1 rfl rfl ?_
          refine Sd_aaload (t := 31) (j := 3) (C0 := RX5) (pc' := 33) (dc D_Bat_form 17 rfl) rfl rfl (by decide) ?_
          refine Sd_getR (pc' := 36) (dc D_Bat_form 18 rfl) rfl F_Bat_127 rfl rfl ?_
          refine Sd_iload_n (pc' := 37) (dc D_Bat_form 19 rfl) rfl 2 rfl rfl ?_
          refine Sd_iaload (pc' := 38) (dc D_Bat_form 20 rfl) rfl ?_
          exact Sd_iret (dc D_Bat_form 21 rfl) rfl
      · refine Sd_bipush (pc' := 20) (dc D_Bat_form 9 rfl) rfl ⟨by decide, by decide⟩ (by decide) ?_
        exact Sd_iret (dc D_Bat_form 10 rfl) rfl
theorem K_Bat_form : MOk M_Bat_form 2 := ⟨Tb_at 121 (by decide +kernel) rfl, Tb_at 776 (by decide +kernel) rfl, by decide +kernel, by decide +kernel, by decide +kernel⟩
theorem Ks_Bat_form : Cond.instanceMethod yX11_form ∈ Tb := Tb_at 774 (by decide +kernel) rfl
theorem Kv_Bat_form : Cond.selects RX11 yX11_form yX11_form ∈ Tb := Tb_at 775 (by decide +kernel) rfl
/-! ===== BatchShare.digest(I)I ===== -/
abbrev M_Bat_digest : AMt := (yX11_digest, cX11_digest, 2, (some .int))
def T_Bat_digest : List (Nat × Instr × Nat) := [(0, .aload_n 0, 1), (1, .iload_n 1, 1), (2, .invokevirtual 123, 3), (5, .ifCond .eq 15, 3), (8, .aload_n 0, 1), (9, .getfield 24, 3), (12, .iload_n 1, 1), (13, .aaload, 1), (14, .invokevirtual 137, 3), (17, .goto 4, 3), (20, .iconst (-1), 1), (21, .ireturn, 1)]
set_option maxRecDepth 20000 in
theorem D_Bat_digest : (T_Bat_digest.all fun q => decide (decode M_Bat_digest.2.1 q.1 = .ok q.2)) = true := by decide +kernel
def Bat_digest (v0 : Nat) (v1 : Int) (h : AH) : Option (Int × AH) := rc h 12 v0 <| bnd (Bat_hasQuery v0 v1 h) fun x2 h1 => if (x2 : Int) = 0 then (some ((-1), h1)) else (gR h1 12 v0 3 fun r4 => aR h1 31 r4 v1 fun r5 => rc h1 6 r5 <| bnd (Que_digestOfForm r5 h1) fun x7 h6 => some (x7, h6))
set_option maxHeartbeats 4000000 in
set_option maxRecDepth 20000 in
theorem s_Bat_digest (v0 : Nat) (v1 : Int) (h : AH) : CS M_Bat_digest 2 23 emI [vr v0, vi v1] h (Bat_digest v0 v1 h) := by
  refine CS.of (by decide) (Nat.le_of_ble_eq_true rfl) ?_
  show Sd M_Bat_digest 2 23 emI 0 [(0, vr v0), (1, vi v1)] [] h _
  unfold Bat_digest
  refine Sd_aload_n (pc' := 1) (dc D_Bat_digest 0 rfl) rfl 0 rfl rfl ?_
  refine Sd_iload_n (pc' := 2) (dc D_Bat_digest 1 rfl) rfl 1 rfl rfl ?_
  refine Sd.callVI (ci := 11) (t := 12) (as := [_]) RX11 (pc' := 5) (dc D_Bat_digest 2 rfl) rfl rfl rfl rfl K_Bat_hasQuery L_Bat_123 Ks_Bat_hasQuery Kv_Bat_hasQuery ⟨by decide, by decide⟩ rfl rfl (Nat.le_of_ble_eq_true rfl) (s_Bat_hasQuery _ _ _) (fun x2 h1 => ?_)
  refine Sd_if_eq (tgt := 20) (pc' := 8) (dc D_Bat_digest 3 rfl) (by decide) rfl (fun _ => ?_) (fun _ => ?_)
  · refine Sd_iconst (pc' := 21) (dc D_Bat_digest 10 rfl) rfl ⟨by decide, by decide⟩ ?_
    exact Sd_iret (dc D_Bat_digest 11 rfl) rfl
  · refine Sd_aload_n (pc' := 9) (dc D_Bat_digest 4 rfl) rfl 0 rfl rfl ?_
    refine Sd_getR (pc' := 12) (dc D_Bat_digest 5 rfl) rfl F_Bat_24 rfl rfl ?_
    refine Sd_iload_n (pc' := 13) (dc D_Bat_digest 6 rfl) rfl 1 rfl rfl ?_
    refine Sd_aaload (t := 31) (j := 3) (C0 := RX5) (pc' := 14) (dc D_Bat_digest 7 rfl) rfl rfl (by decide) ?_
    refine Sd.callVI (ci := 5) (t := 6) (as := []) RX5 (pc' := 17) (dc D_Bat_digest 8 rfl) rfl rfl rfl rfl K_Que_digestOfForm L_Bat_137 Ks_Que_digestOfForm Kv_Que_digestOfForm ⟨by decide, by decide⟩ rfl rfl (Nat.le_of_ble_eq_true rfl) (s_Que_digestOfForm _ _) (fun x7 h6 => ?_)
    refine Sd_goto (tgt := 21) (dc D_Bat_digest 9 rfl) (by decide) ?_
    exact Sd_iret (dc D_Bat_digest 11 rfl) rfl
theorem K_Bat_digest : MOk M_Bat_digest 1 := ⟨Tb_at 121 (by decide +kernel) rfl, Tb_at 788 (by decide +kernel) rfl, by decide +kernel, by decide +kernel, by decide +kernel⟩
theorem Ks_Bat_digest : Cond.instanceMethod yX11_digest ∈ Tb := Tb_at 786 (by decide +kernel) rfl
theorem Kv_Bat_digest : Cond.selects RX11 yX11_digest yX11_digest ∈ Tb := Tb_at 787 (by decide +kernel) rfl
/-! ===== BatchShare.alike(I)I ===== -/
abbrev M_Bat_alike : AMt := (yX11_alike, cX11_alike, 3, (some .int))
def T_Bat_alike : List (Nat × Instr × Nat) := [(0, .aload_n 0, 1), (1, .iload_n 1, 1), (2, .invokevirtual 123, 3), (5, .ifCond .ne 5, 3), (8, .iconst (-1), 1), (9, .ireturn, 1), (10, .iconst 0, 1), (11, .istore_n 2, 1), (12, .iload_n 2, 1), (13, .iload_n 1, 1), (14, .if_icmp .ge 29, 3), (17, .aload_n 0, 1), (18, .getfield 24, 3), (21, .iload_n 2, 1), (22, .aaload, 1), (23, .aload_n 0, 1), (24, .getfield 24, 3), (27, .iload_n 1, 1), (28, .aaload, 1), (29, .invokevirtual 141, 3), (32, .ifCond .eq 5, 3), (35, .iload_n 2, 1), (36, .ireturn, 1), (37, .iinc 2 1, 3), (40, .goto (-28), 3), (43, .iload_n 1, 1), (44, .ireturn, 1)]
set_option maxRecDepth 20000 in
theorem D_Bat_alike : (T_Bat_alike.all fun q => decide (decode M_Bat_alike.2.1 q.1 = .ok q.2)) = true := by decide +kernel
def Bat_alike_L12 : Nat → Nat → Int → Int → AH → Option (Int × AH)
  | 0, _, _, _, _ => none
  | n + 1, v0, v1, v2, h => if (v1 : Int) ≤ v2 then (some (v1, h)) else (gR h 12 v0 3 fun r1 => aR h 31 r1 v2 fun r2 => gR h 12 v0 3 fun r3 => aR h 31 r3 v1 fun r4 => rc h 6 r2 <| bnd (Que_isLike r2 r4 h) fun x6 h5 => if (x6 : Int) = 0 then (Bat_alike_L12 n v0 v1 ((wr (v2 + 1))) h5) else (some (v2, h5)))
set_option maxHeartbeats 4000000 in
set_option maxRecDepth 20000 in
theorem s_Bat_alike_L12 : ∀ (n : Nat) (v0 : Nat) (v1 : Int) (v2 : Int) (h : AH), Sd M_Bat_alike 2 22 emI 12 [(0, vr v0), (1, vi v1), (2, vi v2)] [] h (Bat_alike_L12 n v0 v1 v2 h)
  | 0, _, _, _, _ => Sd.none
  | n + 1, v0, v1, v2, h => by
    rw [Bat_alike_L12]
    refine Sd_iload_n (pc' := 13) (dc D_Bat_alike 8 rfl) rfl 2 rfl rfl ?_
    refine Sd_iload_n (pc' := 14) (dc D_Bat_alike 9 rfl) rfl 1 rfl rfl ?_
    refine Sd_icmp_ge (tgt := 43) (pc' := 17) (dc D_Bat_alike 10 rfl) (by decide) rfl (fun _ => ?_) (fun _ => ?_)
    · refine Sd_iload_n (pc' := 44) (dc D_Bat_alike 25 rfl) rfl 1 rfl rfl ?_
      exact Sd_iret (dc D_Bat_alike 26 rfl) rfl
    · refine Sd_aload_n (pc' := 18) (dc D_Bat_alike 11 rfl) rfl 0 rfl rfl ?_
      refine Sd_getR (pc' := 21) (dc D_Bat_alike 12 rfl) rfl F_Bat_24 rfl rfl ?_
      refine Sd_iload_n (pc' := 22) (dc D_Bat_alike 13 rfl) rfl 2 rfl rfl ?_
      refine Sd_aaload (t := 31) (j := 3) (C0 := RX5) (pc' := 23) (dc D_Bat_alike 14 rfl) rfl rfl (by decide) ?_
      refine Sd_aload_n (pc' := 24) (dc D_Bat_alike 15 rfl) rfl 0 rfl rfl ?_
      refine Sd_getR (pc' := 27) (dc D_Bat_alike 16 rfl) rfl F_Bat_24 rfl rfl ?_
      refine Sd_iload_n (pc' := 28) (dc D_Bat_alike 17 rfl) rfl 1 rfl rfl ?_
      refine Sd_aaload (t := 31) (j := 3) (C0 := RX5) (pc' := 29) (dc D_Bat_alike 18 rfl) rfl rfl (by decide) ?_
      refine Sd.callVI (ci := 5) (t := 6) (as := [_]) RX5 (pc' := 32) (dc D_Bat_alike 19 rfl) rfl rfl rfl rfl K_Que_isLike L_Bat_141 Ks_Que_isLike Kv_Que_isLike ⟨by decide, by decide⟩ rfl rfl (Nat.le_of_ble_eq_true rfl) (s_Que_isLike _ _ _) (fun x6 h5 => ?_)
      refine Sd_if_eq (tgt := 37) (pc' := 35) (dc D_Bat_alike 20 rfl) (by decide) rfl (fun _ => ?_) (fun _ => ?_)
      · refine Sd_iinc (pc' := 40) (l' := [(2, _), (0, _), (1, _)]) (dc D_Bat_alike 23 rfl) rfl 2 rfl (by decide) rfl ?_
        refine Sd_goto (tgt := 12) (dc D_Bat_alike 24 rfl) (by decide) ?_
        refine Sd.sub (l' := [(0, _), (1, _), (2, _)]) [1, 2, 0] rfl ?_
        exact s_Bat_alike_L12 n _ _ _ _
      · refine Sd_iload_n (pc' := 36) (dc D_Bat_alike 21 rfl) rfl 2 rfl rfl ?_
        exact Sd_iret (dc D_Bat_alike 22 rfl) rfl
def Bat_alike (v0 : Nat) (v1 : Int) (h : AH) : Option (Int × AH) := rc h 12 v0 <| bnd (Bat_hasQuery v0 v1 h) fun x2 h1 => if ¬ (x2 : Int) = 0 then (Bat_alike_L12 FU v0 v1 0 h1) else (some ((-1), h1))
set_option maxHeartbeats 4000000 in
set_option maxRecDepth 20000 in
theorem s_Bat_alike (v0 : Nat) (v1 : Int) (h : AH) : CS M_Bat_alike 2 22 emI [vr v0, vi v1] h (Bat_alike v0 v1 h) := by
  refine CS.of (by decide) (Nat.le_of_ble_eq_true rfl) ?_
  show Sd M_Bat_alike 2 22 emI 0 [(0, vr v0), (1, vi v1)] [] h _
  unfold Bat_alike
  refine Sd_aload_n (pc' := 1) (dc D_Bat_alike 0 rfl) rfl 0 rfl rfl ?_
  refine Sd_iload_n (pc' := 2) (dc D_Bat_alike 1 rfl) rfl 1 rfl rfl ?_
  refine Sd.callVI (ci := 11) (t := 12) (as := [_]) RX11 (pc' := 5) (dc D_Bat_alike 2 rfl) rfl rfl rfl rfl K_Bat_hasQuery L_Bat_123 Ks_Bat_hasQuery Kv_Bat_hasQuery ⟨by decide, by decide⟩ rfl rfl (Nat.le_of_ble_eq_true rfl) (s_Bat_hasQuery _ _ _) (fun x2 h1 => ?_)
  refine Sd_if_ne (tgt := 10) (pc' := 8) (dc D_Bat_alike 3 rfl) (by decide) rfl (fun _ => ?_) (fun _ => ?_)
  · refine Sd_iconst (pc' := 11) (dc D_Bat_alike 6 rfl) rfl ⟨by decide, by decide⟩ ?_
    refine Sd_istore_n (pc' := 12) (l' := [(2, _), (0, _), (1, _)]) (dc D_Bat_alike 7 rfl) rfl rfl (by decide) rfl ?_
    refine Sd.sub (l' := [(0, _), (1, _), (2, _)]) [1, 2, 0] rfl ?_
    exact s_Bat_alike_L12 FU _ _ _ _
  · refine Sd_iconst (pc' := 9) (dc D_Bat_alike 4 rfl) rfl ⟨by decide, by decide⟩ ?_
    exact Sd_iret (dc D_Bat_alike 5 rfl) rfl
theorem K_Bat_alike : MOk M_Bat_alike 1 := ⟨Tb_at 121 (by decide +kernel) rfl, Tb_at 797 (by decide +kernel) rfl, by decide +kernel, by decide +kernel, by decide +kernel⟩
theorem Ks_Bat_alike : Cond.instanceMethod yX11_alike ∈ Tb := Tb_at 795 (by decide +kernel) rfl
theorem Kv_Bat_alike : Cond.selects RX11 yX11_alike yX11_alike ∈ Tb := Tb_at 796 (by decide +kernel) rfl
/-! ===== BatchShare.answer(III)I ===== -/
abbrev M_Bat_answer : AMt := (yX11_answer, cX11_answer, 7, (some .int))
def T_Bat_answer : List (Nat × Instr × Nat) := [(0, .aload_n 0, 1), (1, .iload_n 1, 1), (2, .invokevirtual 123, 3), (5, .ifCond .eq 8, 3), (8, .iload_n 2, 1), (9, .iconst (-1), 1), (10, .if_icmp .ge 6, 3), (13, .bipush (-2), 2), (15, .ireturn, 1), (16, .aload_n 0, 1), (17, .getfield 24, 3), (20, .iload_n 1, 1), (21, .aaload, 1), (22, .astore 4, 2), (24, .iload_n 2, 1), (25, .iconst (-1), 1), (26, .if_icmp .ne 31, 3), (29, .aload 4, 2), (31, .getfield 130, 3), (34, .ifCond .eq 7, 3), (37, .iconst 0, 1), (38, .goto 18, 3), (41, .aload 4, 2), (43, .invokevirtual 145, 3), (46, .aload_n 0, 1), (47, .getfield 31, 3), (50, .getfield 116, 3), (53, .invokevirtual 149, 3), (56, .ireturn, 1), (57, .aload 4, 2), (59, .getfield 130, 3), (62, .ifCond .ne 19, 3), (65, .iload_n 3, 1), (66, .ifCond .lt 15, 3), (69, .iload_n 3, 1), (70, .aload 4, 2), (72, .getfield 127, 3), (75, .bipush 13, 2), (77, .iaload, 1), (78, .if_icmp .lt 6, 3), (81, .bipush (-2), 2), (83, .ireturn, 1), (84, .aload 4, 2), (86, .invokevirtual 145, 3), (89, .aload_n 0, 1), (90, .getfield 31, 3), (93, .getfield 116, 3), (96, .iload_n 2, 1), (97, .invokevirtual 155, 3), (100, .istore 5, 2), (102, .iload 5, 2), (104, .iconst (-1), 1), (105, .if_icmp .ne 6, 3), (108, .bipush (-2), 2), (110, .ireturn, 1), (111, .aload 4, 2), (113, .getfield 127, 3), (116, .bipush 14, 2), (118, .iload_n 3, 1), (119, .iadd, 1), (120, .iaload, 1), (121, .istore 6, 2), (123, .iload 6, 2), (125, .iconst 3, 1), (126, .if_icmp .ge 28, 3), (129, .aload_n 0, 1), (130, .getfield 31, 3), (133, .getfield 116, 3), (136, .getfield 96, 3), (139, .iconst 0, 1), (140, .aaload, 1), (141, .iload 5, 2), (143, .bipush 8, 2), (145, .idiv, 1), (146, .iload 6, 2), (148, .invokevirtual 119, 3), (151, .goto 25, 3), (154, .aload_n 0, 1), (155, .getfield 31, 3), (158, .getfield 116, 3), (161, .getfield 96, 3), (164, .iconst 1, 1), (165, .aaload, 1), (166, .iload 5, 2), (168, .bipush 8, 2), (170, .irem, 1), (171, .iload 6, 2), (173, .invokevirtual 119, 3), (176, .ireturn, 1)]
set_option maxRecDepth 20000 in
theorem D_Bat_answer : (T_Bat_answer.all fun q => decide (decode M_Bat_answer.2.1 q.1 = .ok q.2)) = true := by decide +kernel
def Bat_answer (v0 : Nat) (v1 : Int) (v2 : Int) (v3 : Int) (h : AH) : Option (Int × AH) := rc h 12 v0 <| bnd (Bat_hasQuery v0 v1 h) fun x2 h1 => if (x2 : Int) = 0 then (some ((-2), h1)) else (if ((-1) : Int) ≤ v2 then (gR h1 12 v0 3 fun r4 => aR h1 31 r4 v1 fun r5 => if r5 = 0 then none else if ¬ (v2 : Int) = (-1) then (gI h1 6 r5 2 fun x6 => if ¬ (x6 : Int) = 0 then (some ((-2), h1)) else (if (v3 : Int) < 0 then (some ((-2), h1)) else (gR h1 6 r5 0 fun r7 => aI h1 21 r7 13 fun x8 => if (v3 : Int) < x8 then (rc h1 6 r5 <| bnd (Que_whole r5 h1) fun r11 h9 => gR h9 12 v0 5 fun r12 => gR h9 11 r12 0 fun r13 => rc h9 4 r11 <| bnd (Par_locate r11 r13 v2 h9) fun x15 h14 => if ¬ (x15 : Int) = (-1) then (gR h14 6 r5 0 fun r17 => aI h14 21 r17 (wr (14 + v3)) fun x18 => if (3 : Int) ≤ x18 then (gR h14 12 v0 5 fun r19 => gR h14 11 r19 0 fun r20 => gR h14 9 r20 0 fun r21 => aR h14 34 r21 1 fun r22 => if (8 : Int) = 0 then none else rc h14 10 r22 <| bnd (Tab_at r22 (iRem x15 8) x18 h14) fun x24 h23 => some (x24, h23)) else (gR h14 12 v0 5 fun r26 => gR h14 11 r26 0 fun r27 => gR h14 9 r27 0 fun r28 => aR h14 34 r28 0 fun r29 => if (8 : Int) = 0 then none else rc h14 10 r29 <| bnd (Tab_at r29 (iDiv x15 8) x18 h14) fun x31 h30 => some (x31, h30))) else (some ((-2), h14))) else (some ((-2), h1))))) else (gI h1 6 r5 2 fun x33 => if (x33 : Int) = 0 then (rc h1 6 r5 <| bnd (Que_whole r5 h1) fun r36 h34 => gR h34 12 v0 5 fun r37 => gR h34 11 r37 0 fun r38 => rc h34 4 r36 <| bnd (Par_rowsIn r36 r38 h34) fun x40 h39 => some (x40, h39)) else (some (0, h1)))) else (some ((-2), h1)))
set_option maxHeartbeats 4000000 in
set_option maxRecDepth 20000 in
theorem s_Bat_answer (v0 : Nat) (v1 : Int) (v2 : Int) (v3 : Int) (h : AH) : CS M_Bat_answer 5 97 emI [vr v0, vi v1, vi v2, vi v3] h (Bat_answer v0 v1 v2 v3 h) := by
  refine CS.of (by decide) (Nat.le_of_ble_eq_true rfl) ?_
  show Sd M_Bat_answer 5 97 emI 0 [(0, vr v0), (1, vi v1), (2, vi v2), (3, vi v3)] [] h _
  unfold Bat_answer
  refine Sd_aload_n (pc' := 1) (dc D_Bat_answer 0 rfl) rfl 0 rfl rfl ?_
  refine Sd_iload_n (pc' := 2) (dc D_Bat_answer 1 rfl) rfl 1 rfl rfl ?_
  refine Sd.callVI (ci := 11) (t := 12) (as := [_]) RX11 (pc' := 5) (dc D_Bat_answer 2 rfl) rfl rfl rfl rfl K_Bat_hasQuery L_Bat_123 Ks_Bat_hasQuery Kv_Bat_hasQuery ⟨by decide, by decide⟩ rfl rfl (Nat.le_of_ble_eq_true rfl) (s_Bat_hasQuery _ _ _) (fun x2 h1 => ?_)
  refine Sd_if_eq (tgt := 13) (pc' := 8) (dc D_Bat_answer 3 rfl) (by decide) rfl (fun _ => ?_) (fun _ => ?_)
  · refine Sd_bipush (pc' := 15) (dc D_Bat_answer 7 rfl) rfl ⟨by decide, by decide⟩ (by decide) ?_
    exact Sd_iret (dc D_Bat_answer 8 rfl) rfl
  · refine Sd_iload_n (pc' := 9) (dc D_Bat_answer 4 rfl) rfl 2 rfl rfl ?_
    refine Sd_iconst (pc' := 10) (dc D_Bat_answer 5 rfl) rfl ⟨by decide, by decide⟩ ?_
    refine Sd_icmp_ge (tgt := 16) (pc' := 13) (dc D_Bat_answer 6 rfl) (by decide) rfl (fun _ => ?_) (fun _ => ?_)
    · refine Sd_aload_n (pc' := 17) (dc D_Bat_answer 9 rfl) rfl 0 rfl rfl ?_
      refine Sd_getR (pc' := 20) (dc D_Bat_answer 10 rfl) rfl F_Bat_24 rfl rfl ?_
      refine Sd_iload_n (pc' := 21) (dc D_Bat_answer 11 rfl) rfl 1 rfl rfl ?_
      refine Sd_aaload (t := 31) (j := 3) (C0 := RX5) (pc' := 22) (dc D_Bat_answer 12 rfl) rfl rfl (by decide) ?_
      refine Sd_astore (pc' := 24) (l' := [(4, _), (0, _), (1, _), (2, _), (3, _)]) (dc D_Bat_answer 13 rfl) rfl (by decide) rfl (fun _ => ?_)
      refine Sd_iload_n (pc' := 25) (dc D_Bat_answer 14 rfl) rfl 3 rfl rfl ?_
      refine Sd_iconst (pc' := 26) (dc D_Bat_answer 15 rfl) rfl ⟨by decide, by decide⟩ ?_
      refine Sd_icmp_ne (tgt := 57) (pc' := 29) (dc D_Bat_answer 16 rfl) (by decide) rfl (fun _ => ?_) (fun _ => ?_)
      · refine Sd_aload (pc' := 59) (dc D_Bat_answer 29 rfl) rfl 0 rfl ?_
        refine Sd_getI (pc' := 62) (dc D_Bat_answer 30 rfl) rfl F_Bat_130 rfl rfl ?_
        refine Sd_if_ne (tgt := 81) (pc' := 65) (dc D_Bat_answer 31 rfl) (by decide) rfl (fun _ => ?_) (fun _ => ?_)
        · refine Sd_bipush (pc' := 83) (dc D_Bat_answer 40 rfl) rfl ⟨by decide, by decide⟩ (by decide) ?_
          exact Sd_iret (dc D_Bat_answer 41 rfl) rfl
        · refine Sd_iload_n (pc' := 66) (dc D_Bat_answer 32 rfl) rfl 4 rfl rfl ?_
          refine Sd_if_lt (tgt := 81) (pc' := 69) (dc D_Bat_answer 33 rfl) (by decide) rfl (fun _ => ?_) (fun _ => ?_)
          · refine Sd_bipush (pc' := 83) (dc D_Bat_answer 40 rfl) rfl ⟨by decide, by decide⟩ (by decide) ?_
            exact Sd_iret (dc D_Bat_answer 41 rfl) rfl
          · refine Sd_iload_n (pc' := 70) (dc D_Bat_answer 34 rfl) rfl 4 rfl rfl ?_
            refine Sd_aload (pc' := 72) (dc D_Bat_answer 35 rfl) rfl 0 rfl ?_
            refine Sd_getR (pc' := 75) (dc D_Bat_answer 36 rfl) rfl F_Bat_127 rfl rfl ?_
            refine Sd_bipush (pc' := 77) (dc D_Bat_answer 37 rfl) rfl ⟨by decide, by decide⟩ (by decide) ?_
            refine Sd_iaload (pc' := 78) (dc D_Bat_answer 38 rfl) rfl ?_
            refine Sd_icmp_lt (tgt := 84) (pc' := 81) (dc D_Bat_answer 39 rfl) (by decide) rfl (fun _ => ?_) (fun _ => ?_)
            · refine Sd_aload (pc' := 86) (dc D_Bat_answer 42 rfl) rfl 0 rfl ?_
              refine Sd.callVR (ci := 5) (t := 6) (as := []) RX5 (pc' := 89) (dc D_Bat_answer 43 rfl) rfl rfl rfl rfl K_Que_whole L_Bat_145 Ks_Que_whole Kv_Que_whole ⟨by decide, by decide⟩ rfl rfl (Nat.le_of_ble_eq_true rfl) (s_Que_whole _ _) (fun r11 h9 => ?_)
              refine Sd_aload_n (pc' := 90) (dc D_Bat_answer 44 rfl) rfl 1 rfl rfl ?_
              refine Sd_getR (pc' := 93) (dc D_Bat_answer 45 rfl) rfl F_Bat_31 rfl rfl ?_
              refine Sd_getR (pc' := 96) (dc D_Bat_answer 46 rfl) rfl F_Bat_116 rfl rfl ?_
              refine Sd_iload_n (pc' := 97) (dc D_Bat_answer 47 rfl) rfl 3 rfl rfl ?_
              refine Sd.callVI (ci := 3) (t := 4) (as := [_, _]) RX3 (pc' := 100) (dc D_Bat_answer 48 rfl) rfl rfl rfl rfl K_Par_locate L_Bat_155 Ks_Par_locate Kv_Par_locate ⟨by decide, by decide⟩ rfl rfl (Nat.le_of_ble_eq_true rfl) (s_Par_locate _ _ _ _) (fun x15 h14 => ?_)
              refine Sd_istore (pc' := 102) (l' := [(5, _), (4, _), (0, _), (1, _), (2, _), (3, _)]) (dc D_Bat_answer 49 rfl) rfl (by decide) rfl ?_
              refine Sd_iload (pc' := 104) (dc D_Bat_answer 50 rfl) rfl 0 rfl ?_
              refine Sd_iconst (pc' := 105) (dc D_Bat_answer 51 rfl) rfl ⟨by decide, by decide⟩ ?_
              refine Sd_icmp_ne (tgt := 111) (pc' := 108) (dc D_Bat_answer 52 rfl) (by decide) rfl (fun _ => ?_) (fun _ => ?_)
              · refine Sd_aload (pc' := 113) (dc D_Bat_answer 55 rfl) rfl 1 rfl ?_
                refine Sd_getR (pc' := 116) (dc D_Bat_answer 56 rfl) rfl F_Bat_127 rfl rfl ?_
                refine Sd_bipush (pc' := 118) (dc D_Bat_answer 57 rfl) rfl ⟨by decide, by decide⟩ (by decide) ?_
                refine Sd_iload_n (pc' := 119) (dc D_Bat_answer 58 rfl) rfl 5 rfl rfl ?_
                refine Sd_iadd (pc' := 120) (dc D_Bat_answer 59 rfl) rfl ?_
                refine Sd_iaload (pc' := 121) (dc D_Bat_answer 60 rfl) rfl ?_
                refine Sd_istore (pc' := 123) (l' := [(6, _), (5, _), (4, _), (0, _), (1, _), (2, _), (3, _)]) (dc D_Bat_answer 61 rfl) rfl (by decide) rfl ?_
                refine Sd_iload (pc' := 125) (dc D_Bat_answer 62 rfl) rfl 0 rfl ?_
                refine Sd_iconst (pc' := 126) (dc D_Bat_answer 63 rfl) rfl ⟨by decide, by decide⟩ ?_
                refine Sd_icmp_ge (tgt := 154) (pc' := 129) (dc D_Bat_answer 64 rfl) (by decide) rfl (fun _ => ?_) (fun _ => ?_)
                · refine Sd_aload_n (pc' := 155) (dc D_Bat_answer 77 rfl) rfl 3 rfl rfl ?_
                  refine Sd_getR (pc' := 158) (dc D_Bat_answer 78 rfl) rfl F_Bat_31 rfl rfl ?_
                  refine Sd_getR (pc' := 161) (dc D_Bat_answer 79 rfl) rfl F_Bat_116 rfl rfl ?_
                  refine Sd_getR (pc' := 164) (dc D_Bat_answer 80 rfl) rfl F_Bat_96 rfl rfl ?_
                  refine Sd_iconst (pc' := 165) (dc D_Bat_answer 81 rfl) rfl ⟨by decide, by decide⟩ ?_
                  refine Sd_aaload (t := 34) (j := 6) (C0 := RX9) (pc' := 166) (dc D_Bat_answer 82 rfl) rfl rfl (by decide) ?_
                  refine Sd_iload (pc' := 168) (dc D_Bat_answer 83 rfl) rfl 1 rfl ?_
                  refine Sd_bipush (pc' := 170) (dc D_Bat_answer 84 rfl) rfl ⟨by decide, by decide⟩ (by decide) ?_
                  refine Sd_irem (pc' := 171) (dc D_Bat_answer 85 rfl) rfl ?_
                  refine Sd_iload (pc' := 173) (dc D_Bat_answer 86 rfl) rfl 0 rfl ?_
                  refine Sd.callVI (ci := 9) (t := 10) (as := [_, _]) RX9 (pc' := 176) (dc D_Bat_answer 87 rfl) rfl rfl rfl rfl K_Tab_at L_Bat_119 Ks_Tab_at Kv_Tab_at ⟨by decide, by decide⟩ rfl rfl (Nat.le_of_ble_eq_true rfl) (s_Tab_at _ _ _ _) (fun x24 h23 => ?_)
                  exact Sd_iret (dc D_Bat_answer 88 rfl) rfl
                · refine Sd_aload_n (pc' := 130) (dc D_Bat_answer 65 rfl) rfl 3 rfl rfl ?_
                  refine Sd_getR (pc' := 133) (dc D_Bat_answer 66 rfl) rfl F_Bat_31 rfl rfl ?_
                  refine Sd_getR (pc' := 136) (dc D_Bat_answer 67 rfl) rfl F_Bat_116 rfl rfl ?_
                  refine Sd_getR (pc' := 139) (dc D_Bat_answer 68 rfl) rfl F_Bat_96 rfl rfl ?_
                  refine Sd_iconst (pc' := 140) (dc D_Bat_answer 69 rfl) rfl ⟨by decide, by decide⟩ ?_
                  refine Sd_aaload (t := 34) (j := 6) (C0 := RX9) (pc' := 141) (dc D_Bat_answer 70 rfl) rfl rfl (by decide) ?_
                  refine Sd_iload (pc' := 143) (dc D_Bat_answer 71 rfl) rfl 1 rfl ?_
                  refine Sd_bipush (pc' := 145) (dc D_Bat_answer 72 rfl) rfl ⟨by decide, by decide⟩ (by decide) ?_
                  refine Sd_idiv (pc' := 146) (dc D_Bat_answer 73 rfl) rfl ?_
                  refine Sd_iload (pc' := 148) (dc D_Bat_answer 74 rfl) rfl 0 rfl ?_
                  refine Sd.callVI (ci := 9) (t := 10) (as := [_, _]) RX9 (pc' := 151) (dc D_Bat_answer 75 rfl) rfl rfl rfl rfl K_Tab_at L_Bat_119 Ks_Tab_at Kv_Tab_at ⟨by decide, by decide⟩ rfl rfl (Nat.le_of_ble_eq_true rfl) (s_Tab_at _ _ _ _) (fun x31 h30 => ?_)
                  refine Sd_goto (tgt := 176) (dc D_Bat_answer 76 rfl) (by decide) ?_
                  exact Sd_iret (dc D_Bat_answer 88 rfl) rfl
              · refine Sd_bipush (pc' := 110) (dc D_Bat_answer 53 rfl) rfl ⟨by decide, by decide⟩ (by decide) ?_
                exact Sd_iret (dc D_Bat_answer 54 rfl) rfl
            · refine Sd_bipush (pc' := 83) (dc D_Bat_answer 40 rfl) rfl ⟨by decide, by decide⟩ (by decide) ?_
              exact Sd_iret (dc D_Bat_answer 41 rfl) rfl
      · refine Sd_aload (pc' := 31) (dc D_Bat_answer 17 rfl) rfl 0 rfl ?_
        refine Sd_getI (pc' := 34) (dc D_Bat_answer 18 rfl) rfl F_Bat_130 rfl rfl ?_
        refine Sd_if_eq (tgt := 41) (pc' := 37) (dc D_Bat_answer 19 rfl) (by decide) rfl (fun _ => ?_) (fun _ => ?_)
        · refine Sd_aload (pc' := 43) (dc D_Bat_answer 22 rfl) rfl 0 rfl ?_
          refine Sd.callVR (ci := 5) (t := 6) (as := []) RX5 (pc' := 46) (dc D_Bat_answer 23 rfl) rfl rfl rfl rfl K_Que_whole L_Bat_145 Ks_Que_whole Kv_Que_whole ⟨by decide, by decide⟩ rfl rfl (Nat.le_of_ble_eq_true rfl) (s_Que_whole _ _) (fun r36 h34 => ?_)
          refine Sd_aload_n (pc' := 47) (dc D_Bat_answer 24 rfl) rfl 1 rfl rfl ?_
          refine Sd_getR (pc' := 50) (dc D_Bat_answer 25 rfl) rfl F_Bat_31 rfl rfl ?_
          refine Sd_getR (pc' := 53) (dc D_Bat_answer 26 rfl) rfl F_Bat_116 rfl rfl ?_
          refine Sd.callVI (ci := 3) (t := 4) (as := [_]) RX3 (pc' := 56) (dc D_Bat_answer 27 rfl) rfl rfl rfl rfl K_Par_rowsIn L_Bat_149 Ks_Par_rowsIn Kv_Par_rowsIn ⟨by decide, by decide⟩ rfl rfl (Nat.le_of_ble_eq_true rfl) (s_Par_rowsIn _ _ _) (fun x40 h39 => ?_)
          exact Sd_iret (dc D_Bat_answer 28 rfl) rfl
        · refine Sd_iconst (pc' := 38) (dc D_Bat_answer 20 rfl) rfl ⟨by decide, by decide⟩ ?_
          refine Sd_goto (tgt := 56) (dc D_Bat_answer 21 rfl) (by decide) ?_
          exact Sd_iret (dc D_Bat_answer 28 rfl) rfl
    · refine Sd_bipush (pc' := 15) (dc D_Bat_answer 7 rfl) rfl ⟨by decide, by decide⟩ (by decide) ?_
      exact Sd_iret (dc D_Bat_answer 8 rfl) rfl
theorem K_Bat_answer : MOk M_Bat_answer 3 := ⟨Tb_at 121 (by decide +kernel) rfl, Tb_at 805 (by decide +kernel) rfl, by decide +kernel, by decide +kernel, by decide +kernel⟩
theorem Ks_Bat_answer : Cond.instanceMethod yX11_answer ∈ Tb := Tb_at 803 (by decide +kernel) rfl
theorem Kv_Bat_answer : Cond.selects RX11 yX11_answer yX11_answer ∈ Tb := Tb_at 804 (by decide +kernel) rfl
/-! ===== BatchShare.alone(I)I ===== -/
abbrev M_Bat_alone : AMt := (yX11_alone, cX11_alone, 2, (some .int))
def T_Bat_alone : List (Nat × Instr × Nat) := [(0, .aload_n 0, 1), (1, .iload_n 1, 1), (2, .invokevirtual 123, 3), (5, .ifCond .ne 5, 3), (8, .iconst (-1), 1), (9, .ireturn, 1), (10, .aload_n 0, 1), (11, .getfield 51, 3), (14, .aload_n 0, 1), (15, .getfield 31, 3), (18, .getfield 116, 3), (21, .aload_n 0, 1), (22, .getfield 105, 3), (25, .invokevirtual 159, 3), (28, .aload_n 0, 1), (29, .getfield 51, 3), (32, .iload_n 1, 1), (33, .aload_n 0, 1), (34, .getfield 76, 3), (37, .invokevirtual 163, 3), (40, .ireturn, 1)]
set_option maxRecDepth 20000 in
theorem D_Bat_alone : (T_Bat_alone.all fun q => decide (decode M_Bat_alone.2.1 q.1 = .ok q.2)) = true := by decide +kernel
def Bat_alone (v0 : Nat) (v1 : Int) (h : AH) : Option (Int × AH) := rc h 12 v0 <| bnd (Bat_hasQuery v0 v1 h) fun x2 h1 => if ¬ (x2 : Int) = 0 then (gR h1 12 v0 8 fun r4 => gR h1 12 v0 5 fun r5 => gR h1 11 r5 0 fun r6 => gI h1 12 v0 4 fun x7 => rc h1 5 r4 <| bnd (Pri_look r4 r6 x7 h1) fun _ h8 => gR h8 12 v0 8 fun r11 => gR h8 12 v0 11 fun r12 => rc h8 5 r11 <| bnd (Pri_costBy r11 v1 r12 h8) fun x14 h13 => some (x14, h13)) else (some ((-1), h1))
set_option maxHeartbeats 4000000 in
set_option maxRecDepth 20000 in
theorem s_Bat_alone (v0 : Nat) (v1 : Int) (h : AH) : CS M_Bat_alone 5 93 emI [vr v0, vi v1] h (Bat_alone v0 v1 h) := by
  refine CS.of (by decide) (Nat.le_of_ble_eq_true rfl) ?_
  show Sd M_Bat_alone 5 93 emI 0 [(0, vr v0), (1, vi v1)] [] h _
  unfold Bat_alone
  refine Sd_aload_n (pc' := 1) (dc D_Bat_alone 0 rfl) rfl 0 rfl rfl ?_
  refine Sd_iload_n (pc' := 2) (dc D_Bat_alone 1 rfl) rfl 1 rfl rfl ?_
  refine Sd.callVI (ci := 11) (t := 12) (as := [_]) RX11 (pc' := 5) (dc D_Bat_alone 2 rfl) rfl rfl rfl rfl K_Bat_hasQuery L_Bat_123 Ks_Bat_hasQuery Kv_Bat_hasQuery ⟨by decide, by decide⟩ rfl rfl (Nat.le_of_ble_eq_true rfl) (s_Bat_hasQuery _ _ _) (fun x2 h1 => ?_)
  refine Sd_if_ne (tgt := 10) (pc' := 8) (dc D_Bat_alone 3 rfl) (by decide) rfl (fun _ => ?_) (fun _ => ?_)
  · refine Sd_aload_n (pc' := 11) (dc D_Bat_alone 6 rfl) rfl 0 rfl rfl ?_
    refine Sd_getR (pc' := 14) (dc D_Bat_alone 7 rfl) rfl F_Bat_51 rfl rfl ?_
    refine Sd_aload_n (pc' := 15) (dc D_Bat_alone 8 rfl) rfl 0 rfl rfl ?_
    refine Sd_getR (pc' := 18) (dc D_Bat_alone 9 rfl) rfl F_Bat_31 rfl rfl ?_
    refine Sd_getR (pc' := 21) (dc D_Bat_alone 10 rfl) rfl F_Bat_116 rfl rfl ?_
    refine Sd_aload_n (pc' := 22) (dc D_Bat_alone 11 rfl) rfl 0 rfl rfl ?_
    refine Sd_getI (pc' := 25) (dc D_Bat_alone 12 rfl) rfl F_Bat_105 rfl rfl ?_
    refine Sd.callVV (ci := 4) (t := 5) (as := [_, _]) RX4 (pc' := 28) (dc D_Bat_alone 13 rfl) rfl rfl rfl rfl K_Pri_look L_Bat_159 Ks_Pri_look Kv_Pri_look ⟨by decide, by decide⟩ rfl rfl (Nat.le_of_ble_eq_true rfl) (s_Pri_look _ _ _ _) (fun _ h8 => ?_)
    refine Sd_aload_n (pc' := 29) (dc D_Bat_alone 14 rfl) rfl 0 rfl rfl ?_
    refine Sd_getR (pc' := 32) (dc D_Bat_alone 15 rfl) rfl F_Bat_51 rfl rfl ?_
    refine Sd_iload_n (pc' := 33) (dc D_Bat_alone 16 rfl) rfl 1 rfl rfl ?_
    refine Sd_aload_n (pc' := 34) (dc D_Bat_alone 17 rfl) rfl 0 rfl rfl ?_
    refine Sd_getR (pc' := 37) (dc D_Bat_alone 18 rfl) rfl F_Bat_76 rfl rfl ?_
    refine Sd.callVI (ci := 4) (t := 5) (as := [_, _]) RX4 (pc' := 40) (dc D_Bat_alone 19 rfl) rfl rfl rfl rfl K_Pri_costBy L_Bat_163 Ks_Pri_costBy Kv_Pri_costBy ⟨by decide, by decide⟩ rfl rfl (Nat.le_of_ble_eq_true rfl) (s_Pri_costBy _ _ _ _) (fun x14 h13 => ?_)
    exact Sd_iret (dc D_Bat_alone 20 rfl) rfl
  · refine Sd_iconst (pc' := 9) (dc D_Bat_alone 4 rfl) rfl ⟨by decide, by decide⟩ ?_
    exact Sd_iret (dc D_Bat_alone 5 rfl) rfl
theorem K_Bat_alone : MOk M_Bat_alone 1 := ⟨Tb_at 121 (by decide +kernel) rfl, Tb_at 839 (by decide +kernel) rfl, by decide +kernel, by decide +kernel, by decide +kernel⟩
theorem Ks_Bat_alone : Cond.instanceMethod yX11_alone ∈ Tb := Tb_at 837 (by decide +kernel) rfl
theorem Kv_Bat_alone : Cond.selects RX11 yX11_alone yX11_alone ∈ Tb := Tb_at 838 (by decide +kernel) rfl
/-! ===== BatchShare.candidates()I ===== -/
abbrev M_Bat_candidates : AMt := (yX11_candidates, cX11_candidates, 1, (some .int))
def T_Bat_candidates : List (Nat × Instr × Nat) := [(0, .aload_n 0, 1), (1, .getfield 58, 3), (4, .aload_n 0, 1), (5, .getfield 24, 3), (8, .aload_n 0, 1), (9, .getfield 105, 3), (12, .aload_n 0, 1), (13, .getfield 31, 3), (16, .getfield 116, 3), (19, .invokevirtual 167, 3), (22, .aload_n 0, 1), (23, .getfield 58, 3), (26, .getfield 171, 3), (29, .ireturn, 1)]
set_option maxRecDepth 20000 in
theorem D_Bat_candidates : (T_Bat_candidates.all fun q => decide (decode M_Bat_candidates.2.1 q.1 = .ok q.2)) = true := by decide +kernel
def Bat_candidates (v0 : Nat) (h : AH) : Option (Int × AH) := gR h 12 v0 9 fun r1 => gR h 12 v0 3 fun r2 => gI h 12 v0 4 fun x3 => gR h 12 v0 5 fun r4 => gR h 11 r4 0 fun r5 => rc h 1 r1 <| bnd (Cho_collect r1 r2 x3 r5 h) fun _ h6 => gR h6 12 v0 9 fun r9 => gI h6 1 r9 4 fun x10 => some (x10, h6)
set_option maxHeartbeats 4000000 in
set_option maxRecDepth 20000 in
theorem s_Bat_candidates (v0 : Nat) (h : AH) : CS M_Bat_candidates 5 118 emI [vr v0] h (Bat_candidates v0 h) := by
  refine CS.of (by decide) (Nat.le_of_ble_eq_true rfl) ?_
  show Sd M_Bat_candidates 5 118 emI 0 [(0, vr v0)] [] h _
  unfold Bat_candidates
  refine Sd_aload_n (pc' := 1) (dc D_Bat_candidates 0 rfl) rfl 0 rfl rfl ?_
  refine Sd_getR (pc' := 4) (dc D_Bat_candidates 1 rfl) rfl F_Bat_58 rfl rfl ?_
  refine Sd_aload_n (pc' := 5) (dc D_Bat_candidates 2 rfl) rfl 0 rfl rfl ?_
  refine Sd_getR (pc' := 8) (dc D_Bat_candidates 3 rfl) rfl F_Bat_24 rfl rfl ?_
  refine Sd_aload_n (pc' := 9) (dc D_Bat_candidates 4 rfl) rfl 0 rfl rfl ?_
  refine Sd_getI (pc' := 12) (dc D_Bat_candidates 5 rfl) rfl F_Bat_105 rfl rfl ?_
  refine Sd_aload_n (pc' := 13) (dc D_Bat_candidates 6 rfl) rfl 0 rfl rfl ?_
  refine Sd_getR (pc' := 16) (dc D_Bat_candidates 7 rfl) rfl F_Bat_31 rfl rfl ?_
  refine Sd_getR (pc' := 19) (dc D_Bat_candidates 8 rfl) rfl F_Bat_116 rfl rfl ?_
  refine Sd.callVV (ci := 0) (t := 1) (as := [_, _, _]) RX0 (pc' := 22) (dc D_Bat_candidates 9 rfl) rfl rfl rfl rfl K_Cho_collect L_Bat_167 Ks_Cho_collect Kv_Cho_collect ⟨by decide, by decide⟩ rfl rfl (Nat.le_of_ble_eq_true rfl) (s_Cho_collect _ _ _ _ _) (fun _ h6 => ?_)
  refine Sd_aload_n (pc' := 23) (dc D_Bat_candidates 10 rfl) rfl 0 rfl rfl ?_
  refine Sd_getR (pc' := 26) (dc D_Bat_candidates 11 rfl) rfl F_Bat_58 rfl rfl ?_
  refine Sd_getI (pc' := 29) (dc D_Bat_candidates 12 rfl) rfl F_Bat_171 rfl rfl ?_
  exact Sd_iret (dc D_Bat_candidates 13 rfl) rfl
theorem K_Bat_candidates : MOk M_Bat_candidates 0 := ⟨Tb_at 121 (by decide +kernel) rfl, Tb_at 869 (by decide +kernel) rfl, by decide +kernel, by decide +kernel, by decide +kernel⟩
theorem Ks_Bat_candidates : Cond.instanceMethod yX11_candidates ∈ Tb := Tb_at 867 (by decide +kernel) rfl
theorem Kv_Bat_candidates : Cond.selects RX11 yX11_candidates yX11_candidates ∈ Tb := Tb_at 868 (by decide +kernel) rfl
/-! ===== BatchShare.candidate(II)I ===== -/
abbrev M_Bat_candidate : AMt := (yX11_candidate, cX11_candidate, 4, (some .int))
def T_Bat_candidate : List (Nat × Instr × Nat) := [(0, .aload_n 0, 1), (1, .getfield 58, 3), (4, .aload_n 0, 1), (5, .getfield 24, 3), (8, .aload_n 0, 1), (9, .getfield 105, 3), (12, .aload_n 0, 1), (13, .getfield 31, 3), (16, .getfield 116, 3), (19, .invokevirtual 167, 3), (22, .aload_n 0, 1), (23, .getfield 58, 3), (26, .iload_n 1, 1), (27, .invokevirtual 172, 3), (30, .ifCond .eq 13, 3), (33, .iload_n 2, 1), (34, .ifCond .lt 9, 3), (37, .iload_n 2, 1), (38, .bipush 14, 2), (40, .if_icmp .le 6, 3), (43, .bipush (-2), 2), (45, .ireturn, 1), (46, .aload_n 0, 1), (47, .getfield 58, 3), (50, .getfield 175, 3), (53, .iload_n 1, 1), (54, .aaload, 1), (55, .astore_n 3, 1), (56, .iload_n 2, 1), (57, .bipush 13, 2), (59, .if_icmp .ge 10, 3), (62, .aload_n 3, 1), (63, .getfield 179, 3), (66, .iload_n 2, 1), (67, .iaload, 1), (68, .ireturn, 1), (69, .iload_n 2, 1), (70, .bipush 13, 2), (72, .if_icmp .ne 17, 3), (75, .aload_n 3, 1), (76, .aload_n 0, 1), (77, .getfield 31, 3), (80, .getfield 116, 3), (83, .invokevirtual 149, 3), (86, .goto 14, 3), (89, .aload_n 3, 1), (90, .aload_n 0, 1), (91, .getfield 31, 3), (94, .getfield 116, 3), (97, .invokevirtual 180, 3), (100, .ireturn, 1)]
set_option maxRecDepth 20000 in
theorem D_Bat_candidate : (T_Bat_candidate.all fun q => decide (decode M_Bat_candidate.2.1 q.1 = .ok q.2)) = true := by decide +kernel
def Bat_candidate (v0 : Nat) (v1 : Int) (v2 : Int) (h : AH) : Option (Int × AH) := gR h 12 v0 9 fun r1 => gR h 12 v0 3 fun r2 => gI h 12 v0 4 fun x3 => gR h 12 v0 5 fun r4 => gR h 11 r4 0 fun r5 => rc h 1 r1 <| bnd (Cho_collect r1 r2 x3 r5 h) fun _ h6 => gR h6 12 v0 9 fun r9 => rc h6 1 r9 <| bnd (Cho_has r9 v1 h6) fun x11 h10 => if (x11 : Int) = 0 then (some ((-2), h10)) else (if (v2 : Int) < 0 then (some ((-2), h10)) else (if (v2 : Int) ≤ 14 then (gR h10 12 v0 9 fun r13 => gR h10 1 r13 0 fun r14 => aR h10 36 r14 v1 fun r15 => if r15 = 0 then none else if (13 : Int) ≤ v2 then (if ¬ (v2 : Int) = 13 then (gR h10 12 v0 5 fun r16 => gR h10 11 r16 0 fun r17 => rc h10 4 r15 <| bnd (Par_makeIn r15 r17 h10) fun x19 h18 => some (x19, h18)) else (gR h10 12 v0 5 fun r21 => gR h10 11 r21 0 fun r22 => rc h10 4 r15 <| bnd (Par_rowsIn r15 r22 h10) fun x24 h23 => some (x24, h23))) else (gR h10 4 r15 0 fun r26 => aI h10 21 r26 v2 fun x27 => some (x27, h10))) else (some ((-2), h10))))
set_option maxHeartbeats 4000000 in
set_option maxRecDepth 20000 in
theorem s_Bat_candidate (v0 : Nat) (v1 : Int) (v2 : Int) (h : AH) : CS M_Bat_candidate 5 118 emI [vr v0, vi v1, vi v2] h (Bat_candidate v0 v1 v2 h) := by
  refine CS.of (by decide) (Nat.le_of_ble_eq_true rfl) ?_
  show Sd M_Bat_candidate 5 118 emI 0 [(0, vr v0), (1, vi v1), (2, vi v2)] [] h _
  unfold Bat_candidate
  refine Sd_aload_n (pc' := 1) (dc D_Bat_candidate 0 rfl) rfl 0 rfl rfl ?_
  refine Sd_getR (pc' := 4) (dc D_Bat_candidate 1 rfl) rfl F_Bat_58 rfl rfl ?_
  refine Sd_aload_n (pc' := 5) (dc D_Bat_candidate 2 rfl) rfl 0 rfl rfl ?_
  refine Sd_getR (pc' := 8) (dc D_Bat_candidate 3 rfl) rfl F_Bat_24 rfl rfl ?_
  refine Sd_aload_n (pc' := 9) (dc D_Bat_candidate 4 rfl) rfl 0 rfl rfl ?_
  refine Sd_getI (pc' := 12) (dc D_Bat_candidate 5 rfl) rfl F_Bat_105 rfl rfl ?_
  refine Sd_aload_n (pc' := 13) (dc D_Bat_candidate 6 rfl) rfl 0 rfl rfl ?_
  refine Sd_getR (pc' := 16) (dc D_Bat_candidate 7 rfl) rfl F_Bat_31 rfl rfl ?_
  refine Sd_getR (pc' := 19) (dc D_Bat_candidate 8 rfl) rfl F_Bat_116 rfl rfl ?_
  refine Sd.callVV (ci := 0) (t := 1) (as := [_, _, _]) RX0 (pc' := 22) (dc D_Bat_candidate 9 rfl) rfl rfl rfl rfl K_Cho_collect L_Bat_167 Ks_Cho_collect Kv_Cho_collect ⟨by decide, by decide⟩ rfl rfl (Nat.le_of_ble_eq_true rfl) (s_Cho_collect _ _ _ _ _) (fun _ h6 => ?_)
  refine Sd_aload_n (pc' := 23) (dc D_Bat_candidate 10 rfl) rfl 0 rfl rfl ?_
  refine Sd_getR (pc' := 26) (dc D_Bat_candidate 11 rfl) rfl F_Bat_58 rfl rfl ?_
  refine Sd_iload_n (pc' := 27) (dc D_Bat_candidate 12 rfl) rfl 1 rfl rfl ?_
  refine Sd.callVI (ci := 0) (t := 1) (as := [_]) RX0 (pc' := 30) (dc D_Bat_candidate 13 rfl) rfl rfl rfl rfl K_Cho_has L_Bat_172 Ks_Cho_has Kv_Cho_has ⟨by decide, by decide⟩ rfl rfl (Nat.le_of_ble_eq_true rfl) (s_Cho_has _ _ _) (fun x11 h10 => ?_)
  refine Sd_if_eq (tgt := 43) (pc' := 33) (dc D_Bat_candidate 14 rfl) (by decide) rfl (fun _ => ?_) (fun _ => ?_)
  · refine Sd_bipush (pc' := 45) (dc D_Bat_candidate 20 rfl) rfl ⟨by decide, by decide⟩ (by decide) ?_
    exact Sd_iret (dc D_Bat_candidate 21 rfl) rfl
  · refine Sd_iload_n (pc' := 34) (dc D_Bat_candidate 15 rfl) rfl 2 rfl rfl ?_
    refine Sd_if_lt (tgt := 43) (pc' := 37) (dc D_Bat_candidate 16 rfl) (by decide) rfl (fun _ => ?_) (fun _ => ?_)
    · refine Sd_bipush (pc' := 45) (dc D_Bat_candidate 20 rfl) rfl ⟨by decide, by decide⟩ (by decide) ?_
      exact Sd_iret (dc D_Bat_candidate 21 rfl) rfl
    · refine Sd_iload_n (pc' := 38) (dc D_Bat_candidate 17 rfl) rfl 2 rfl rfl ?_
      refine Sd_bipush (pc' := 40) (dc D_Bat_candidate 18 rfl) rfl ⟨by decide, by decide⟩ (by decide) ?_
      refine Sd_icmp_le (tgt := 46) (pc' := 43) (dc D_Bat_candidate 19 rfl) (by decide) rfl (fun _ => ?_) (fun _ => ?_)
      · refine Sd_aload_n (pc' := 47) (dc D_Bat_candidate 22 rfl) rfl 0 rfl rfl ?_
        refine Sd_getR (pc' := 50) (dc D_Bat_candidate 23 rfl) rfl F_Bat_58 rfl rfl ?_
        refine Sd_getR (pc' := 53) (dc D_Bat_candidate 24 rfl) rfl F_Bat_175 rfl rfl ?_
        refine Sd_iload_n (pc' := 54) (dc D_Bat_candidate 25 rfl) rfl 1 rfl rfl ?_
        refine Sd_aaload (t := 36) (j := 8) (C0 := RX3) (pc' := 55) (dc D_Bat_candidate 26 rfl) rfl rfl (by decide) ?_
        refine Sd_astore_n (pc' := 56) (l' := [(3, _), (0, _), (1, _), (2, _)]) (dc D_Bat_candidate 27 rfl) rfl rfl (by decide) rfl (fun _ => ?_)
        refine Sd_iload_n (pc' := 57) (dc D_Bat_candidate 28 rfl) rfl 3 rfl rfl ?_
        refine Sd_bipush (pc' := 59) (dc D_Bat_candidate 29 rfl) rfl ⟨by decide, by decide⟩ (by decide) ?_
        refine Sd_icmp_ge (tgt := 69) (pc' := 62) (dc D_Bat_candidate 30 rfl) (by decide) rfl (fun _ => ?_) (fun _ => ?_)
        · refine Sd_iload_n (pc' := 70) (dc D_Bat_candidate 36 rfl) rfl 3 rfl rfl ?_
          refine Sd_bipush (pc' := 72) (dc D_Bat_candidate 37 rfl) rfl ⟨by decide, by decide⟩ (by decide) ?_
          refine Sd_icmp_ne (tgt := 89) (pc' := 75) (dc D_Bat_candidate 38 rfl) (by decide) rfl (fun _ => ?_) (fun _ => ?_)
          · refine Sd_aload_n (pc' := 90) (dc D_Bat_candidate 45 rfl) rfl 0 rfl rfl ?_
            refine Sd_aload_n (pc' := 91) (dc D_Bat_candidate 46 rfl) rfl 1 rfl rfl ?_
            refine Sd_getR (pc' := 94) (dc D_Bat_candidate 47 rfl) rfl F_Bat_31 rfl rfl ?_
            refine Sd_getR (pc' := 97) (dc D_Bat_candidate 48 rfl) rfl F_Bat_116 rfl rfl ?_
            refine Sd.callVI (ci := 3) (t := 4) (as := [_]) RX3 (pc' := 100) (dc D_Bat_candidate 49 rfl) rfl rfl rfl rfl K_Par_makeIn L_Bat_180 Ks_Par_makeIn Kv_Par_makeIn ⟨by decide, by decide⟩ rfl rfl (Nat.le_of_ble_eq_true rfl) (s_Par_makeIn _ _ _) (fun x19 h18 => ?_)
            exact Sd_iret (dc D_Bat_candidate 50 rfl) rfl
          · refine Sd_aload_n (pc' := 76) (dc D_Bat_candidate 39 rfl) rfl 0 rfl rfl ?_
            refine Sd_aload_n (pc' := 77) (dc D_Bat_candidate 40 rfl) rfl 1 rfl rfl ?_
            refine Sd_getR (pc' := 80) (dc D_Bat_candidate 41 rfl) rfl F_Bat_31 rfl rfl ?_
            refine Sd_getR (pc' := 83) (dc D_Bat_candidate 42 rfl) rfl F_Bat_116 rfl rfl ?_
            refine Sd.callVI (ci := 3) (t := 4) (as := [_]) RX3 (pc' := 86) (dc D_Bat_candidate 43 rfl) rfl rfl rfl rfl K_Par_rowsIn L_Bat_149 Ks_Par_rowsIn Kv_Par_rowsIn ⟨by decide, by decide⟩ rfl rfl (Nat.le_of_ble_eq_true rfl) (s_Par_rowsIn _ _ _) (fun x24 h23 => ?_)
            refine Sd_goto (tgt := 100) (dc D_Bat_candidate 44 rfl) (by decide) ?_
            exact Sd_iret (dc D_Bat_candidate 50 rfl) rfl
        · refine Sd_aload_n (pc' := 63) (dc D_Bat_candidate 31 rfl) rfl 0 rfl rfl ?_
          refine Sd_getR (pc' := 66) (dc D_Bat_candidate 32 rfl) rfl F_Bat_179 rfl rfl ?_
          refine Sd_iload_n (pc' := 67) (dc D_Bat_candidate 33 rfl) rfl 3 rfl rfl ?_
          refine Sd_iaload (pc' := 68) (dc D_Bat_candidate 34 rfl) rfl ?_
          exact Sd_iret (dc D_Bat_candidate 35 rfl) rfl
      · refine Sd_bipush (pc' := 45) (dc D_Bat_candidate 20 rfl) rfl ⟨by decide, by decide⟩ (by decide) ?_
        exact Sd_iret (dc D_Bat_candidate 21 rfl) rfl
theorem K_Bat_candidate : MOk M_Bat_candidate 2 := ⟨Tb_at 121 (by decide +kernel) rfl, Tb_at 912 (by decide +kernel) rfl, by decide +kernel, by decide +kernel, by decide +kernel⟩
theorem Ks_Bat_candidate : Cond.instanceMethod yX11_candidate ∈ Tb := Tb_at 910 (by decide +kernel) rfl
theorem Kv_Bat_candidate : Cond.selects RX11 yX11_candidate yX11_candidate ∈ Tb := Tb_at 911 (by decide +kernel) rfl
/-! ===== BatchShare.lookAtChoices()V ===== -/
abbrev M_Bat_lookAtChoices : AMt := (yX11_lookAtChoices, cX11_lookAtChoices, 1, none)
def T_Bat_lookAtChoices : List (Nat × Instr × Nat) := [(0, .aload_n 0, 1), (1, .getfield 58, 3), (4, .aload_n 0, 1), (5, .getfield 24, 3), (8, .aload_n 0, 1), (9, .getfield 105, 3), (12, .aload_n 0, 1), (13, .getfield 31, 3), (16, .getfield 116, 3), (19, .invokevirtual 167, 3), (22, .aload_n 0, 1), (23, .getfield 58, 3), (26, .aload_n 0, 1), (27, .getfield 31, 3), (30, .getfield 116, 3), (33, .invokevirtual 359, 3), (36, .aload_n 0, 1), (37, .getfield 51, 3), (40, .aload_n 0, 1), (41, .getfield 31, 3), (44, .getfield 116, 3), (47, .aload_n 0, 1), (48, .getfield 105, 3), (51, .invokevirtual 159, 3), (54, .return_, 1)]
set_option maxRecDepth 20000 in
theorem D_Bat_lookAtChoices : (T_Bat_lookAtChoices.all fun q => decide (decode M_Bat_lookAtChoices.2.1 q.1 = .ok q.2)) = true := by decide +kernel
def Bat_lookAtChoices (v0 : Nat) (h : AH) : Option (Unit × AH) := gR h 12 v0 9 fun r1 => gR h 12 v0 3 fun r2 => gI h 12 v0 4 fun x3 => gR h 12 v0 5 fun r4 => gR h 11 r4 0 fun r5 => rc h 1 r1 <| bnd (Cho_collect r1 r2 x3 r5 h) fun _ h6 => gR h6 12 v0 9 fun r9 => gR h6 12 v0 5 fun r10 => gR h6 11 r10 0 fun r11 => rc h6 1 r9 <| bnd (Cho_measure r9 r11 h6) fun _ h12 => gR h12 12 v0 8 fun r15 => gR h12 12 v0 5 fun r16 => gR h12 11 r16 0 fun r17 => gI h12 12 v0 4 fun x18 => rc h12 5 r15 <| bnd (Pri_look r15 r17 x18 h12) fun _ h19 => some ((), h19)
set_option maxHeartbeats 4000000 in
set_option maxRecDepth 20000 in
theorem s_Bat_lookAtChoices (v0 : Nat) (h : AH) : CS M_Bat_lookAtChoices 6 118 emV [vr v0] h (Bat_lookAtChoices v0 h) := by
  refine CS.of (by decide) (Nat.le_of_ble_eq_true rfl) ?_
  show Sd M_Bat_lookAtChoices 6 118 emV 0 [(0, vr v0)] [] h _
  unfold Bat_lookAtChoices
  refine Sd_aload_n (pc' := 1) (dc D_Bat_lookAtChoices 0 rfl) rfl 0 rfl rfl ?_
  refine Sd_getR (pc' := 4) (dc D_Bat_lookAtChoices 1 rfl) rfl F_Bat_58 rfl rfl ?_
  refine Sd_aload_n (pc' := 5) (dc D_Bat_lookAtChoices 2 rfl) rfl 0 rfl rfl ?_
  refine Sd_getR (pc' := 8) (dc D_Bat_lookAtChoices 3 rfl) rfl F_Bat_24 rfl rfl ?_
  refine Sd_aload_n (pc' := 9) (dc D_Bat_lookAtChoices 4 rfl) rfl 0 rfl rfl ?_
  refine Sd_getI (pc' := 12) (dc D_Bat_lookAtChoices 5 rfl) rfl F_Bat_105 rfl rfl ?_
  refine Sd_aload_n (pc' := 13) (dc D_Bat_lookAtChoices 6 rfl) rfl 0 rfl rfl ?_
  refine Sd_getR (pc' := 16) (dc D_Bat_lookAtChoices 7 rfl) rfl F_Bat_31 rfl rfl ?_
  refine Sd_getR (pc' := 19) (dc D_Bat_lookAtChoices 8 rfl) rfl F_Bat_116 rfl rfl ?_
  refine Sd.callVV (ci := 0) (t := 1) (as := [_, _, _]) RX0 (pc' := 22) (dc D_Bat_lookAtChoices 9 rfl) rfl rfl rfl rfl K_Cho_collect L_Bat_167 Ks_Cho_collect Kv_Cho_collect ⟨by decide, by decide⟩ rfl rfl (Nat.le_of_ble_eq_true rfl) (s_Cho_collect _ _ _ _ _) (fun _ h6 => ?_)
  refine Sd_aload_n (pc' := 23) (dc D_Bat_lookAtChoices 10 rfl) rfl 0 rfl rfl ?_
  refine Sd_getR (pc' := 26) (dc D_Bat_lookAtChoices 11 rfl) rfl F_Bat_58 rfl rfl ?_
  refine Sd_aload_n (pc' := 27) (dc D_Bat_lookAtChoices 12 rfl) rfl 0 rfl rfl ?_
  refine Sd_getR (pc' := 30) (dc D_Bat_lookAtChoices 13 rfl) rfl F_Bat_31 rfl rfl ?_
  refine Sd_getR (pc' := 33) (dc D_Bat_lookAtChoices 14 rfl) rfl F_Bat_116 rfl rfl ?_
  refine Sd.callVV (ci := 0) (t := 1) (as := [_]) RX0 (pc' := 36) (dc D_Bat_lookAtChoices 15 rfl) rfl rfl rfl rfl K_Cho_measure L_Bat_359 Ks_Cho_measure Kv_Cho_measure ⟨by decide, by decide⟩ rfl rfl (Nat.le_of_ble_eq_true rfl) (s_Cho_measure _ _ _) (fun _ h12 => ?_)
  refine Sd_aload_n (pc' := 37) (dc D_Bat_lookAtChoices 16 rfl) rfl 0 rfl rfl ?_
  refine Sd_getR (pc' := 40) (dc D_Bat_lookAtChoices 17 rfl) rfl F_Bat_51 rfl rfl ?_
  refine Sd_aload_n (pc' := 41) (dc D_Bat_lookAtChoices 18 rfl) rfl 0 rfl rfl ?_
  refine Sd_getR (pc' := 44) (dc D_Bat_lookAtChoices 19 rfl) rfl F_Bat_31 rfl rfl ?_
  refine Sd_getR (pc' := 47) (dc D_Bat_lookAtChoices 20 rfl) rfl F_Bat_116 rfl rfl ?_
  refine Sd_aload_n (pc' := 48) (dc D_Bat_lookAtChoices 21 rfl) rfl 0 rfl rfl ?_
  refine Sd_getI (pc' := 51) (dc D_Bat_lookAtChoices 22 rfl) rfl F_Bat_105 rfl rfl ?_
  refine Sd.callVV (ci := 4) (t := 5) (as := [_, _]) RX4 (pc' := 54) (dc D_Bat_lookAtChoices 23 rfl) rfl rfl rfl rfl K_Pri_look L_Bat_159 Ks_Pri_look Kv_Pri_look ⟨by decide, by decide⟩ rfl rfl (Nat.le_of_ble_eq_true rfl) (s_Pri_look _ _ _ _) (fun _ h19 => ?_)
  exact Sd_vret (dc D_Bat_lookAtChoices 24 rfl) rfl
theorem K_Bat_lookAtChoices : MOk M_Bat_lookAtChoices 0 := ⟨Tb_at 121 (by decide +kernel) rfl, Tb_at 928 (by decide +kernel) rfl, by decide +kernel, by decide +kernel, by decide +kernel⟩
theorem Ks_Bat_lookAtChoices : Cond.instanceMethod yX11_lookAtChoices ∈ Tb := Tb_at 927 (by decide +kernel) rfl
theorem Kv_Bat_lookAtChoices : Cond.selects RX11 yX11_lookAtChoices yX11_lookAtChoices ∈ Tb := Tb_at 23 (by decide +kernel) rfl
/-! ===== BatchShare.gain(I)I ===== -/
abbrev M_Bat_gain : AMt := (yX11_gain, cX11_gain, 2, (some .int))
def T_Bat_gain : List (Nat × Instr × Nat) := [(0, .aload_n 0, 1), (1, .invokevirtual 183, 3), (4, .aload_n 0, 1), (5, .getfield 58, 3), (8, .iload_n 1, 1), (9, .invokevirtual 172, 3), (12, .ifCond .eq 28, 3), (15, .sipush 10000, 3), (18, .aload_n 0, 1), (19, .getfield 67, 3), (22, .iload_n 1, 1), (23, .aload_n 0, 1), (24, .getfield 31, 3), (27, .getfield 116, 3), (30, .getfield 186, 3), (33, .invokevirtual 189, 3), (36, .iadd, 1), (37, .goto 4, 3), (40, .iconst (-1), 1), (41, .ireturn, 1)]
set_option maxRecDepth 20000 in
theorem D_Bat_gain : (T_Bat_gain.all fun q => decide (decode M_Bat_gain.2.1 q.1 = .ok q.2)) = true := by decide +kernel
def Bat_gain (v0 : Nat) (v1 : Int) (h : AH) : Option (Int × AH) := rc h 12 v0 <| bnd (Bat_lookAtChoices v0 h) fun _ h1 => gR h1 12 v0 9 fun r4 => rc h1 1 r4 <| bnd (Cho_has r4 v1 h1) fun x6 h5 => if (x6 : Int) = 0 then (some ((-1), h5)) else (gR h5 12 v0 10 fun r8 => gR h5 12 v0 5 fun r9 => gR h5 11 r9 0 fun r10 => gR h5 9 r10 1 fun r11 => rc h5 2 r8 <| bnd (Chr_gainBesides r8 v1 r11 h5) fun x13 h12 => some ((wr (10000 + x13)), h12))
set_option maxHeartbeats 4000000 in
set_option maxRecDepth 20000 in
theorem s_Bat_gain (v0 : Nat) (v1 : Int) (h : AH) : CS M_Bat_gain 7 143 emI [vr v0, vi v1] h (Bat_gain v0 v1 h) := by
  refine CS.of (by decide) (Nat.le_of_ble_eq_true rfl) ?_
  show Sd M_Bat_gain 7 143 emI 0 [(0, vr v0), (1, vi v1)] [] h _
  unfold Bat_gain
  refine Sd_aload_n (pc' := 1) (dc D_Bat_gain 0 rfl) rfl 0 rfl rfl ?_
  refine Sd.callVV (ci := 11) (t := 12) (as := []) RX11 (pc' := 4) (dc D_Bat_gain 1 rfl) rfl rfl rfl rfl K_Bat_lookAtChoices L_Bat_183 Ks_Bat_lookAtChoices Kv_Bat_lookAtChoices ⟨by decide, by decide⟩ rfl rfl (Nat.le_of_ble_eq_true rfl) (s_Bat_lookAtChoices _ _) (fun _ h1 => ?_)
  refine Sd_aload_n (pc' := 5) (dc D_Bat_gain 2 rfl) rfl 0 rfl rfl ?_
  refine Sd_getR (pc' := 8) (dc D_Bat_gain 3 rfl) rfl F_Bat_58 rfl rfl ?_
  refine Sd_iload_n (pc' := 9) (dc D_Bat_gain 4 rfl) rfl 1 rfl rfl ?_
  refine Sd.callVI (ci := 0) (t := 1) (as := [_]) RX0 (pc' := 12) (dc D_Bat_gain 5 rfl) rfl rfl rfl rfl K_Cho_has L_Bat_172 Ks_Cho_has Kv_Cho_has ⟨by decide, by decide⟩ rfl rfl (Nat.le_of_ble_eq_true rfl) (s_Cho_has _ _ _) (fun x6 h5 => ?_)
  refine Sd_if_eq (tgt := 40) (pc' := 15) (dc D_Bat_gain 6 rfl) (by decide) rfl (fun _ => ?_) (fun _ => ?_)
  · refine Sd_iconst (pc' := 41) (dc D_Bat_gain 18 rfl) rfl ⟨by decide, by decide⟩ ?_
    exact Sd_iret (dc D_Bat_gain 19 rfl) rfl
  · refine Sd_sipush (pc' := 18) (dc D_Bat_gain 7 rfl) rfl ⟨by decide, by decide⟩ (by decide) ?_
    refine Sd_aload_n (pc' := 19) (dc D_Bat_gain 8 rfl) rfl 0 rfl rfl ?_
    refine Sd_getR (pc' := 22) (dc D_Bat_gain 9 rfl) rfl F_Bat_67 rfl rfl ?_
    refine Sd_iload_n (pc' := 23) (dc D_Bat_gain 10 rfl) rfl 1 rfl rfl ?_
    refine Sd_aload_n (pc' := 24) (dc D_Bat_gain 11 rfl) rfl 0 rfl rfl ?_
    refine Sd_getR (pc' := 27) (dc D_Bat_gain 12 rfl) rfl F_Bat_31 rfl rfl ?_
    refine Sd_getR (pc' := 30) (dc D_Bat_gain 13 rfl) rfl F_Bat_116 rfl rfl ?_
    refine Sd_getR (pc' := 33) (dc D_Bat_gain 14 rfl) rfl F_Bat_186 rfl rfl ?_
    refine Sd.callVI (ci := 1) (t := 2) (as := [_, _]) RX1 (pc' := 36) (dc D_Bat_gain 15 rfl) rfl rfl rfl rfl K_Chr_gainBesides L_Bat_189 Ks_Chr_gainBesides Kv_Chr_gainBesides ⟨by decide, by decide⟩ rfl rfl (Nat.le_of_ble_eq_true rfl) (s_Chr_gainBesides _ _ _ _) (fun x13 h12 => ?_)
    refine Sd_iadd (pc' := 37) (dc D_Bat_gain 16 rfl) rfl ?_
    refine Sd_goto (tgt := 41) (dc D_Bat_gain 17 rfl) (by decide) ?_
    exact Sd_iret (dc D_Bat_gain 19 rfl) rfl
theorem K_Bat_gain : MOk M_Bat_gain 1 := ⟨Tb_at 121 (by decide +kernel) rfl, Tb_at 924 (by decide +kernel) rfl, by decide +kernel, by decide +kernel, by decide +kernel⟩
theorem Ks_Bat_gain : Cond.instanceMethod yX11_gain ∈ Tb := Tb_at 922 (by decide +kernel) rfl
theorem Kv_Bat_gain : Cond.selects RX11 yX11_gain yX11_gain ∈ Tb := Tb_at 923 (by decide +kernel) rfl
/-! ===== BatchShare.greedy(I)I ===== -/
abbrev M_Bat_greedy : AMt := (yX11_greedy, cX11_greedy, 2, (some .int))
def T_Bat_greedy : List (Nat × Instr × Nat) := [(0, .iload_n 1, 1), (1, .ifCond .lt 9, 3), (4, .iload_n 1, 1), (5, .bipush 7, 2), (7, .if_icmp .le 6, 3), (10, .bipush (-2), 2), (12, .ireturn, 1), (13, .aload_n 0, 1), (14, .invokevirtual 183, 3), (17, .aload_n 0, 1), (18, .getfield 67, 3), (21, .aload_n 0, 1), (22, .getfield 31, 3), (25, .getfield 116, 3), (28, .getfield 192, 3), (31, .invokevirtual 195, 3), (34, .iload_n 1, 1), (35, .ifCond .ne 11, 3), (38, .aload_n 0, 1), (39, .getfield 67, 3), (42, .getfield 198, 3), (45, .ireturn, 1), (46, .iload_n 1, 1), (47, .iconst 1, 1), (48, .if_icmp .ne 13, 3), (51, .aload_n 0, 1), (52, .getfield 67, 3), (55, .getfield 201, 3), (58, .goto 14, 3), (61, .aload_n 0, 1), (62, .getfield 67, 3), (65, .getfield 204, 3), (68, .iload_n 1, 1), (69, .iconst 2, 1), (70, .isub, 1), (71, .iaload, 1), (72, .ireturn, 1)]
set_option maxRecDepth 20000 in
theorem D_Bat_greedy : (T_Bat_greedy.all fun q => decide (decode M_Bat_greedy.2.1 q.1 = .ok q.2)) = true := by decide +kernel
def Bat_greedy (v0 : Nat) (v1 : Int) (h : AH) : Option (Int × AH) := if (v1 : Int) < 0 then (some ((-2), h)) else (if (v1 : Int) ≤ 7 then (rc h 12 v0 <| bnd (Bat_lookAtChoices v0 h) fun _ h1 => gR h1 12 v0 10 fun r4 => gR h1 12 v0 5 fun r5 => gR h1 11 r5 0 fun r6 => gI h1 9 r6 3 fun x7 => rc h1 2 r4 <| bnd (Chr_takeGreedily r4 x7 h1) fun _ h8 => if ¬ (v1 : Int) = 0 then (if ¬ (v1 : Int) = 1 then (gR h8 12 v0 10 fun r11 => gR h8 2 r11 4 fun r12 => aI h8 21 r12 (wr (v1 - 2)) fun x13 => some (x13, h8)) else (gR h8 12 v0 10 fun r14 => gI h8 2 r14 6 fun x15 => some (x15, h8))) else (gR h8 12 v0 10 fun r16 => gI h8 2 r16 5 fun x17 => some (x17, h8))) else (some ((-2), h)))
set_option maxHeartbeats 4000000 in
set_option maxRecDepth 20000 in
theorem s_Bat_greedy (v0 : Nat) (v1 : Int) (h : AH) : CS M_Bat_greedy 8 172 emI [vr v0, vi v1] h (Bat_greedy v0 v1 h) := by
  refine CS.of (by decide) (Nat.le_of_ble_eq_true rfl) ?_
  show Sd M_Bat_greedy 8 172 emI 0 [(0, vr v0), (1, vi v1)] [] h _
  unfold Bat_greedy
  refine Sd_iload_n (pc' := 1) (dc D_Bat_greedy 0 rfl) rfl 1 rfl rfl ?_
  refine Sd_if_lt (tgt := 10) (pc' := 4) (dc D_Bat_greedy 1 rfl) (by decide) rfl (fun _ => ?_) (fun _ => ?_)
  · refine Sd_bipush (pc' := 12) (dc D_Bat_greedy 5 rfl) rfl ⟨by decide, by decide⟩ (by decide) ?_
    exact Sd_iret (dc D_Bat_greedy 6 rfl) rfl
  · refine Sd_iload_n (pc' := 5) (dc D_Bat_greedy 2 rfl) rfl 1 rfl rfl ?_
    refine Sd_bipush (pc' := 7) (dc D_Bat_greedy 3 rfl) rfl ⟨by decide, by decide⟩ (by decide) ?_
    refine Sd_icmp_le (tgt := 13) (pc' := 10) (dc D_Bat_greedy 4 rfl) (by decide) rfl (fun _ => ?_) (fun _ => ?_)
    · refine Sd_aload_n (pc' := 14) (dc D_Bat_greedy 7 rfl) rfl 0 rfl rfl ?_
      refine Sd.callVV (ci := 11) (t := 12) (as := []) RX11 (pc' := 17) (dc D_Bat_greedy 8 rfl) rfl rfl rfl rfl K_Bat_lookAtChoices L_Bat_183 Ks_Bat_lookAtChoices Kv_Bat_lookAtChoices ⟨by decide, by decide⟩ rfl rfl (Nat.le_of_ble_eq_true rfl) (s_Bat_lookAtChoices _ _) (fun _ h1 => ?_)
      refine Sd_aload_n (pc' := 18) (dc D_Bat_greedy 9 rfl) rfl 0 rfl rfl ?_
      refine Sd_getR (pc' := 21) (dc D_Bat_greedy 10 rfl) rfl F_Bat_67 rfl rfl ?_
      refine Sd_aload_n (pc' := 22) (dc D_Bat_greedy 11 rfl) rfl 0 rfl rfl ?_
      refine Sd_getR (pc' := 25) (dc D_Bat_greedy 12 rfl) rfl F_Bat_31 rfl rfl ?_
      refine Sd_getR (pc' := 28) (dc D_Bat_greedy 13 rfl) rfl F_Bat_116 rfl rfl ?_
      refine Sd_getI (pc' := 31) (dc D_Bat_greedy 14 rfl) rfl F_Bat_192 rfl rfl ?_
      refine Sd.callVV (ci := 1) (t := 2) (as := [_]) RX1 (pc' := 34) (dc D_Bat_greedy 15 rfl) rfl rfl rfl rfl K_Chr_takeGreedily L_Bat_195 Ks_Chr_takeGreedily Kv_Chr_takeGreedily ⟨by decide, by decide⟩ rfl rfl (Nat.le_of_ble_eq_true rfl) (s_Chr_takeGreedily _ _ _) (fun _ h8 => ?_)
      refine Sd_iload_n (pc' := 35) (dc D_Bat_greedy 16 rfl) rfl 1 rfl rfl ?_
      refine Sd_if_ne (tgt := 46) (pc' := 38) (dc D_Bat_greedy 17 rfl) (by decide) rfl (fun _ => ?_) (fun _ => ?_)
      · refine Sd_iload_n (pc' := 47) (dc D_Bat_greedy 22 rfl) rfl 1 rfl rfl ?_
        refine Sd_iconst (pc' := 48) (dc D_Bat_greedy 23 rfl) rfl ⟨by decide, by decide⟩ ?_
        refine Sd_icmp_ne (tgt := 61) (pc' := 51) (dc D_Bat_greedy 24 rfl) (by decide) rfl (fun _ => ?_) (fun _ => ?_)
        · refine Sd_aload_n (pc' := 62) (dc D_Bat_greedy 29 rfl) rfl 0 rfl rfl ?_
          refine Sd_getR (pc' := 65) (dc D_Bat_greedy 30 rfl) rfl F_Bat_67 rfl rfl ?_
          refine Sd_getR (pc' := 68) (dc D_Bat_greedy 31 rfl) rfl F_Bat_204 rfl rfl ?_
          refine Sd_iload_n (pc' := 69) (dc D_Bat_greedy 32 rfl) rfl 1 rfl rfl ?_
          refine Sd_iconst (pc' := 70) (dc D_Bat_greedy 33 rfl) rfl ⟨by decide, by decide⟩ ?_
          refine Sd_isub (pc' := 71) (dc D_Bat_greedy 34 rfl) rfl ?_
          refine Sd_iaload (pc' := 72) (dc D_Bat_greedy 35 rfl) rfl ?_
          exact Sd_iret (dc D_Bat_greedy 36 rfl) rfl
        · refine Sd_aload_n (pc' := 52) (dc D_Bat_greedy 25 rfl) rfl 0 rfl rfl ?_
          refine Sd_getR (pc' := 55) (dc D_Bat_greedy 26 rfl) rfl F_Bat_67 rfl rfl ?_
          refine Sd_getI (pc' := 58) (dc D_Bat_greedy 27 rfl) rfl F_Bat_201 rfl rfl ?_
          refine Sd_goto (tgt := 72) (dc D_Bat_greedy 28 rfl) (by decide) ?_
          exact Sd_iret (dc D_Bat_greedy 36 rfl) rfl
      · refine Sd_aload_n (pc' := 39) (dc D_Bat_greedy 18 rfl) rfl 0 rfl rfl ?_
        refine Sd_getR (pc' := 42) (dc D_Bat_greedy 19 rfl) rfl F_Bat_67 rfl rfl ?_
        refine Sd_getI (pc' := 45) (dc D_Bat_greedy 20 rfl) rfl F_Bat_198 rfl rfl ?_
        exact Sd_iret (dc D_Bat_greedy 21 rfl) rfl
    · refine Sd_bipush (pc' := 12) (dc D_Bat_greedy 5 rfl) rfl ⟨by decide, by decide⟩ (by decide) ?_
      exact Sd_iret (dc D_Bat_greedy 6 rfl) rfl
theorem K_Bat_greedy : MOk M_Bat_greedy 1 := ⟨Tb_at 121 (by decide +kernel) rfl, Tb_at 965 (by decide +kernel) rfl, by decide +kernel, by decide +kernel, by decide +kernel⟩
theorem Ks_Bat_greedy : Cond.instanceMethod yX11_greedy ∈ Tb := Tb_at 963 (by decide +kernel) rfl
theorem Kv_Bat_greedy : Cond.selects RX11 yX11_greedy yX11_greedy ∈ Tb := Tb_at 964 (by decide +kernel) rfl
/-! ===== BatchShare.best(I)I ===== -/
abbrev M_Bat_best : AMt := (yX11_best, cX11_best, 2, (some .int))
def T_Bat_best : List (Nat × Instr × Nat) := [(0, .iload_n 1, 1), (1, .ifCond .lt 8, 3), (4, .iload_n 1, 1), (5, .iconst 2, 1), (6, .if_icmp .le 6, 3), (9, .bipush (-2), 2), (11, .ireturn, 1), (12, .aload_n 0, 1), (13, .invokevirtual 183, 3), (16, .aload_n 0, 1), (17, .getfield 67, 3), (20, .aload_n 0, 1), (21, .getfield 31, 3), (24, .getfield 116, 3), (27, .getfield 192, 3), (30, .invokevirtual 207, 3), (33, .iload_n 1, 1), (34, .ifCond .ne 13, 3), (37, .aload_n 0, 1), (38, .getfield 67, 3), (41, .getfield 201, 3), (44, .goto 14, 3), (47, .aload_n 0, 1), (48, .getfield 67, 3), (51, .getfield 204, 3), (54, .iload_n 1, 1), (55, .iconst 1, 1), (56, .isub, 1), (57, .iaload, 1), (58, .ireturn, 1)]
set_option maxRecDepth 20000 in
theorem D_Bat_best : (T_Bat_best.all fun q => decide (decode M_Bat_best.2.1 q.1 = .ok q.2)) = true := by decide +kernel
def Bat_best (v0 : Nat) (v1 : Int) (h : AH) : Option (Int × AH) := if (v1 : Int) < 0 then (some ((-2), h)) else (if (v1 : Int) ≤ 2 then (rc h 12 v0 <| bnd (Bat_lookAtChoices v0 h) fun _ h1 => gR h1 12 v0 10 fun r4 => gR h1 12 v0 5 fun r5 => gR h1 11 r5 0 fun r6 => gI h1 9 r6 3 fun x7 => rc h1 2 r4 <| bnd (Chr_takeBest r4 x7 h1) fun _ h8 => if ¬ (v1 : Int) = 0 then (gR h8 12 v0 10 fun r11 => gR h8 2 r11 4 fun r12 => aI h8 21 r12 (wr (v1 - 1)) fun x13 => some (x13, h8)) else (gR h8 12 v0 10 fun r14 => gI h8 2 r14 6 fun x15 => some (x15, h8))) else (some ((-2), h)))
set_option maxHeartbeats 4000000 in
set_option maxRecDepth 20000 in
theorem s_Bat_best (v0 : Nat) (v1 : Int) (h : AH) : CS M_Bat_best 8 169 emI [vr v0, vi v1] h (Bat_best v0 v1 h) := by
  refine CS.of (by decide) (Nat.le_of_ble_eq_true rfl) ?_
  show Sd M_Bat_best 8 169 emI 0 [(0, vr v0), (1, vi v1)] [] h _
  unfold Bat_best
  refine Sd_iload_n (pc' := 1) (dc D_Bat_best 0 rfl) rfl 1 rfl rfl ?_
  refine Sd_if_lt (tgt := 9) (pc' := 4) (dc D_Bat_best 1 rfl) (by decide) rfl (fun _ => ?_) (fun _ => ?_)
  · refine Sd_bipush (pc' := 11) (dc D_Bat_best 5 rfl) rfl ⟨by decide, by decide⟩ (by decide) ?_
    exact Sd_iret (dc D_Bat_best 6 rfl) rfl
  · refine Sd_iload_n (pc' := 5) (dc D_Bat_best 2 rfl) rfl 1 rfl rfl ?_
    refine Sd_iconst (pc' := 6) (dc D_Bat_best 3 rfl) rfl ⟨by decide, by decide⟩ ?_
    refine Sd_icmp_le (tgt := 12) (pc' := 9) (dc D_Bat_best 4 rfl) (by decide) rfl (fun _ => ?_) (fun _ => ?_)
    · refine Sd_aload_n (pc' := 13) (dc D_Bat_best 7 rfl) rfl 0 rfl rfl ?_
      refine Sd.callVV (ci := 11) (t := 12) (as := []) RX11 (pc' := 16) (dc D_Bat_best 8 rfl) rfl rfl rfl rfl K_Bat_lookAtChoices L_Bat_183 Ks_Bat_lookAtChoices Kv_Bat_lookAtChoices ⟨by decide, by decide⟩ rfl rfl (Nat.le_of_ble_eq_true rfl) (s_Bat_lookAtChoices _ _) (fun _ h1 => ?_)
      refine Sd_aload_n (pc' := 17) (dc D_Bat_best 9 rfl) rfl 0 rfl rfl ?_
      refine Sd_getR (pc' := 20) (dc D_Bat_best 10 rfl) rfl F_Bat_67 rfl rfl ?_
      refine Sd_aload_n (pc' := 21) (dc D_Bat_best 11 rfl) rfl 0 rfl rfl ?_
      refine Sd_getR (pc' := 24) (dc D_Bat_best 12 rfl) rfl F_Bat_31 rfl rfl ?_
      refine Sd_getR (pc' := 27) (dc D_Bat_best 13 rfl) rfl F_Bat_116 rfl rfl ?_
      refine Sd_getI (pc' := 30) (dc D_Bat_best 14 rfl) rfl F_Bat_192 rfl rfl ?_
      refine Sd.callVV (ci := 1) (t := 2) (as := [_]) RX1 (pc' := 33) (dc D_Bat_best 15 rfl) rfl rfl rfl rfl K_Chr_takeBest L_Bat_207 Ks_Chr_takeBest Kv_Chr_takeBest ⟨by decide, by decide⟩ rfl rfl (Nat.le_of_ble_eq_true rfl) (s_Chr_takeBest _ _ _) (fun _ h8 => ?_)
      refine Sd_iload_n (pc' := 34) (dc D_Bat_best 16 rfl) rfl 1 rfl rfl ?_
      refine Sd_if_ne (tgt := 47) (pc' := 37) (dc D_Bat_best 17 rfl) (by decide) rfl (fun _ => ?_) (fun _ => ?_)
      · refine Sd_aload_n (pc' := 48) (dc D_Bat_best 22 rfl) rfl 0 rfl rfl ?_
        refine Sd_getR (pc' := 51) (dc D_Bat_best 23 rfl) rfl F_Bat_67 rfl rfl ?_
        refine Sd_getR (pc' := 54) (dc D_Bat_best 24 rfl) rfl F_Bat_204 rfl rfl ?_
        refine Sd_iload_n (pc' := 55) (dc D_Bat_best 25 rfl) rfl 1 rfl rfl ?_
        refine Sd_iconst (pc' := 56) (dc D_Bat_best 26 rfl) rfl ⟨by decide, by decide⟩ ?_
        refine Sd_isub (pc' := 57) (dc D_Bat_best 27 rfl) rfl ?_
        refine Sd_iaload (pc' := 58) (dc D_Bat_best 28 rfl) rfl ?_
        exact Sd_iret (dc D_Bat_best 29 rfl) rfl
      · refine Sd_aload_n (pc' := 38) (dc D_Bat_best 18 rfl) rfl 0 rfl rfl ?_
        refine Sd_getR (pc' := 41) (dc D_Bat_best 19 rfl) rfl F_Bat_67 rfl rfl ?_
        refine Sd_getI (pc' := 44) (dc D_Bat_best 20 rfl) rfl F_Bat_201 rfl rfl ?_
        refine Sd_goto (tgt := 58) (dc D_Bat_best 21 rfl) (by decide) ?_
        exact Sd_iret (dc D_Bat_best 29 rfl) rfl
    · refine Sd_bipush (pc' := 11) (dc D_Bat_best 5 rfl) rfl ⟨by decide, by decide⟩ (by decide) ?_
      exact Sd_iret (dc D_Bat_best 6 rfl) rfl
theorem K_Bat_best : MOk M_Bat_best 1 := ⟨Tb_at 121 (by decide +kernel) rfl, Tb_at 983 (by decide +kernel) rfl, by decide +kernel, by decide +kernel, by decide +kernel⟩
theorem Ks_Bat_best : Cond.instanceMethod yX11_best ∈ Tb := Tb_at 981 (by decide +kernel) rfl
theorem Kv_Bat_best : Cond.selects RX11 yX11_best yX11_best ∈ Tb := Tb_at 982 (by decide +kernel) rfl
/-! ===== BatchShare.isNumber(I)Z ===== -/
abbrev M_Bat_isNumber : AMt := (yX11_isNumber, cX11_isNumber, 1, (some .boolean))
def T_Bat_isNumber : List (Nat × Instr × Nat) := [(0, .iload_n 0, 1), (1, .ifCond .lt 13, 3), (4, .iload_n 0, 1), (5, .bipush 9, 2), (7, .if_icmp .gt 7, 3), (10, .iconst 1, 1), (11, .goto 4, 3), (14, .iconst 0, 1), (15, .ireturn, 1)]
set_option maxRecDepth 20000 in
theorem D_Bat_isNumber : (T_Bat_isNumber.all fun q => decide (decode M_Bat_isNumber.2.1 q.1 = .ok q.2)) = true := by decide +kernel
def Bat_isNumber (v0 : Int) (h : AH) : Option (Int × AH) := if (v0 : Int) < 0 then (some (0, h)) else (if (9 : Int) < v0 then (some (0, h)) else (some (1, h)))
set_option maxHeartbeats 4000000 in
set_option maxRecDepth 20000 in
theorem s_Bat_isNumber (v0 : Int) (h : AH) : CS M_Bat_isNumber 1 0 emI [vi v0] h (Bat_isNumber v0 h) := by
  refine CS.of (by decide) (Nat.le_of_ble_eq_true rfl) ?_
  show Sd M_Bat_isNumber 1 0 emI 0 [(0, vi v0)] [] h _
  unfold Bat_isNumber
  refine Sd_iload_n (pc' := 1) (dc D_Bat_isNumber 0 rfl) rfl 0 rfl rfl ?_
  refine Sd_if_lt (tgt := 14) (pc' := 4) (dc D_Bat_isNumber 1 rfl) (by decide) rfl (fun _ => ?_) (fun _ => ?_)
  · refine Sd_iconst (pc' := 15) (dc D_Bat_isNumber 7 rfl) rfl ⟨by decide, by decide⟩ ?_
    exact Sd_zret (dc D_Bat_isNumber 8 rfl) rfl (Or.inl rfl)
  · refine Sd_iload_n (pc' := 5) (dc D_Bat_isNumber 2 rfl) rfl 0 rfl rfl ?_
    refine Sd_bipush (pc' := 7) (dc D_Bat_isNumber 3 rfl) rfl ⟨by decide, by decide⟩ (by decide) ?_
    refine Sd_icmp_gt (tgt := 14) (pc' := 10) (dc D_Bat_isNumber 4 rfl) (by decide) rfl (fun _ => ?_) (fun _ => ?_)
    · refine Sd_iconst (pc' := 15) (dc D_Bat_isNumber 7 rfl) rfl ⟨by decide, by decide⟩ ?_
      exact Sd_zret (dc D_Bat_isNumber 8 rfl) rfl (Or.inl rfl)
    · refine Sd_iconst (pc' := 11) (dc D_Bat_isNumber 5 rfl) rfl ⟨by decide, by decide⟩ ?_
      refine Sd_goto (tgt := 15) (dc D_Bat_isNumber 6 rfl) (by decide) ?_
      exact Sd_zret (dc D_Bat_isNumber 8 rfl) rfl (Or.inr rfl)
theorem K_Bat_isNumber : MOk M_Bat_isNumber 1 := ⟨Tb_at 121 (by decide +kernel) rfl, Tb_at 998 (by decide +kernel) rfl, by decide +kernel, by decide +kernel, by decide +kernel⟩
theorem Ks_Bat_isNumber : Cond.static yX11_isNumber ∈ Tb := Tb_at 997 (by decide +kernel) rfl
/-! ===== BatchShare.put(IIII)I ===== -/
abbrev M_Bat_put : AMt := (yX11_put, cX11_put, 6, (some .int))
def T_Bat_put : List (Nat × Instr × Nat) := [(0, .aload_n 0, 1), (1, .getfield 31, 3), (4, .getfield 116, 3), (7, .astore 5, 2), (9, .aload 5, 2), (11, .getfield 210, 3), (14, .ifCond .eq 24, 3), (17, .iload_n 1, 1), (18, .invokestatic 213, 3), (21, .ifCond .eq 17, 3), (24, .iload_n 2, 1), (25, .invokestatic 216, 3), (28, .ifCond .eq 10, 3), (31, .iload_n 3, 1), (32, .invokestatic 216, 3), (35, .ifCond .ne 5, 3), (38, .iconst (-1), 1), (39, .ireturn, 1), (40, .iload_n 1, 1), (41, .ifCond .ne 11, 3), (44, .iload 4, 2), (46, .invokestatic 216, 3), (49, .ifCond .eq 16, 3), (52, .aload 5, 2), (54, .getfield 96, 3), (57, .iload_n 1, 1), (58, .aaload, 1), (59, .invokevirtual 219, 3), (62, .ifCond .eq 5, 3), (65, .iconst (-1), 1), (66, .ireturn, 1), (67, .aload_n 0, 1), (68, .getfield 31, 3), (71, .invokevirtual 223, 3), (74, .aload 5, 2), (76, .getfield 96, 3), (79, .iload_n 1, 1), (80, .aaload, 1), (81, .iload_n 2, 1), (82, .iload_n 3, 1), (83, .iload 4, 2), (85, .invokevirtual 226, 3), (88, .aload 5, 2), (90, .getfield 186, 3), (93, .iload_n 1, 1), (94, .aload 5, 2), (96, .getfield 96, 3), (99, .iload_n 1, 1), (100, .aaload, 1), (101, .aload 5, 2), (103, .getfield 96, 3), (106, .iload_n 1, 1), (107, .aaload, 1), (108, .getfield 100, 3), (111, .iconst 1, 1), (112, .isub, 1), (113, .invokevirtual 230, 3), (116, .aload 5, 2), (118, .getfield 96, 3), (121, .iload_n 1, 1), (122, .aaload, 1), (123, .getfield 100, 3), (126, .ireturn, 1)]
set_option maxRecDepth 20000 in
theorem D_Bat_put : (T_Bat_put.all fun q => decide (decode M_Bat_put.2.1 q.1 = .ok q.2)) = true := by decide +kernel
def Bat_put_L52 (v0 : Nat) (v1 : Int) (v2 : Int) (v3 : Int) (v4 : Int) (v5 : Nat) (h : AH) : Option (Int × AH) := gR h 9 v5 0 fun r1 => aR h 34 r1 v1 fun r2 => rc h 10 r2 <| bnd (Tab_isFull r2 h) fun x4 h3 => if (x4 : Int) = 0 then (gR h3 12 v0 5 fun r6 => rc h3 11 r6 <| bnd (Wor_remember r6 h3) fun _ h7 => gR h7 9 v5 0 fun r10 => aR h7 34 r10 v1 fun r11 => rc h7 10 r11 <| bnd (Tab_append r11 v2 v3 v4 h7) fun _ h12 => gR h12 9 v5 1 fun r15 => gR h12 9 v5 0 fun r16 => aR h12 34 r16 v1 fun r17 => gR h12 9 v5 0 fun r18 => aR h12 34 r18 v1 fun r19 => gI h12 10 r19 3 fun x20 => rc h12 8 r15 <| bnd (She_spoil r15 v1 r17 (wr (x20 - 1)) h12) fun _ h21 => gR h21 9 v5 0 fun r24 => aR h21 34 r24 v1 fun r25 => gI h21 10 r25 3 fun x26 => some (x26, h21)) else (some ((-1), h3))
set_option maxHeartbeats 4000000 in
set_option maxRecDepth 20000 in
theorem s_Bat_put_L52 (v0 : Nat) (v1 : Int) (v2 : Int) (v3 : Int) (v4 : Int) (v5 : Nat) (h : AH) : Sd M_Bat_put 7 153 emI 52 [(0, vr v0), (1, vi v1), (2, vi v2), (3, vi v3), (4, vi v4), (5, vr v5)] [] h (Bat_put_L52 v0 v1 v2 v3 v4 v5 h) := by
  unfold Bat_put_L52
  refine Sd_aload (pc' := 54) (dc D_Bat_put 23 rfl) rfl 5 rfl ?_
  refine Sd_getR (pc' := 57) (dc D_Bat_put 24 rfl) rfl F_Bat_96 rfl rfl ?_
  refine Sd_iload_n (pc' := 58) (dc D_Bat_put 25 rfl) rfl 1 rfl rfl ?_
  refine Sd_aaload (t := 34) (j := 6) (C0 := RX9) (pc' := 59) (dc D_Bat_put 26 rfl) rfl rfl (by decide) ?_
  refine Sd.callVI (ci := 9) (t := 10) (as := []) RX9 (pc' := 62) (dc D_Bat_put 27 rfl) rfl rfl rfl rfl K_Tab_isFull L_Bat_219 Ks_Tab_isFull Kv_Tab_isFull ⟨by decide, by decide⟩ rfl rfl (Nat.le_of_ble_eq_true rfl) (s_Tab_isFull _ _) (fun x4 h3 => ?_)
  refine Sd_if_eq (tgt := 67) (pc' := 65) (dc D_Bat_put 28 rfl) (by decide) rfl (fun _ => ?_) (fun _ => ?_)
  · refine Sd_aload_n (pc' := 68) (dc D_Bat_put 31 rfl) rfl 0 rfl rfl ?_
    refine Sd_getR (pc' := 71) (dc D_Bat_put 32 rfl) rfl F_Bat_31 rfl rfl ?_
    refine Sd.callVV (ci := 10) (t := 11) (as := []) RX10 (pc' := 74) (dc D_Bat_put 33 rfl) rfl rfl rfl rfl K_Wor_remember L_Bat_223 Ks_Wor_remember Kv_Wor_remember ⟨by decide, by decide⟩ rfl rfl (Nat.le_of_ble_eq_true rfl) (s_Wor_remember _ _) (fun _ h7 => ?_)
    refine Sd_aload (pc' := 76) (dc D_Bat_put 34 rfl) rfl 5 rfl ?_
    refine Sd_getR (pc' := 79) (dc D_Bat_put 35 rfl) rfl F_Bat_96 rfl rfl ?_
    refine Sd_iload_n (pc' := 80) (dc D_Bat_put 36 rfl) rfl 1 rfl rfl ?_
    refine Sd_aaload (t := 34) (j := 6) (C0 := RX9) (pc' := 81) (dc D_Bat_put 37 rfl) rfl rfl (by decide) ?_
    refine Sd_iload_n (pc' := 82) (dc D_Bat_put 38 rfl) rfl 2 rfl rfl ?_
    refine Sd_iload_n (pc' := 83) (dc D_Bat_put 39 rfl) rfl 3 rfl rfl ?_
    refine Sd_iload (pc' := 85) (dc D_Bat_put 40 rfl) rfl 4 rfl ?_
    refine Sd.callVV (ci := 9) (t := 10) (as := [_, _, _]) RX9 (pc' := 88) (dc D_Bat_put 41 rfl) rfl rfl rfl rfl K_Tab_append L_Bat_226 Ks_Tab_append Kv_Tab_append ⟨by decide, by decide⟩ rfl rfl (Nat.le_of_ble_eq_true rfl) (s_Tab_append _ _ _ _ _) (fun _ h12 => ?_)
    refine Sd_aload (pc' := 90) (dc D_Bat_put 42 rfl) rfl 5 rfl ?_
    refine Sd_getR (pc' := 93) (dc D_Bat_put 43 rfl) rfl F_Bat_186 rfl rfl ?_
    refine Sd_iload_n (pc' := 94) (dc D_Bat_put 44 rfl) rfl 1 rfl rfl ?_
    refine Sd_aload (pc' := 96) (dc D_Bat_put 45 rfl) rfl 5 rfl ?_
    refine Sd_getR (pc' := 99) (dc D_Bat_put 46 rfl) rfl F_Bat_96 rfl rfl ?_
    refine Sd_iload_n (pc' := 100) (dc D_Bat_put 47 rfl) rfl 1 rfl rfl ?_
    refine Sd_aaload (t := 34) (j := 6) (C0 := RX9) (pc' := 101) (dc D_Bat_put 48 rfl) rfl rfl (by decide) ?_
    refine Sd_aload (pc' := 103) (dc D_Bat_put 49 rfl) rfl 5 rfl ?_
    refine Sd_getR (pc' := 106) (dc D_Bat_put 50 rfl) rfl F_Bat_96 rfl rfl ?_
    refine Sd_iload_n (pc' := 107) (dc D_Bat_put 51 rfl) rfl 1 rfl rfl ?_
    refine Sd_aaload (t := 34) (j := 6) (C0 := RX9) (pc' := 108) (dc D_Bat_put 52 rfl) rfl rfl (by decide) ?_
    refine Sd_getI (pc' := 111) (dc D_Bat_put 53 rfl) rfl F_Bat_100 rfl rfl ?_
    refine Sd_iconst (pc' := 112) (dc D_Bat_put 54 rfl) rfl ⟨by decide, by decide⟩ ?_
    refine Sd_isub (pc' := 113) (dc D_Bat_put 55 rfl) rfl ?_
    refine Sd.callVV (ci := 7) (t := 8) (as := [_, _, _]) RX7 (pc' := 116) (dc D_Bat_put 56 rfl) rfl rfl rfl rfl K_She_spoil L_Bat_230 Ks_She_spoil Kv_She_spoil ⟨by decide, by decide⟩ rfl rfl (Nat.le_of_ble_eq_true rfl) (s_She_spoil _ _ _ _ _) (fun _ h21 => ?_)
    refine Sd_aload (pc' := 118) (dc D_Bat_put 57 rfl) rfl 5 rfl ?_
    refine Sd_getR (pc' := 121) (dc D_Bat_put 58 rfl) rfl F_Bat_96 rfl rfl ?_
    refine Sd_iload_n (pc' := 122) (dc D_Bat_put 59 rfl) rfl 1 rfl rfl ?_
    refine Sd_aaload (t := 34) (j := 6) (C0 := RX9) (pc' := 123) (dc D_Bat_put 60 rfl) rfl rfl (by decide) ?_
    refine Sd_getI (pc' := 126) (dc D_Bat_put 61 rfl) rfl F_Bat_100 rfl rfl ?_
    exact Sd_iret (dc D_Bat_put 62 rfl) rfl
  · refine Sd_iconst (pc' := 66) (dc D_Bat_put 29 rfl) rfl ⟨by decide, by decide⟩ ?_
    exact Sd_iret (dc D_Bat_put 30 rfl) rfl
def Bat_put (v0 : Nat) (v1 : Int) (v2 : Int) (v3 : Int) (v4 : Int) (h : AH) : Option (Int × AH) := gR h 12 v0 5 fun r1 => gR h 11 r1 0 fun r2 => if r2 = 0 then none else gI h 9 r2 2 fun x3 => if (x3 : Int) = 0 then (some ((-1), h)) else (bnd (Bat_isTable v1 h) fun x5 h4 => if (x5 : Int) = 0 then (some ((-1), h4)) else (bnd (Bat_isNumber v2 h4) fun x8 h7 => if (x8 : Int) = 0 then (some ((-1), h7)) else (bnd (Bat_isNumber v3 h7) fun x11 h10 => if ¬ (x11 : Int) = 0 then (if ¬ (v1 : Int) = 0 then (Bat_put_L52 v0 v1 v2 v3 v4 r2 h10) else (bnd (Bat_isNumber v4 h10) fun x14 h13 => if (x14 : Int) = 0 then (some ((-1), h13)) else (Bat_put_L52 v0 v1 v2 v3 v4 r2 h13))) else (some ((-1), h10)))))
set_option maxHeartbeats 4000000 in
set_option maxRecDepth 20000 in
theorem s_Bat_put (v0 : Nat) (v1 : Int) (v2 : Int) (v3 : Int) (v4 : Int) (h : AH) : CS M_Bat_put 7 153 emI [vr v0, vi v1, vi v2, vi v3, vi v4] h (Bat_put v0 v1 v2 v3 v4 h) := by
  refine CS.of (by decide) (Nat.le_of_ble_eq_true rfl) ?_
  show Sd M_Bat_put 7 153 emI 0 [(0, vr v0), (1, vi v1), (2, vi v2), (3, vi v3), (4, vi v4)] [] h _
  unfold Bat_put
  refine Sd_aload_n (pc' := 1) (dc D_Bat_put 0 rfl) rfl 0 rfl rfl ?_
  refine Sd_getR (pc' := 4) (dc D_Bat_put 1 rfl) rfl F_Bat_31 rfl rfl ?_
  refine Sd_getR (pc' := 7) (dc D_Bat_put 2 rfl) rfl F_Bat_116 rfl rfl ?_
  refine Sd_astore (pc' := 9) (l' := [(5, _), (0, _), (1, _), (2, _), (3, _), (4, _)]) (dc D_Bat_put 3 rfl) rfl (by decide) rfl (fun _ => ?_)
  refine Sd_aload (pc' := 11) (dc D_Bat_put 4 rfl) rfl 0 rfl ?_
  refine Sd_getI (pc' := 14) (dc D_Bat_put 5 rfl) rfl F_Bat_210 rfl rfl ?_
  refine Sd_if_eq (tgt := 38) (pc' := 17) (dc D_Bat_put 6 rfl) (by decide) rfl (fun _ => ?_) (fun _ => ?_)
  · refine Sd_iconst (pc' := 39) (dc D_Bat_put 16 rfl) rfl ⟨by decide, by decide⟩ ?_
    exact Sd_iret (dc D_Bat_put 17 rfl) rfl
  · refine Sd_iload_n (pc' := 18) (dc D_Bat_put 7 rfl) rfl 2 rfl rfl ?_
    refine Sd.callSI (as := [_]) (pc' := 21) (dc D_Bat_put 8 rfl) rfl K_Bat_isTable L_Bat_213 Ks_Bat_isTable ⟨by decide, by decide⟩ rfl rfl (Nat.le_of_ble_eq_true rfl) (s_Bat_isTable _ _) (fun x5 h4 => ?_)
    refine Sd_if_eq (tgt := 38) (pc' := 24) (dc D_Bat_put 9 rfl) (by decide) rfl (fun _ => ?_) (fun _ => ?_)
    · refine Sd_iconst (pc' := 39) (dc D_Bat_put 16 rfl) rfl ⟨by decide, by decide⟩ ?_
      exact Sd_iret (dc D_Bat_put 17 rfl) rfl
    · refine Sd_iload_n (pc' := 25) (dc D_Bat_put 10 rfl) rfl 3 rfl rfl ?_
      refine Sd.callSI (as := [_]) (pc' := 28) (dc D_Bat_put 11 rfl) rfl K_Bat_isNumber L_Bat_216 Ks_Bat_isNumber ⟨by decide, by decide⟩ rfl rfl (Nat.le_of_ble_eq_true rfl) (s_Bat_isNumber _ _) (fun x8 h7 => ?_)
      refine Sd_if_eq (tgt := 38) (pc' := 31) (dc D_Bat_put 12 rfl) (by decide) rfl (fun _ => ?_) (fun _ => ?_)
      · refine Sd_iconst (pc' := 39) (dc D_Bat_put 16 rfl) rfl ⟨by decide, by decide⟩ ?_
        exact Sd_iret (dc D_Bat_put 17 rfl) rfl
      · refine Sd_iload_n (pc' := 32) (dc D_Bat_put 13 rfl) rfl 4 rfl rfl ?_
        refine Sd.callSI (as := [_]) (pc' := 35) (dc D_Bat_put 14 rfl) rfl K_Bat_isNumber L_Bat_216 Ks_Bat_isNumber ⟨by decide, by decide⟩ rfl rfl (Nat.le_of_ble_eq_true rfl) (s_Bat_isNumber _ _) (fun x11 h10 => ?_)
        refine Sd_if_ne (tgt := 40) (pc' := 38) (dc D_Bat_put 15 rfl) (by decide) rfl (fun _ => ?_) (fun _ => ?_)
        · refine Sd_iload_n (pc' := 41) (dc D_Bat_put 18 rfl) rfl 2 rfl rfl ?_
          refine Sd_if_ne (tgt := 52) (pc' := 44) (dc D_Bat_put 19 rfl) (by decide) rfl (fun _ => ?_) (fun _ => ?_)
          · refine Sd.sub (l' := [(0, _), (1, _), (2, _), (3, _), (4, _), (5, _)]) [1, 2, 3, 4, 5, 0] rfl ?_
            exact s_Bat_put_L52 _ _ _ _ _ _ _
          · refine Sd_iload (pc' := 46) (dc D_Bat_put 20 rfl) rfl 5 rfl ?_
            refine Sd.callSI (as := [_]) (pc' := 49) (dc D_Bat_put 21 rfl) rfl K_Bat_isNumber L_Bat_216 Ks_Bat_isNumber ⟨by decide, by decide⟩ rfl rfl (Nat.le_of_ble_eq_true rfl) (s_Bat_isNumber _ _) (fun x14 h13 => ?_)
            refine Sd_if_eq (tgt := 65) (pc' := 52) (dc D_Bat_put 22 rfl) (by decide) rfl (fun _ => ?_) (fun _ => ?_)
            · refine Sd_iconst (pc' := 66) (dc D_Bat_put 29 rfl) rfl ⟨by decide, by decide⟩ ?_
              exact Sd_iret (dc D_Bat_put 30 rfl) rfl
            · refine Sd.sub (l' := [(0, _), (1, _), (2, _), (3, _), (4, _), (5, _)]) [1, 2, 3, 4, 5, 0] rfl ?_
              exact s_Bat_put_L52 _ _ _ _ _ _ _
        · refine Sd_iconst (pc' := 39) (dc D_Bat_put 16 rfl) rfl ⟨by decide, by decide⟩ ?_
          exact Sd_iret (dc D_Bat_put 17 rfl) rfl
theorem K_Bat_put : MOk M_Bat_put 4 := ⟨Tb_at 121 (by decide +kernel) rfl, Tb_at 995 (by decide +kernel) rfl, by decide +kernel, by decide +kernel, by decide +kernel⟩
theorem Ks_Bat_put : Cond.instanceMethod yX11_put ∈ Tb := Tb_at 993 (by decide +kernel) rfl
theorem Kv_Bat_put : Cond.selects RX11 yX11_put yX11_put ∈ Tb := Tb_at 994 (by decide +kernel) rfl
/-! ===== BatchShare.remove(II)I ===== -/
abbrev M_Bat_remove : AMt := (yX11_remove, cX11_remove, 4, (some .int))
def T_Bat_remove : List (Nat × Instr × Nat) := [(0, .aload_n 0, 1), (1, .iload_n 1, 1), (2, .iload_n 2, 1), (3, .invokevirtual 234, 3), (6, .ifCond .ne 5, 3), (9, .iconst (-1), 1), (10, .ireturn, 1), (11, .aload_n 0, 1), (12, .getfield 31, 3), (15, .invokevirtual 223, 3), (18, .aload_n 0, 1), (19, .getfield 31, 3), (22, .getfield 116, 3), (25, .astore_n 3, 1), (26, .aload_n 3, 1), (27, .getfield 186, 3), (30, .iload_n 1, 1), (31, .aload_n 3, 1), (32, .getfield 96, 3), (35, .iload_n 1, 1), (36, .aaload, 1), (37, .iload_n 2, 1), (38, .invokevirtual 230, 3), (41, .aload_n 3, 1), (42, .getfield 96, 3), (45, .iload_n 1, 1), (46, .aaload, 1), (47, .iload_n 2, 1), (48, .invokevirtual 238, 3), (51, .aload_n 3, 1), (52, .getfield 96, 3), (55, .iload_n 1, 1), (56, .aaload, 1), (57, .getfield 100, 3), (60, .ireturn, 1)]
set_option maxRecDepth 20000 in
theorem D_Bat_remove : (T_Bat_remove.all fun q => decide (decode M_Bat_remove.2.1 q.1 = .ok q.2)) = true := by decide +kernel
def Bat_remove (v0 : Nat) (v1 : Int) (v2 : Int) (h : AH) : Option (Int × AH) := rc h 12 v0 <| bnd (Bat_hasRow v0 v1 v2 h) fun x2 h1 => if ¬ (x2 : Int) = 0 then (gR h1 12 v0 5 fun r4 => rc h1 11 r4 <| bnd (Wor_remember r4 h1) fun _ h5 => gR h5 12 v0 5 fun r8 => gR h5 11 r8 0 fun r9 => if r9 = 0 then none else gR h5 9 r9 1 fun r10 => gR h5 9 r9 0 fun r11 => aR h5 34 r11 v1 fun r12 => rc h5 8 r10 <| bnd (She_spoil r10 v1 r12 v2 h5) fun _ h13 => gR h13 9 r9 0 fun r16 => aR h13 34 r16 v1 fun r17 => rc h13 10 r17 <| bnd (Tab_drop r17 v2 h13) fun _ h18 => gR h18 9 r9 0 fun r21 => aR h18 34 r21 v1 fun r22 => gI h18 10 r22 3 fun x23 => some (x23, h18)) else (some ((-1), h1))
set_option maxHeartbeats 4000000 in
set_option maxRecDepth 20000 in
theorem s_Bat_remove (v0 : Nat) (v1 : Int) (v2 : Int) (h : AH) : CS M_Bat_remove 7 153 emI [vr v0, vi v1, vi v2] h (Bat_remove v0 v1 v2 h) := by
  refine CS.of (by decide) (Nat.le_of_ble_eq_true rfl) ?_
  show Sd M_Bat_remove 7 153 emI 0 [(0, vr v0), (1, vi v1), (2, vi v2)] [] h _
  unfold Bat_remove
  refine Sd_aload_n (pc' := 1) (dc D_Bat_remove 0 rfl) rfl 0 rfl rfl ?_
  refine Sd_iload_n (pc' := 2) (dc D_Bat_remove 1 rfl) rfl 1 rfl rfl ?_
  refine Sd_iload_n (pc' := 3) (dc D_Bat_remove 2 rfl) rfl 2 rfl rfl ?_
  refine Sd.callVI (ci := 11) (t := 12) (as := [_, _]) RX11 (pc' := 6) (dc D_Bat_remove 3 rfl) rfl rfl rfl rfl K_Bat_hasRow L_Bat_234 Ks_Bat_hasRow Kv_Bat_hasRow ⟨by decide, by decide⟩ rfl rfl (Nat.le_of_ble_eq_true rfl) (s_Bat_hasRow _ _ _ _) (fun x2 h1 => ?_)
  refine Sd_if_ne (tgt := 11) (pc' := 9) (dc D_Bat_remove 4 rfl) (by decide) rfl (fun _ => ?_) (fun _ => ?_)
  · refine Sd_aload_n (pc' := 12) (dc D_Bat_remove 7 rfl) rfl 0 rfl rfl ?_
    refine Sd_getR (pc' := 15) (dc D_Bat_remove 8 rfl) rfl F_Bat_31 rfl rfl ?_
    refine Sd.callVV (ci := 10) (t := 11) (as := []) RX10 (pc' := 18) (dc D_Bat_remove 9 rfl) rfl rfl rfl rfl K_Wor_remember L_Bat_223 Ks_Wor_remember Kv_Wor_remember ⟨by decide, by decide⟩ rfl rfl (Nat.le_of_ble_eq_true rfl) (s_Wor_remember _ _) (fun _ h5 => ?_)
    refine Sd_aload_n (pc' := 19) (dc D_Bat_remove 10 rfl) rfl 0 rfl rfl ?_
    refine Sd_getR (pc' := 22) (dc D_Bat_remove 11 rfl) rfl F_Bat_31 rfl rfl ?_
    refine Sd_getR (pc' := 25) (dc D_Bat_remove 12 rfl) rfl F_Bat_116 rfl rfl ?_
    refine Sd_astore_n (pc' := 26) (l' := [(3, _), (0, _), (1, _), (2, _)]) (dc D_Bat_remove 13 rfl) rfl rfl (by decide) rfl (fun _ => ?_)
    refine Sd_aload_n (pc' := 27) (dc D_Bat_remove 14 rfl) rfl 0 rfl rfl ?_
    refine Sd_getR (pc' := 30) (dc D_Bat_remove 15 rfl) rfl F_Bat_186 rfl rfl ?_
    refine Sd_iload_n (pc' := 31) (dc D_Bat_remove 16 rfl) rfl 2 rfl rfl ?_
    refine Sd_aload_n (pc' := 32) (dc D_Bat_remove 17 rfl) rfl 0 rfl rfl ?_
    refine Sd_getR (pc' := 35) (dc D_Bat_remove 18 rfl) rfl F_Bat_96 rfl rfl ?_
    refine Sd_iload_n (pc' := 36) (dc D_Bat_remove 19 rfl) rfl 2 rfl rfl ?_
    refine Sd_aaload (t := 34) (j := 6) (C0 := RX9) (pc' := 37) (dc D_Bat_remove 20 rfl) rfl rfl (by decide) ?_
    refine Sd_iload_n (pc' := 38) (dc D_Bat_remove 21 rfl) rfl 3 rfl rfl ?_
    refine Sd.callVV (ci := 7) (t := 8) (as := [_, _, _]) RX7 (pc' := 41) (dc D_Bat_remove 22 rfl) rfl rfl rfl rfl K_She_spoil L_Bat_230 Ks_She_spoil Kv_She_spoil ⟨by decide, by decide⟩ rfl rfl (Nat.le_of_ble_eq_true rfl) (s_She_spoil _ _ _ _ _) (fun _ h13 => ?_)
    refine Sd_aload_n (pc' := 42) (dc D_Bat_remove 23 rfl) rfl 0 rfl rfl ?_
    refine Sd_getR (pc' := 45) (dc D_Bat_remove 24 rfl) rfl F_Bat_96 rfl rfl ?_
    refine Sd_iload_n (pc' := 46) (dc D_Bat_remove 25 rfl) rfl 2 rfl rfl ?_
    refine Sd_aaload (t := 34) (j := 6) (C0 := RX9) (pc' := 47) (dc D_Bat_remove 26 rfl) rfl rfl (by decide) ?_
    refine Sd_iload_n (pc' := 48) (dc D_Bat_remove 27 rfl) rfl 3 rfl rfl ?_
    refine Sd.callVV (ci := 9) (t := 10) (as := [_]) RX9 (pc' := 51) (dc D_Bat_remove 28 rfl) rfl rfl rfl rfl K_Tab_drop L_Bat_238 Ks_Tab_drop Kv_Tab_drop ⟨by decide, by decide⟩ rfl rfl (Nat.le_of_ble_eq_true rfl) (s_Tab_drop _ _ _) (fun _ h18 => ?_)
    refine Sd_aload_n (pc' := 52) (dc D_Bat_remove 29 rfl) rfl 0 rfl rfl ?_
    refine Sd_getR (pc' := 55) (dc D_Bat_remove 30 rfl) rfl F_Bat_96 rfl rfl ?_
    refine Sd_iload_n (pc' := 56) (dc D_Bat_remove 31 rfl) rfl 2 rfl rfl ?_
    refine Sd_aaload (t := 34) (j := 6) (C0 := RX9) (pc' := 57) (dc D_Bat_remove 32 rfl) rfl rfl (by decide) ?_
    refine Sd_getI (pc' := 60) (dc D_Bat_remove 33 rfl) rfl F_Bat_100 rfl rfl ?_
    exact Sd_iret (dc D_Bat_remove 34 rfl) rfl
  · refine Sd_iconst (pc' := 10) (dc D_Bat_remove 5 rfl) rfl ⟨by decide, by decide⟩ ?_
    exact Sd_iret (dc D_Bat_remove 6 rfl) rfl
theorem K_Bat_remove : MOk M_Bat_remove 2 := ⟨Tb_at 121 (by decide +kernel) rfl, Tb_at 1021 (by decide +kernel) rfl, by decide +kernel, by decide +kernel, by decide +kernel⟩
theorem Ks_Bat_remove : Cond.instanceMethod yX11_remove ∈ Tb := Tb_at 1019 (by decide +kernel) rfl
theorem Kv_Bat_remove : Cond.selects RX11 yX11_remove yX11_remove ∈ Tb := Tb_at 1020 (by decide +kernel) rfl
/-! ===== BatchShare.change(IIII)I ===== -/
abbrev M_Bat_change : AMt := (yX11_change, cX11_change, 6, (some .int))
def T_Bat_change : List (Nat × Instr × Nat) := [(0, .aload_n 0, 1), (1, .iload_n 1, 1), (2, .iload_n 2, 1), (3, .iload_n 3, 1), (4, .invokevirtual 112, 3), (7, .ifCond .eq 11, 3), (10, .iload 4, 2), (12, .invokestatic 216, 3), (15, .ifCond .ne 5, 3), (18, .iconst (-1), 1), (19, .ireturn, 1), (20, .aload_n 0, 1), (21, .getfield 31, 3), (24, .getfield 116, 3), (27, .getfield 96, 3), (30, .iload_n 1, 1), (31, .aaload, 1), (32, .iload_n 2, 1), (33, .iload_n 3, 1), (34, .invokevirtual 119, 3), (37, .istore 5, 2), (39, .iload 5, 2), (41, .iload 4, 2), (43, .if_icmp .ne 5, 3), (46, .iconst (-1), 1), (47, .ireturn, 1), (48, .aload_n 0, 1), (49, .getfield 31, 3), (52, .invokevirtual 223, 3), (55, .aload_n 0, 1), (56, .getfield 31, 3), (59, .getfield 116, 3), (62, .iload_n 1, 1), (63, .iload_n 2, 1), (64, .iload_n 3, 1), (65, .iload 4, 2), (67, .invokevirtual 241, 3), (70, .iload 5, 2), (72, .ireturn, 1)]
set_option maxRecDepth 20000 in
theorem D_Bat_change : (T_Bat_change.all fun q => decide (decode M_Bat_change.2.1 q.1 = .ok q.2)) = true := by decide +kernel
def Bat_change (v0 : Nat) (v1 : Int) (v2 : Int) (v3 : Int) (v4 : Int) (h : AH) : Option (Int × AH) := rc h 12 v0 <| bnd (Bat_hasCell v0 v1 v2 v3 h) fun x2 h1 => if (x2 : Int) = 0 then (some ((-1), h1)) else (bnd (Bat_isNumber v4 h1) fun x5 h4 => if ¬ (x5 : Int) = 0 then (gR h4 12 v0 5 fun r7 => gR h4 11 r7 0 fun r8 => gR h4 9 r8 0 fun r9 => aR h4 34 r9 v1 fun r10 => rc h4 10 r10 <| bnd (Tab_at r10 v2 v3 h4) fun x12 h11 => if ¬ (x12 : Int) = v4 then (gR h11 12 v0 5 fun r14 => rc h11 11 r14 <| bnd (Wor_remember r14 h11) fun _ h15 => gR h15 12 v0 5 fun r18 => gR h15 11 r18 0 fun r19 => rc h15 9 r19 <| bnd (Sta_replace r19 v1 v2 v3 v4 h15) fun _ h20 => some (x12, h20)) else (some ((-1), h11))) else (some ((-1), h4)))
set_option maxHeartbeats 4000000 in
set_option maxRecDepth 20000 in
theorem s_Bat_change (v0 : Nat) (v1 : Int) (v2 : Int) (v3 : Int) (v4 : Int) (h : AH) : CS M_Bat_change 7 153 emI [vr v0, vi v1, vi v2, vi v3, vi v4] h (Bat_change v0 v1 v2 v3 v4 h) := by
  refine CS.of (by decide) (Nat.le_of_ble_eq_true rfl) ?_
  show Sd M_Bat_change 7 153 emI 0 [(0, vr v0), (1, vi v1), (2, vi v2), (3, vi v3), (4, vi v4)] [] h _
  unfold Bat_change
  refine Sd_aload_n (pc' := 1) (dc D_Bat_change 0 rfl) rfl 0 rfl rfl ?_
  refine Sd_iload_n (pc' := 2) (dc D_Bat_change 1 rfl) rfl 1 rfl rfl ?_
  refine Sd_iload_n (pc' := 3) (dc D_Bat_change 2 rfl) rfl 2 rfl rfl ?_
  refine Sd_iload_n (pc' := 4) (dc D_Bat_change 3 rfl) rfl 3 rfl rfl ?_
  refine Sd.callVI (ci := 11) (t := 12) (as := [_, _, _]) RX11 (pc' := 7) (dc D_Bat_change 4 rfl) rfl rfl rfl rfl K_Bat_hasCell L_Bat_112 Ks_Bat_hasCell Kv_Bat_hasCell ⟨by decide, by decide⟩ rfl rfl (Nat.le_of_ble_eq_true rfl) (s_Bat_hasCell _ _ _ _ _) (fun x2 h1 => ?_)
  refine Sd_if_eq (tgt := 18) (pc' := 10) (dc D_Bat_change 5 rfl) (by decide) rfl (fun _ => ?_) (fun _ => ?_)
  · refine Sd_iconst (pc' := 19) (dc D_Bat_change 9 rfl) rfl ⟨by decide, by decide⟩ ?_
    exact Sd_iret (dc D_Bat_change 10 rfl) rfl
  · refine Sd_iload (pc' := 12) (dc D_Bat_change 6 rfl) rfl 4 rfl ?_
    refine Sd.callSI (as := [_]) (pc' := 15) (dc D_Bat_change 7 rfl) rfl K_Bat_isNumber L_Bat_216 Ks_Bat_isNumber ⟨by decide, by decide⟩ rfl rfl (Nat.le_of_ble_eq_true rfl) (s_Bat_isNumber _ _) (fun x5 h4 => ?_)
    refine Sd_if_ne (tgt := 20) (pc' := 18) (dc D_Bat_change 8 rfl) (by decide) rfl (fun _ => ?_) (fun _ => ?_)
    · refine Sd_aload_n (pc' := 21) (dc D_Bat_change 11 rfl) rfl 0 rfl rfl ?_
      refine Sd_getR (pc' := 24) (dc D_Bat_change 12 rfl) rfl F_Bat_31 rfl rfl ?_
      refine Sd_getR (pc' := 27) (dc D_Bat_change 13 rfl) rfl F_Bat_116 rfl rfl ?_
      refine Sd_getR (pc' := 30) (dc D_Bat_change 14 rfl) rfl F_Bat_96 rfl rfl ?_
      refine Sd_iload_n (pc' := 31) (dc D_Bat_change 15 rfl) rfl 1 rfl rfl ?_
      refine Sd_aaload (t := 34) (j := 6) (C0 := RX9) (pc' := 32) (dc D_Bat_change 16 rfl) rfl rfl (by decide) ?_
      refine Sd_iload_n (pc' := 33) (dc D_Bat_change 17 rfl) rfl 2 rfl rfl ?_
      refine Sd_iload_n (pc' := 34) (dc D_Bat_change 18 rfl) rfl 3 rfl rfl ?_
      refine Sd.callVI (ci := 9) (t := 10) (as := [_, _]) RX9 (pc' := 37) (dc D_Bat_change 19 rfl) rfl rfl rfl rfl K_Tab_at L_Bat_119 Ks_Tab_at Kv_Tab_at ⟨by decide, by decide⟩ rfl rfl (Nat.le_of_ble_eq_true rfl) (s_Tab_at _ _ _ _) (fun x12 h11 => ?_)
      refine Sd_istore (pc' := 39) (l' := [(5, _), (0, _), (1, _), (2, _), (3, _), (4, _)]) (dc D_Bat_change 20 rfl) rfl (by decide) rfl ?_
      refine Sd_iload (pc' := 41) (dc D_Bat_change 21 rfl) rfl 0 rfl ?_
      refine Sd_iload (pc' := 43) (dc D_Bat_change 22 rfl) rfl 5 rfl ?_
      refine Sd_icmp_ne (tgt := 48) (pc' := 46) (dc D_Bat_change 23 rfl) (by decide) rfl (fun _ => ?_) (fun _ => ?_)
      · refine Sd_aload_n (pc' := 49) (dc D_Bat_change 26 rfl) rfl 1 rfl rfl ?_
        refine Sd_getR (pc' := 52) (dc D_Bat_change 27 rfl) rfl F_Bat_31 rfl rfl ?_
        refine Sd.callVV (ci := 10) (t := 11) (as := []) RX10 (pc' := 55) (dc D_Bat_change 28 rfl) rfl rfl rfl rfl K_Wor_remember L_Bat_223 Ks_Wor_remember Kv_Wor_remember ⟨by decide, by decide⟩ rfl rfl (Nat.le_of_ble_eq_true rfl) (s_Wor_remember _ _) (fun _ h15 => ?_)
        refine Sd_aload_n (pc' := 56) (dc D_Bat_change 29 rfl) rfl 1 rfl rfl ?_
        refine Sd_getR (pc' := 59) (dc D_Bat_change 30 rfl) rfl F_Bat_31 rfl rfl ?_
        refine Sd_getR (pc' := 62) (dc D_Bat_change 31 rfl) rfl F_Bat_116 rfl rfl ?_
        refine Sd_iload_n (pc' := 63) (dc D_Bat_change 32 rfl) rfl 2 rfl rfl ?_
        refine Sd_iload_n (pc' := 64) (dc D_Bat_change 33 rfl) rfl 3 rfl rfl ?_
        refine Sd_iload_n (pc' := 65) (dc D_Bat_change 34 rfl) rfl 4 rfl rfl ?_
        refine Sd_iload (pc' := 67) (dc D_Bat_change 35 rfl) rfl 5 rfl ?_
        refine Sd.callVV (ci := 8) (t := 9) (as := [_, _, _, _]) RX8 (pc' := 70) (dc D_Bat_change 36 rfl) rfl rfl rfl rfl K_Sta_replace L_Bat_241 Ks_Sta_replace Kv_Sta_replace ⟨by decide, by decide⟩ rfl rfl (Nat.le_of_ble_eq_true rfl) (s_Sta_replace _ _ _ _ _ _) (fun _ h20 => ?_)
        refine Sd_iload (pc' := 72) (dc D_Bat_change 37 rfl) rfl 0 rfl ?_
        exact Sd_iret (dc D_Bat_change 38 rfl) rfl
      · refine Sd_iconst (pc' := 47) (dc D_Bat_change 24 rfl) rfl ⟨by decide, by decide⟩ ?_
        exact Sd_iret (dc D_Bat_change 25 rfl) rfl
    · refine Sd_iconst (pc' := 19) (dc D_Bat_change 9 rfl) rfl ⟨by decide, by decide⟩ ?_
      exact Sd_iret (dc D_Bat_change 10 rfl) rfl
theorem K_Bat_change : MOk M_Bat_change 4 := ⟨Tb_at 121 (by decide +kernel) rfl, Tb_at 1029 (by decide +kernel) rfl, by decide +kernel, by decide +kernel, by decide +kernel⟩
theorem Ks_Bat_change : Cond.instanceMethod yX11_change ∈ Tb := Tb_at 1027 (by decide +kernel) rfl
theorem Kv_Bat_change : Cond.selects RX11 yX11_change yX11_change ∈ Tb := Tb_at 1028 (by decide +kernel) rfl
/-! ===== BatchShare.strike(I)I ===== -/
abbrev M_Bat_strike : AMt := (yX11_strike, cX11_strike, 2, (some .int))
def T_Bat_strike : List (Nat × Instr × Nat) := [(0, .aload_n 0, 1), (1, .getfield 31, 3), (4, .getfield 116, 3), (7, .getfield 210, 3), (10, .ifCond .eq 11, 3), (13, .aload_n 0, 1), (14, .iload_n 1, 1), (15, .invokevirtual 123, 3), (18, .ifCond .ne 5, 3), (21, .iconst (-1), 1), (22, .ireturn, 1), (23, .aload_n 0, 1), (24, .getfield 31, 3), (27, .invokevirtual 223, 3), (30, .aload_n 0, 1), (31, .getfield 31, 3), (34, .getfield 116, 3), (37, .dup, 1), (38, .getfield 245, 3), (41, .iconst 1, 1), (42, .iload_n 1, 1), (43, .ishl, 1), (44, .ixor, 1), (45, .putfield 245, 3), (48, .aload_n 0, 1), (49, .getfield 31, 3), (52, .getfield 116, 3), (55, .getfield 245, 3), (58, .invokestatic 248, 3), (61, .ireturn, 1)]
set_option maxRecDepth 20000 in
theorem D_Bat_strike : (T_Bat_strike.all fun q => decide (decode M_Bat_strike.2.1 q.1 = .ok q.2)) = true := by decide +kernel
def Bat_strike (v0 : Nat) (v1 : Int) (h : AH) : Option (Int × AH) := gR h 12 v0 5 fun r1 => gR h 11 r1 0 fun r2 => gI h 9 r2 2 fun x3 => if (x3 : Int) = 0 then (some ((-1), h)) else (rc h 12 v0 <| bnd (Bat_hasQuery v0 v1 h) fun x5 h4 => if ¬ (x5 : Int) = 0 then (gR h4 12 v0 5 fun r7 => rc h4 11 r7 <| bnd (Wor_remember r7 h4) fun _ h8 => gR h8 12 v0 5 fun r11 => gR h8 11 r11 0 fun r12 => gI h8 9 r12 4 fun x13 => pI h8 9 r12 4 (iXor x13 (iShl 1 v1)) fun h14 => gR h14 12 v0 5 fun r15 => gR h14 11 r15 0 fun r16 => gI h14 9 r16 4 fun x17 => bnd (Itg_bitCount x17 h14) fun x19 h18 => some (x19, h18)) else (some ((-1), h4)))
set_option maxHeartbeats 4000000 in
set_option maxRecDepth 20000 in
theorem s_Bat_strike (v0 : Nat) (v1 : Int) (h : AH) : CS M_Bat_strike 7 153 emI [vr v0, vi v1] h (Bat_strike v0 v1 h) := by
  refine CS.of (by decide) (Nat.le_of_ble_eq_true rfl) ?_
  show Sd M_Bat_strike 7 153 emI 0 [(0, vr v0), (1, vi v1)] [] h _
  unfold Bat_strike
  refine Sd_aload_n (pc' := 1) (dc D_Bat_strike 0 rfl) rfl 0 rfl rfl ?_
  refine Sd_getR (pc' := 4) (dc D_Bat_strike 1 rfl) rfl F_Bat_31 rfl rfl ?_
  refine Sd_getR (pc' := 7) (dc D_Bat_strike 2 rfl) rfl F_Bat_116 rfl rfl ?_
  refine Sd_getI (pc' := 10) (dc D_Bat_strike 3 rfl) rfl F_Bat_210 rfl rfl ?_
  refine Sd_if_eq (tgt := 21) (pc' := 13) (dc D_Bat_strike 4 rfl) (by decide) rfl (fun _ => ?_) (fun _ => ?_)
  · refine Sd_iconst (pc' := 22) (dc D_Bat_strike 9 rfl) rfl ⟨by decide, by decide⟩ ?_
    exact Sd_iret (dc D_Bat_strike 10 rfl) rfl
  · refine Sd_aload_n (pc' := 14) (dc D_Bat_strike 5 rfl) rfl 0 rfl rfl ?_
    refine Sd_iload_n (pc' := 15) (dc D_Bat_strike 6 rfl) rfl 1 rfl rfl ?_
    refine Sd.callVI (ci := 11) (t := 12) (as := [_]) RX11 (pc' := 18) (dc D_Bat_strike 7 rfl) rfl rfl rfl rfl K_Bat_hasQuery L_Bat_123 Ks_Bat_hasQuery Kv_Bat_hasQuery ⟨by decide, by decide⟩ rfl rfl (Nat.le_of_ble_eq_true rfl) (s_Bat_hasQuery _ _ _) (fun x5 h4 => ?_)
    refine Sd_if_ne (tgt := 23) (pc' := 21) (dc D_Bat_strike 8 rfl) (by decide) rfl (fun _ => ?_) (fun _ => ?_)
    · refine Sd_aload_n (pc' := 24) (dc D_Bat_strike 11 rfl) rfl 0 rfl rfl ?_
      refine Sd_getR (pc' := 27) (dc D_Bat_strike 12 rfl) rfl F_Bat_31 rfl rfl ?_
      refine Sd.callVV (ci := 10) (t := 11) (as := []) RX10 (pc' := 30) (dc D_Bat_strike 13 rfl) rfl rfl rfl rfl K_Wor_remember L_Bat_223 Ks_Wor_remember Kv_Wor_remember ⟨by decide, by decide⟩ rfl rfl (Nat.le_of_ble_eq_true rfl) (s_Wor_remember _ _) (fun _ h8 => ?_)
      refine Sd_aload_n (pc' := 31) (dc D_Bat_strike 14 rfl) rfl 0 rfl rfl ?_
      refine Sd_getR (pc' := 34) (dc D_Bat_strike 15 rfl) rfl F_Bat_31 rfl rfl ?_
      refine Sd_getR (pc' := 37) (dc D_Bat_strike 16 rfl) rfl F_Bat_116 rfl rfl ?_
      refine Sd_dup (pc' := 38) (dc D_Bat_strike 17 rfl) rfl (cat_r _) ?_
      refine Sd_getI (pc' := 41) (dc D_Bat_strike 18 rfl) rfl F_Bat_245 rfl rfl ?_
      refine Sd_iconst (pc' := 42) (dc D_Bat_strike 19 rfl) rfl ⟨by decide, by decide⟩ ?_
      refine Sd_iload_n (pc' := 43) (dc D_Bat_strike 20 rfl) rfl 1 rfl rfl ?_
      refine Sd_ishl (pc' := 44) (dc D_Bat_strike 21 rfl) rfl ?_
      refine Sd_ixor (pc' := 45) (dc D_Bat_strike 22 rfl) rfl ?_
      refine Sd_putI (pc' := 48) (dc D_Bat_strike 23 rfl) rfl F_Bat_245 rfl rfl rfl (finOk.no rfl) (by decide) ?_
      refine Sd_aload_n (pc' := 49) (dc D_Bat_strike 24 rfl) rfl 0 rfl rfl ?_
      refine Sd_getR (pc' := 52) (dc D_Bat_strike 25 rfl) rfl F_Bat_31 rfl rfl ?_
      refine Sd_getR (pc' := 55) (dc D_Bat_strike 26 rfl) rfl F_Bat_116 rfl rfl ?_
      refine Sd_getI (pc' := 58) (dc D_Bat_strike 27 rfl) rfl F_Bat_245 rfl rfl ?_
      refine Sd.callSI (as := [_]) (pc' := 61) (dc D_Bat_strike 28 rfl) rfl K_Itg_bitCount L_Bat_248 Ks_Itg_bitCount ⟨by decide, by decide⟩ rfl rfl (Nat.le_of_ble_eq_true rfl) (s_Itg_bitCount _ _) (fun x19 h18 => ?_)
      exact Sd_iret (dc D_Bat_strike 29 rfl) rfl
    · refine Sd_iconst (pc' := 22) (dc D_Bat_strike 9 rfl) rfl ⟨by decide, by decide⟩ ?_
      exact Sd_iret (dc D_Bat_strike 10 rfl) rfl
theorem K_Bat_strike : MOk M_Bat_strike 1 := ⟨Tb_at 121 (by decide +kernel) rfl, Tb_at 1039 (by decide +kernel) rfl, by decide +kernel, by decide +kernel, by decide +kernel⟩
theorem Ks_Bat_strike : Cond.instanceMethod yX11_strike ∈ Tb := Tb_at 1037 (by decide +kernel) rfl
theorem Kv_Bat_strike : Cond.selects RX11 yX11_strike yX11_strike ∈ Tb := Tb_at 1038 (by decide +kernel) rfl
/-! ===== BatchShare.keep(I)I ===== -/
abbrev M_Bat_keep : AMt := (yX11_keep, cX11_keep, 6, (some .int))
def T_Bat_keep : List (Nat × Instr × Nat) := [(0, .aload_n 0, 1), (1, .getfield 31, 3), (4, .getfield 116, 3), (7, .astore_n 2, 1), (8, .aload_n 2, 1), (9, .getfield 210, 3), (12, .ifCond .ne 5, 3), (15, .iconst (-1), 1), (16, .ireturn, 1), (17, .aload_n 0, 1), (18, .getfield 58, 3), (21, .aload_n 0, 1), (22, .getfield 24, 3), (25, .aload_n 0, 1), (26, .getfield 105, 3), (29, .aload_n 2, 1), (30, .invokevirtual 167, 3), (33, .aload_n 0, 1), (34, .getfield 58, 3), (37, .iload_n 1, 1), (38, .invokevirtual 172, 3), (41, .ifCond .ne 5, 3), (44, .iconst (-1), 1), (45, .ireturn, 1), (46, .aload_n 0, 1), (47, .getfield 58, 3), (50, .getfield 175, 3), (53, .iload_n 1, 1), (54, .aaload, 1), (55, .astore_n 3, 1), (56, .aload_n 3, 1), (57, .aload_n 2, 1), (58, .invokevirtual 149, 3), (61, .istore 4, 2), (63, .iload 4, 2), (65, .aload_n 2, 1), (66, .getfield 192, 3), (69, .if_icmp .gt 14, 3), (72, .aload_n 2, 1), (73, .getfield 186, 3), (76, .aload_n 3, 1), (77, .invokevirtual 254, 3), (80, .ifCond .eq 5, 3), (83, .iconst (-1), 1), (84, .ireturn, 1), (85, .aload_n 0, 1), (86, .getfield 31, 3), (89, .invokevirtual 223, 3), (92, .aload_n 2, 1), (93, .iload 4, 2), (95, .invokevirtual 257, 3), (98, .istore 5, 2), (100, .aload_n 2, 1), (101, .getfield 186, 3), (104, .aload_n 3, 1), (105, .iload 4, 2), (107, .aload_n 2, 1), (108, .getfield 260, 3), (111, .invokevirtual 263, 3), (114, .aload_n 2, 1), (115, .dup, 1), (116, .getfield 267, 3), (119, .aload_n 3, 1), (120, .aload_n 2, 1), (121, .invokevirtual 180, 3), (124, .iadd, 1), (125, .putfield 267, 3), (128, .iload 5, 2), (130, .ireturn, 1)]
set_option maxRecDepth 20000 in
theorem D_Bat_keep : (T_Bat_keep.all fun q => decide (decode M_Bat_keep.2.1 q.1 = .ok q.2)) = true := by decide +kernel
def Bat_keep (v0 : Nat) (v1 : Int) (h : AH) : Option (Int × AH) := gR h 12 v0 5 fun r1 => gR h 11 r1 0 fun r2 => if r2 = 0 then none else gI h 9 r2 2 fun x3 => if ¬ (x3 : Int) = 0 then (gR h 12 v0 9 fun r4 => gR h 12 v0 3 fun r5 => gI h 12 v0 4 fun x6 => rc h 1 r4 <| bnd (Cho_collect r4 r5 x6 r2 h) fun _ h7 => gR h7 12 v0 9 fun r10 => rc h7 1 r10 <| bnd (Cho_has r10 v1 h7) fun x12 h11 => if ¬ (x12 : Int) = 0 then (gR h11 12 v0 9 fun r14 => gR h11 1 r14 0 fun r15 => aR h11 36 r15 v1 fun r16 => if r16 = 0 then none else rc h11 4 r16 <| bnd (Par_rowsIn r16 r2 h11) fun x18 h17 => gI h17 9 r2 3 fun x20 => if (x20 : Int) < x18 then (some ((-1), h17)) else (gR h17 9 r2 1 fun r21 => rc h17 8 r21 <| bnd (She_has r21 r16 h17) fun x23 h22 => if (x23 : Int) = 0 then (gR h22 12 v0 5 fun r25 => rc h22 11 r25 <| bnd (Wor_remember r25 h22) fun _ h26 => rc h26 9 r2 <| bnd (Sta_makeRoom r2 x18 h26) fun x30 h29 => gR h29 9 r2 1 fun r32 => gI h29 9 r2 6 fun x33 => rc h29 8 r32 <| bnd (She_add r32 r16 x18 x33 h29) fun _ h34 => gI h34 9 r2 5 fun x37 => rc h34 4 r16 <| bnd (Par_makeIn r16 r2 h34) fun x39 h38 => pI h38 9 r2 5 (wr (x37 + x39)) fun h41 => some (x30, h41)) else (some ((-1), h22)))) else (some ((-1), h11))) else (some ((-1), h))
set_option maxHeartbeats 4000000 in
set_option maxRecDepth 20000 in
theorem s_Bat_keep (v0 : Nat) (v1 : Int) (h : AH) : CS M_Bat_keep 7 153 emI [vr v0, vi v1] h (Bat_keep v0 v1 h) := by
  refine CS.of (by decide) (Nat.le_of_ble_eq_true rfl) ?_
  show Sd M_Bat_keep 7 153 emI 0 [(0, vr v0), (1, vi v1)] [] h _
  unfold Bat_keep
  refine Sd_aload_n (pc' := 1) (dc D_Bat_keep 0 rfl) rfl 0 rfl rfl ?_
  refine Sd_getR (pc' := 4) (dc D_Bat_keep 1 rfl) rfl F_Bat_31 rfl rfl ?_
  refine Sd_getR (pc' := 7) (dc D_Bat_keep 2 rfl) rfl F_Bat_116 rfl rfl ?_
  refine Sd_astore_n (pc' := 8) (l' := [(2, _), (0, _), (1, _)]) (dc D_Bat_keep 3 rfl) rfl rfl (by decide) rfl (fun _ => ?_)
  refine Sd_aload_n (pc' := 9) (dc D_Bat_keep 4 rfl) rfl 0 rfl rfl ?_
  refine Sd_getI (pc' := 12) (dc D_Bat_keep 5 rfl) rfl F_Bat_210 rfl rfl ?_
  refine Sd_if_ne (tgt := 17) (pc' := 15) (dc D_Bat_keep 6 rfl) (by decide) rfl (fun _ => ?_) (fun _ => ?_)
  · refine Sd_aload_n (pc' := 18) (dc D_Bat_keep 9 rfl) rfl 1 rfl rfl ?_
    refine Sd_getR (pc' := 21) (dc D_Bat_keep 10 rfl) rfl F_Bat_58 rfl rfl ?_
    refine Sd_aload_n (pc' := 22) (dc D_Bat_keep 11 rfl) rfl 1 rfl rfl ?_
    refine Sd_getR (pc' := 25) (dc D_Bat_keep 12 rfl) rfl F_Bat_24 rfl rfl ?_
    refine Sd_aload_n (pc' := 26) (dc D_Bat_keep 13 rfl) rfl 1 rfl rfl ?_
    refine Sd_getI (pc' := 29) (dc D_Bat_keep 14 rfl) rfl F_Bat_105 rfl rfl ?_
    refine Sd_aload_n (pc' := 30) (dc D_Bat_keep 15 rfl) rfl 0 rfl rfl ?_
    refine Sd.callVV (ci := 0) (t := 1) (as := [_, _, _]) RX0 (pc' := 33) (dc D_Bat_keep 16 rfl) rfl rfl rfl rfl K_Cho_collect L_Bat_167 Ks_Cho_collect Kv_Cho_collect ⟨by decide, by decide⟩ rfl rfl (Nat.le_of_ble_eq_true rfl) (s_Cho_collect _ _ _ _ _) (fun _ h7 => ?_)
    refine Sd_aload_n (pc' := 34) (dc D_Bat_keep 17 rfl) rfl 1 rfl rfl ?_
    refine Sd_getR (pc' := 37) (dc D_Bat_keep 18 rfl) rfl F_Bat_58 rfl rfl ?_
    refine Sd_iload_n (pc' := 38) (dc D_Bat_keep 19 rfl) rfl 2 rfl rfl ?_
    refine Sd.callVI (ci := 0) (t := 1) (as := [_]) RX0 (pc' := 41) (dc D_Bat_keep 20 rfl) rfl rfl rfl rfl K_Cho_has L_Bat_172 Ks_Cho_has Kv_Cho_has ⟨by decide, by decide⟩ rfl rfl (Nat.le_of_ble_eq_true rfl) (s_Cho_has _ _ _) (fun x12 h11 => ?_)
    refine Sd_if_ne (tgt := 46) (pc' := 44) (dc D_Bat_keep 21 rfl) (by decide) rfl (fun _ => ?_) (fun _ => ?_)
    · refine Sd_aload_n (pc' := 47) (dc D_Bat_keep 24 rfl) rfl 1 rfl rfl ?_
      refine Sd_getR (pc' := 50) (dc D_Bat_keep 25 rfl) rfl F_Bat_58 rfl rfl ?_
      refine Sd_getR (pc' := 53) (dc D_Bat_keep 26 rfl) rfl F_Bat_175 rfl rfl ?_
      refine Sd_iload_n (pc' := 54) (dc D_Bat_keep 27 rfl) rfl 2 rfl rfl ?_
      refine Sd_aaload (t := 36) (j := 8) (C0 := RX3) (pc' := 55) (dc D_Bat_keep 28 rfl) rfl rfl (by decide) ?_
      refine Sd_astore_n (pc' := 56) (l' := [(3, _), (2, _), (0, _), (1, _)]) (dc D_Bat_keep 29 rfl) rfl rfl (by decide) rfl (fun _ => ?_)
      refine Sd_aload_n (pc' := 57) (dc D_Bat_keep 30 rfl) rfl 0 rfl rfl ?_
      refine Sd_aload_n (pc' := 58) (dc D_Bat_keep 31 rfl) rfl 1 rfl rfl ?_
      refine Sd.callVI (ci := 3) (t := 4) (as := [_]) RX3 (pc' := 61) (dc D_Bat_keep 32 rfl) rfl rfl rfl rfl K_Par_rowsIn L_Bat_149 Ks_Par_rowsIn Kv_Par_rowsIn ⟨by decide, by decide⟩ rfl rfl (Nat.le_of_ble_eq_true rfl) (s_Par_rowsIn _ _ _) (fun x18 h17 => ?_)
      refine Sd_istore (pc' := 63) (l' := [(4, _), (3, _), (2, _), (0, _), (1, _)]) (dc D_Bat_keep 33 rfl) rfl (by decide) rfl ?_
      refine Sd_iload (pc' := 65) (dc D_Bat_keep 34 rfl) rfl 0 rfl ?_
      refine Sd_aload_n (pc' := 66) (dc D_Bat_keep 35 rfl) rfl 2 rfl rfl ?_
      refine Sd_getI (pc' := 69) (dc D_Bat_keep 36 rfl) rfl F_Bat_192 rfl rfl ?_
      refine Sd_icmp_gt (tgt := 83) (pc' := 72) (dc D_Bat_keep 37 rfl) (by decide) rfl (fun _ => ?_) (fun _ => ?_)
      · refine Sd_iconst (pc' := 84) (dc D_Bat_keep 43 rfl) rfl ⟨by decide, by decide⟩ ?_
        exact Sd_iret (dc D_Bat_keep 44 rfl) rfl
      · refine Sd_aload_n (pc' := 73) (dc D_Bat_keep 38 rfl) rfl 2 rfl rfl ?_
        refine Sd_getR (pc' := 76) (dc D_Bat_keep 39 rfl) rfl F_Bat_186 rfl rfl ?_
        refine Sd_aload_n (pc' := 77) (dc D_Bat_keep 40 rfl) rfl 1 rfl rfl ?_
        refine Sd.callVI (ci := 7) (t := 8) (as := [_]) RX7 (pc' := 80) (dc D_Bat_keep 41 rfl) rfl rfl rfl rfl K_She_has L_Bat_254 Ks_She_has Kv_She_has ⟨by decide, by decide⟩ rfl rfl (Nat.le_of_ble_eq_true rfl) (s_She_has _ _ _) (fun x23 h22 => ?_)
        refine Sd_if_eq (tgt := 85) (pc' := 83) (dc D_Bat_keep 42 rfl) (by decide) rfl (fun _ => ?_) (fun _ => ?_)
        · refine Sd_aload_n (pc' := 86) (dc D_Bat_keep 45 rfl) rfl 3 rfl rfl ?_
          refine Sd_getR (pc' := 89) (dc D_Bat_keep 46 rfl) rfl F_Bat_31 rfl rfl ?_
          refine Sd.callVV (ci := 10) (t := 11) (as := []) RX10 (pc' := 92) (dc D_Bat_keep 47 rfl) rfl rfl rfl rfl K_Wor_remember L_Bat_223 Ks_Wor_remember Kv_Wor_remember ⟨by decide, by decide⟩ rfl rfl (Nat.le_of_ble_eq_true rfl) (s_Wor_remember _ _) (fun _ h26 => ?_)
          refine Sd_aload_n (pc' := 93) (dc D_Bat_keep 48 rfl) rfl 2 rfl rfl ?_
          refine Sd_iload (pc' := 95) (dc D_Bat_keep 49 rfl) rfl 0 rfl ?_
          refine Sd.callVI (ci := 8) (t := 9) (as := [_]) RX8 (pc' := 98) (dc D_Bat_keep 50 rfl) rfl rfl rfl rfl K_Sta_makeRoom L_Bat_257 Ks_Sta_makeRoom Kv_Sta_makeRoom ⟨by decide, by decide⟩ rfl rfl (Nat.le_of_ble_eq_true rfl) (s_Sta_makeRoom _ _ _) (fun x30 h29 => ?_)
          refine Sd_istore (pc' := 100) (l' := [(5, _), (4, _), (3, _), (2, _), (0, _), (1, _)]) (dc D_Bat_keep 51 rfl) rfl (by decide) rfl ?_
          refine Sd_aload_n (pc' := 101) (dc D_Bat_keep 52 rfl) rfl 3 rfl rfl ?_
          refine Sd_getR (pc' := 104) (dc D_Bat_keep 53 rfl) rfl F_Bat_186 rfl rfl ?_
          refine Sd_aload_n (pc' := 105) (dc D_Bat_keep 54 rfl) rfl 2 rfl rfl ?_
          refine Sd_iload (pc' := 107) (dc D_Bat_keep 55 rfl) rfl 1 rfl ?_
          refine Sd_aload_n (pc' := 108) (dc D_Bat_keep 56 rfl) rfl 3 rfl rfl ?_
          refine Sd_getI (pc' := 111) (dc D_Bat_keep 57 rfl) rfl F_Bat_260 rfl rfl ?_
          refine Sd.callVV (ci := 7) (t := 8) (as := [_, _, _]) RX7 (pc' := 114) (dc D_Bat_keep 58 rfl) rfl rfl rfl rfl K_She_add L_Bat_263 Ks_She_add Kv_She_add ⟨by decide, by decide⟩ rfl rfl (Nat.le_of_ble_eq_true rfl) (s_She_add _ _ _ _ _) (fun _ h34 => ?_)
          refine Sd_aload_n (pc' := 115) (dc D_Bat_keep 59 rfl) rfl 3 rfl rfl ?_
          refine Sd_dup (pc' := 116) (dc D_Bat_keep 60 rfl) rfl (cat_r _) ?_
          refine Sd_getI (pc' := 119) (dc D_Bat_keep 61 rfl) rfl F_Bat_267 rfl rfl ?_
          refine Sd_aload_n (pc' := 120) (dc D_Bat_keep 62 rfl) rfl 2 rfl rfl ?_
          refine Sd_aload_n (pc' := 121) (dc D_Bat_keep 63 rfl) rfl 3 rfl rfl ?_
          refine Sd.callVI (ci := 3) (t := 4) (as := [_]) RX3 (pc' := 124) (dc D_Bat_keep 64 rfl) rfl rfl rfl rfl K_Par_makeIn L_Bat_180 Ks_Par_makeIn Kv_Par_makeIn ⟨by decide, by decide⟩ rfl rfl (Nat.le_of_ble_eq_true rfl) (s_Par_makeIn _ _ _) (fun x39 h38 => ?_)
          refine Sd_iadd (pc' := 125) (dc D_Bat_keep 65 rfl) rfl ?_
          refine Sd_putI (pc' := 128) (dc D_Bat_keep 66 rfl) rfl F_Bat_267 rfl rfl rfl (finOk.no rfl) (by decide) ?_
          refine Sd_iload (pc' := 130) (dc D_Bat_keep 67 rfl) rfl 0 rfl ?_
          exact Sd_iret (dc D_Bat_keep 68 rfl) rfl
        · refine Sd_iconst (pc' := 84) (dc D_Bat_keep 43 rfl) rfl ⟨by decide, by decide⟩ ?_
          exact Sd_iret (dc D_Bat_keep 44 rfl) rfl
    · refine Sd_iconst (pc' := 45) (dc D_Bat_keep 22 rfl) rfl ⟨by decide, by decide⟩ ?_
      exact Sd_iret (dc D_Bat_keep 23 rfl) rfl
  · refine Sd_iconst (pc' := 16) (dc D_Bat_keep 7 rfl) rfl ⟨by decide, by decide⟩ ?_
    exact Sd_iret (dc D_Bat_keep 8 rfl) rfl
theorem K_Bat_keep : MOk M_Bat_keep 1 := ⟨Tb_at 121 (by decide +kernel) rfl, Tb_at 1049 (by decide +kernel) rfl, by decide +kernel, by decide +kernel, by decide +kernel⟩
theorem Ks_Bat_keep : Cond.instanceMethod yX11_keep ∈ Tb := Tb_at 1047 (by decide +kernel) rfl
theorem Kv_Bat_keep : Cond.selects RX11 yX11_keep yX11_keep ∈ Tb := Tb_at 1048 (by decide +kernel) rfl
/-! ===== BatchShare.hasKept(I)Z ===== -/
abbrev M_Bat_hasKept : AMt := (yX11_hasKept, cX11_hasKept, 2, (some .boolean))
def T_Bat_hasKept : List (Nat × Instr × Nat) := [(0, .iload_n 1, 1), (1, .ifCond .lt 24, 3), (4, .iload_n 1, 1), (5, .aload_n 0, 1), (6, .getfield 31, 3), (9, .getfield 116, 3), (12, .getfield 186, 3), (15, .getfield 274, 3), (18, .if_icmp .ge 7, 3), (21, .iconst 1, 1), (22, .goto 4, 3), (25, .iconst 0, 1), (26, .ireturn, 1)]
set_option maxRecDepth 20000 in
theorem D_Bat_hasKept : (T_Bat_hasKept.all fun q => decide (decode M_Bat_hasKept.2.1 q.1 = .ok q.2)) = true := by decide +kernel
def Bat_hasKept (v0 : Nat) (v1 : Int) (h : AH) : Option (Int × AH) := if (v1 : Int) < 0 then (some (0, h)) else (gR h 12 v0 5 fun r1 => gR h 11 r1 0 fun r2 => gR h 9 r2 1 fun r3 => gI h 8 r3 1 fun x4 => if (x4 : Int) ≤ v1 then (some (0, h)) else (some (1, h)))
set_option maxHeartbeats 4000000 in
set_option maxRecDepth 20000 in
theorem s_Bat_hasKept (v0 : Nat) (v1 : Int) (h : AH) : CS M_Bat_hasKept 1 0 emI [vr v0, vi v1] h (Bat_hasKept v0 v1 h) := by
  refine CS.of (by decide) (Nat.le_of_ble_eq_true rfl) ?_
  show Sd M_Bat_hasKept 1 0 emI 0 [(0, vr v0), (1, vi v1)] [] h _
  unfold Bat_hasKept
  refine Sd_iload_n (pc' := 1) (dc D_Bat_hasKept 0 rfl) rfl 1 rfl rfl ?_
  refine Sd_if_lt (tgt := 25) (pc' := 4) (dc D_Bat_hasKept 1 rfl) (by decide) rfl (fun _ => ?_) (fun _ => ?_)
  · refine Sd_iconst (pc' := 26) (dc D_Bat_hasKept 11 rfl) rfl ⟨by decide, by decide⟩ ?_
    exact Sd_zret (dc D_Bat_hasKept 12 rfl) rfl (Or.inl rfl)
  · refine Sd_iload_n (pc' := 5) (dc D_Bat_hasKept 2 rfl) rfl 1 rfl rfl ?_
    refine Sd_aload_n (pc' := 6) (dc D_Bat_hasKept 3 rfl) rfl 0 rfl rfl ?_
    refine Sd_getR (pc' := 9) (dc D_Bat_hasKept 4 rfl) rfl F_Bat_31 rfl rfl ?_
    refine Sd_getR (pc' := 12) (dc D_Bat_hasKept 5 rfl) rfl F_Bat_116 rfl rfl ?_
    refine Sd_getR (pc' := 15) (dc D_Bat_hasKept 6 rfl) rfl F_Bat_186 rfl rfl ?_
    refine Sd_getI (pc' := 18) (dc D_Bat_hasKept 7 rfl) rfl F_Bat_274 rfl rfl ?_
    refine Sd_icmp_ge (tgt := 25) (pc' := 21) (dc D_Bat_hasKept 8 rfl) (by decide) rfl (fun _ => ?_) (fun _ => ?_)
    · refine Sd_iconst (pc' := 26) (dc D_Bat_hasKept 11 rfl) rfl ⟨by decide, by decide⟩ ?_
      exact Sd_zret (dc D_Bat_hasKept 12 rfl) rfl (Or.inl rfl)
    · refine Sd_iconst (pc' := 22) (dc D_Bat_hasKept 9 rfl) rfl ⟨by decide, by decide⟩ ?_
      refine Sd_goto (tgt := 26) (dc D_Bat_hasKept 10 rfl) (by decide) ?_
      exact Sd_zret (dc D_Bat_hasKept 12 rfl) rfl (Or.inr rfl)
theorem K_Bat_hasKept : MOk M_Bat_hasKept 1 := ⟨Tb_at 121 (by decide +kernel) rfl, Tb_at 1080 (by decide +kernel) rfl, by decide +kernel, by decide +kernel, by decide +kernel⟩
theorem Ks_Bat_hasKept : Cond.instanceMethod yX11_hasKept ∈ Tb := Tb_at 1079 (by decide +kernel) rfl
theorem Kv_Bat_hasKept : Cond.selects RX11 yX11_hasKept yX11_hasKept ∈ Tb := Tb_at 31 (by decide +kernel) rfl
/-! ===== BatchShare.forget(I)I ===== -/
abbrev M_Bat_forget : AMt := (yX11_forget, cX11_forget, 2, (some .int))
def T_Bat_forget : List (Nat × Instr × Nat) := [(0, .aload_n 0, 1), (1, .iload_n 1, 1), (2, .invokevirtual 270, 3), (5, .ifCond .ne 5, 3), (8, .iconst (-1), 1), (9, .ireturn, 1), (10, .aload_n 0, 1), (11, .getfield 31, 3), (14, .invokevirtual 223, 3), (17, .aload_n 0, 1), (18, .getfield 31, 3), (21, .getfield 116, 3), (24, .getfield 186, 3), (27, .iload_n 1, 1), (28, .invokevirtual 273, 3), (31, .aload_n 0, 1), (32, .getfield 31, 3), (35, .getfield 116, 3), (38, .getfield 186, 3), (41, .getfield 274, 3), (44, .ireturn, 1)]
set_option maxRecDepth 20000 in
theorem D_Bat_forget : (T_Bat_forget.all fun q => decide (decode M_Bat_forget.2.1 q.1 = .ok q.2)) = true := by decide +kernel
def Bat_forget (v0 : Nat) (v1 : Int) (h : AH) : Option (Int × AH) := rc h 12 v0 <| bnd (Bat_hasKept v0 v1 h) fun x2 h1 => if ¬ (x2 : Int) = 0 then (gR h1 12 v0 5 fun r4 => rc h1 11 r4 <| bnd (Wor_remember r4 h1) fun _ h5 => gR h5 12 v0 5 fun r8 => gR h5 11 r8 0 fun r9 => gR h5 9 r9 1 fun r10 => rc h5 8 r10 <| bnd (She_drop r10 v1 h5) fun _ h11 => gR h11 12 v0 5 fun r14 => gR h11 11 r14 0 fun r15 => gR h11 9 r15 1 fun r16 => gI h11 8 r16 1 fun x17 => some (x17, h11)) else (some ((-1), h1))
set_option maxHeartbeats 4000000 in
set_option maxRecDepth 20000 in
theorem s_Bat_forget (v0 : Nat) (v1 : Int) (h : AH) : CS M_Bat_forget 7 153 emI [vr v0, vi v1] h (Bat_forget v0 v1 h) := by
  refine CS.of (by decide) (Nat.le_of_ble_eq_true rfl) ?_
  show Sd M_Bat_forget 7 153 emI 0 [(0, vr v0), (1, vi v1)] [] h _
  unfold Bat_forget
  refine Sd_aload_n (pc' := 1) (dc D_Bat_forget 0 rfl) rfl 0 rfl rfl ?_
  refine Sd_iload_n (pc' := 2) (dc D_Bat_forget 1 rfl) rfl 1 rfl rfl ?_
  refine Sd.callVI (ci := 11) (t := 12) (as := [_]) RX11 (pc' := 5) (dc D_Bat_forget 2 rfl) rfl rfl rfl rfl K_Bat_hasKept L_Bat_270 Ks_Bat_hasKept Kv_Bat_hasKept ⟨by decide, by decide⟩ rfl rfl (Nat.le_of_ble_eq_true rfl) (s_Bat_hasKept _ _ _) (fun x2 h1 => ?_)
  refine Sd_if_ne (tgt := 10) (pc' := 8) (dc D_Bat_forget 3 rfl) (by decide) rfl (fun _ => ?_) (fun _ => ?_)
  · refine Sd_aload_n (pc' := 11) (dc D_Bat_forget 6 rfl) rfl 0 rfl rfl ?_
    refine Sd_getR (pc' := 14) (dc D_Bat_forget 7 rfl) rfl F_Bat_31 rfl rfl ?_
    refine Sd.callVV (ci := 10) (t := 11) (as := []) RX10 (pc' := 17) (dc D_Bat_forget 8 rfl) rfl rfl rfl rfl K_Wor_remember L_Bat_223 Ks_Wor_remember Kv_Wor_remember ⟨by decide, by decide⟩ rfl rfl (Nat.le_of_ble_eq_true rfl) (s_Wor_remember _ _) (fun _ h5 => ?_)
    refine Sd_aload_n (pc' := 18) (dc D_Bat_forget 9 rfl) rfl 0 rfl rfl ?_
    refine Sd_getR (pc' := 21) (dc D_Bat_forget 10 rfl) rfl F_Bat_31 rfl rfl ?_
    refine Sd_getR (pc' := 24) (dc D_Bat_forget 11 rfl) rfl F_Bat_116 rfl rfl ?_
    refine Sd_getR (pc' := 27) (dc D_Bat_forget 12 rfl) rfl F_Bat_186 rfl rfl ?_
    refine Sd_iload_n (pc' := 28) (dc D_Bat_forget 13 rfl) rfl 1 rfl rfl ?_
    refine Sd.callVV (ci := 7) (t := 8) (as := [_]) RX7 (pc' := 31) (dc D_Bat_forget 14 rfl) rfl rfl rfl rfl K_She_drop L_Bat_273 Ks_She_drop Kv_She_drop ⟨by decide, by decide⟩ rfl rfl (Nat.le_of_ble_eq_true rfl) (s_She_drop _ _ _) (fun _ h11 => ?_)
    refine Sd_aload_n (pc' := 32) (dc D_Bat_forget 15 rfl) rfl 0 rfl rfl ?_
    refine Sd_getR (pc' := 35) (dc D_Bat_forget 16 rfl) rfl F_Bat_31 rfl rfl ?_
    refine Sd_getR (pc' := 38) (dc D_Bat_forget 17 rfl) rfl F_Bat_116 rfl rfl ?_
    refine Sd_getR (pc' := 41) (dc D_Bat_forget 18 rfl) rfl F_Bat_186 rfl rfl ?_
    refine Sd_getI (pc' := 44) (dc D_Bat_forget 19 rfl) rfl F_Bat_274 rfl rfl ?_
    exact Sd_iret (dc D_Bat_forget 20 rfl) rfl
  · refine Sd_iconst (pc' := 9) (dc D_Bat_forget 4 rfl) rfl ⟨by decide, by decide⟩ ?_
    exact Sd_iret (dc D_Bat_forget 5 rfl) rfl
theorem K_Bat_forget : MOk M_Bat_forget 1 := ⟨Tb_at 121 (by decide +kernel) rfl, Tb_at 1076 (by decide +kernel) rfl, by decide +kernel, by decide +kernel, by decide +kernel⟩
theorem Ks_Bat_forget : Cond.instanceMethod yX11_forget ∈ Tb := Tb_at 1074 (by decide +kernel) rfl
theorem Kv_Bat_forget : Cond.selects RX11 yX11_forget yX11_forget ∈ Tb := Tb_at 1075 (by decide +kernel) rfl
/-! ===== BatchShare.refresh(I)I ===== -/
abbrev M_Bat_refresh : AMt := (yX11_refresh, cX11_refresh, 2, (some .int))
def T_Bat_refresh : List (Nat × Instr × Nat) := [(0, .aload_n 0, 1), (1, .iload_n 1, 1), (2, .invokevirtual 270, 3), (5, .ifCond .eq 24, 3), (8, .aload_n 0, 1), (9, .getfield 31, 3), (12, .getfield 116, 3), (15, .getfield 186, 3), (18, .getfield 275, 3), (21, .iload_n 1, 1), (22, .aaload, 1), (23, .getfield 279, 3), (26, .ifCond .ne 5, 3), (29, .iconst (-1), 1), (30, .ireturn, 1), (31, .aload_n 0, 1), (32, .getfield 31, 3), (35, .invokevirtual 223, 3), (38, .aload_n 0, 1), (39, .getfield 31, 3), (42, .getfield 116, 3), (45, .iload_n 1, 1), (46, .invokevirtual 284, 3), (49, .ifCond .eq 24, 3), (52, .aload_n 0, 1), (53, .getfield 31, 3), (56, .getfield 116, 3), (59, .getfield 186, 3), (62, .getfield 275, 3), (65, .iload_n 1, 1), (66, .aaload, 1), (67, .getfield 287, 3), (70, .goto 5, 3), (73, .bipush (-2), 2), (75, .ireturn, 1)]
set_option maxRecDepth 20000 in
theorem D_Bat_refresh : (T_Bat_refresh.all fun q => decide (decode M_Bat_refresh.2.1 q.1 = .ok q.2)) = true := by decide +kernel
def Bat_refresh (v0 : Nat) (v1 : Int) (h : AH) : Option (Int × AH) := rc h 12 v0 <| bnd (Bat_hasKept v0 v1 h) fun x2 h1 => if (x2 : Int) = 0 then (some ((-1), h1)) else (gR h1 12 v0 5 fun r4 => gR h1 11 r4 0 fun r5 => gR h1 9 r5 1 fun r6 => gR h1 8 r6 0 fun r7 => aR h1 35 r7 v1 fun r8 => gI h1 3 r8 3 fun x9 => if ¬ (x9 : Int) = 0 then (gR h1 12 v0 5 fun r10 => rc h1 11 r10 <| bnd (Wor_remember r10 h1) fun _ h11 => gR h11 12 v0 5 fun r14 => gR h11 11 r14 0 fun r15 => rc h11 9 r15 <| bnd (Sta_makeAnew r15 v1 h11) fun x17 h16 => if (x17 : Int) = 0 then (some ((-2), h16)) else (gR h16 12 v0 5 fun r19 => gR h16 11 r19 0 fun r20 => gR h16 9 r20 1 fun r21 => gR h16 8 r21 0 fun r22 => aR h16 35 r22 v1 fun r23 => gI h16 3 r23 1 fun x24 => some (x24, h16))) else (some ((-1), h1)))
set_option maxHeartbeats 4000000 in
set_option maxRecDepth 20000 in
theorem s_Bat_refresh (v0 : Nat) (v1 : Int) (h : AH) : CS M_Bat_refresh 7 153 emI [vr v0, vi v1] h (Bat_refresh v0 v1 h) := by
  refine CS.of (by decide) (Nat.le_of_ble_eq_true rfl) ?_
  show Sd M_Bat_refresh 7 153 emI 0 [(0, vr v0), (1, vi v1)] [] h _
  unfold Bat_refresh
  refine Sd_aload_n (pc' := 1) (dc D_Bat_refresh 0 rfl) rfl 0 rfl rfl ?_
  refine Sd_iload_n (pc' := 2) (dc D_Bat_refresh 1 rfl) rfl 1 rfl rfl ?_
  refine Sd.callVI (ci := 11) (t := 12) (as := [_]) RX11 (pc' := 5) (dc D_Bat_refresh 2 rfl) rfl rfl rfl rfl K_Bat_hasKept L_Bat_270 Ks_Bat_hasKept Kv_Bat_hasKept ⟨by decide, by decide⟩ rfl rfl (Nat.le_of_ble_eq_true rfl) (s_Bat_hasKept _ _ _) (fun x2 h1 => ?_)
  refine Sd_if_eq (tgt := 29) (pc' := 8) (dc D_Bat_refresh 3 rfl) (by decide) rfl (fun _ => ?_) (fun _ => ?_)
  · refine Sd_iconst (pc' := 30) (dc D_Bat_refresh 13 rfl) rfl ⟨by decide, by decide⟩ ?_
    exact Sd_iret (dc D_Bat_refresh 14 rfl) rfl
  · refine Sd_aload_n (pc' := 9) (dc D_Bat_refresh 4 rfl) rfl 0 rfl rfl ?_
    refine Sd_getR (pc' := 12) (dc D_Bat_refresh 5 rfl) rfl F_Bat_31 rfl rfl ?_
    refine Sd_getR (pc' := 15) (dc D_Bat_refresh 6 rfl) rfl F_Bat_116 rfl rfl ?_
    refine Sd_getR (pc' := 18) (dc D_Bat_refresh 7 rfl) rfl F_Bat_186 rfl rfl ?_
    refine Sd_getR (pc' := 21) (dc D_Bat_refresh 8 rfl) rfl F_Bat_275 rfl rfl ?_
    refine Sd_iload_n (pc' := 22) (dc D_Bat_refresh 9 rfl) rfl 1 rfl rfl ?_
    refine Sd_aaload (t := 35) (j := 7) (C0 := RX2) (pc' := 23) (dc D_Bat_refresh 10 rfl) rfl rfl (by decide) ?_
    refine Sd_getI (pc' := 26) (dc D_Bat_refresh 11 rfl) rfl F_Bat_279 rfl rfl ?_
    refine Sd_if_ne (tgt := 31) (pc' := 29) (dc D_Bat_refresh 12 rfl) (by decide) rfl (fun _ => ?_) (fun _ => ?_)
    · refine Sd_aload_n (pc' := 32) (dc D_Bat_refresh 15 rfl) rfl 0 rfl rfl ?_
      refine Sd_getR (pc' := 35) (dc D_Bat_refresh 16 rfl) rfl F_Bat_31 rfl rfl ?_
      refine Sd.callVV (ci := 10) (t := 11) (as := []) RX10 (pc' := 38) (dc D_Bat_refresh 17 rfl) rfl rfl rfl rfl K_Wor_remember L_Bat_223 Ks_Wor_remember Kv_Wor_remember ⟨by decide, by decide⟩ rfl rfl (Nat.le_of_ble_eq_true rfl) (s_Wor_remember _ _) (fun _ h11 => ?_)
      refine Sd_aload_n (pc' := 39) (dc D_Bat_refresh 18 rfl) rfl 0 rfl rfl ?_
      refine Sd_getR (pc' := 42) (dc D_Bat_refresh 19 rfl) rfl F_Bat_31 rfl rfl ?_
      refine Sd_getR (pc' := 45) (dc D_Bat_refresh 20 rfl) rfl F_Bat_116 rfl rfl ?_
      refine Sd_iload_n (pc' := 46) (dc D_Bat_refresh 21 rfl) rfl 1 rfl rfl ?_
      refine Sd.callVI (ci := 8) (t := 9) (as := [_]) RX8 (pc' := 49) (dc D_Bat_refresh 22 rfl) rfl rfl rfl rfl K_Sta_makeAnew L_Bat_284 Ks_Sta_makeAnew Kv_Sta_makeAnew ⟨by decide, by decide⟩ rfl rfl (Nat.le_of_ble_eq_true rfl) (s_Sta_makeAnew _ _ _) (fun x17 h16 => ?_)
      refine Sd_if_eq (tgt := 73) (pc' := 52) (dc D_Bat_refresh 23 rfl) (by decide) rfl (fun _ => ?_) (fun _ => ?_)
      · refine Sd_bipush (pc' := 75) (dc D_Bat_refresh 33 rfl) rfl ⟨by decide, by decide⟩ (by decide) ?_
        exact Sd_iret (dc D_Bat_refresh 34 rfl) rfl
      · refine Sd_aload_n (pc' := 53) (dc D_Bat_refresh 24 rfl) rfl 0 rfl rfl ?_
        refine Sd_getR (pc' := 56) (dc D_Bat_refresh 25 rfl) rfl F_Bat_31 rfl rfl ?_
        refine Sd_getR (pc' := 59) (dc D_Bat_refresh 26 rfl) rfl F_Bat_116 rfl rfl ?_
        refine Sd_getR (pc' := 62) (dc D_Bat_refresh 27 rfl) rfl F_Bat_186 rfl rfl ?_
        refine Sd_getR (pc' := 65) (dc D_Bat_refresh 28 rfl) rfl F_Bat_275 rfl rfl ?_
        refine Sd_iload_n (pc' := 66) (dc D_Bat_refresh 29 rfl) rfl 1 rfl rfl ?_
        refine Sd_aaload (t := 35) (j := 7) (C0 := RX2) (pc' := 67) (dc D_Bat_refresh 30 rfl) rfl rfl (by decide) ?_
        refine Sd_getI (pc' := 70) (dc D_Bat_refresh 31 rfl) rfl F_Bat_287 rfl rfl ?_
        refine Sd_goto (tgt := 75) (dc D_Bat_refresh 32 rfl) (by decide) ?_
        exact Sd_iret (dc D_Bat_refresh 34 rfl) rfl
    · refine Sd_iconst (pc' := 30) (dc D_Bat_refresh 13 rfl) rfl ⟨by decide, by decide⟩ ?_
      exact Sd_iret (dc D_Bat_refresh 14 rfl) rfl
theorem K_Bat_refresh : MOk M_Bat_refresh 1 := ⟨Tb_at 121 (by decide +kernel) rfl, Tb_at 1085 (by decide +kernel) rfl, by decide +kernel, by decide +kernel, by decide +kernel⟩
theorem Ks_Bat_refresh : Cond.instanceMethod yX11_refresh ∈ Tb := Tb_at 1083 (by decide +kernel) rfl
theorem Kv_Bat_refresh : Cond.selects RX11 yX11_refresh yX11_refresh ∈ Tb := Tb_at 1084 (by decide +kernel) rfl
/-! ===== BatchShare.run()I ===== -/
abbrev M_Bat_run : AMt := (yX11_run, cX11_run, 3, (some .int))
def T_Bat_run : List (Nat × Instr × Nat) := [(0, .aload_n 0, 1), (1, .getfield 31, 3), (4, .getfield 116, 3), (7, .astore_n 1, 1), (8, .aload_n 1, 1), (9, .getfield 210, 3), (12, .ifCond .ne 5, 3), (15, .iconst (-1), 1), (16, .ireturn, 1), (17, .aload_n 0, 1), (18, .getfield 31, 3), (21, .invokevirtual 223, 3), (24, .aload_n 1, 1), (25, .dup, 1), (26, .getfield 260, 3), (29, .iconst 1, 1), (30, .iadd, 1), (31, .putfield 260, 3), (34, .aload_n 0, 1), (35, .getfield 51, 3), (38, .aload_n 1, 1), (39, .aload_n 0, 1), (40, .getfield 105, 3), (43, .invokevirtual 159, 3), (46, .aload_n 0, 1), (47, .getfield 51, 3), (50, .aload_n 1, 1), (51, .getfield 186, 3), (54, .aload_n 1, 1), (55, .getfield 260, 3), (58, .invokevirtual 290, 3), (61, .istore_n 2, 1), (62, .aload_n 1, 1), (63, .dup, 1), (64, .getfield 267, 3), (67, .iload_n 2, 1), (68, .iadd, 1), (69, .putfield 267, 3), (72, .iload_n 2, 1), (73, .ireturn, 1)]
set_option maxRecDepth 20000 in
theorem D_Bat_run : (T_Bat_run.all fun q => decide (decode M_Bat_run.2.1 q.1 = .ok q.2)) = true := by decide +kernel
def Bat_run (v0 : Nat) (h : AH) : Option (Int × AH) := gR h 12 v0 5 fun r1 => gR h 11 r1 0 fun r2 => if r2 = 0 then none else gI h 9 r2 2 fun x3 => if ¬ (x3 : Int) = 0 then (gR h 12 v0 5 fun r4 => rc h 11 r4 <| bnd (Wor_remember r4 h) fun _ h5 => gI h5 9 r2 6 fun x8 => pI h5 9 r2 6 (wr (x8 + 1)) fun h9 => gR h9 12 v0 8 fun r10 => gI h9 12 v0 4 fun x11 => rc h9 5 r10 <| bnd (Pri_look r10 r2 x11 h9) fun _ h12 => gR h12 12 v0 8 fun r15 => gR h12 9 r2 1 fun r16 => gI h12 9 r2 6 fun x17 => rc h12 5 r15 <| bnd (Pri_batchUsing r15 r16 x17 h12) fun x19 h18 => gI h18 9 r2 5 fun x21 => pI h18 9 r2 5 (wr (x21 + x19)) fun h22 => some (x19, h22)) else (some ((-1), h))
set_option maxHeartbeats 4000000 in
set_option maxRecDepth 20000 in
theorem s_Bat_run (v0 : Nat) (h : AH) : CS M_Bat_run 7 153 emI [vr v0] h (Bat_run v0 h) := by
  refine CS.of (by decide) (Nat.le_of_ble_eq_true rfl) ?_
  show Sd M_Bat_run 7 153 emI 0 [(0, vr v0)] [] h _
  unfold Bat_run
  refine Sd_aload_n (pc' := 1) (dc D_Bat_run 0 rfl) rfl 0 rfl rfl ?_
  refine Sd_getR (pc' := 4) (dc D_Bat_run 1 rfl) rfl F_Bat_31 rfl rfl ?_
  refine Sd_getR (pc' := 7) (dc D_Bat_run 2 rfl) rfl F_Bat_116 rfl rfl ?_
  refine Sd_astore_n (pc' := 8) (l' := [(1, _), (0, _)]) (dc D_Bat_run 3 rfl) rfl rfl (by decide) rfl (fun _ => ?_)
  refine Sd_aload_n (pc' := 9) (dc D_Bat_run 4 rfl) rfl 0 rfl rfl ?_
  refine Sd_getI (pc' := 12) (dc D_Bat_run 5 rfl) rfl F_Bat_210 rfl rfl ?_
  refine Sd_if_ne (tgt := 17) (pc' := 15) (dc D_Bat_run 6 rfl) (by decide) rfl (fun _ => ?_) (fun _ => ?_)
  · refine Sd_aload_n (pc' := 18) (dc D_Bat_run 9 rfl) rfl 1 rfl rfl ?_
    refine Sd_getR (pc' := 21) (dc D_Bat_run 10 rfl) rfl F_Bat_31 rfl rfl ?_
    refine Sd.callVV (ci := 10) (t := 11) (as := []) RX10 (pc' := 24) (dc D_Bat_run 11 rfl) rfl rfl rfl rfl K_Wor_remember L_Bat_223 Ks_Wor_remember Kv_Wor_remember ⟨by decide, by decide⟩ rfl rfl (Nat.le_of_ble_eq_true rfl) (s_Wor_remember _ _) (fun _ h5 => ?_)
    refine Sd_aload_n (pc' := 25) (dc D_Bat_run 12 rfl) rfl 0 rfl rfl ?_
    refine Sd_dup (pc' := 26) (dc D_Bat_run 13 rfl) rfl (cat_r _) ?_
    refine Sd_getI (pc' := 29) (dc D_Bat_run 14 rfl) rfl F_Bat_260 rfl rfl ?_
    refine Sd_iconst (pc' := 30) (dc D_Bat_run 15 rfl) rfl ⟨by decide, by decide⟩ ?_
    refine Sd_iadd (pc' := 31) (dc D_Bat_run 16 rfl) rfl ?_
    refine Sd_putI (pc' := 34) (dc D_Bat_run 17 rfl) rfl F_Bat_260 rfl rfl rfl (finOk.no rfl) (by decide) ?_
    refine Sd_aload_n (pc' := 35) (dc D_Bat_run 18 rfl) rfl 1 rfl rfl ?_
    refine Sd_getR (pc' := 38) (dc D_Bat_run 19 rfl) rfl F_Bat_51 rfl rfl ?_
    refine Sd_aload_n (pc' := 39) (dc D_Bat_run 20 rfl) rfl 0 rfl rfl ?_
    refine Sd_aload_n (pc' := 40) (dc D_Bat_run 21 rfl) rfl 1 rfl rfl ?_
    refine Sd_getI (pc' := 43) (dc D_Bat_run 22 rfl) rfl F_Bat_105 rfl rfl ?_
    refine Sd.callVV (ci := 4) (t := 5) (as := [_, _]) RX4 (pc' := 46) (dc D_Bat_run 23 rfl) rfl rfl rfl rfl K_Pri_look L_Bat_159 Ks_Pri_look Kv_Pri_look ⟨by decide, by decide⟩ rfl rfl (Nat.le_of_ble_eq_true rfl) (s_Pri_look _ _ _ _) (fun _ h12 => ?_)
    refine Sd_aload_n (pc' := 47) (dc D_Bat_run 24 rfl) rfl 1 rfl rfl ?_
    refine Sd_getR (pc' := 50) (dc D_Bat_run 25 rfl) rfl F_Bat_51 rfl rfl ?_
    refine Sd_aload_n (pc' := 51) (dc D_Bat_run 26 rfl) rfl 0 rfl rfl ?_
    refine Sd_getR (pc' := 54) (dc D_Bat_run 27 rfl) rfl F_Bat_186 rfl rfl ?_
    refine Sd_aload_n (pc' := 55) (dc D_Bat_run 28 rfl) rfl 0 rfl rfl ?_
    refine Sd_getI (pc' := 58) (dc D_Bat_run 29 rfl) rfl F_Bat_260 rfl rfl ?_
    refine Sd.callVI (ci := 4) (t := 5) (as := [_, _]) RX4 (pc' := 61) (dc D_Bat_run 30 rfl) rfl rfl rfl rfl K_Pri_batchUsing L_Bat_290 Ks_Pri_batchUsing Kv_Pri_batchUsing ⟨by decide, by decide⟩ rfl rfl (Nat.le_of_ble_eq_true rfl) (s_Pri_batchUsing _ _ _ _) (fun x19 h18 => ?_)
    refine Sd_istore_n (pc' := 62) (l' := [(2, _), (1, _), (0, _)]) (dc D_Bat_run 31 rfl) rfl rfl (by decide) rfl ?_
    refine Sd_aload_n (pc' := 63) (dc D_Bat_run 32 rfl) rfl 1 rfl rfl ?_
    refine Sd_dup (pc' := 64) (dc D_Bat_run 33 rfl) rfl (cat_r _) ?_
    refine Sd_getI (pc' := 67) (dc D_Bat_run 34 rfl) rfl F_Bat_267 rfl rfl ?_
    refine Sd_iload_n (pc' := 68) (dc D_Bat_run 35 rfl) rfl 0 rfl rfl ?_
    refine Sd_iadd (pc' := 69) (dc D_Bat_run 36 rfl) rfl ?_
    refine Sd_putI (pc' := 72) (dc D_Bat_run 37 rfl) rfl F_Bat_267 rfl rfl rfl (finOk.no rfl) (by decide) ?_
    refine Sd_iload_n (pc' := 73) (dc D_Bat_run 38 rfl) rfl 0 rfl rfl ?_
    exact Sd_iret (dc D_Bat_run 39 rfl) rfl
  · refine Sd_iconst (pc' := 16) (dc D_Bat_run 7 rfl) rfl ⟨by decide, by decide⟩ ?_
    exact Sd_iret (dc D_Bat_run 8 rfl) rfl
theorem K_Bat_run : MOk M_Bat_run 0 := ⟨Tb_at 121 (by decide +kernel) rfl, Tb_at 1095 (by decide +kernel) rfl, by decide +kernel, by decide +kernel, by decide +kernel⟩
theorem Ks_Bat_run : Cond.instanceMethod yX11_run ∈ Tb := Tb_at 1093 (by decide +kernel) rfl
theorem Kv_Bat_run : Cond.selects RX11 yX11_run yX11_run ∈ Tb := Tb_at 1094 (by decide +kernel) rfl
/-! ===== BatchShare.undo()I ===== -/
abbrev M_Bat_undo : AMt := (yX11_undo, cX11_undo, 1, (some .int))
def T_Bat_undo : List (Nat × Instr × Nat) := [(0, .aload_n 0, 1), (1, .getfield 31, 3), (4, .invokevirtual 294, 3), (7, .ireturn, 1)]
set_option maxRecDepth 20000 in
theorem D_Bat_undo : (T_Bat_undo.all fun q => decide (decode M_Bat_undo.2.1 q.1 = .ok q.2)) = true := by decide +kernel
def Bat_undo (v0 : Nat) (h : AH) : Option (Int × AH) := gR h 12 v0 5 fun r1 => rc h 11 r1 <| bnd (Wor_goBack r1 h) fun x3 h2 => some (x3, h2)
set_option maxHeartbeats 4000000 in
set_option maxRecDepth 20000 in
theorem s_Bat_undo (v0 : Nat) (h : AH) : CS M_Bat_undo 6 132 emI [vr v0] h (Bat_undo v0 h) := by
  refine CS.of (by decide) (Nat.le_of_ble_eq_true rfl) ?_
  show Sd M_Bat_undo 6 132 emI 0 [(0, vr v0)] [] h _
  unfold Bat_undo
  refine Sd_aload_n (pc' := 1) (dc D_Bat_undo 0 rfl) rfl 0 rfl rfl ?_
  refine Sd_getR (pc' := 4) (dc D_Bat_undo 1 rfl) rfl F_Bat_31 rfl rfl ?_
  refine Sd.callVI (ci := 10) (t := 11) (as := []) RX10 (pc' := 7) (dc D_Bat_undo 2 rfl) rfl rfl rfl rfl K_Wor_goBack L_Bat_294 Ks_Wor_goBack Kv_Wor_goBack ⟨by decide, by decide⟩ rfl rfl (Nat.le_of_ble_eq_true rfl) (s_Wor_goBack _ _) (fun x3 h2 => ?_)
  exact Sd_iret (dc D_Bat_undo 3 rfl) rfl
theorem K_Bat_undo : MOk M_Bat_undo 0 := ⟨Tb_at 121 (by decide +kernel) rfl, Tb_at 1107 (by decide +kernel) rfl, by decide +kernel, by decide +kernel, by decide +kernel⟩
theorem Ks_Bat_undo : Cond.instanceMethod yX11_undo ∈ Tb := Tb_at 1105 (by decide +kernel) rfl
theorem Kv_Bat_undo : Cond.selects RX11 yX11_undo yX11_undo ∈ Tb := Tb_at 1106 (by decide +kernel) rfl
/-! ===== BatchShare.kept(II)I ===== -/
abbrev M_Bat_kept : AMt := (yX11_kept, cX11_kept, 4, (some .int))
def T_Bat_kept : List (Nat × Instr × Nat) := [(0, .aload_n 0, 1), (1, .iload_n 1, 1), (2, .invokevirtual 270, 3), (5, .ifCond .eq 13, 3), (8, .iload_n 2, 1), (9, .ifCond .lt 9, 3), (12, .iload_n 2, 1), (13, .bipush 15, 2), (15, .if_icmp .le 6, 3), (18, .bipush (-2), 2), (20, .ireturn, 1), (21, .aload_n 0, 1), (22, .getfield 31, 3), (25, .getfield 116, 3), (28, .getfield 186, 3), (31, .getfield 275, 3), (34, .iload_n 1, 1), (35, .aaload, 1), (36, .astore_n 3, 1), (37, .iload_n 2, 1), (38, .bipush 13, 2), (40, .if_icmp .ge 13, 3), (43, .aload_n 3, 1), (44, .getfield 297, 3), (47, .getfield 179, 3), (50, .iload_n 2, 1), (51, .iaload, 1), (52, .ireturn, 1), (53, .iload_n 2, 1), (54, .bipush 13, 2), (56, .if_icmp .ne 8, 3), (59, .aload_n 3, 1), (60, .getfield 287, 3), (63, .ireturn, 1), (64, .iload_n 2, 1), (65, .bipush 14, 2), (67, .if_icmp .ne 8, 3), (70, .aload_n 3, 1), (71, .getfield 301, 3), (74, .ireturn, 1), (75, .aload_n 3, 1), (76, .getfield 279, 3), (79, .ifCond .eq 7, 3), (82, .iconst 1, 1), (83, .goto 4, 3), (86, .iconst 0, 1), (87, .ireturn, 1)]
set_option maxRecDepth 20000 in
theorem D_Bat_kept : (T_Bat_kept.all fun q => decide (decode M_Bat_kept.2.1 q.1 = .ok q.2)) = true := by decide +kernel
def Bat_kept (v0 : Nat) (v1 : Int) (v2 : Int) (h : AH) : Option (Int × AH) := rc h 12 v0 <| bnd (Bat_hasKept v0 v1 h) fun x2 h1 => if (x2 : Int) = 0 then (some ((-2), h1)) else (if (v2 : Int) < 0 then (some ((-2), h1)) else (if (v2 : Int) ≤ 15 then (gR h1 12 v0 5 fun r4 => gR h1 11 r4 0 fun r5 => gR h1 9 r5 1 fun r6 => gR h1 8 r6 0 fun r7 => aR h1 35 r7 v1 fun r8 => if r8 = 0 then none else if (13 : Int) ≤ v2 then (if ¬ (v2 : Int) = 13 then (if ¬ (v2 : Int) = 14 then (gI h1 3 r8 3 fun x9 => if (x9 : Int) = 0 then (some (0, h1)) else (some (1, h1))) else (gI h1 3 r8 2 fun x10 => some (x10, h1))) else (gI h1 3 r8 1 fun x11 => some (x11, h1))) else (gR h1 3 r8 0 fun r12 => gR h1 4 r12 0 fun r13 => aI h1 21 r13 v2 fun x14 => some (x14, h1))) else (some ((-2), h1))))
set_option maxHeartbeats 4000000 in
set_option maxRecDepth 20000 in
theorem s_Bat_kept (v0 : Nat) (v1 : Int) (v2 : Int) (h : AH) : CS M_Bat_kept 2 21 emI [vr v0, vi v1, vi v2] h (Bat_kept v0 v1 v2 h) := by
  refine CS.of (by decide) (Nat.le_of_ble_eq_true rfl) ?_
  show Sd M_Bat_kept 2 21 emI 0 [(0, vr v0), (1, vi v1), (2, vi v2)] [] h _
  unfold Bat_kept
  refine Sd_aload_n (pc' := 1) (dc D_Bat_kept 0 rfl) rfl 0 rfl rfl ?_
  refine Sd_iload_n (pc' := 2) (dc D_Bat_kept 1 rfl) rfl 1 rfl rfl ?_
  refine Sd.callVI (ci := 11) (t := 12) (as := [_]) RX11 (pc' := 5) (dc D_Bat_kept 2 rfl) rfl rfl rfl rfl K_Bat_hasKept L_Bat_270 Ks_Bat_hasKept Kv_Bat_hasKept ⟨by decide, by decide⟩ rfl rfl (Nat.le_of_ble_eq_true rfl) (s_Bat_hasKept _ _ _) (fun x2 h1 => ?_)
  refine Sd_if_eq (tgt := 18) (pc' := 8) (dc D_Bat_kept 3 rfl) (by decide) rfl (fun _ => ?_) (fun _ => ?_)
  · refine Sd_bipush (pc' := 20) (dc D_Bat_kept 9 rfl) rfl ⟨by decide, by decide⟩ (by decide) ?_
    exact Sd_iret (dc D_Bat_kept 10 rfl) rfl
  · refine Sd_iload_n (pc' := 9) (dc D_Bat_kept 4 rfl) rfl 2 rfl rfl ?_
    refine Sd_if_lt (tgt := 18) (pc' := 12) (dc D_Bat_kept 5 rfl) (by decide) rfl (fun _ => ?_) (fun _ => ?_)
    · refine Sd_bipush (pc' := 20) (dc D_Bat_kept 9 rfl) rfl ⟨by decide, by decide⟩ (by decide) ?_
      exact Sd_iret (dc D_Bat_kept 10 rfl) rfl
    · refine Sd_iload_n (pc' := 13) (dc D_Bat_kept 6 rfl) rfl 2 rfl rfl ?_
      refine Sd_bipush (pc' := 15) (dc D_Bat_kept 7 rfl) rfl ⟨by decide, by decide⟩ (by decide) ?_
      refine Sd_icmp_le (tgt := 21) (pc' := 18) (dc D_Bat_kept 8 rfl) (by decide) rfl (fun _ => ?_) (fun _ => ?_)
      · refine Sd_aload_n (pc' := 22) (dc D_Bat_kept 11 rfl) rfl 0 rfl rfl ?_
        refine Sd_getR (pc' := 25) (dc D_Bat_kept 12 rfl) rfl F_Bat_31 rfl rfl ?_
        refine Sd_getR (pc' := 28) (dc D_Bat_kept 13 rfl) rfl F_Bat_116 rfl rfl ?_
        refine Sd_getR (pc' := 31) (dc D_Bat_kept 14 rfl) rfl F_Bat_186 rfl rfl ?_
        refine Sd_getR (pc' := 34) (dc D_Bat_kept 15 rfl) rfl F_Bat_275 rfl rfl ?_
        refine Sd_iload_n (pc' := 35) (dc D_Bat_kept 16 rfl) rfl 1 rfl rfl ?_
        refine Sd_aaload (t := 35) (j := 7) (C0 := RX2) (pc' := 36) (dc D_Bat_kept 17 rfl) rfl rfl (by decide) ?_
        refine Sd_astore_n (pc' := 37) (l' := [(3, _), (0, _), (1, _), (2, _)]) (dc D_Bat_kept 18 rfl) rfl rfl (by decide) rfl (fun _ => ?_)
        refine Sd_iload_n (pc' := 38) (dc D_Bat_kept 19 rfl) rfl 3 rfl rfl ?_
        refine Sd_bipush (pc' := 40) (dc D_Bat_kept 20 rfl) rfl ⟨by decide, by decide⟩ (by decide) ?_
        refine Sd_icmp_ge (tgt := 53) (pc' := 43) (dc D_Bat_kept 21 rfl) (by decide) rfl (fun _ => ?_) (fun _ => ?_)
        · refine Sd_iload_n (pc' := 54) (dc D_Bat_kept 28 rfl) rfl 3 rfl rfl ?_
          refine Sd_bipush (pc' := 56) (dc D_Bat_kept 29 rfl) rfl ⟨by decide, by decide⟩ (by decide) ?_
          refine Sd_icmp_ne (tgt := 64) (pc' := 59) (dc D_Bat_kept 30 rfl) (by decide) rfl (fun _ => ?_) (fun _ => ?_)
          · refine Sd_iload_n (pc' := 65) (dc D_Bat_kept 34 rfl) rfl 3 rfl rfl ?_
            refine Sd_bipush (pc' := 67) (dc D_Bat_kept 35 rfl) rfl ⟨by decide, by decide⟩ (by decide) ?_
            refine Sd_icmp_ne (tgt := 75) (pc' := 70) (dc D_Bat_kept 36 rfl) (by decide) rfl (fun _ => ?_) (fun _ => ?_)
            · refine Sd_aload_n (pc' := 76) (dc D_Bat_kept 40 rfl) rfl 0 rfl rfl ?_
              refine Sd_getI (pc' := 79) (dc D_Bat_kept 41 rfl) rfl F_Bat_279 rfl rfl ?_
              refine Sd_if_eq (tgt := 86) (pc' := 82) (dc D_Bat_kept 42 rfl) (by decide) rfl (fun _ => ?_) (fun _ => ?_)
              · refine Sd_iconst (pc' := 87) (dc D_Bat_kept 45 rfl) rfl ⟨by decide, by decide⟩ ?_
                exact Sd_iret (dc D_Bat_kept 46 rfl) rfl
              · refine Sd_iconst (pc' := 83) (dc D_Bat_kept 43 rfl) rfl ⟨by decide, by decide⟩ ?_
                refine Sd_goto (tgt := 87) (dc D_Bat_kept 44 rfl) (by decide) ?_
                exact Sd_iret (dc D_Bat_kept 46 rfl) rfl
            · refine Sd_aload_n (pc' := 71) (dc D_Bat_kept 37 rfl) rfl 0 rfl rfl ?_
              refine Sd_getI (pc' := 74) (dc D_Bat_kept 38 rfl) rfl F_Bat_301 rfl rfl ?_
              exact Sd_iret (dc D_Bat_kept 39 rfl) rfl
          · refine Sd_aload_n (pc' := 60) (dc D_Bat_kept 31 rfl) rfl 0 rfl rfl ?_
            refine Sd_getI (pc' := 63) (dc D_Bat_kept 32 rfl) rfl F_Bat_287 rfl rfl ?_
            exact Sd_iret (dc D_Bat_kept 33 rfl) rfl
        · refine Sd_aload_n (pc' := 44) (dc D_Bat_kept 22 rfl) rfl 0 rfl rfl ?_
          refine Sd_getR (pc' := 47) (dc D_Bat_kept 23 rfl) rfl F_Bat_297 rfl rfl ?_
          refine Sd_getR (pc' := 50) (dc D_Bat_kept 24 rfl) rfl F_Bat_179 rfl rfl ?_
          refine Sd_iload_n (pc' := 51) (dc D_Bat_kept 25 rfl) rfl 3 rfl rfl ?_
          refine Sd_iaload (pc' := 52) (dc D_Bat_kept 26 rfl) rfl ?_
          exact Sd_iret (dc D_Bat_kept 27 rfl) rfl
      · refine Sd_bipush (pc' := 20) (dc D_Bat_kept 9 rfl) rfl ⟨by decide, by decide⟩ (by decide) ?_
        exact Sd_iret (dc D_Bat_kept 10 rfl) rfl
theorem K_Bat_kept : MOk M_Bat_kept 2 := ⟨Tb_at 121 (by decide +kernel) rfl, Tb_at 1115 (by decide +kernel) rfl, by decide +kernel, by decide +kernel, by decide +kernel⟩
theorem Ks_Bat_kept : Cond.instanceMethod yX11_kept ∈ Tb := Tb_at 1113 (by decide +kernel) rfl
theorem Kv_Bat_kept : Cond.selects RX11 yX11_kept yX11_kept ∈ Tb := Tb_at 1114 (by decide +kernel) rfl
/-! ===== BatchShare.batch()I ===== -/
abbrev M_Bat_batch : AMt := (yX11_batch, cX11_batch, 1, (some .int))
def T_Bat_batch : List (Nat × Instr × Nat) := [(0, .aload_n 0, 1), (1, .getfield 51, 3), (4, .aload_n 0, 1), (5, .getfield 31, 3), (8, .getfield 116, 3), (11, .aload_n 0, 1), (12, .getfield 105, 3), (15, .invokevirtual 159, 3), (18, .aload_n 0, 1), (19, .getfield 51, 3), (22, .aload_n 0, 1), (23, .getfield 31, 3), (26, .getfield 116, 3), (29, .getfield 186, 3), (32, .invokevirtual 304, 3), (35, .ireturn, 1)]
set_option maxRecDepth 20000 in
theorem D_Bat_batch : (T_Bat_batch.all fun q => decide (decode M_Bat_batch.2.1 q.1 = .ok q.2)) = true := by decide +kernel
def Bat_batch (v0 : Nat) (h : AH) : Option (Int × AH) := gR h 12 v0 8 fun r1 => gR h 12 v0 5 fun r2 => gR h 11 r2 0 fun r3 => gI h 12 v0 4 fun x4 => rc h 5 r1 <| bnd (Pri_look r1 r3 x4 h) fun _ h5 => gR h5 12 v0 8 fun r8 => gR h5 12 v0 5 fun r9 => gR h5 11 r9 0 fun r10 => gR h5 9 r10 1 fun r11 => rc h5 5 r8 <| bnd (Pri_batchBy r8 r11 h5) fun x13 h12 => some (x13, h12)
set_option maxHeartbeats 4000000 in
set_option maxRecDepth 20000 in
theorem s_Bat_batch (v0 : Nat) (h : AH) : CS M_Bat_batch 5 98 emI [vr v0] h (Bat_batch v0 h) := by
  refine CS.of (by decide) (Nat.le_of_ble_eq_true rfl) ?_
  show Sd M_Bat_batch 5 98 emI 0 [(0, vr v0)] [] h _
  unfold Bat_batch
  refine Sd_aload_n (pc' := 1) (dc D_Bat_batch 0 rfl) rfl 0 rfl rfl ?_
  refine Sd_getR (pc' := 4) (dc D_Bat_batch 1 rfl) rfl F_Bat_51 rfl rfl ?_
  refine Sd_aload_n (pc' := 5) (dc D_Bat_batch 2 rfl) rfl 0 rfl rfl ?_
  refine Sd_getR (pc' := 8) (dc D_Bat_batch 3 rfl) rfl F_Bat_31 rfl rfl ?_
  refine Sd_getR (pc' := 11) (dc D_Bat_batch 4 rfl) rfl F_Bat_116 rfl rfl ?_
  refine Sd_aload_n (pc' := 12) (dc D_Bat_batch 5 rfl) rfl 0 rfl rfl ?_
  refine Sd_getI (pc' := 15) (dc D_Bat_batch 6 rfl) rfl F_Bat_105 rfl rfl ?_
  refine Sd.callVV (ci := 4) (t := 5) (as := [_, _]) RX4 (pc' := 18) (dc D_Bat_batch 7 rfl) rfl rfl rfl rfl K_Pri_look L_Bat_159 Ks_Pri_look Kv_Pri_look ⟨by decide, by decide⟩ rfl rfl (Nat.le_of_ble_eq_true rfl) (s_Pri_look _ _ _ _) (fun _ h5 => ?_)
  refine Sd_aload_n (pc' := 19) (dc D_Bat_batch 8 rfl) rfl 0 rfl rfl ?_
  refine Sd_getR (pc' := 22) (dc D_Bat_batch 9 rfl) rfl F_Bat_51 rfl rfl ?_
  refine Sd_aload_n (pc' := 23) (dc D_Bat_batch 10 rfl) rfl 0 rfl rfl ?_
  refine Sd_getR (pc' := 26) (dc D_Bat_batch 11 rfl) rfl F_Bat_31 rfl rfl ?_
  refine Sd_getR (pc' := 29) (dc D_Bat_batch 12 rfl) rfl F_Bat_116 rfl rfl ?_
  refine Sd_getR (pc' := 32) (dc D_Bat_batch 13 rfl) rfl F_Bat_186 rfl rfl ?_
  refine Sd.callVI (ci := 4) (t := 5) (as := [_]) RX4 (pc' := 35) (dc D_Bat_batch 14 rfl) rfl rfl rfl rfl K_Pri_batchBy L_Bat_304 Ks_Pri_batchBy Kv_Pri_batchBy ⟨by decide, by decide⟩ rfl rfl (Nat.le_of_ble_eq_true rfl) (s_Pri_batchBy _ _ _) (fun x13 h12 => ?_)
  exact Sd_iret (dc D_Bat_batch 15 rfl) rfl
theorem K_Bat_batch : MOk M_Bat_batch 0 := ⟨Tb_at 121 (by decide +kernel) rfl, Tb_at 1119 (by decide +kernel) rfl, by decide +kernel, by decide +kernel, by decide +kernel⟩
theorem Ks_Bat_batch : Cond.instanceMethod yX11_batch ∈ Tb := Tb_at 1117 (by decide +kernel) rfl
theorem Kv_Bat_batch : Cond.selects RX11 yX11_batch yX11_batch ∈ Tb := Tb_at 1118 (by decide +kernel) rfl
/-! ===== BatchShare.costs(I)I ===== -/
abbrev M_Bat_costs : AMt := (yX11_costs, cX11_costs, 2, (some .int))
def T_Bat_costs : List (Nat × Instr × Nat) := [(0, .aload_n 0, 1), (1, .iload_n 1, 1), (2, .invokevirtual 123, 3), (5, .ifCond .eq 17, 3), (8, .aload_n 0, 1), (9, .getfield 31, 3), (12, .getfield 116, 3), (15, .iload_n 1, 1), (16, .invokevirtual 134, 3), (19, .ifCond .eq 5, 3), (22, .iconst (-1), 1), (23, .ireturn, 1), (24, .aload_n 0, 1), (25, .getfield 51, 3), (28, .aload_n 0, 1), (29, .getfield 31, 3), (32, .getfield 116, 3), (35, .aload_n 0, 1), (36, .getfield 105, 3), (39, .invokevirtual 159, 3), (42, .aload_n 0, 1), (43, .getfield 51, 3), (46, .iload_n 1, 1), (47, .aload_n 0, 1), (48, .getfield 31, 3), (51, .getfield 116, 3), (54, .getfield 186, 3), (57, .invokevirtual 163, 3), (60, .ireturn, 1)]
set_option maxRecDepth 20000 in
theorem D_Bat_costs : (T_Bat_costs.all fun q => decide (decode M_Bat_costs.2.1 q.1 = .ok q.2)) = true := by decide +kernel
def Bat_costs (v0 : Nat) (v1 : Int) (h : AH) : Option (Int × AH) := rc h 12 v0 <| bnd (Bat_hasQuery v0 v1 h) fun x2 h1 => if (x2 : Int) = 0 then (some ((-1), h1)) else (gR h1 12 v0 5 fun r4 => gR h1 11 r4 0 fun r5 => rc h1 9 r5 <| bnd (Sta_isStruck r5 v1 h1) fun x7 h6 => if (x7 : Int) = 0 then (gR h6 12 v0 8 fun r9 => gR h6 12 v0 5 fun r10 => gR h6 11 r10 0 fun r11 => gI h6 12 v0 4 fun x12 => rc h6 5 r9 <| bnd (Pri_look r9 r11 x12 h6) fun _ h13 => gR h13 12 v0 8 fun r16 => gR h13 12 v0 5 fun r17 => gR h13 11 r17 0 fun r18 => gR h13 9 r18 1 fun r19 => rc h13 5 r16 <| bnd (Pri_costBy r16 v1 r19 h13) fun x21 h20 => some (x21, h20)) else (some ((-1), h6)))
set_option maxHeartbeats 4000000 in
set_option maxRecDepth 20000 in
theorem s_Bat_costs (v0 : Nat) (v1 : Int) (h : AH) : CS M_Bat_costs 5 93 emI [vr v0, vi v1] h (Bat_costs v0 v1 h) := by
  refine CS.of (by decide) (Nat.le_of_ble_eq_true rfl) ?_
  show Sd M_Bat_costs 5 93 emI 0 [(0, vr v0), (1, vi v1)] [] h _
  unfold Bat_costs
  refine Sd_aload_n (pc' := 1) (dc D_Bat_costs 0 rfl) rfl 0 rfl rfl ?_
  refine Sd_iload_n (pc' := 2) (dc D_Bat_costs 1 rfl) rfl 1 rfl rfl ?_
  refine Sd.callVI (ci := 11) (t := 12) (as := [_]) RX11 (pc' := 5) (dc D_Bat_costs 2 rfl) rfl rfl rfl rfl K_Bat_hasQuery L_Bat_123 Ks_Bat_hasQuery Kv_Bat_hasQuery ⟨by decide, by decide⟩ rfl rfl (Nat.le_of_ble_eq_true rfl) (s_Bat_hasQuery _ _ _) (fun x2 h1 => ?_)
  refine Sd_if_eq (tgt := 22) (pc' := 8) (dc D_Bat_costs 3 rfl) (by decide) rfl (fun _ => ?_) (fun _ => ?_)
  · refine Sd_iconst (pc' := 23) (dc D_Bat_costs 10 rfl) rfl ⟨by decide, by decide⟩ ?_
    exact Sd_iret (dc D_Bat_costs 11 rfl) rfl
  · refine Sd_aload_n (pc' := 9) (dc D_Bat_costs 4 rfl) rfl 0 rfl rfl ?_
    refine Sd_getR (pc' := 12) (dc D_Bat_costs 5 rfl) rfl F_Bat_31 rfl rfl ?_
    refine Sd_getR (pc' := 15) (dc D_Bat_costs 6 rfl) rfl F_Bat_116 rfl rfl ?_
    refine Sd_iload_n (pc' := 16) (dc D_Bat_costs 7 rfl) rfl 1 rfl rfl ?_
    refine Sd.callVI (ci := 8) (t := 9) (as := [_]) RX8 (pc' := 19) (dc D_Bat_costs 8 rfl) rfl rfl rfl rfl K_Sta_isStruck L_Bat_134 Ks_Sta_isStruck Kv_Sta_isStruck ⟨by decide, by decide⟩ rfl rfl (Nat.le_of_ble_eq_true rfl) (s_Sta_isStruck _ _ _) (fun x7 h6 => ?_)
    refine Sd_if_eq (tgt := 24) (pc' := 22) (dc D_Bat_costs 9 rfl) (by decide) rfl (fun _ => ?_) (fun _ => ?_)
    · refine Sd_aload_n (pc' := 25) (dc D_Bat_costs 12 rfl) rfl 0 rfl rfl ?_
      refine Sd_getR (pc' := 28) (dc D_Bat_costs 13 rfl) rfl F_Bat_51 rfl rfl ?_
      refine Sd_aload_n (pc' := 29) (dc D_Bat_costs 14 rfl) rfl 0 rfl rfl ?_
      refine Sd_getR (pc' := 32) (dc D_Bat_costs 15 rfl) rfl F_Bat_31 rfl rfl ?_
      refine Sd_getR (pc' := 35) (dc D_Bat_costs 16 rfl) rfl F_Bat_116 rfl rfl ?_
      refine Sd_aload_n (pc' := 36) (dc D_Bat_costs 17 rfl) rfl 0 rfl rfl ?_
      refine Sd_getI (pc' := 39) (dc D_Bat_costs 18 rfl) rfl F_Bat_105 rfl rfl ?_
      refine Sd.callVV (ci := 4) (t := 5) (as := [_, _]) RX4 (pc' := 42) (dc D_Bat_costs 19 rfl) rfl rfl rfl rfl K_Pri_look L_Bat_159 Ks_Pri_look Kv_Pri_look ⟨by decide, by decide⟩ rfl rfl (Nat.le_of_ble_eq_true rfl) (s_Pri_look _ _ _ _) (fun _ h13 => ?_)
      refine Sd_aload_n (pc' := 43) (dc D_Bat_costs 20 rfl) rfl 0 rfl rfl ?_
      refine Sd_getR (pc' := 46) (dc D_Bat_costs 21 rfl) rfl F_Bat_51 rfl rfl ?_
      refine Sd_iload_n (pc' := 47) (dc D_Bat_costs 22 rfl) rfl 1 rfl rfl ?_
      refine Sd_aload_n (pc' := 48) (dc D_Bat_costs 23 rfl) rfl 0 rfl rfl ?_
      refine Sd_getR (pc' := 51) (dc D_Bat_costs 24 rfl) rfl F_Bat_31 rfl rfl ?_
      refine Sd_getR (pc' := 54) (dc D_Bat_costs 25 rfl) rfl F_Bat_116 rfl rfl ?_
      refine Sd_getR (pc' := 57) (dc D_Bat_costs 26 rfl) rfl F_Bat_186 rfl rfl ?_
      refine Sd.callVI (ci := 4) (t := 5) (as := [_, _]) RX4 (pc' := 60) (dc D_Bat_costs 27 rfl) rfl rfl rfl rfl K_Pri_costBy L_Bat_163 Ks_Pri_costBy Kv_Pri_costBy ⟨by decide, by decide⟩ rfl rfl (Nat.le_of_ble_eq_true rfl) (s_Pri_costBy _ _ _ _) (fun x21 h20 => ?_)
      exact Sd_iret (dc D_Bat_costs 28 rfl) rfl
    · refine Sd_iconst (pc' := 23) (dc D_Bat_costs 10 rfl) rfl ⟨by decide, by decide⟩ ?_
      exact Sd_iret (dc D_Bat_costs 11 rfl) rfl
theorem K_Bat_costs : MOk M_Bat_costs 1 := ⟨Tb_at 121 (by decide +kernel) rfl, Tb_at 1124 (by decide +kernel) rfl, by decide +kernel, by decide +kernel, by decide +kernel⟩
theorem Ks_Bat_costs : Cond.instanceMethod yX11_costs ∈ Tb := Tb_at 1122 (by decide +kernel) rfl
theorem Kv_Bat_costs : Cond.selects RX11 yX11_costs yX11_costs ∈ Tb := Tb_at 1123 (by decide +kernel) rfl
/-! ===== BatchShare.serves(II)I ===== -/
abbrev M_Bat_serves : AMt := (yX11_serves, cX11_serves, 3, (some .int))
def T_Bat_serves : List (Nat × Instr × Nat) := [(0, .aload_n 0, 1), (1, .iload_n 1, 1), (2, .invokevirtual 123, 3), (5, .ifCond .eq 26, 3), (8, .aload_n 0, 1), (9, .getfield 31, 3), (12, .getfield 116, 3), (15, .iload_n 1, 1), (16, .invokevirtual 134, 3), (19, .ifCond .ne 12, 3), (22, .iload_n 2, 1), (23, .ifCond .lt 8, 3), (26, .iload_n 2, 1), (27, .iconst 3, 1), (28, .if_icmp .lt 5, 3), (31, .iconst (-1), 1), (32, .ireturn, 1), (33, .aload_n 0, 1), (34, .getfield 51, 3), (37, .aload_n 0, 1), (38, .getfield 31, 3), (41, .getfield 116, 3), (44, .aload_n 0, 1), (45, .getfield 105, 3), (48, .invokevirtual 159, 3), (51, .aload_n 0, 1), (52, .getfield 51, 3), (55, .iload_n 1, 1), (56, .aload_n 0, 1), (57, .getfield 31, 3), (60, .getfield 116, 3), (63, .getfield 186, 3), (66, .invokevirtual 163, 3), (69, .pop, 1), (70, .aload_n 0, 1), (71, .getfield 51, 3), (74, .getfield 308, 3), (77, .iload_n 2, 1), (78, .iaload, 1), (79, .ireturn, 1)]
set_option maxRecDepth 20000 in
theorem D_Bat_serves : (T_Bat_serves.all fun q => decide (decode M_Bat_serves.2.1 q.1 = .ok q.2)) = true := by decide +kernel
def Bat_serves (v0 : Nat) (v1 : Int) (v2 : Int) (h : AH) : Option (Int × AH) := rc h 12 v0 <| bnd (Bat_hasQuery v0 v1 h) fun x2 h1 => if (x2 : Int) = 0 then (some ((-1), h1)) else (gR h1 12 v0 5 fun r4 => gR h1 11 r4 0 fun r5 => rc h1 9 r5 <| bnd (Sta_isStruck r5 v1 h1) fun x7 h6 => if ¬ (x7 : Int) = 0 then (some ((-1), h6)) else (if (v2 : Int) < 0 then (some ((-1), h6)) else (if (v2 : Int) < 3 then (gR h6 12 v0 8 fun r9 => gR h6 12 v0 5 fun r10 => gR h6 11 r10 0 fun r11 => gI h6 12 v0 4 fun x12 => rc h6 5 r9 <| bnd (Pri_look r9 r11 x12 h6) fun _ h13 => gR h13 12 v0 8 fun r16 => gR h13 12 v0 5 fun r17 => gR h13 11 r17 0 fun r18 => gR h13 9 r18 1 fun r19 => rc h13 5 r16 <| bnd (Pri_costBy r16 v1 r19 h13) fun x21 h20 => gR h20 12 v0 8 fun r23 => gR h20 5 r23 3 fun r24 => aI h20 21 r24 v2 fun x25 => some (x25, h20)) else (some ((-1), h6)))))
set_option maxHeartbeats 4000000 in
set_option maxRecDepth 20000 in
theorem s_Bat_serves (v0 : Nat) (v1 : Int) (v2 : Int) (h : AH) : CS M_Bat_serves 5 93 emI [vr v0, vi v1, vi v2] h (Bat_serves v0 v1 v2 h) := by
  refine CS.of (by decide) (Nat.le_of_ble_eq_true rfl) ?_
  show Sd M_Bat_serves 5 93 emI 0 [(0, vr v0), (1, vi v1), (2, vi v2)] [] h _
  unfold Bat_serves
  refine Sd_aload_n (pc' := 1) (dc D_Bat_serves 0 rfl) rfl 0 rfl rfl ?_
  refine Sd_iload_n (pc' := 2) (dc D_Bat_serves 1 rfl) rfl 1 rfl rfl ?_
  refine Sd.callVI (ci := 11) (t := 12) (as := [_]) RX11 (pc' := 5) (dc D_Bat_serves 2 rfl) rfl rfl rfl rfl K_Bat_hasQuery L_Bat_123 Ks_Bat_hasQuery Kv_Bat_hasQuery ⟨by decide, by decide⟩ rfl rfl (Nat.le_of_ble_eq_true rfl) (s_Bat_hasQuery _ _ _) (fun x2 h1 => ?_)
  refine Sd_if_eq (tgt := 31) (pc' := 8) (dc D_Bat_serves 3 rfl) (by decide) rfl (fun _ => ?_) (fun _ => ?_)
  · refine Sd_iconst (pc' := 32) (dc D_Bat_serves 15 rfl) rfl ⟨by decide, by decide⟩ ?_
    exact Sd_iret (dc D_Bat_serves 16 rfl) rfl
  · refine Sd_aload_n (pc' := 9) (dc D_Bat_serves 4 rfl) rfl 0 rfl rfl ?_
    refine Sd_getR (pc' := 12) (dc D_Bat_serves 5 rfl) rfl F_Bat_31 rfl rfl ?_
    refine Sd_getR (pc' := 15) (dc D_Bat_serves 6 rfl) rfl F_Bat_116 rfl rfl ?_
    refine Sd_iload_n (pc' := 16) (dc D_Bat_serves 7 rfl) rfl 1 rfl rfl ?_
    refine Sd.callVI (ci := 8) (t := 9) (as := [_]) RX8 (pc' := 19) (dc D_Bat_serves 8 rfl) rfl rfl rfl rfl K_Sta_isStruck L_Bat_134 Ks_Sta_isStruck Kv_Sta_isStruck ⟨by decide, by decide⟩ rfl rfl (Nat.le_of_ble_eq_true rfl) (s_Sta_isStruck _ _ _) (fun x7 h6 => ?_)
    refine Sd_if_ne (tgt := 31) (pc' := 22) (dc D_Bat_serves 9 rfl) (by decide) rfl (fun _ => ?_) (fun _ => ?_)
    · refine Sd_iconst (pc' := 32) (dc D_Bat_serves 15 rfl) rfl ⟨by decide, by decide⟩ ?_
      exact Sd_iret (dc D_Bat_serves 16 rfl) rfl
    · refine Sd_iload_n (pc' := 23) (dc D_Bat_serves 10 rfl) rfl 2 rfl rfl ?_
      refine Sd_if_lt (tgt := 31) (pc' := 26) (dc D_Bat_serves 11 rfl) (by decide) rfl (fun _ => ?_) (fun _ => ?_)
      · refine Sd_iconst (pc' := 32) (dc D_Bat_serves 15 rfl) rfl ⟨by decide, by decide⟩ ?_
        exact Sd_iret (dc D_Bat_serves 16 rfl) rfl
      · refine Sd_iload_n (pc' := 27) (dc D_Bat_serves 12 rfl) rfl 2 rfl rfl ?_
        refine Sd_iconst (pc' := 28) (dc D_Bat_serves 13 rfl) rfl ⟨by decide, by decide⟩ ?_
        refine Sd_icmp_lt (tgt := 33) (pc' := 31) (dc D_Bat_serves 14 rfl) (by decide) rfl (fun _ => ?_) (fun _ => ?_)
        · refine Sd_aload_n (pc' := 34) (dc D_Bat_serves 17 rfl) rfl 0 rfl rfl ?_
          refine Sd_getR (pc' := 37) (dc D_Bat_serves 18 rfl) rfl F_Bat_51 rfl rfl ?_
          refine Sd_aload_n (pc' := 38) (dc D_Bat_serves 19 rfl) rfl 0 rfl rfl ?_
          refine Sd_getR (pc' := 41) (dc D_Bat_serves 20 rfl) rfl F_Bat_31 rfl rfl ?_
          refine Sd_getR (pc' := 44) (dc D_Bat_serves 21 rfl) rfl F_Bat_116 rfl rfl ?_
          refine Sd_aload_n (pc' := 45) (dc D_Bat_serves 22 rfl) rfl 0 rfl rfl ?_
          refine Sd_getI (pc' := 48) (dc D_Bat_serves 23 rfl) rfl F_Bat_105 rfl rfl ?_
          refine Sd.callVV (ci := 4) (t := 5) (as := [_, _]) RX4 (pc' := 51) (dc D_Bat_serves 24 rfl) rfl rfl rfl rfl K_Pri_look L_Bat_159 Ks_Pri_look Kv_Pri_look ⟨by decide, by decide⟩ rfl rfl (Nat.le_of_ble_eq_true rfl) (s_Pri_look _ _ _ _) (fun _ h13 => ?_)
          refine Sd_aload_n (pc' := 52) (dc D_Bat_serves 25 rfl) rfl 0 rfl rfl ?_
          refine Sd_getR (pc' := 55) (dc D_Bat_serves 26 rfl) rfl F_Bat_51 rfl rfl ?_
          refine Sd_iload_n (pc' := 56) (dc D_Bat_serves 27 rfl) rfl 1 rfl rfl ?_
          refine Sd_aload_n (pc' := 57) (dc D_Bat_serves 28 rfl) rfl 0 rfl rfl ?_
          refine Sd_getR (pc' := 60) (dc D_Bat_serves 29 rfl) rfl F_Bat_31 rfl rfl ?_
          refine Sd_getR (pc' := 63) (dc D_Bat_serves 30 rfl) rfl F_Bat_116 rfl rfl ?_
          refine Sd_getR (pc' := 66) (dc D_Bat_serves 31 rfl) rfl F_Bat_186 rfl rfl ?_
          refine Sd.callVI (ci := 4) (t := 5) (as := [_, _]) RX4 (pc' := 69) (dc D_Bat_serves 32 rfl) rfl rfl rfl rfl K_Pri_costBy L_Bat_163 Ks_Pri_costBy Kv_Pri_costBy ⟨by decide, by decide⟩ rfl rfl (Nat.le_of_ble_eq_true rfl) (s_Pri_costBy _ _ _ _) (fun x21 h20 => ?_)
          refine Sd_pop (pc' := 70) (dc D_Bat_serves 33 rfl) rfl (cat_i _) ?_
          refine Sd_aload_n (pc' := 71) (dc D_Bat_serves 34 rfl) rfl 0 rfl rfl ?_
          refine Sd_getR (pc' := 74) (dc D_Bat_serves 35 rfl) rfl F_Bat_51 rfl rfl ?_
          refine Sd_getR (pc' := 77) (dc D_Bat_serves 36 rfl) rfl F_Bat_308 rfl rfl ?_
          refine Sd_iload_n (pc' := 78) (dc D_Bat_serves 37 rfl) rfl 2 rfl rfl ?_
          refine Sd_iaload (pc' := 79) (dc D_Bat_serves 38 rfl) rfl ?_
          exact Sd_iret (dc D_Bat_serves 39 rfl) rfl
        · refine Sd_iconst (pc' := 32) (dc D_Bat_serves 15 rfl) rfl ⟨by decide, by decide⟩ ?_
          exact Sd_iret (dc D_Bat_serves 16 rfl) rfl
theorem K_Bat_serves : MOk M_Bat_serves 2 := ⟨Tb_at 121 (by decide +kernel) rfl, Tb_at 1128 (by decide +kernel) rfl, by decide +kernel, by decide +kernel, by decide +kernel⟩
theorem Ks_Bat_serves : Cond.instanceMethod yX11_serves ∈ Tb := Tb_at 1126 (by decide +kernel) rfl
theorem Kv_Bat_serves : Cond.selects RX11 yX11_serves yX11_serves ∈ Tb := Tb_at 1127 (by decide +kernel) rfl
/-! ===== BatchShare.isLive(I)Z ===== -/
abbrev M_Bat_isLive : AMt := (yX11_isLive, cX11_isLive, 2, (some .boolean))
def T_Bat_isLive : List (Nat × Instr × Nat) := [(0, .aload_n 0, 1), (1, .getfield 24, 3), (4, .iload_n 1, 1), (5, .aaload, 1), (6, .getfield 130, 3), (9, .ifCond .ne 21, 3), (12, .aload_n 0, 1), (13, .getfield 31, 3), (16, .getfield 116, 3), (19, .iload_n 1, 1), (20, .invokevirtual 134, 3), (23, .ifCond .ne 7, 3), (26, .iconst 1, 1), (27, .goto 4, 3), (30, .iconst 0, 1), (31, .ireturn, 1)]
set_option maxRecDepth 20000 in
theorem D_Bat_isLive : (T_Bat_isLive.all fun q => decide (decode M_Bat_isLive.2.1 q.1 = .ok q.2)) = true := by decide +kernel
def Bat_isLive (v0 : Nat) (v1 : Int) (h : AH) : Option (Int × AH) := gR h 12 v0 3 fun r1 => aR h 31 r1 v1 fun r2 => gI h 6 r2 2 fun x3 => if ¬ (x3 : Int) = 0 then (some (0, h)) else (gR h 12 v0 5 fun r4 => gR h 11 r4 0 fun r5 => rc h 9 r5 <| bnd (Sta_isStruck r5 v1 h) fun x7 h6 => if ¬ (x7 : Int) = 0 then (some (0, h6)) else (some (1, h6)))
set_option maxHeartbeats 4000000 in
set_option maxRecDepth 20000 in
theorem s_Bat_isLive (v0 : Nat) (v1 : Int) (h : AH) : CS M_Bat_isLive 2 21 emI [vr v0, vi v1] h (Bat_isLive v0 v1 h) := by
  refine CS.of (by decide) (Nat.le_of_ble_eq_true rfl) ?_
  show Sd M_Bat_isLive 2 21 emI 0 [(0, vr v0), (1, vi v1)] [] h _
  unfold Bat_isLive
  refine Sd_aload_n (pc' := 1) (dc D_Bat_isLive 0 rfl) rfl 0 rfl rfl ?_
  refine Sd_getR (pc' := 4) (dc D_Bat_isLive 1 rfl) rfl F_Bat_24 rfl rfl ?_
  refine Sd_iload_n (pc' := 5) (dc D_Bat_isLive 2 rfl) rfl 1 rfl rfl ?_
  refine Sd_aaload (t := 31) (j := 3) (C0 := RX5) (pc' := 6) (dc D_Bat_isLive 3 rfl) rfl rfl (by decide) ?_
  refine Sd_getI (pc' := 9) (dc D_Bat_isLive 4 rfl) rfl F_Bat_130 rfl rfl ?_
  refine Sd_if_ne (tgt := 30) (pc' := 12) (dc D_Bat_isLive 5 rfl) (by decide) rfl (fun _ => ?_) (fun _ => ?_)
  · refine Sd_iconst (pc' := 31) (dc D_Bat_isLive 14 rfl) rfl ⟨by decide, by decide⟩ ?_
    exact Sd_zret (dc D_Bat_isLive 15 rfl) rfl (Or.inl rfl)
  · refine Sd_aload_n (pc' := 13) (dc D_Bat_isLive 6 rfl) rfl 0 rfl rfl ?_
    refine Sd_getR (pc' := 16) (dc D_Bat_isLive 7 rfl) rfl F_Bat_31 rfl rfl ?_
    refine Sd_getR (pc' := 19) (dc D_Bat_isLive 8 rfl) rfl F_Bat_116 rfl rfl ?_
    refine Sd_iload_n (pc' := 20) (dc D_Bat_isLive 9 rfl) rfl 1 rfl rfl ?_
    refine Sd.callVI (ci := 8) (t := 9) (as := [_]) RX8 (pc' := 23) (dc D_Bat_isLive 10 rfl) rfl rfl rfl rfl K_Sta_isStruck L_Bat_134 Ks_Sta_isStruck Kv_Sta_isStruck ⟨by decide, by decide⟩ rfl rfl (Nat.le_of_ble_eq_true rfl) (s_Sta_isStruck _ _ _) (fun x7 h6 => ?_)
    refine Sd_if_ne (tgt := 30) (pc' := 26) (dc D_Bat_isLive 11 rfl) (by decide) rfl (fun _ => ?_) (fun _ => ?_)
    · refine Sd_iconst (pc' := 31) (dc D_Bat_isLive 14 rfl) rfl ⟨by decide, by decide⟩ ?_
      exact Sd_zret (dc D_Bat_isLive 15 rfl) rfl (Or.inl rfl)
    · refine Sd_iconst (pc' := 27) (dc D_Bat_isLive 12 rfl) rfl ⟨by decide, by decide⟩ ?_
      refine Sd_goto (tgt := 31) (dc D_Bat_isLive 13 rfl) (by decide) ?_
      exact Sd_zret (dc D_Bat_isLive 15 rfl) rfl (Or.inr rfl)
theorem K_Bat_isLive : MOk M_Bat_isLive 1 := ⟨Tb_at 121 (by decide +kernel) rfl, Tb_at 1140 (by decide +kernel) rfl, by decide +kernel, by decide +kernel, by decide +kernel⟩
theorem Ks_Bat_isLive : Cond.instanceMethod yX11_isLive ∈ Tb := Tb_at 1139 (by decide +kernel) rfl
theorem Kv_Bat_isLive : Cond.selects RX11 yX11_isLive yX11_isLive ∈ Tb := Tb_at 34 (by decide +kernel) rfl
/-! ===== BatchShare.marksOf(II)I ===== -/
abbrev M_Bat_marksOf : AMt := (yX11_marksOf, cX11_marksOf, 5, (some .int))
def T_Bat_marksOf : List (Nat × Instr × Nat) := [(0, .iconst 0, 1), (1, .istore_n 3, 1), (2, .iconst 0, 1), (3, .istore 4, 2), (5, .iload 4, 2), (7, .aload_n 0, 1), (8, .getfield 105, 3), (11, .if_icmp .ge 70, 3), (14, .aload_n 0, 1), (15, .iload 4, 2), (17, .invokevirtual 362, 3), (20, .ifCond .eq 55, 3), (23, .aload_n 0, 1), (24, .getfield 24, 3), (27, .iload 4, 2), (29, .aaload, 1), (30, .iload_n 1, 1), (31, .invokevirtual 326, 3), (34, .ifCond .eq 41, 3), (37, .aload_n 0, 1), (38, .getfield 24, 3), (41, .iload 4, 2), (43, .aaload, 1), (44, .getfield 329, 3), (47, .iload_n 1, 1), (48, .aaload, 1), (49, .aload_n 0, 1), (50, .getfield 31, 3), (53, .getfield 116, 3), (56, .getfield 96, 3), (59, .iload_n 1, 1), (60, .aaload, 1), (61, .iload_n 2, 1), (62, .invokevirtual 368, 3), (65, .ifCond .eq 10, 3), (68, .iload_n 3, 1), (69, .iconst 1, 1), (70, .iload 4, 2), (72, .ishl, 1), (73, .ior, 1), (74, .istore_n 3, 1), (75, .iinc 4 1, 3), (78, .goto (-73), 3), (81, .iload_n 3, 1), (82, .ireturn, 1)]
set_option maxRecDepth 20000 in
theorem D_Bat_marksOf : (T_Bat_marksOf.all fun q => decide (decode M_Bat_marksOf.2.1 q.1 = .ok q.2)) = true := by decide +kernel
def Bat_marksOf_L5 : Nat → Nat → Int → Int → Int → Int → AH → Option (Int × AH)
  | 0, _, _, _, _, _, _ => none
  | n + 1, v0, v1, v2, v3, v4, h => gI h 12 v0 4 fun x1 => if (x1 : Int) ≤ v4 then (some (v3, h)) else (rc h 12 v0 <| bnd (Bat_isLive v0 v4 h) fun x3 h2 => if (x3 : Int) = 0 then (Bat_marksOf_L5 n v0 v1 v2 v3 ((wr (v4 + 1))) h2) else (gR h2 12 v0 3 fun r5 => aR h2 31 r5 v4 fun r6 => rc h2 6 r6 <| bnd (Que_hasPart r6 v1 h2) fun x8 h7 => if (x8 : Int) = 0 then (Bat_marksOf_L5 n v0 v1 v2 v3 ((wr (v4 + 1))) h7) else (gR h7 12 v0 3 fun r10 => aR h7 31 r10 v4 fun r11 => gR h7 6 r11 1 fun r12 => aR h7 36 r12 v1 fun r13 => gR h7 12 v0 5 fun r14 => gR h7 11 r14 0 fun r15 => gR h7 9 r15 0 fun r16 => aR h7 34 r16 v1 fun r17 => rc h7 4 r13 <| bnd (Par_takes r13 r17 v2 h7) fun x19 h18 => if (x19 : Int) = 0 then (Bat_marksOf_L5 n v0 v1 v2 v3 ((wr (v4 + 1))) h18) else (Bat_marksOf_L5 n v0 v1 v2 ((iOr v3 (iShl 1 v4))) ((wr (v4 + 1))) h18))))
set_option maxHeartbeats 4000000 in
set_option maxRecDepth 20000 in
theorem s_Bat_marksOf_L5 : ∀ (n : Nat) (v0 : Nat) (v1 : Int) (v2 : Int) (v3 : Int) (v4 : Int) (h : AH), Sd M_Bat_marksOf 3 47 emI 5 [(0, vr v0), (1, vi v1), (2, vi v2), (3, vi v3), (4, vi v4)] [] h (Bat_marksOf_L5 n v0 v1 v2 v3 v4 h)
  | 0, _, _, _, _, _, _ => Sd.none
  | n + 1, v0, v1, v2, v3, v4, h => by
    rw [Bat_marksOf_L5]
    refine Sd_iload (pc' := 7) (dc D_Bat_marksOf 4 rfl) rfl 4 rfl ?_
    refine Sd_aload_n (pc' := 8) (dc D_Bat_marksOf 5 rfl) rfl 0 rfl rfl ?_
    refine Sd_getI (pc' := 11) (dc D_Bat_marksOf 6 rfl) rfl F_Bat_105 rfl rfl ?_
    refine Sd_icmp_ge (tgt := 81) (pc' := 14) (dc D_Bat_marksOf 7 rfl) (by decide) rfl (fun _ => ?_) (fun _ => ?_)
    · refine Sd_iload_n (pc' := 82) (dc D_Bat_marksOf 43 rfl) rfl 3 rfl rfl ?_
      exact Sd_iret (dc D_Bat_marksOf 44 rfl) rfl
    · refine Sd_aload_n (pc' := 15) (dc D_Bat_marksOf 8 rfl) rfl 0 rfl rfl ?_
      refine Sd_iload (pc' := 17) (dc D_Bat_marksOf 9 rfl) rfl 4 rfl ?_
      refine Sd.callVI (ci := 11) (t := 12) (as := [_]) RX11 (pc' := 20) (dc D_Bat_marksOf 10 rfl) rfl rfl rfl rfl K_Bat_isLive L_Bat_362 Ks_Bat_isLive Kv_Bat_isLive ⟨by decide, by decide⟩ rfl rfl (Nat.le_of_ble_eq_true rfl) (s_Bat_isLive _ _ _) (fun x3 h2 => ?_)
      refine Sd_if_eq (tgt := 75) (pc' := 23) (dc D_Bat_marksOf 11 rfl) (by decide) rfl (fun _ => ?_) (fun _ => ?_)
      · refine Sd_iinc (pc' := 78) (l' := [(4, _), (0, _), (1, _), (2, _), (3, _)]) (dc D_Bat_marksOf 41 rfl) rfl 4 rfl (by decide) rfl ?_
        refine Sd_goto (tgt := 5) (dc D_Bat_marksOf 42 rfl) (by decide) ?_
        refine Sd.sub (l' := [(0, _), (1, _), (2, _), (3, _), (4, _)]) [1, 2, 3, 4, 0] rfl ?_
        exact s_Bat_marksOf_L5 n _ _ _ _ _ _
      · refine Sd_aload_n (pc' := 24) (dc D_Bat_marksOf 12 rfl) rfl 0 rfl rfl ?_
        refine Sd_getR (pc' := 27) (dc D_Bat_marksOf 13 rfl) rfl F_Bat_24 rfl rfl ?_
        refine Sd_iload (pc' := 29) (dc D_Bat_marksOf 14 rfl) rfl 4 rfl ?_
        refine Sd_aaload (t := 31) (j := 3) (C0 := RX5) (pc' := 30) (dc D_Bat_marksOf 15 rfl) rfl rfl (by decide) ?_
        refine Sd_iload_n (pc' := 31) (dc D_Bat_marksOf 16 rfl) rfl 1 rfl rfl ?_
        refine Sd.callVI (ci := 5) (t := 6) (as := [_]) RX5 (pc' := 34) (dc D_Bat_marksOf 17 rfl) rfl rfl rfl rfl K_Que_hasPart L_Bat_326 Ks_Que_hasPart Kv_Que_hasPart ⟨by decide, by decide⟩ rfl rfl (Nat.le_of_ble_eq_true rfl) (s_Que_hasPart _ _ _) (fun x8 h7 => ?_)
        refine Sd_if_eq (tgt := 75) (pc' := 37) (dc D_Bat_marksOf 18 rfl) (by decide) rfl (fun _ => ?_) (fun _ => ?_)
        · refine Sd_iinc (pc' := 78) (l' := [(4, _), (0, _), (1, _), (2, _), (3, _)]) (dc D_Bat_marksOf 41 rfl) rfl 4 rfl (by decide) rfl ?_
          refine Sd_goto (tgt := 5) (dc D_Bat_marksOf 42 rfl) (by decide) ?_
          refine Sd.sub (l' := [(0, _), (1, _), (2, _), (3, _), (4, _)]) [1, 2, 3, 4, 0] rfl ?_
          exact s_Bat_marksOf_L5 n _ _ _ _ _ _
        · refine Sd_aload_n (pc' := 38) (dc D_Bat_marksOf 19 rfl) rfl 0 rfl rfl ?_
          refine Sd_getR (pc' := 41) (dc D_Bat_marksOf 20 rfl) rfl F_Bat_24 rfl rfl ?_
          refine Sd_iload (pc' := 43) (dc D_Bat_marksOf 21 rfl) rfl 4 rfl ?_
          refine Sd_aaload (t := 31) (j := 3) (C0 := RX5) (pc' := 44) (dc D_Bat_marksOf 22 rfl) rfl rfl (by decide) ?_
          refine Sd_getR (pc' := 47) (dc D_Bat_marksOf 23 rfl) rfl F_Bat_329 rfl rfl ?_
          refine Sd_iload_n (pc' := 48) (dc D_Bat_marksOf 24 rfl) rfl 1 rfl rfl ?_
          refine Sd_aaload (t := 36) (j := 8) (C0 := RX3) (pc' := 49) (dc D_Bat_marksOf 25 rfl) rfl rfl (by decide) ?_
          refine Sd_aload_n (pc' := 50) (dc D_Bat_marksOf 26 rfl) rfl 0 rfl rfl ?_
          refine Sd_getR (pc' := 53) (dc D_Bat_marksOf 27 rfl) rfl F_Bat_31 rfl rfl ?_
          refine Sd_getR (pc' := 56) (dc D_Bat_marksOf 28 rfl) rfl F_Bat_116 rfl rfl ?_
          refine Sd_getR (pc' := 59) (dc D_Bat_marksOf 29 rfl) rfl F_Bat_96 rfl rfl ?_
          refine Sd_iload_n (pc' := 60) (dc D_Bat_marksOf 30 rfl) rfl 1 rfl rfl ?_
          refine Sd_aaload (t := 34) (j := 6) (C0 := RX9) (pc' := 61) (dc D_Bat_marksOf 31 rfl) rfl rfl (by decide) ?_
          refine Sd_iload_n (pc' := 62) (dc D_Bat_marksOf 32 rfl) rfl 2 rfl rfl ?_
          refine Sd.callVI (ci := 3) (t := 4) (as := [_, _]) RX3 (pc' := 65) (dc D_Bat_marksOf 33 rfl) rfl rfl rfl rfl K_Par_takes L_Bat_368 Ks_Par_takes Kv_Par_takes ⟨by decide, by decide⟩ rfl rfl (Nat.le_of_ble_eq_true rfl) (s_Par_takes _ _ _ _) (fun x19 h18 => ?_)
          refine Sd_if_eq (tgt := 75) (pc' := 68) (dc D_Bat_marksOf 34 rfl) (by decide) rfl (fun _ => ?_) (fun _ => ?_)
          · refine Sd_iinc (pc' := 78) (l' := [(4, _), (0, _), (1, _), (2, _), (3, _)]) (dc D_Bat_marksOf 41 rfl) rfl 4 rfl (by decide) rfl ?_
            refine Sd_goto (tgt := 5) (dc D_Bat_marksOf 42 rfl) (by decide) ?_
            refine Sd.sub (l' := [(0, _), (1, _), (2, _), (3, _), (4, _)]) [1, 2, 3, 4, 0] rfl ?_
            exact s_Bat_marksOf_L5 n _ _ _ _ _ _
          · refine Sd_iload_n (pc' := 69) (dc D_Bat_marksOf 35 rfl) rfl 3 rfl rfl ?_
            refine Sd_iconst (pc' := 70) (dc D_Bat_marksOf 36 rfl) rfl ⟨by decide, by decide⟩ ?_
            refine Sd_iload (pc' := 72) (dc D_Bat_marksOf 37 rfl) rfl 4 rfl ?_
            refine Sd_ishl (pc' := 73) (dc D_Bat_marksOf 38 rfl) rfl ?_
            refine Sd_ior (pc' := 74) (dc D_Bat_marksOf 39 rfl) rfl ?_
            refine Sd_istore_n (pc' := 75) (l' := [(3, _), (0, _), (1, _), (2, _), (4, _)]) (dc D_Bat_marksOf 40 rfl) rfl rfl (by decide) rfl ?_
            refine Sd_iinc (pc' := 78) (l' := [(4, _), (3, _), (0, _), (1, _), (2, _)]) (dc D_Bat_marksOf 41 rfl) rfl 4 rfl (by decide) rfl ?_
            refine Sd_goto (tgt := 5) (dc D_Bat_marksOf 42 rfl) (by decide) ?_
            refine Sd.sub (l' := [(0, _), (1, _), (2, _), (3, _), (4, _)]) [2, 3, 4, 1, 0] rfl ?_
            exact s_Bat_marksOf_L5 n _ _ _ _ _ _
def Bat_marksOf (v0 : Nat) (v1 : Int) (v2 : Int) (h : AH) : Option (Int × AH) := Bat_marksOf_L5 FU v0 v1 v2 0 0 h
set_option maxHeartbeats 4000000 in
set_option maxRecDepth 20000 in
theorem s_Bat_marksOf (v0 : Nat) (v1 : Int) (v2 : Int) (h : AH) : CS M_Bat_marksOf 3 47 emI [vr v0, vi v1, vi v2] h (Bat_marksOf v0 v1 v2 h) := by
  refine CS.of (by decide) (Nat.le_of_ble_eq_true rfl) ?_
  show Sd M_Bat_marksOf 3 47 emI 0 [(0, vr v0), (1, vi v1), (2, vi v2)] [] h _
  unfold Bat_marksOf
  refine Sd_iconst (pc' := 1) (dc D_Bat_marksOf 0 rfl) rfl ⟨by decide, by decide⟩ ?_
  refine Sd_istore_n (pc' := 2) (l' := [(3, _), (0, _), (1, _), (2, _)]) (dc D_Bat_marksOf 1 rfl) rfl rfl (by decide) rfl ?_
  refine Sd_iconst (pc' := 3) (dc D_Bat_marksOf 2 rfl) rfl ⟨by decide, by decide⟩ ?_
  refine Sd_istore (pc' := 5) (l' := [(4, _), (3, _), (0, _), (1, _), (2, _)]) (dc D_Bat_marksOf 3 rfl) rfl (by decide) rfl ?_
  refine Sd.sub (l' := [(0, _), (1, _), (2, _), (3, _), (4, _)]) [2, 3, 4, 1, 0] rfl ?_
  exact s_Bat_marksOf_L5 FU _ _ _ _ _ _
theorem K_Bat_marksOf : MOk M_Bat_marksOf 2 := ⟨Tb_at 121 (by decide +kernel) rfl, Tb_at 1136 (by decide +kernel) rfl, by decide +kernel, by decide +kernel, by decide +kernel⟩
theorem Ks_Bat_marksOf : Cond.instanceMethod yX11_marksOf ∈ Tb := Tb_at 1135 (by decide +kernel) rfl
theorem Kv_Bat_marksOf : Cond.selects RX11 yX11_marksOf yX11_marksOf ∈ Tb := Tb_at 33 (by decide +kernel) rfl
/-! ===== BatchShare.marks(II)I ===== -/
abbrev M_Bat_marks : AMt := (yX11_marks, cX11_marks, 3, (some .int))
def T_Bat_marks : List (Nat × Instr × Nat) := [(0, .aload_n 0, 1), (1, .iload_n 1, 1), (2, .iload_n 2, 1), (3, .invokevirtual 234, 3), (6, .ifCond .eq 12, 3), (9, .aload_n 0, 1), (10, .iload_n 1, 1), (11, .iload_n 2, 1), (12, .invokevirtual 311, 3), (15, .goto 4, 3), (18, .iconst (-1), 1), (19, .ireturn, 1)]
set_option maxRecDepth 20000 in
theorem D_Bat_marks : (T_Bat_marks.all fun q => decide (decode M_Bat_marks.2.1 q.1 = .ok q.2)) = true := by decide +kernel
def Bat_marks (v0 : Nat) (v1 : Int) (v2 : Int) (h : AH) : Option (Int × AH) := rc h 12 v0 <| bnd (Bat_hasRow v0 v1 v2 h) fun x2 h1 => if (x2 : Int) = 0 then (some ((-1), h1)) else (rc h1 12 v0 <| bnd (Bat_marksOf v0 v1 v2 h1) fun x5 h4 => some (x5, h4))
set_option maxHeartbeats 4000000 in
set_option maxRecDepth 20000 in
theorem s_Bat_marks (v0 : Nat) (v1 : Int) (v2 : Int) (h : AH) : CS M_Bat_marks 4 71 emI [vr v0, vi v1, vi v2] h (Bat_marks v0 v1 v2 h) := by
  refine CS.of (by decide) (Nat.le_of_ble_eq_true rfl) ?_
  show Sd M_Bat_marks 4 71 emI 0 [(0, vr v0), (1, vi v1), (2, vi v2)] [] h _
  unfold Bat_marks
  refine Sd_aload_n (pc' := 1) (dc D_Bat_marks 0 rfl) rfl 0 rfl rfl ?_
  refine Sd_iload_n (pc' := 2) (dc D_Bat_marks 1 rfl) rfl 1 rfl rfl ?_
  refine Sd_iload_n (pc' := 3) (dc D_Bat_marks 2 rfl) rfl 2 rfl rfl ?_
  refine Sd.callVI (ci := 11) (t := 12) (as := [_, _]) RX11 (pc' := 6) (dc D_Bat_marks 3 rfl) rfl rfl rfl rfl K_Bat_hasRow L_Bat_234 Ks_Bat_hasRow Kv_Bat_hasRow ⟨by decide, by decide⟩ rfl rfl (Nat.le_of_ble_eq_true rfl) (s_Bat_hasRow _ _ _ _) (fun x2 h1 => ?_)
  refine Sd_if_eq (tgt := 18) (pc' := 9) (dc D_Bat_marks 4 rfl) (by decide) rfl (fun _ => ?_) (fun _ => ?_)
  · refine Sd_iconst (pc' := 19) (dc D_Bat_marks 10 rfl) rfl ⟨by decide, by decide⟩ ?_
    exact Sd_iret (dc D_Bat_marks 11 rfl) rfl
  · refine Sd_aload_n (pc' := 10) (dc D_Bat_marks 5 rfl) rfl 0 rfl rfl ?_
    refine Sd_iload_n (pc' := 11) (dc D_Bat_marks 6 rfl) rfl 1 rfl rfl ?_
    refine Sd_iload_n (pc' := 12) (dc D_Bat_marks 7 rfl) rfl 2 rfl rfl ?_
    refine Sd.callVI (ci := 11) (t := 12) (as := [_, _]) RX11 (pc' := 15) (dc D_Bat_marks 8 rfl) rfl rfl rfl rfl K_Bat_marksOf L_Bat_311 Ks_Bat_marksOf Kv_Bat_marksOf ⟨by decide, by decide⟩ rfl rfl (Nat.le_of_ble_eq_true rfl) (s_Bat_marksOf _ _ _ _) (fun x5 h4 => ?_)
    refine Sd_goto (tgt := 19) (dc D_Bat_marks 9 rfl) (by decide) ?_
    exact Sd_iret (dc D_Bat_marks 11 rfl) rfl
theorem K_Bat_marks : MOk M_Bat_marks 2 := ⟨Tb_at 121 (by decide +kernel) rfl, Tb_at 1132 (by decide +kernel) rfl, by decide +kernel, by decide +kernel, by decide +kernel⟩
theorem Ks_Bat_marks : Cond.instanceMethod yX11_marks ∈ Tb := Tb_at 1130 (by decide +kernel) rfl
theorem Kv_Bat_marks : Cond.selects RX11 yX11_marks yX11_marks ∈ Tb := Tb_at 1131 (by decide +kernel) rfl
/-! ===== BatchShare.queriesWith(I)I ===== -/
abbrev M_Bat_queriesWith : AMt := (yX11_queriesWith, cX11_queriesWith, 4, (some .int))
def T_Bat_queriesWith : List (Nat × Instr × Nat) := [(0, .iconst 0, 1), (1, .istore_n 2, 1), (2, .iconst 0, 1), (3, .istore_n 3, 1), (4, .iload_n 3, 1), (5, .aload_n 0, 1), (6, .getfield 105, 3), (9, .if_icmp .ge 36, 3), (12, .aload_n 0, 1), (13, .iload_n 3, 1), (14, .invokevirtual 362, 3), (17, .ifCond .eq 22, 3), (20, .aload_n 0, 1), (21, .getfield 24, 3), (24, .iload_n 3, 1), (25, .aaload, 1), (26, .iload_n 1, 1), (27, .invokevirtual 326, 3), (30, .ifCond .eq 9, 3), (33, .iload_n 2, 1), (34, .iconst 1, 1), (35, .iload_n 3, 1), (36, .ishl, 1), (37, .ior, 1), (38, .istore_n 2, 1), (39, .iinc 3 1, 3), (42, .goto (-38), 3), (45, .iload_n 2, 1), (46, .ireturn, 1)]
set_option maxRecDepth 20000 in
theorem D_Bat_queriesWith : (T_Bat_queriesWith.all fun q => decide (decode M_Bat_queriesWith.2.1 q.1 = .ok q.2)) = true := by decide +kernel
def Bat_queriesWith_L4 : Nat → Nat → Int → Int → Int → AH → Option (Int × AH)
  | 0, _, _, _, _, _ => none
  | n + 1, v0, v1, v2, v3, h => gI h 12 v0 4 fun x1 => if (x1 : Int) ≤ v3 then (some (v2, h)) else (rc h 12 v0 <| bnd (Bat_isLive v0 v3 h) fun x3 h2 => if (x3 : Int) = 0 then (Bat_queriesWith_L4 n v0 v1 v2 ((wr (v3 + 1))) h2) else (gR h2 12 v0 3 fun r5 => aR h2 31 r5 v3 fun r6 => rc h2 6 r6 <| bnd (Que_hasPart r6 v1 h2) fun x8 h7 => if (x8 : Int) = 0 then (Bat_queriesWith_L4 n v0 v1 v2 ((wr (v3 + 1))) h7) else (Bat_queriesWith_L4 n v0 v1 ((iOr v2 (iShl 1 v3))) ((wr (v3 + 1))) h7)))
set_option maxHeartbeats 4000000 in
set_option maxRecDepth 20000 in
theorem s_Bat_queriesWith_L4 : ∀ (n : Nat) (v0 : Nat) (v1 : Int) (v2 : Int) (v3 : Int) (h : AH), Sd M_Bat_queriesWith 3 42 emI 4 [(0, vr v0), (1, vi v1), (2, vi v2), (3, vi v3)] [] h (Bat_queriesWith_L4 n v0 v1 v2 v3 h)
  | 0, _, _, _, _, _ => Sd.none
  | n + 1, v0, v1, v2, v3, h => by
    rw [Bat_queriesWith_L4]
    refine Sd_iload_n (pc' := 5) (dc D_Bat_queriesWith 4 rfl) rfl 3 rfl rfl ?_
    refine Sd_aload_n (pc' := 6) (dc D_Bat_queriesWith 5 rfl) rfl 0 rfl rfl ?_
    refine Sd_getI (pc' := 9) (dc D_Bat_queriesWith 6 rfl) rfl F_Bat_105 rfl rfl ?_
    refine Sd_icmp_ge (tgt := 45) (pc' := 12) (dc D_Bat_queriesWith 7 rfl) (by decide) rfl (fun _ => ?_) (fun _ => ?_)
    · refine Sd_iload_n (pc' := 46) (dc D_Bat_queriesWith 27 rfl) rfl 2 rfl rfl ?_
      exact Sd_iret (dc D_Bat_queriesWith 28 rfl) rfl
    · refine Sd_aload_n (pc' := 13) (dc D_Bat_queriesWith 8 rfl) rfl 0 rfl rfl ?_
      refine Sd_iload_n (pc' := 14) (dc D_Bat_queriesWith 9 rfl) rfl 3 rfl rfl ?_
      refine Sd.callVI (ci := 11) (t := 12) (as := [_]) RX11 (pc' := 17) (dc D_Bat_queriesWith 10 rfl) rfl rfl rfl rfl K_Bat_isLive L_Bat_362 Ks_Bat_isLive Kv_Bat_isLive ⟨by decide, by decide⟩ rfl rfl (Nat.le_of_ble_eq_true rfl) (s_Bat_isLive _ _ _) (fun x3 h2 => ?_)
      refine Sd_if_eq (tgt := 39) (pc' := 20) (dc D_Bat_queriesWith 11 rfl) (by decide) rfl (fun _ => ?_) (fun _ => ?_)
      · refine Sd_iinc (pc' := 42) (l' := [(3, _), (0, _), (1, _), (2, _)]) (dc D_Bat_queriesWith 25 rfl) rfl 3 rfl (by decide) rfl ?_
        refine Sd_goto (tgt := 4) (dc D_Bat_queriesWith 26 rfl) (by decide) ?_
        refine Sd.sub (l' := [(0, _), (1, _), (2, _), (3, _)]) [1, 2, 3, 0] rfl ?_
        exact s_Bat_queriesWith_L4 n _ _ _ _ _
      · refine Sd_aload_n (pc' := 21) (dc D_Bat_queriesWith 12 rfl) rfl 0 rfl rfl ?_
        refine Sd_getR (pc' := 24) (dc D_Bat_queriesWith 13 rfl) rfl F_Bat_24 rfl rfl ?_
        refine Sd_iload_n (pc' := 25) (dc D_Bat_queriesWith 14 rfl) rfl 3 rfl rfl ?_
        refine Sd_aaload (t := 31) (j := 3) (C0 := RX5) (pc' := 26) (dc D_Bat_queriesWith 15 rfl) rfl rfl (by decide) ?_
        refine Sd_iload_n (pc' := 27) (dc D_Bat_queriesWith 16 rfl) rfl 1 rfl rfl ?_
        refine Sd.callVI (ci := 5) (t := 6) (as := [_]) RX5 (pc' := 30) (dc D_Bat_queriesWith 17 rfl) rfl rfl rfl rfl K_Que_hasPart L_Bat_326 Ks_Que_hasPart Kv_Que_hasPart ⟨by decide, by decide⟩ rfl rfl (Nat.le_of_ble_eq_true rfl) (s_Que_hasPart _ _ _) (fun x8 h7 => ?_)
        refine Sd_if_eq (tgt := 39) (pc' := 33) (dc D_Bat_queriesWith 18 rfl) (by decide) rfl (fun _ => ?_) (fun _ => ?_)
        · refine Sd_iinc (pc' := 42) (l' := [(3, _), (0, _), (1, _), (2, _)]) (dc D_Bat_queriesWith 25 rfl) rfl 3 rfl (by decide) rfl ?_
          refine Sd_goto (tgt := 4) (dc D_Bat_queriesWith 26 rfl) (by decide) ?_
          refine Sd.sub (l' := [(0, _), (1, _), (2, _), (3, _)]) [1, 2, 3, 0] rfl ?_
          exact s_Bat_queriesWith_L4 n _ _ _ _ _
        · refine Sd_iload_n (pc' := 34) (dc D_Bat_queriesWith 19 rfl) rfl 2 rfl rfl ?_
          refine Sd_iconst (pc' := 35) (dc D_Bat_queriesWith 20 rfl) rfl ⟨by decide, by decide⟩ ?_
          refine Sd_iload_n (pc' := 36) (dc D_Bat_queriesWith 21 rfl) rfl 3 rfl rfl ?_
          refine Sd_ishl (pc' := 37) (dc D_Bat_queriesWith 22 rfl) rfl ?_
          refine Sd_ior (pc' := 38) (dc D_Bat_queriesWith 23 rfl) rfl ?_
          refine Sd_istore_n (pc' := 39) (l' := [(2, _), (0, _), (1, _), (3, _)]) (dc D_Bat_queriesWith 24 rfl) rfl rfl (by decide) rfl ?_
          refine Sd_iinc (pc' := 42) (l' := [(3, _), (2, _), (0, _), (1, _)]) (dc D_Bat_queriesWith 25 rfl) rfl 3 rfl (by decide) rfl ?_
          refine Sd_goto (tgt := 4) (dc D_Bat_queriesWith 26 rfl) (by decide) ?_
          refine Sd.sub (l' := [(0, _), (1, _), (2, _), (3, _)]) [2, 3, 1, 0] rfl ?_
          exact s_Bat_queriesWith_L4 n _ _ _ _ _
def Bat_queriesWith (v0 : Nat) (v1 : Int) (h : AH) : Option (Int × AH) := Bat_queriesWith_L4 FU v0 v1 0 0 h
set_option maxHeartbeats 4000000 in
set_option maxRecDepth 20000 in
theorem s_Bat_queriesWith (v0 : Nat) (v1 : Int) (h : AH) : CS M_Bat_queriesWith 3 42 emI [vr v0, vi v1] h (Bat_queriesWith v0 v1 h) := by
  refine CS.of (by decide) (Nat.le_of_ble_eq_true rfl) ?_
  show Sd M_Bat_queriesWith 3 42 emI 0 [(0, vr v0), (1, vi v1)] [] h _
  unfold Bat_queriesWith
  refine Sd_iconst (pc' := 1) (dc D_Bat_queriesWith 0 rfl) rfl ⟨by decide, by decide⟩ ?_
  refine Sd_istore_n (pc' := 2) (l' := [(2, _), (0, _), (1, _)]) (dc D_Bat_queriesWith 1 rfl) rfl rfl (by decide) rfl ?_
  refine Sd_iconst (pc' := 3) (dc D_Bat_queriesWith 2 rfl) rfl ⟨by decide, by decide⟩ ?_
  refine Sd_istore_n (pc' := 4) (l' := [(3, _), (2, _), (0, _), (1, _)]) (dc D_Bat_queriesWith 3 rfl) rfl rfl (by decide) rfl ?_
  refine Sd.sub (l' := [(0, _), (1, _), (2, _), (3, _)]) [2, 3, 1, 0] rfl ?_
  exact s_Bat_queriesWith_L4 FU _ _ _ _ _
theorem K_Bat_queriesWith : MOk M_Bat_queriesWith 1 := ⟨Tb_at 121 (by decide +kernel) rfl, Tb_at 1150 (by decide +kernel) rfl, by decide +kernel, by decide +kernel, by decide +kernel⟩
theorem Ks_Bat_queriesWith : Cond.instanceMethod yX11_queriesWith ∈ Tb := Tb_at 1149 (by decide +kernel) rfl
theorem Kv_Bat_queriesWith : Cond.selects RX11 yX11_queriesWith yX11_queriesWith ∈ Tb := Tb_at 35 (by decide +kernel) rfl
/-! ===== BatchShare.queriesJoining(II)I ===== -/
abbrev M_Bat_queriesJoining : AMt := (yX11_queriesJoining, cX11_queriesJoining, 5, (some .int))
def T_Bat_queriesJoining : List (Nat × Instr × Nat) := [(0, .iconst 0, 1), (1, .istore_n 3, 1), (2, .iconst 0, 1), (3, .istore 4, 2), (5, .iload 4, 2), (7, .aload_n 0, 1), (8, .getfield 105, 3), (11, .if_icmp .ge 40, 3), (14, .aload_n 0, 1), (15, .iload 4, 2), (17, .invokevirtual 362, 3), (20, .ifCond .eq 25, 3), (23, .aload_n 0, 1), (24, .getfield 24, 3), (27, .iload 4, 2), (29, .aaload, 1), (30, .iload_n 1, 1), (31, .iload_n 2, 1), (32, .invokevirtual 365, 3), (35, .ifCond .eq 10, 3), (38, .iload_n 3, 1), (39, .iconst 1, 1), (40, .iload 4, 2), (42, .ishl, 1), (43, .ior, 1), (44, .istore_n 3, 1), (45, .iinc 4 1, 3), (48, .goto (-43), 3), (51, .iload_n 3, 1), (52, .ireturn, 1)]
set_option maxRecDepth 20000 in
theorem D_Bat_queriesJoining : (T_Bat_queriesJoining.all fun q => decide (decode M_Bat_queriesJoining.2.1 q.1 = .ok q.2)) = true := by decide +kernel
def Bat_queriesJoining_L5 : Nat → Nat → Int → Int → Int → Int → AH → Option (Int × AH)
  | 0, _, _, _, _, _, _ => none
  | n + 1, v0, v1, v2, v3, v4, h => gI h 12 v0 4 fun x1 => if (x1 : Int) ≤ v4 then (some (v3, h)) else (rc h 12 v0 <| bnd (Bat_isLive v0 v4 h) fun x3 h2 => if (x3 : Int) = 0 then (Bat_queriesJoining_L5 n v0 v1 v2 v3 ((wr (v4 + 1))) h2) else (gR h2 12 v0 3 fun r5 => aR h2 31 r5 v4 fun r6 => rc h2 6 r6 <| bnd (Que_joins r6 v1 v2 h2) fun x8 h7 => if (x8 : Int) = 0 then (Bat_queriesJoining_L5 n v0 v1 v2 v3 ((wr (v4 + 1))) h7) else (Bat_queriesJoining_L5 n v0 v1 v2 ((iOr v3 (iShl 1 v4))) ((wr (v4 + 1))) h7)))
set_option maxHeartbeats 4000000 in
set_option maxRecDepth 20000 in
theorem s_Bat_queriesJoining_L5 : ∀ (n : Nat) (v0 : Nat) (v1 : Int) (v2 : Int) (v3 : Int) (v4 : Int) (h : AH), Sd M_Bat_queriesJoining 3 42 emI 5 [(0, vr v0), (1, vi v1), (2, vi v2), (3, vi v3), (4, vi v4)] [] h (Bat_queriesJoining_L5 n v0 v1 v2 v3 v4 h)
  | 0, _, _, _, _, _, _ => Sd.none
  | n + 1, v0, v1, v2, v3, v4, h => by
    rw [Bat_queriesJoining_L5]
    refine Sd_iload (pc' := 7) (dc D_Bat_queriesJoining 4 rfl) rfl 4 rfl ?_
    refine Sd_aload_n (pc' := 8) (dc D_Bat_queriesJoining 5 rfl) rfl 0 rfl rfl ?_
    refine Sd_getI (pc' := 11) (dc D_Bat_queriesJoining 6 rfl) rfl F_Bat_105 rfl rfl ?_
    refine Sd_icmp_ge (tgt := 51) (pc' := 14) (dc D_Bat_queriesJoining 7 rfl) (by decide) rfl (fun _ => ?_) (fun _ => ?_)
    · refine Sd_iload_n (pc' := 52) (dc D_Bat_queriesJoining 28 rfl) rfl 3 rfl rfl ?_
      exact Sd_iret (dc D_Bat_queriesJoining 29 rfl) rfl
    · refine Sd_aload_n (pc' := 15) (dc D_Bat_queriesJoining 8 rfl) rfl 0 rfl rfl ?_
      refine Sd_iload (pc' := 17) (dc D_Bat_queriesJoining 9 rfl) rfl 4 rfl ?_
      refine Sd.callVI (ci := 11) (t := 12) (as := [_]) RX11 (pc' := 20) (dc D_Bat_queriesJoining 10 rfl) rfl rfl rfl rfl K_Bat_isLive L_Bat_362 Ks_Bat_isLive Kv_Bat_isLive ⟨by decide, by decide⟩ rfl rfl (Nat.le_of_ble_eq_true rfl) (s_Bat_isLive _ _ _) (fun x3 h2 => ?_)
      refine Sd_if_eq (tgt := 45) (pc' := 23) (dc D_Bat_queriesJoining 11 rfl) (by decide) rfl (fun _ => ?_) (fun _ => ?_)
      · refine Sd_iinc (pc' := 48) (l' := [(4, _), (0, _), (1, _), (2, _), (3, _)]) (dc D_Bat_queriesJoining 26 rfl) rfl 4 rfl (by decide) rfl ?_
        refine Sd_goto (tgt := 5) (dc D_Bat_queriesJoining 27 rfl) (by decide) ?_
        refine Sd.sub (l' := [(0, _), (1, _), (2, _), (3, _), (4, _)]) [1, 2, 3, 4, 0] rfl ?_
        exact s_Bat_queriesJoining_L5 n _ _ _ _ _ _
      · refine Sd_aload_n (pc' := 24) (dc D_Bat_queriesJoining 12 rfl) rfl 0 rfl rfl ?_
        refine Sd_getR (pc' := 27) (dc D_Bat_queriesJoining 13 rfl) rfl F_Bat_24 rfl rfl ?_
        refine Sd_iload (pc' := 29) (dc D_Bat_queriesJoining 14 rfl) rfl 4 rfl ?_
        refine Sd_aaload (t := 31) (j := 3) (C0 := RX5) (pc' := 30) (dc D_Bat_queriesJoining 15 rfl) rfl rfl (by decide) ?_
        refine Sd_iload_n (pc' := 31) (dc D_Bat_queriesJoining 16 rfl) rfl 1 rfl rfl ?_
        refine Sd_iload_n (pc' := 32) (dc D_Bat_queriesJoining 17 rfl) rfl 2 rfl rfl ?_
        refine Sd.callVI (ci := 5) (t := 6) (as := [_, _]) RX5 (pc' := 35) (dc D_Bat_queriesJoining 18 rfl) rfl rfl rfl rfl K_Que_joins L_Bat_365 Ks_Que_joins Kv_Que_joins ⟨by decide, by decide⟩ rfl rfl (Nat.le_of_ble_eq_true rfl) (s_Que_joins _ _ _ _) (fun x8 h7 => ?_)
        refine Sd_if_eq (tgt := 45) (pc' := 38) (dc D_Bat_queriesJoining 19 rfl) (by decide) rfl (fun _ => ?_) (fun _ => ?_)
        · refine Sd_iinc (pc' := 48) (l' := [(4, _), (0, _), (1, _), (2, _), (3, _)]) (dc D_Bat_queriesJoining 26 rfl) rfl 4 rfl (by decide) rfl ?_
          refine Sd_goto (tgt := 5) (dc D_Bat_queriesJoining 27 rfl) (by decide) ?_
          refine Sd.sub (l' := [(0, _), (1, _), (2, _), (3, _), (4, _)]) [1, 2, 3, 4, 0] rfl ?_
          exact s_Bat_queriesJoining_L5 n _ _ _ _ _ _
        · refine Sd_iload_n (pc' := 39) (dc D_Bat_queriesJoining 20 rfl) rfl 3 rfl rfl ?_
          refine Sd_iconst (pc' := 40) (dc D_Bat_queriesJoining 21 rfl) rfl ⟨by decide, by decide⟩ ?_
          refine Sd_iload (pc' := 42) (dc D_Bat_queriesJoining 22 rfl) rfl 4 rfl ?_
          refine Sd_ishl (pc' := 43) (dc D_Bat_queriesJoining 23 rfl) rfl ?_
          refine Sd_ior (pc' := 44) (dc D_Bat_queriesJoining 24 rfl) rfl ?_
          refine Sd_istore_n (pc' := 45) (l' := [(3, _), (0, _), (1, _), (2, _), (4, _)]) (dc D_Bat_queriesJoining 25 rfl) rfl rfl (by decide) rfl ?_
          refine Sd_iinc (pc' := 48) (l' := [(4, _), (3, _), (0, _), (1, _), (2, _)]) (dc D_Bat_queriesJoining 26 rfl) rfl 4 rfl (by decide) rfl ?_
          refine Sd_goto (tgt := 5) (dc D_Bat_queriesJoining 27 rfl) (by decide) ?_
          refine Sd.sub (l' := [(0, _), (1, _), (2, _), (3, _), (4, _)]) [2, 3, 4, 1, 0] rfl ?_
          exact s_Bat_queriesJoining_L5 n _ _ _ _ _ _
def Bat_queriesJoining (v0 : Nat) (v1 : Int) (v2 : Int) (h : AH) : Option (Int × AH) := Bat_queriesJoining_L5 FU v0 v1 v2 0 0 h
set_option maxHeartbeats 4000000 in
set_option maxRecDepth 20000 in
theorem s_Bat_queriesJoining (v0 : Nat) (v1 : Int) (v2 : Int) (h : AH) : CS M_Bat_queriesJoining 3 42 emI [vr v0, vi v1, vi v2] h (Bat_queriesJoining v0 v1 v2 h) := by
  refine CS.of (by decide) (Nat.le_of_ble_eq_true rfl) ?_
  show Sd M_Bat_queriesJoining 3 42 emI 0 [(0, vr v0), (1, vi v1), (2, vi v2)] [] h _
  unfold Bat_queriesJoining
  refine Sd_iconst (pc' := 1) (dc D_Bat_queriesJoining 0 rfl) rfl ⟨by decide, by decide⟩ ?_
  refine Sd_istore_n (pc' := 2) (l' := [(3, _), (0, _), (1, _), (2, _)]) (dc D_Bat_queriesJoining 1 rfl) rfl rfl (by decide) rfl ?_
  refine Sd_iconst (pc' := 3) (dc D_Bat_queriesJoining 2 rfl) rfl ⟨by decide, by decide⟩ ?_
  refine Sd_istore (pc' := 5) (l' := [(4, _), (3, _), (0, _), (1, _), (2, _)]) (dc D_Bat_queriesJoining 3 rfl) rfl (by decide) rfl ?_
  refine Sd.sub (l' := [(0, _), (1, _), (2, _), (3, _), (4, _)]) [2, 3, 4, 1, 0] rfl ?_
  exact s_Bat_queriesJoining_L5 FU _ _ _ _ _ _
theorem K_Bat_queriesJoining : MOk M_Bat_queriesJoining 2 := ⟨Tb_at 121 (by decide +kernel) rfl, Tb_at 1154 (by decide +kernel) rfl, by decide +kernel, by decide +kernel, by decide +kernel⟩
theorem Ks_Bat_queriesJoining : Cond.instanceMethod yX11_queriesJoining ∈ Tb := Tb_at 1153 (by decide +kernel) rfl
theorem Kv_Bat_queriesJoining : Cond.selects RX11 yX11_queriesJoining yX11_queriesJoining ∈ Tb := Tb_at 36 (by decide +kernel) rfl
/-! ===== BatchShare.markedRows(II)I ===== -/
abbrev M_Bat_markedRows : AMt := (yX11_markedRows, cX11_markedRows, 5, (some .int))
def T_Bat_markedRows : List (Nat × Instr × Nat) := [(0, .iconst 0, 1), (1, .istore_n 3, 1), (2, .iconst 0, 1), (3, .istore 4, 2), (5, .iload 4, 2), (7, .aload_n 0, 1), (8, .getfield 31, 3), (11, .getfield 116, 3), (14, .getfield 96, 3), (17, .iload_n 1, 1), (18, .aaload, 1), (19, .getfield 100, 3), (22, .if_icmp .ge 24, 3), (25, .aload_n 0, 1), (26, .iload_n 1, 1), (27, .iload 4, 2), (29, .invokevirtual 311, 3), (32, .iload_n 2, 1), (33, .iand, 1), (34, .ifCond .eq 6, 3), (37, .iinc 3 1, 3), (40, .iinc 4 1, 3), (43, .goto (-38), 3), (46, .iload_n 3, 1), (47, .ireturn, 1)]
set_option maxRecDepth 20000 in
theorem D_Bat_markedRows : (T_Bat_markedRows.all fun q => decide (decode M_Bat_markedRows.2.1 q.1 = .ok q.2)) = true := by decide +kernel
def Bat_markedRows_L5 : Nat → Nat → Int → Int → Int → Int → AH → Option (Int × AH)
  | 0, _, _, _, _, _, _ => none
  | n + 1, v0, v1, v2, v3, v4, h => gR h 12 v0 5 fun r1 => gR h 11 r1 0 fun r2 => gR h 9 r2 0 fun r3 => aR h 34 r3 v1 fun r4 => gI h 10 r4 3 fun x5 => if (x5 : Int) ≤ v4 then (some (v3, h)) else (rc h 12 v0 <| bnd (Bat_marksOf v0 v1 v4 h) fun x7 h6 => if ((iAnd x7 v2) : Int) = 0 then (Bat_markedRows_L5 n v0 v1 v2 v3 ((wr (v4 + 1))) h6) else (Bat_markedRows_L5 n v0 v1 v2 ((wr (v3 + 1))) ((wr (v4 + 1))) h6))
set_option maxHeartbeats 4000000 in
set_option maxRecDepth 20000 in
theorem s_Bat_markedRows_L5 : ∀ (n : Nat) (v0 : Nat) (v1 : Int) (v2 : Int) (v3 : Int) (v4 : Int) (h : AH), Sd M_Bat_markedRows 4 71 emI 5 [(0, vr v0), (1, vi v1), (2, vi v2), (3, vi v3), (4, vi v4)] [] h (Bat_markedRows_L5 n v0 v1 v2 v3 v4 h)
  | 0, _, _, _, _, _, _ => Sd.none
  | n + 1, v0, v1, v2, v3, v4, h => by
    rw [Bat_markedRows_L5]
    refine Sd_iload (pc' := 7) (dc D_Bat_markedRows 4 rfl) rfl 4 rfl ?_
    refine Sd_aload_n (pc' := 8) (dc D_Bat_markedRows 5 rfl) rfl 0 rfl rfl ?_
    refine Sd_getR (pc' := 11) (dc D_Bat_markedRows 6 rfl) rfl F_Bat_31 rfl rfl ?_
    refine Sd_getR (pc' := 14) (dc D_Bat_markedRows 7 rfl) rfl F_Bat_116 rfl rfl ?_
    refine Sd_getR (pc' := 17) (dc D_Bat_markedRows 8 rfl) rfl F_Bat_96 rfl rfl ?_
    refine Sd_iload_n (pc' := 18) (dc D_Bat_markedRows 9 rfl) rfl 1 rfl rfl ?_
    refine Sd_aaload (t := 34) (j := 6) (C0 := RX9) (pc' := 19) (dc D_Bat_markedRows 10 rfl) rfl rfl (by decide) ?_
    refine Sd_getI (pc' := 22) (dc D_Bat_markedRows 11 rfl) rfl F_Bat_100 rfl rfl ?_
    refine Sd_icmp_ge (tgt := 46) (pc' := 25) (dc D_Bat_markedRows 12 rfl) (by decide) rfl (fun _ => ?_) (fun _ => ?_)
    · refine Sd_iload_n (pc' := 47) (dc D_Bat_markedRows 23 rfl) rfl 3 rfl rfl ?_
      exact Sd_iret (dc D_Bat_markedRows 24 rfl) rfl
    · refine Sd_aload_n (pc' := 26) (dc D_Bat_markedRows 13 rfl) rfl 0 rfl rfl ?_
      refine Sd_iload_n (pc' := 27) (dc D_Bat_markedRows 14 rfl) rfl 1 rfl rfl ?_
      refine Sd_iload (pc' := 29) (dc D_Bat_markedRows 15 rfl) rfl 4 rfl ?_
      refine Sd.callVI (ci := 11) (t := 12) (as := [_, _]) RX11 (pc' := 32) (dc D_Bat_markedRows 16 rfl) rfl rfl rfl rfl K_Bat_marksOf L_Bat_311 Ks_Bat_marksOf Kv_Bat_marksOf ⟨by decide, by decide⟩ rfl rfl (Nat.le_of_ble_eq_true rfl) (s_Bat_marksOf _ _ _ _) (fun x7 h6 => ?_)
      refine Sd_iload_n (pc' := 33) (dc D_Bat_markedRows 17 rfl) rfl 2 rfl rfl ?_
      refine Sd_iand (pc' := 34) (dc D_Bat_markedRows 18 rfl) rfl ?_
      refine Sd_if_eq (tgt := 40) (pc' := 37) (dc D_Bat_markedRows 19 rfl) (by decide) rfl (fun _ => ?_) (fun _ => ?_)
      · refine Sd_iinc (pc' := 43) (l' := [(4, _), (0, _), (1, _), (2, _), (3, _)]) (dc D_Bat_markedRows 21 rfl) rfl 4 rfl (by decide) rfl ?_
        refine Sd_goto (tgt := 5) (dc D_Bat_markedRows 22 rfl) (by decide) ?_
        refine Sd.sub (l' := [(0, _), (1, _), (2, _), (3, _), (4, _)]) [1, 2, 3, 4, 0] rfl ?_
        exact s_Bat_markedRows_L5 n _ _ _ _ _ _
      · refine Sd_iinc (pc' := 40) (l' := [(3, _), (0, _), (1, _), (2, _), (4, _)]) (dc D_Bat_markedRows 20 rfl) rfl 3 rfl (by decide) rfl ?_
        refine Sd_iinc (pc' := 43) (l' := [(4, _), (3, _), (0, _), (1, _), (2, _)]) (dc D_Bat_markedRows 21 rfl) rfl 4 rfl (by decide) rfl ?_
        refine Sd_goto (tgt := 5) (dc D_Bat_markedRows 22 rfl) (by decide) ?_
        refine Sd.sub (l' := [(0, _), (1, _), (2, _), (3, _), (4, _)]) [2, 3, 4, 1, 0] rfl ?_
        exact s_Bat_markedRows_L5 n _ _ _ _ _ _
def Bat_markedRows (v0 : Nat) (v1 : Int) (v2 : Int) (h : AH) : Option (Int × AH) := Bat_markedRows_L5 FU v0 v1 v2 0 0 h
set_option maxHeartbeats 4000000 in
set_option maxRecDepth 20000 in
theorem s_Bat_markedRows (v0 : Nat) (v1 : Int) (v2 : Int) (h : AH) : CS M_Bat_markedRows 4 71 emI [vr v0, vi v1, vi v2] h (Bat_markedRows v0 v1 v2 h) := by
  refine CS.of (by decide) (Nat.le_of_ble_eq_true rfl) ?_
  show Sd M_Bat_markedRows 4 71 emI 0 [(0, vr v0), (1, vi v1), (2, vi v2)] [] h _
  unfold Bat_markedRows
  refine Sd_iconst (pc' := 1) (dc D_Bat_markedRows 0 rfl) rfl ⟨by decide, by decide⟩ ?_
  refine Sd_istore_n (pc' := 2) (l' := [(3, _), (0, _), (1, _), (2, _)]) (dc D_Bat_markedRows 1 rfl) rfl rfl (by decide) rfl ?_
  refine Sd_iconst (pc' := 3) (dc D_Bat_markedRows 2 rfl) rfl ⟨by decide, by decide⟩ ?_
  refine Sd_istore (pc' := 5) (l' := [(4, _), (3, _), (0, _), (1, _), (2, _)]) (dc D_Bat_markedRows 3 rfl) rfl (by decide) rfl ?_
  refine Sd.sub (l' := [(0, _), (1, _), (2, _), (3, _), (4, _)]) [2, 3, 4, 1, 0] rfl ?_
  exact s_Bat_markedRows_L5 FU _ _ _ _ _ _
theorem K_Bat_markedRows : MOk M_Bat_markedRows 2 := ⟨Tb_at 121 (by decide +kernel) rfl, Tb_at 1162 (by decide +kernel) rfl, by decide +kernel, by decide +kernel, by decide +kernel⟩
theorem Ks_Bat_markedRows : Cond.instanceMethod yX11_markedRows ∈ Tb := Tb_at 1161 (by decide +kernel) rfl
theorem Kv_Bat_markedRows : Cond.selects RX11 yX11_markedRows yX11_markedRows ∈ Tb := Tb_at 37 (by decide +kernel) rfl
/-! ===== BatchShare.shared()I ===== -/
abbrev M_Bat_shared : AMt := (yX11_shared, cX11_shared, 5, (some .int))
def T_Bat_shared : List (Nat × Instr × Nat) := [(0, .iconst 0, 1), (1, .istore_n 1, 1), (2, .iconst 0, 1), (3, .istore_n 2, 1), (4, .iload_n 2, 1), (5, .iconst 1, 1), (6, .if_icmp .gt 39, 3), (9, .iload_n 1, 1), (10, .aload_n 0, 1), (11, .iload_n 2, 1), (12, .invokevirtual 314, 3), (15, .ifCond .ne 7, 3), (18, .iconst 0, 1), (19, .goto 18, 3), (22, .aload_n 0, 1), (23, .getfield 31, 3), (26, .getfield 116, 3), (29, .getfield 96, 3), (32, .iload_n 2, 1), (33, .aaload, 1), (34, .getfield 100, 3), (37, .iadd, 1), (38, .istore_n 1, 1), (39, .iinc 2 1, 3), (42, .goto (-38), 3), (45, .iconst 0, 1), (46, .istore_n 2, 1), (47, .iload_n 2, 1), (48, .iconst 3, 1), (49, .if_icmp .ge 48, 3), (52, .iconst 3, 1), (53, .istore_n 3, 1), (54, .iload_n 3, 1), (55, .iconst 5, 1), (56, .if_icmp .ge 35, 3), (59, .aload_n 0, 1), (60, .iload_n 2, 1), (61, .iload_n 3, 1), (62, .invokevirtual 317, 3), (65, .istore 4, 2), (67, .iload_n 1, 1), (68, .aload_n 0, 1), (69, .iconst 0, 1), (70, .iload 4, 2), (72, .invokevirtual 320, 3), (75, .aload_n 0, 1), (76, .iconst 1, 1), (77, .iload 4, 2), (79, .invokevirtual 320, 3), (82, .imul, 1), (83, .iadd, 1), (84, .istore_n 1, 1), (85, .iinc 3 1, 3), (88, .goto (-34), 3), (91, .iinc 2 1, 3), (94, .goto (-47), 3), (97, .iload_n 1, 1), (98, .ireturn, 1)]
set_option maxRecDepth 20000 in
theorem D_Bat_shared : (T_Bat_shared.all fun q => decide (decode M_Bat_shared.2.1 q.1 = .ok q.2)) = true := by decide +kernel
def Bat_shared_L54 (k47 : Nat → Int → Int → AH → Option (Int × AH)) : Nat → Nat → Int → Int → Int → AH → Option (Int × AH)
  | 0, _, _, _, _, _ => none
  | n + 1, v0, v1, v2, v3, h => if (5 : Int) ≤ v3 then (k47 v0 v1 ((wr (v2 + 1))) h) else (rc h 12 v0 <| bnd (Bat_queriesJoining v0 v2 v3 h) fun x2 h1 => rc h1 12 v0 <| bnd (Bat_markedRows v0 0 x2 h1) fun x5 h4 => rc h4 12 v0 <| bnd (Bat_markedRows v0 1 x2 h4) fun x8 h7 => Bat_shared_L54 k47 n v0 ((wr (v1 + (wr (x5 * x8))))) v2 ((wr (v3 + 1))) h7)
set_option maxHeartbeats 4000000 in
set_option maxRecDepth 20000 in
theorem s_Bat_shared_L54 (k47 : Nat → Int → Int → AH → Option (Int × AH)) (hk47 : ∀ v0 v1 v2 h, Sd M_Bat_shared 5 95 emI 47 [(0, vr v0), (1, vi v1), (2, vi v2)] [] h (k47 v0 v1 v2 h)) : ∀ (n : Nat) (v0 : Nat) (v1 : Int) (v2 : Int) (v3 : Int) (h : AH), Sd M_Bat_shared 5 95 emI 54 [(0, vr v0), (1, vi v1), (2, vi v2), (3, vi v3)] [] h (Bat_shared_L54 k47 n v0 v1 v2 v3 h)
  | 0, _, _, _, _, _ => Sd.none
  | n + 1, v0, v1, v2, v3, h => by
    rw [Bat_shared_L54]
    refine Sd_iload_n (pc' := 55) (dc D_Bat_shared 32 rfl) rfl 3 rfl rfl ?_
    refine Sd_iconst (pc' := 56) (dc D_Bat_shared 33 rfl) rfl ⟨by decide, by decide⟩ ?_
    refine Sd_icmp_ge (tgt := 91) (pc' := 59) (dc D_Bat_shared 34 rfl) (by decide) rfl (fun _ => ?_) (fun _ => ?_)
    · refine Sd_iinc (pc' := 94) (l' := [(2, _), (0, _), (1, _), (3, _)]) (dc D_Bat_shared 54 rfl) rfl 2 rfl (by decide) rfl ?_
      refine Sd_goto (tgt := 47) (dc D_Bat_shared 55 rfl) (by decide) ?_
      refine Sd.sub (l' := [(0, _), (1, _), (2, _)]) [1, 2, 0] rfl ?_
      exact hk47 _ _ _ _
    · refine Sd_aload_n (pc' := 60) (dc D_Bat_shared 35 rfl) rfl 0 rfl rfl ?_
      refine Sd_iload_n (pc' := 61) (dc D_Bat_shared 36 rfl) rfl 2 rfl rfl ?_
      refine Sd_iload_n (pc' := 62) (dc D_Bat_shared 37 rfl) rfl 3 rfl rfl ?_
      refine Sd.callVI (ci := 11) (t := 12) (as := [_, _]) RX11 (pc' := 65) (dc D_Bat_shared 38 rfl) rfl rfl rfl rfl K_Bat_queriesJoining L_Bat_317 Ks_Bat_queriesJoining Kv_Bat_queriesJoining ⟨by decide, by decide⟩ rfl rfl (Nat.le_of_ble_eq_true rfl) (s_Bat_queriesJoining _ _ _ _) (fun x2 h1 => ?_)
      refine Sd_istore (pc' := 67) (l' := [(4, _), (0, _), (1, _), (2, _), (3, _)]) (dc D_Bat_shared 39 rfl) rfl (by decide) rfl ?_
      refine Sd_iload_n (pc' := 68) (dc D_Bat_shared 40 rfl) rfl 2 rfl rfl ?_
      refine Sd_aload_n (pc' := 69) (dc D_Bat_shared 41 rfl) rfl 1 rfl rfl ?_
      refine Sd_iconst (pc' := 70) (dc D_Bat_shared 42 rfl) rfl ⟨by decide, by decide⟩ ?_
      refine Sd_iload (pc' := 72) (dc D_Bat_shared 43 rfl) rfl 0 rfl ?_
      refine Sd.callVI (ci := 11) (t := 12) (as := [_, _]) RX11 (pc' := 75) (dc D_Bat_shared 44 rfl) rfl rfl rfl rfl K_Bat_markedRows L_Bat_320 Ks_Bat_markedRows Kv_Bat_markedRows ⟨by decide, by decide⟩ rfl rfl (Nat.le_of_ble_eq_true rfl) (s_Bat_markedRows _ _ _ _) (fun x5 h4 => ?_)
      refine Sd_aload_n (pc' := 76) (dc D_Bat_shared 45 rfl) rfl 1 rfl rfl ?_
      refine Sd_iconst (pc' := 77) (dc D_Bat_shared 46 rfl) rfl ⟨by decide, by decide⟩ ?_
      refine Sd_iload (pc' := 79) (dc D_Bat_shared 47 rfl) rfl 0 rfl ?_
      refine Sd.callVI (ci := 11) (t := 12) (as := [_, _]) RX11 (pc' := 82) (dc D_Bat_shared 48 rfl) rfl rfl rfl rfl K_Bat_markedRows L_Bat_320 Ks_Bat_markedRows Kv_Bat_markedRows ⟨by decide, by decide⟩ rfl rfl (Nat.le_of_ble_eq_true rfl) (s_Bat_markedRows _ _ _ _) (fun x8 h7 => ?_)
      refine Sd_imul (pc' := 83) (dc D_Bat_shared 49 rfl) rfl ?_
      refine Sd_iadd (pc' := 84) (dc D_Bat_shared 50 rfl) rfl ?_
      refine Sd_istore_n (pc' := 85) (l' := [(1, _), (4, _), (0, _), (2, _), (3, _)]) (dc D_Bat_shared 51 rfl) rfl rfl (by decide) rfl ?_
      refine Sd_iinc (pc' := 88) (l' := [(3, _), (1, _), (4, _), (0, _), (2, _)]) (dc D_Bat_shared 52 rfl) rfl 4 rfl (by decide) rfl ?_
      refine Sd_goto (tgt := 54) (dc D_Bat_shared 53 rfl) (by decide) ?_
      refine Sd.sub (l' := [(0, _), (1, _), (2, _), (3, _)]) [3, 1, 4, 0] rfl ?_
      exact s_Bat_shared_L54 k47 hk47 n _ _ _ _ _
def Bat_shared_L47 : Nat → Nat → Int → Int → AH → Option (Int × AH)
  | 0, _, _, _, _ => none
  | n + 1, v0, v1, v2, h => if (3 : Int) ≤ v2 then (some (v1, h)) else (Bat_shared_L54 (Bat_shared_L47 n) FU v0 v1 v2 3 h)
set_option maxHeartbeats 4000000 in
set_option maxRecDepth 20000 in
theorem s_Bat_shared_L47 : ∀ (n : Nat) (v0 : Nat) (v1 : Int) (v2 : Int) (h : AH), Sd M_Bat_shared 5 95 emI 47 [(0, vr v0), (1, vi v1), (2, vi v2)] [] h (Bat_shared_L47 n v0 v1 v2 h)
  | 0, _, _, _, _ => Sd.none
  | n + 1, v0, v1, v2, h => by
    rw [Bat_shared_L47]
    refine Sd_iload_n (pc' := 48) (dc D_Bat_shared 27 rfl) rfl 2 rfl rfl ?_
    refine Sd_iconst (pc' := 49) (dc D_Bat_shared 28 rfl) rfl ⟨by decide, by decide⟩ ?_
    refine Sd_icmp_ge (tgt := 97) (pc' := 52) (dc D_Bat_shared 29 rfl) (by decide) rfl (fun _ => ?_) (fun _ => ?_)
    · refine Sd_iload_n (pc' := 98) (dc D_Bat_shared 56 rfl) rfl 1 rfl rfl ?_
      exact Sd_iret (dc D_Bat_shared 57 rfl) rfl
    · refine Sd_iconst (pc' := 53) (dc D_Bat_shared 30 rfl) rfl ⟨by decide, by decide⟩ ?_
      refine Sd_istore_n (pc' := 54) (l' := [(3, _), (0, _), (1, _), (2, _)]) (dc D_Bat_shared 31 rfl) rfl rfl (by decide) rfl ?_
      refine Sd.sub (l' := [(0, _), (1, _), (2, _), (3, _)]) [1, 2, 3, 0] rfl ?_
      exact s_Bat_shared_L54 (Bat_shared_L47 n) (s_Bat_shared_L47 n) FU _ _ _ _ _
def Bat_shared_L4 : Nat → Nat → Int → Int → AH → Option (Int × AH)
  | 0, _, _, _, _ => none
  | n + 1, v0, v1, v2, h => if (1 : Int) < v2 then (Bat_shared_L47 FU v0 v1 0 h) else (rc h 12 v0 <| bnd (Bat_queriesWith v0 v2 h) fun x2 h1 => if ¬ (x2 : Int) = 0 then (gR h1 12 v0 5 fun r4 => gR h1 11 r4 0 fun r5 => gR h1 9 r5 0 fun r6 => aR h1 34 r6 v2 fun r7 => gI h1 10 r7 3 fun x8 => Bat_shared_L4 n v0 ((wr (v1 + x8))) ((wr (v2 + 1))) h1) else (Bat_shared_L4 n v0 ((wr (v1 + 0))) ((wr (v2 + 1))) h1))
set_option maxHeartbeats 4000000 in
set_option maxRecDepth 20000 in
theorem s_Bat_shared_L4 : ∀ (n : Nat) (v0 : Nat) (v1 : Int) (v2 : Int) (h : AH), Sd M_Bat_shared 5 95 emI 4 [(0, vr v0), (1, vi v1), (2, vi v2)] [] h (Bat_shared_L4 n v0 v1 v2 h)
  | 0, _, _, _, _ => Sd.none
  | n + 1, v0, v1, v2, h => by
    rw [Bat_shared_L4]
    refine Sd_iload_n (pc' := 5) (dc D_Bat_shared 4 rfl) rfl 2 rfl rfl ?_
    refine Sd_iconst (pc' := 6) (dc D_Bat_shared 5 rfl) rfl ⟨by decide, by decide⟩ ?_
    refine Sd_icmp_gt (tgt := 45) (pc' := 9) (dc D_Bat_shared 6 rfl) (by decide) rfl (fun _ => ?_) (fun _ => ?_)
    · refine Sd_iconst (pc' := 46) (dc D_Bat_shared 25 rfl) rfl ⟨by decide, by decide⟩ ?_
      refine Sd_istore_n (pc' := 47) (l' := [(2, _), (0, _), (1, _)]) (dc D_Bat_shared 26 rfl) rfl rfl (by decide) rfl ?_
      refine Sd.sub (l' := [(0, _), (1, _), (2, _)]) [1, 2, 0] rfl ?_
      exact s_Bat_shared_L47 FU _ _ _ _
    · refine Sd_iload_n (pc' := 10) (dc D_Bat_shared 7 rfl) rfl 1 rfl rfl ?_
      refine Sd_aload_n (pc' := 11) (dc D_Bat_shared 8 rfl) rfl 0 rfl rfl ?_
      refine Sd_iload_n (pc' := 12) (dc D_Bat_shared 9 rfl) rfl 2 rfl rfl ?_
      refine Sd.callVI (ci := 11) (t := 12) (as := [_]) RX11 (pc' := 15) (dc D_Bat_shared 10 rfl) rfl rfl rfl rfl K_Bat_queriesWith L_Bat_314 Ks_Bat_queriesWith Kv_Bat_queriesWith ⟨by decide, by decide⟩ rfl rfl (Nat.le_of_ble_eq_true rfl) (s_Bat_queriesWith _ _ _) (fun x2 h1 => ?_)
      refine Sd_if_ne (tgt := 22) (pc' := 18) (dc D_Bat_shared 11 rfl) (by decide) rfl (fun _ => ?_) (fun _ => ?_)
      · refine Sd_aload_n (pc' := 23) (dc D_Bat_shared 14 rfl) rfl 0 rfl rfl ?_
        refine Sd_getR (pc' := 26) (dc D_Bat_shared 15 rfl) rfl F_Bat_31 rfl rfl ?_
        refine Sd_getR (pc' := 29) (dc D_Bat_shared 16 rfl) rfl F_Bat_116 rfl rfl ?_
        refine Sd_getR (pc' := 32) (dc D_Bat_shared 17 rfl) rfl F_Bat_96 rfl rfl ?_
        refine Sd_iload_n (pc' := 33) (dc D_Bat_shared 18 rfl) rfl 2 rfl rfl ?_
        refine Sd_aaload (t := 34) (j := 6) (C0 := RX9) (pc' := 34) (dc D_Bat_shared 19 rfl) rfl rfl (by decide) ?_
        refine Sd_getI (pc' := 37) (dc D_Bat_shared 20 rfl) rfl F_Bat_100 rfl rfl ?_
        refine Sd_iadd (pc' := 38) (dc D_Bat_shared 21 rfl) rfl ?_
        refine Sd_istore_n (pc' := 39) (l' := [(1, _), (0, _), (2, _)]) (dc D_Bat_shared 22 rfl) rfl rfl (by decide) rfl ?_
        refine Sd_iinc (pc' := 42) (l' := [(2, _), (1, _), (0, _)]) (dc D_Bat_shared 23 rfl) rfl 2 rfl (by decide) rfl ?_
        refine Sd_goto (tgt := 4) (dc D_Bat_shared 24 rfl) (by decide) ?_
        refine Sd.sub (l' := [(0, _), (1, _), (2, _)]) [2, 1, 0] rfl ?_
        exact s_Bat_shared_L4 n _ _ _ _
      · refine Sd_iconst (pc' := 19) (dc D_Bat_shared 12 rfl) rfl ⟨by decide, by decide⟩ ?_
        refine Sd_goto (tgt := 37) (dc D_Bat_shared 13 rfl) (by decide) ?_
        refine Sd_iadd (pc' := 38) (dc D_Bat_shared 21 rfl) rfl ?_
        refine Sd_istore_n (pc' := 39) (l' := [(1, _), (0, _), (2, _)]) (dc D_Bat_shared 22 rfl) rfl rfl (by decide) rfl ?_
        refine Sd_iinc (pc' := 42) (l' := [(2, _), (1, _), (0, _)]) (dc D_Bat_shared 23 rfl) rfl 2 rfl (by decide) rfl ?_
        refine Sd_goto (tgt := 4) (dc D_Bat_shared 24 rfl) (by decide) ?_
        refine Sd.sub (l' := [(0, _), (1, _), (2, _)]) [2, 1, 0] rfl ?_
        exact s_Bat_shared_L4 n _ _ _ _
def Bat_shared (v0 : Nat) (h : AH) : Option (Int × AH) := Bat_shared_L4 FU v0 0 0 h
set_option maxHeartbeats 4000000 in
set_option maxRecDepth 20000 in
theorem s_Bat_shared (v0 : Nat) (h : AH) : CS M_Bat_shared 5 95 emI [vr v0] h (Bat_shared v0 h) := by
  refine CS.of (by decide) (Nat.le_of_ble_eq_true rfl) ?_
  show Sd M_Bat_shared 5 95 emI 0 [(0, vr v0)] [] h _
  unfold Bat_shared
  refine Sd_iconst (pc' := 1) (dc D_Bat_shared 0 rfl) rfl ⟨by decide, by decide⟩ ?_
  refine Sd_istore_n (pc' := 2) (l' := [(1, _), (0, _)]) (dc D_Bat_shared 1 rfl) rfl rfl (by decide) rfl ?_
  refine Sd_iconst (pc' := 3) (dc D_Bat_shared 2 rfl) rfl ⟨by decide, by decide⟩ ?_
  refine Sd_istore_n (pc' := 4) (l' := [(2, _), (1, _), (0, _)]) (dc D_Bat_shared 3 rfl) rfl rfl (by decide) rfl ?_
  refine Sd.sub (l' := [(0, _), (1, _), (2, _)]) [2, 1, 0] rfl ?_
  exact s_Bat_shared_L4 FU _ _ _ _
theorem K_Bat_shared : MOk M_Bat_shared 0 := ⟨Tb_at 121 (by decide +kernel) rfl, Tb_at 1146 (by decide +kernel) rfl, by decide +kernel, by decide +kernel, by decide +kernel⟩
theorem Ks_Bat_shared : Cond.instanceMethod yX11_shared ∈ Tb := Tb_at 1144 (by decide +kernel) rfl
theorem Kv_Bat_shared : Cond.selects RX11 yX11_shared yX11_shared ∈ Tb := Tb_at 1145 (by decide +kernel) rfl
/-! ===== BatchShare.residue(II)I ===== -/
abbrev M_Bat_residue : AMt := (yX11_residue, cX11_residue, 6, (some .int))
def T_Bat_residue : List (Nat × Instr × Nat) := [(0, .aload_n 0, 1), (1, .iload_n 1, 1), (2, .invokevirtual 123, 3), (5, .ifCond .eq 25, 3), (8, .aload_n 0, 1), (9, .getfield 31, 3), (12, .getfield 116, 3), (15, .iload_n 1, 1), (16, .invokevirtual 134, 3), (19, .ifCond .ne 11, 3), (22, .aload_n 0, 1), (23, .iload_n 2, 1), (24, .invokevirtual 270, 3), (27, .ifCond .ne 5, 3), (30, .iconst (-1), 1), (31, .ireturn, 1), (32, .aload_n 0, 1), (33, .getfield 31, 3), (36, .getfield 116, 3), (39, .getfield 186, 3), (42, .getfield 275, 3), (45, .iload_n 2, 1), (46, .aaload, 1), (47, .astore_n 3, 1), (48, .aload_n 3, 1), (49, .getfield 297, 3), (52, .invokevirtual 323, 3), (55, .istore 4, 2), (57, .aload_n 3, 1), (58, .getfield 279, 3), (61, .ifCond .ne 17, 3), (64, .aload_n 0, 1), (65, .getfield 24, 3), (68, .iload_n 1, 1), (69, .aaload, 1), (70, .iload 4, 2), (72, .invokevirtual 326, 3), (75, .ifCond .ne 6, 3), (78, .bipush (-2), 2), (80, .ireturn, 1), (81, .aload_n 0, 1), (82, .getfield 24, 3), (85, .iload_n 1, 1), (86, .aaload, 1), (87, .getfield 329, 3), (90, .iload 4, 2), (92, .aaload, 1), (93, .astore 5, 2), (95, .aload_n 3, 1), (96, .getfield 297, 3), (99, .aload 5, 2), (101, .invokevirtual 330, 3), (104, .ifCond .eq 23, 3), (107, .aload_n 3, 1), (108, .getfield 287, 3), (111, .aload 5, 2), (113, .aload_n 0, 1), (114, .getfield 31, 3), (117, .getfield 116, 3), (120, .invokevirtual 149, 3), (123, .isub, 1), (124, .goto 5, 3), (127, .bipush (-2), 2), (129, .ireturn, 1)]
set_option maxRecDepth 20000 in
theorem D_Bat_residue : (T_Bat_residue.all fun q => decide (decode M_Bat_residue.2.1 q.1 = .ok q.2)) = true := by decide +kernel
def Bat_residue (v0 : Nat) (v1 : Int) (v2 : Int) (h : AH) : Option (Int × AH) := rc h 12 v0 <| bnd (Bat_hasQuery v0 v1 h) fun x2 h1 => if (x2 : Int) = 0 then (some ((-1), h1)) else (gR h1 12 v0 5 fun r4 => gR h1 11 r4 0 fun r5 => rc h1 9 r5 <| bnd (Sta_isStruck r5 v1 h1) fun x7 h6 => if ¬ (x7 : Int) = 0 then (some ((-1), h6)) else (rc h6 12 v0 <| bnd (Bat_hasKept v0 v2 h6) fun x10 h9 => if ¬ (x10 : Int) = 0 then (gR h9 12 v0 5 fun r12 => gR h9 11 r12 0 fun r13 => gR h9 9 r13 1 fun r14 => gR h9 8 r14 0 fun r15 => aR h9 35 r15 v2 fun r16 => if r16 = 0 then none else gR h9 3 r16 0 fun r17 => rc h9 4 r17 <| bnd (Par_kind r17 h9) fun x19 h18 => gI h18 3 r16 3 fun x21 => if ¬ (x21 : Int) = 0 then (some ((-2), h18)) else (gR h18 12 v0 3 fun r22 => aR h18 31 r22 v1 fun r23 => rc h18 6 r23 <| bnd (Que_hasPart r23 x19 h18) fun x25 h24 => if ¬ (x25 : Int) = 0 then (gR h24 12 v0 3 fun r27 => aR h24 31 r27 v1 fun r28 => gR h24 6 r28 1 fun r29 => aR h24 36 r29 x19 fun r30 => if r30 = 0 then none else gR h24 3 r16 0 fun r31 => rc h24 4 r31 <| bnd (Par_holds r31 r30 h24) fun x33 h32 => if (x33 : Int) = 0 then (some ((-2), h32)) else (gI h32 3 r16 1 fun x35 => gR h32 12 v0 5 fun r36 => gR h32 11 r36 0 fun r37 => rc h32 4 r30 <| bnd (Par_rowsIn r30 r37 h32) fun x39 h38 => some ((wr (x35 - x39)), h38))) else (some ((-2), h24)))) else (some ((-1), h9))))
set_option maxHeartbeats 4000000 in
set_option maxRecDepth 20000 in
theorem s_Bat_residue (v0 : Nat) (v1 : Int) (v2 : Int) (h : AH) : CS M_Bat_residue 5 94 emI [vr v0, vi v1, vi v2] h (Bat_residue v0 v1 v2 h) := by
  refine CS.of (by decide) (Nat.le_of_ble_eq_true rfl) ?_
  show Sd M_Bat_residue 5 94 emI 0 [(0, vr v0), (1, vi v1), (2, vi v2)] [] h _
  unfold Bat_residue
  refine Sd_aload_n (pc' := 1) (dc D_Bat_residue 0 rfl) rfl 0 rfl rfl ?_
  refine Sd_iload_n (pc' := 2) (dc D_Bat_residue 1 rfl) rfl 1 rfl rfl ?_
  refine Sd.callVI (ci := 11) (t := 12) (as := [_]) RX11 (pc' := 5) (dc D_Bat_residue 2 rfl) rfl rfl rfl rfl K_Bat_hasQuery L_Bat_123 Ks_Bat_hasQuery Kv_Bat_hasQuery ⟨by decide, by decide⟩ rfl rfl (Nat.le_of_ble_eq_true rfl) (s_Bat_hasQuery _ _ _) (fun x2 h1 => ?_)
  refine Sd_if_eq (tgt := 30) (pc' := 8) (dc D_Bat_residue 3 rfl) (by decide) rfl (fun _ => ?_) (fun _ => ?_)
  · refine Sd_iconst (pc' := 31) (dc D_Bat_residue 14 rfl) rfl ⟨by decide, by decide⟩ ?_
    exact Sd_iret (dc D_Bat_residue 15 rfl) rfl
  · refine Sd_aload_n (pc' := 9) (dc D_Bat_residue 4 rfl) rfl 0 rfl rfl ?_
    refine Sd_getR (pc' := 12) (dc D_Bat_residue 5 rfl) rfl F_Bat_31 rfl rfl ?_
    refine Sd_getR (pc' := 15) (dc D_Bat_residue 6 rfl) rfl F_Bat_116 rfl rfl ?_
    refine Sd_iload_n (pc' := 16) (dc D_Bat_residue 7 rfl) rfl 1 rfl rfl ?_
    refine Sd.callVI (ci := 8) (t := 9) (as := [_]) RX8 (pc' := 19) (dc D_Bat_residue 8 rfl) rfl rfl rfl rfl K_Sta_isStruck L_Bat_134 Ks_Sta_isStruck Kv_Sta_isStruck ⟨by decide, by decide⟩ rfl rfl (Nat.le_of_ble_eq_true rfl) (s_Sta_isStruck _ _ _) (fun x7 h6 => ?_)
    refine Sd_if_ne (tgt := 30) (pc' := 22) (dc D_Bat_residue 9 rfl) (by decide) rfl (fun _ => ?_) (fun _ => ?_)
    · refine Sd_iconst (pc' := 31) (dc D_Bat_residue 14 rfl) rfl ⟨by decide, by decide⟩ ?_
      exact Sd_iret (dc D_Bat_residue 15 rfl) rfl
    · refine Sd_aload_n (pc' := 23) (dc D_Bat_residue 10 rfl) rfl 0 rfl rfl ?_
      refine Sd_iload_n (pc' := 24) (dc D_Bat_residue 11 rfl) rfl 2 rfl rfl ?_
      refine Sd.callVI (ci := 11) (t := 12) (as := [_]) RX11 (pc' := 27) (dc D_Bat_residue 12 rfl) rfl rfl rfl rfl K_Bat_hasKept L_Bat_270 Ks_Bat_hasKept Kv_Bat_hasKept ⟨by decide, by decide⟩ rfl rfl (Nat.le_of_ble_eq_true rfl) (s_Bat_hasKept _ _ _) (fun x10 h9 => ?_)
      refine Sd_if_ne (tgt := 32) (pc' := 30) (dc D_Bat_residue 13 rfl) (by decide) rfl (fun _ => ?_) (fun _ => ?_)
      · refine Sd_aload_n (pc' := 33) (dc D_Bat_residue 16 rfl) rfl 0 rfl rfl ?_
        refine Sd_getR (pc' := 36) (dc D_Bat_residue 17 rfl) rfl F_Bat_31 rfl rfl ?_
        refine Sd_getR (pc' := 39) (dc D_Bat_residue 18 rfl) rfl F_Bat_116 rfl rfl ?_
        refine Sd_getR (pc' := 42) (dc D_Bat_residue 19 rfl) rfl F_Bat_186 rfl rfl ?_
        refine Sd_getR (pc' := 45) (dc D_Bat_residue 20 rfl) rfl F_Bat_275 rfl rfl ?_
        refine Sd_iload_n (pc' := 46) (dc D_Bat_residue 21 rfl) rfl 2 rfl rfl ?_
        refine Sd_aaload (t := 35) (j := 7) (C0 := RX2) (pc' := 47) (dc D_Bat_residue 22 rfl) rfl rfl (by decide) ?_
        refine Sd_astore_n (pc' := 48) (l' := [(3, _), (0, _), (1, _), (2, _)]) (dc D_Bat_residue 23 rfl) rfl rfl (by decide) rfl (fun _ => ?_)
        refine Sd_aload_n (pc' := 49) (dc D_Bat_residue 24 rfl) rfl 0 rfl rfl ?_
        refine Sd_getR (pc' := 52) (dc D_Bat_residue 25 rfl) rfl F_Bat_297 rfl rfl ?_
        refine Sd.callVI (ci := 3) (t := 4) (as := []) RX3 (pc' := 55) (dc D_Bat_residue 26 rfl) rfl rfl rfl rfl K_Par_kind L_Bat_323 Ks_Par_kind Kv_Par_kind ⟨by decide, by decide⟩ rfl rfl (Nat.le_of_ble_eq_true rfl) (s_Par_kind _ _) (fun x19 h18 => ?_)
        refine Sd_istore (pc' := 57) (l' := [(4, _), (3, _), (0, _), (1, _), (2, _)]) (dc D_Bat_residue 27 rfl) rfl (by decide) rfl ?_
        refine Sd_aload_n (pc' := 58) (dc D_Bat_residue 28 rfl) rfl 1 rfl rfl ?_
        refine Sd_getI (pc' := 61) (dc D_Bat_residue 29 rfl) rfl F_Bat_279 rfl rfl ?_
        refine Sd_if_ne (tgt := 78) (pc' := 64) (dc D_Bat_residue 30 rfl) (by decide) rfl (fun _ => ?_) (fun _ => ?_)
        · refine Sd_bipush (pc' := 80) (dc D_Bat_residue 38 rfl) rfl ⟨by decide, by decide⟩ (by decide) ?_
          exact Sd_iret (dc D_Bat_residue 39 rfl) rfl
        · refine Sd_aload_n (pc' := 65) (dc D_Bat_residue 31 rfl) rfl 2 rfl rfl ?_
          refine Sd_getR (pc' := 68) (dc D_Bat_residue 32 rfl) rfl F_Bat_24 rfl rfl ?_
          refine Sd_iload_n (pc' := 69) (dc D_Bat_residue 33 rfl) rfl 3 rfl rfl ?_
          refine Sd_aaload (t := 31) (j := 3) (C0 := RX5) (pc' := 70) (dc D_Bat_residue 34 rfl) rfl rfl (by decide) ?_
          refine Sd_iload (pc' := 72) (dc D_Bat_residue 35 rfl) rfl 0 rfl ?_
          refine Sd.callVI (ci := 5) (t := 6) (as := [_]) RX5 (pc' := 75) (dc D_Bat_residue 36 rfl) rfl rfl rfl rfl K_Que_hasPart L_Bat_326 Ks_Que_hasPart Kv_Que_hasPart ⟨by decide, by decide⟩ rfl rfl (Nat.le_of_ble_eq_true rfl) (s_Que_hasPart _ _ _) (fun x25 h24 => ?_)
          refine Sd_if_ne (tgt := 81) (pc' := 78) (dc D_Bat_residue 37 rfl) (by decide) rfl (fun _ => ?_) (fun _ => ?_)
          · refine Sd_aload_n (pc' := 82) (dc D_Bat_residue 40 rfl) rfl 2 rfl rfl ?_
            refine Sd_getR (pc' := 85) (dc D_Bat_residue 41 rfl) rfl F_Bat_24 rfl rfl ?_
            refine Sd_iload_n (pc' := 86) (dc D_Bat_residue 42 rfl) rfl 3 rfl rfl ?_
            refine Sd_aaload (t := 31) (j := 3) (C0 := RX5) (pc' := 87) (dc D_Bat_residue 43 rfl) rfl rfl (by decide) ?_
            refine Sd_getR (pc' := 90) (dc D_Bat_residue 44 rfl) rfl F_Bat_329 rfl rfl ?_
            refine Sd_iload (pc' := 92) (dc D_Bat_residue 45 rfl) rfl 0 rfl ?_
            refine Sd_aaload (t := 36) (j := 8) (C0 := RX3) (pc' := 93) (dc D_Bat_residue 46 rfl) rfl rfl (by decide) ?_
            refine Sd_astore (pc' := 95) (l' := [(5, _), (4, _), (3, _), (0, _), (1, _), (2, _)]) (dc D_Bat_residue 47 rfl) rfl (by decide) rfl (fun _ => ?_)
            refine Sd_aload_n (pc' := 96) (dc D_Bat_residue 48 rfl) rfl 2 rfl rfl ?_
            refine Sd_getR (pc' := 99) (dc D_Bat_residue 49 rfl) rfl F_Bat_297 rfl rfl ?_
            refine Sd_aload (pc' := 101) (dc D_Bat_residue 50 rfl) rfl 0 rfl ?_
            refine Sd.callVI (ci := 3) (t := 4) (as := [_]) RX3 (pc' := 104) (dc D_Bat_residue 51 rfl) rfl rfl rfl rfl K_Par_holds L_Bat_330 Ks_Par_holds Kv_Par_holds ⟨by decide, by decide⟩ rfl rfl (Nat.le_of_ble_eq_true rfl) (s_Par_holds _ _ _) (fun x33 h32 => ?_)
            refine Sd_if_eq (tgt := 127) (pc' := 107) (dc D_Bat_residue 52 rfl) (by decide) rfl (fun _ => ?_) (fun _ => ?_)
            · refine Sd_bipush (pc' := 129) (dc D_Bat_residue 62 rfl) rfl ⟨by decide, by decide⟩ (by decide) ?_
              exact Sd_iret (dc D_Bat_residue 63 rfl) rfl
            · refine Sd_aload_n (pc' := 108) (dc D_Bat_residue 53 rfl) rfl 2 rfl rfl ?_
              refine Sd_getI (pc' := 111) (dc D_Bat_residue 54 rfl) rfl F_Bat_287 rfl rfl ?_
              refine Sd_aload (pc' := 113) (dc D_Bat_residue 55 rfl) rfl 0 rfl ?_
              refine Sd_aload_n (pc' := 114) (dc D_Bat_residue 56 rfl) rfl 3 rfl rfl ?_
              refine Sd_getR (pc' := 117) (dc D_Bat_residue 57 rfl) rfl F_Bat_31 rfl rfl ?_
              refine Sd_getR (pc' := 120) (dc D_Bat_residue 58 rfl) rfl F_Bat_116 rfl rfl ?_
              refine Sd.callVI (ci := 3) (t := 4) (as := [_]) RX3 (pc' := 123) (dc D_Bat_residue 59 rfl) rfl rfl rfl rfl K_Par_rowsIn L_Bat_149 Ks_Par_rowsIn Kv_Par_rowsIn ⟨by decide, by decide⟩ rfl rfl (Nat.le_of_ble_eq_true rfl) (s_Par_rowsIn _ _ _) (fun x39 h38 => ?_)
              refine Sd_isub (pc' := 124) (dc D_Bat_residue 60 rfl) rfl ?_
              refine Sd_goto (tgt := 129) (dc D_Bat_residue 61 rfl) (by decide) ?_
              exact Sd_iret (dc D_Bat_residue 63 rfl) rfl
          · refine Sd_bipush (pc' := 80) (dc D_Bat_residue 38 rfl) rfl ⟨by decide, by decide⟩ (by decide) ?_
            exact Sd_iret (dc D_Bat_residue 39 rfl) rfl
      · refine Sd_iconst (pc' := 31) (dc D_Bat_residue 14 rfl) rfl ⟨by decide, by decide⟩ ?_
        exact Sd_iret (dc D_Bat_residue 15 rfl) rfl
theorem K_Bat_residue : MOk M_Bat_residue 2 := ⟨Tb_at 121 (by decide +kernel) rfl, Tb_at 1166 (by decide +kernel) rfl, by decide +kernel, by decide +kernel, by decide +kernel⟩
theorem Ks_Bat_residue : Cond.instanceMethod yX11_residue ∈ Tb := Tb_at 1164 (by decide +kernel) rfl
theorem Kv_Bat_residue : Cond.selects RX11 yX11_residue yX11_residue ∈ Tb := Tb_at 1165 (by decide +kernel) rfl
/-! ===== BatchShare.driftOnce(I)V ===== -/
abbrev M_Bat_driftOnce : AMt := (yX11_driftOnce, cX11_driftOnce, 6, none)
def T_Bat_driftOnce : List (Nat × Instr × Nat) := [(0, .aload_n 0, 1), (1, .getfield 42, 3), (4, .getfield 96, 3), (7, .iconst 0, 1), (8, .aaload, 1), (9, .getfield 100, 3), (12, .istore_n 2, 1), (13, .aload_n 0, 1), (14, .getfield 31, 3), (17, .invokevirtual 372, 3), (20, .bipush 100, 2), (22, .irem, 1), (23, .iload_n 1, 1), (24, .if_icmp .ge 7, 3), (27, .iload_n 2, 1), (28, .ifCond .ne 4, 3), (31, .return_, 1), (32, .aload_n 0, 1), (33, .getfield 31, 3), (36, .invokevirtual 372, 3), (39, .iload_n 2, 1), (40, .irem, 1), (41, .istore_n 3, 1), (42, .aload_n 0, 1), (43, .getfield 31, 3), (46, .invokevirtual 372, 3), (49, .iconst 3, 1), (50, .irem, 1), (51, .istore 4, 2), (53, .aload_n 0, 1), (54, .getfield 31, 3), (57, .invokevirtual 372, 3), (60, .bipush 10, 2), (62, .irem, 1), (63, .istore 5, 2), (65, .aload_n 0, 1), (66, .getfield 42, 3), (69, .getfield 96, 3), (72, .iconst 0, 1), (73, .aaload, 1), (74, .iload_n 3, 1), (75, .iload 4, 2), (77, .invokevirtual 119, 3), (80, .iload 5, 2), (82, .if_icmp .eq 16, 3), (85, .aload_n 0, 1), (86, .getfield 42, 3), (89, .iconst 0, 1), (90, .iload_n 3, 1), (91, .iload 4, 2), (93, .iload 5, 2), (95, .invokevirtual 241, 3), (98, .return_, 1)]
set_option maxRecDepth 20000 in
theorem D_Bat_driftOnce : (T_Bat_driftOnce.all fun q => decide (decode M_Bat_driftOnce.2.1 q.1 = .ok q.2)) = true := by decide +kernel
def Bat_driftOnce (v0 : Nat) (v1 : Int) (h : AH) : Option (Unit × AH) := gR h 12 v0 7 fun r1 => gR h 9 r1 0 fun r2 => aR h 34 r2 0 fun r3 => gI h 10 r3 3 fun x4 => gR h 12 v0 5 fun r5 => rc h 11 r5 <| bnd (Wor_draw r5 h) fun x7 h6 => if (100 : Int) = 0 then none else if (v1 : Int) ≤ (iRem x7 100) then (some ((), h6)) else (if ¬ (x4 : Int) = 0 then (gR h6 12 v0 5 fun r9 => rc h6 11 r9 <| bnd (Wor_draw r9 h6) fun x11 h10 => if (x4 : Int) = 0 then none else gR h10 12 v0 5 fun r13 => rc h10 11 r13 <| bnd (Wor_draw r13 h10) fun x15 h14 => if (3 : Int) = 0 then none else gR h14 12 v0 5 fun r17 => rc h14 11 r17 <| bnd (Wor_draw r17 h14) fun x19 h18 => if (10 : Int) = 0 then none else gR h18 12 v0 7 fun r21 => gR h18 9 r21 0 fun r22 => aR h18 34 r22 0 fun r23 => rc h18 10 r23 <| bnd (Tab_at r23 (iRem x11 x4) (iRem x15 3) h18) fun x25 h24 => if (x25 : Int) = (iRem x19 10) then (some ((), h24)) else (gR h24 12 v0 7 fun r27 => rc h24 9 r27 <| bnd (Sta_replace r27 0 (iRem x11 x4) (iRem x15 3) (iRem x19 10) h24) fun _ h28 => some ((), h28))) else (some ((), h6)))
set_option maxHeartbeats 4000000 in
set_option maxRecDepth 20000 in
theorem s_Bat_driftOnce (v0 : Nat) (v1 : Int) (h : AH) : CS M_Bat_driftOnce 5 96 emV [vr v0, vi v1] h (Bat_driftOnce v0 v1 h) := by
  refine CS.of (by decide) (Nat.le_of_ble_eq_true rfl) ?_
  show Sd M_Bat_driftOnce 5 96 emV 0 [(0, vr v0), (1, vi v1)] [] h _
  unfold Bat_driftOnce
  refine Sd_aload_n (pc' := 1) (dc D_Bat_driftOnce 0 rfl) rfl 0 rfl rfl ?_
  refine Sd_getR (pc' := 4) (dc D_Bat_driftOnce 1 rfl) rfl F_Bat_42 rfl rfl ?_
  refine Sd_getR (pc' := 7) (dc D_Bat_driftOnce 2 rfl) rfl F_Bat_96 rfl rfl ?_
  refine Sd_iconst (pc' := 8) (dc D_Bat_driftOnce 3 rfl) rfl ⟨by decide, by decide⟩ ?_
  refine Sd_aaload (t := 34) (j := 6) (C0 := RX9) (pc' := 9) (dc D_Bat_driftOnce 4 rfl) rfl rfl (by decide) ?_
  refine Sd_getI (pc' := 12) (dc D_Bat_driftOnce 5 rfl) rfl F_Bat_100 rfl rfl ?_
  refine Sd_istore_n (pc' := 13) (l' := [(2, _), (0, _), (1, _)]) (dc D_Bat_driftOnce 6 rfl) rfl rfl (by decide) rfl ?_
  refine Sd_aload_n (pc' := 14) (dc D_Bat_driftOnce 7 rfl) rfl 1 rfl rfl ?_
  refine Sd_getR (pc' := 17) (dc D_Bat_driftOnce 8 rfl) rfl F_Bat_31 rfl rfl ?_
  refine Sd.callVI (ci := 10) (t := 11) (as := []) RX10 (pc' := 20) (dc D_Bat_driftOnce 9 rfl) rfl rfl rfl rfl K_Wor_draw L_Bat_372 Ks_Wor_draw Kv_Wor_draw ⟨by decide, by decide⟩ rfl rfl (Nat.le_of_ble_eq_true rfl) (s_Wor_draw _ _) (fun x7 h6 => ?_)
  refine Sd_bipush (pc' := 22) (dc D_Bat_driftOnce 10 rfl) rfl ⟨by decide, by decide⟩ (by decide) ?_
  refine Sd_irem (pc' := 23) (dc D_Bat_driftOnce 11 rfl) rfl ?_
  refine Sd_iload_n (pc' := 24) (dc D_Bat_driftOnce 12 rfl) rfl 2 rfl rfl ?_
  refine Sd_icmp_ge (tgt := 31) (pc' := 27) (dc D_Bat_driftOnce 13 rfl) (by decide) rfl (fun _ => ?_) (fun _ => ?_)
  · exact Sd_vret (dc D_Bat_driftOnce 16 rfl) rfl
  · refine Sd_iload_n (pc' := 28) (dc D_Bat_driftOnce 14 rfl) rfl 0 rfl rfl ?_
    refine Sd_if_ne (tgt := 32) (pc' := 31) (dc D_Bat_driftOnce 15 rfl) (by decide) rfl (fun _ => ?_) (fun _ => ?_)
    · refine Sd_aload_n (pc' := 33) (dc D_Bat_driftOnce 17 rfl) rfl 1 rfl rfl ?_
      refine Sd_getR (pc' := 36) (dc D_Bat_driftOnce 18 rfl) rfl F_Bat_31 rfl rfl ?_
      refine Sd.callVI (ci := 10) (t := 11) (as := []) RX10 (pc' := 39) (dc D_Bat_driftOnce 19 rfl) rfl rfl rfl rfl K_Wor_draw L_Bat_372 Ks_Wor_draw Kv_Wor_draw ⟨by decide, by decide⟩ rfl rfl (Nat.le_of_ble_eq_true rfl) (s_Wor_draw _ _) (fun x11 h10 => ?_)
      refine Sd_iload_n (pc' := 40) (dc D_Bat_driftOnce 20 rfl) rfl 0 rfl rfl ?_
      refine Sd_irem (pc' := 41) (dc D_Bat_driftOnce 21 rfl) rfl ?_
      refine Sd_istore_n (pc' := 42) (l' := [(3, _), (2, _), (0, _), (1, _)]) (dc D_Bat_driftOnce 22 rfl) rfl rfl (by decide) rfl ?_
      refine Sd_aload_n (pc' := 43) (dc D_Bat_driftOnce 23 rfl) rfl 2 rfl rfl ?_
      refine Sd_getR (pc' := 46) (dc D_Bat_driftOnce 24 rfl) rfl F_Bat_31 rfl rfl ?_
      refine Sd.callVI (ci := 10) (t := 11) (as := []) RX10 (pc' := 49) (dc D_Bat_driftOnce 25 rfl) rfl rfl rfl rfl K_Wor_draw L_Bat_372 Ks_Wor_draw Kv_Wor_draw ⟨by decide, by decide⟩ rfl rfl (Nat.le_of_ble_eq_true rfl) (s_Wor_draw _ _) (fun x15 h14 => ?_)
      refine Sd_iconst (pc' := 50) (dc D_Bat_driftOnce 26 rfl) rfl ⟨by decide, by decide⟩ ?_
      refine Sd_irem (pc' := 51) (dc D_Bat_driftOnce 27 rfl) rfl ?_
      refine Sd_istore (pc' := 53) (l' := [(4, _), (3, _), (2, _), (0, _), (1, _)]) (dc D_Bat_driftOnce 28 rfl) rfl (by decide) rfl ?_
      refine Sd_aload_n (pc' := 54) (dc D_Bat_driftOnce 29 rfl) rfl 3 rfl rfl ?_
      refine Sd_getR (pc' := 57) (dc D_Bat_driftOnce 30 rfl) rfl F_Bat_31 rfl rfl ?_
      refine Sd.callVI (ci := 10) (t := 11) (as := []) RX10 (pc' := 60) (dc D_Bat_driftOnce 31 rfl) rfl rfl rfl rfl K_Wor_draw L_Bat_372 Ks_Wor_draw Kv_Wor_draw ⟨by decide, by decide⟩ rfl rfl (Nat.le_of_ble_eq_true rfl) (s_Wor_draw _ _) (fun x19 h18 => ?_)
      refine Sd_bipush (pc' := 62) (dc D_Bat_driftOnce 32 rfl) rfl ⟨by decide, by decide⟩ (by decide) ?_
      refine Sd_irem (pc' := 63) (dc D_Bat_driftOnce 33 rfl) rfl ?_
      refine Sd_istore (pc' := 65) (l' := [(5, _), (4, _), (3, _), (2, _), (0, _), (1, _)]) (dc D_Bat_driftOnce 34 rfl) rfl (by decide) rfl ?_
      refine Sd_aload_n (pc' := 66) (dc D_Bat_driftOnce 35 rfl) rfl 4 rfl rfl ?_
      refine Sd_getR (pc' := 69) (dc D_Bat_driftOnce 36 rfl) rfl F_Bat_42 rfl rfl ?_
      refine Sd_getR (pc' := 72) (dc D_Bat_driftOnce 37 rfl) rfl F_Bat_96 rfl rfl ?_
      refine Sd_iconst (pc' := 73) (dc D_Bat_driftOnce 38 rfl) rfl ⟨by decide, by decide⟩ ?_
      refine Sd_aaload (t := 34) (j := 6) (C0 := RX9) (pc' := 74) (dc D_Bat_driftOnce 39 rfl) rfl rfl (by decide) ?_
      refine Sd_iload_n (pc' := 75) (dc D_Bat_driftOnce 40 rfl) rfl 2 rfl rfl ?_
      refine Sd_iload (pc' := 77) (dc D_Bat_driftOnce 41 rfl) rfl 1 rfl ?_
      refine Sd.callVI (ci := 9) (t := 10) (as := [_, _]) RX9 (pc' := 80) (dc D_Bat_driftOnce 42 rfl) rfl rfl rfl rfl K_Tab_at L_Bat_119 Ks_Tab_at Kv_Tab_at ⟨by decide, by decide⟩ rfl rfl (Nat.le_of_ble_eq_true rfl) (s_Tab_at _ _ _ _) (fun x25 h24 => ?_)
      refine Sd_iload (pc' := 82) (dc D_Bat_driftOnce 43 rfl) rfl 0 rfl ?_
      refine Sd_icmp_eq (tgt := 98) (pc' := 85) (dc D_Bat_driftOnce 44 rfl) (by decide) rfl (fun _ => ?_) (fun _ => ?_)
      · exact Sd_vret (dc D_Bat_driftOnce 52 rfl) rfl
      · refine Sd_aload_n (pc' := 86) (dc D_Bat_driftOnce 45 rfl) rfl 4 rfl rfl ?_
        refine Sd_getR (pc' := 89) (dc D_Bat_driftOnce 46 rfl) rfl F_Bat_42 rfl rfl ?_
        refine Sd_iconst (pc' := 90) (dc D_Bat_driftOnce 47 rfl) rfl ⟨by decide, by decide⟩ ?_
        refine Sd_iload_n (pc' := 91) (dc D_Bat_driftOnce 48 rfl) rfl 2 rfl rfl ?_
        refine Sd_iload (pc' := 93) (dc D_Bat_driftOnce 49 rfl) rfl 1 rfl ?_
        refine Sd_iload (pc' := 95) (dc D_Bat_driftOnce 50 rfl) rfl 0 rfl ?_
        refine Sd.callVV (ci := 8) (t := 9) (as := [_, _, _, _]) RX8 (pc' := 98) (dc D_Bat_driftOnce 51 rfl) rfl rfl rfl rfl K_Sta_replace L_Bat_241 Ks_Sta_replace Kv_Sta_replace ⟨by decide, by decide⟩ rfl rfl (Nat.le_of_ble_eq_true rfl) (s_Sta_replace _ _ _ _ _ _) (fun _ h28 => ?_)
        exact Sd_vret (dc D_Bat_driftOnce 52 rfl) rfl
    · exact Sd_vret (dc D_Bat_driftOnce 16 rfl) rfl
theorem K_Bat_driftOnce : MOk M_Bat_driftOnce 1 := ⟨Tb_at 121 (by decide +kernel) rfl, Tb_at 1177 (by decide +kernel) rfl, by decide +kernel, by decide +kernel, by decide +kernel⟩
theorem Ks_Bat_driftOnce : Cond.instanceMethod yX11_driftOnce ∈ Tb := Tb_at 1176 (by decide +kernel) rfl
theorem Kv_Bat_driftOnce : Cond.selects RX11 yX11_driftOnce yX11_driftOnce ∈ Tb := Tb_at 38 (by decide +kernel) rfl
/-! ===== BatchShare.drift(IIII)I ===== -/
abbrev M_Bat_drift : AMt := (yX11_drift, cX11_drift, 10, (some .int))
def T_Bat_drift : List (Nat × Instr × Nat) := [(0, .iload_n 1, 1), (1, .iconst 1, 1), (2, .if_icmp .lt 29, 3), (5, .iload_n 1, 1), (6, .iconst 5, 1), (7, .if_icmp .gt 24, 3), (10, .iload_n 2, 1), (11, .iconst 1, 1), (12, .if_icmp .lt 19, 3), (15, .iload_n 2, 1), (16, .bipush 30, 2), (18, .if_icmp .gt 13, 3), (21, .iload_n 3, 1), (22, .ifCond .lt 9, 3), (25, .iload_n 3, 1), (26, .bipush 100, 2), (28, .if_icmp .le 5, 3), (31, .iconst (-1), 1), (32, .ireturn, 1), (33, .iload 4, 2), (35, .ifCond .lt 22, 3), (38, .iload 4, 2), (40, .iconst 1, 1), (41, .if_icmp .gt 16, 3), (44, .aload_n 0, 1), (45, .getfield 31, 3), (48, .getfield 116, 3), (51, .getfield 210, 3), (54, .ifCond .ne 5, 3), (57, .iconst (-1), 1), (58, .ireturn, 1), (59, .aload_n 0, 1), (60, .getfield 31, 3), (63, .getfield 333, 3), (66, .istore 5, 2), (68, .iconst 0, 1), (69, .istore 6, 2), (71, .iconst 0, 1), (72, .istore 7, 2), (74, .iconst 0, 1), (75, .istore 8, 2), (77, .iload 8, 2), (79, .iload_n 1, 1), (80, .if_icmp .ge 92, 3), (83, .aload_n 0, 1), (84, .getfield 42, 3), (87, .aload_n 0, 1), (88, .getfield 31, 3), (91, .getfield 116, 3), (94, .invokevirtual 336, 3), (97, .iconst 0, 1), (98, .istore 9, 2), (100, .iload 9, 2), (102, .iload_n 2, 1), (103, .if_icmp .ge 48, 3), (106, .aload_n 0, 1), (107, .iload_n 3, 1), (108, .invokevirtual 339, 3), (111, .aload_n 0, 1), (112, .getfield 51, 3), (115, .aload_n 0, 1), (116, .getfield 42, 3), (119, .aload_n 0, 1), (120, .getfield 105, 3), (123, .invokevirtual 159, 3), (126, .iload 6, 2), (128, .aload_n 0, 1), (129, .getfield 51, 3), (132, .aload_n 0, 1), (133, .getfield 42, 3), (136, .getfield 186, 3), (139, .invokevirtual 304, 3), (142, .iadd, 1), (143, .istore 6, 2), (145, .iinc 9 1, 3), (148, .goto (-48), 3), (151, .iload 7, 2), (153, .aload_n 0, 1), (154, .getfield 42, 3), (157, .getfield 186, 3), (160, .invokevirtual 342, 3), (163, .iadd, 1), (164, .istore 7, 2), (166, .iinc 8 1, 3), (169, .goto (-92), 3), (172, .aload_n 0, 1), (173, .getfield 31, 3), (176, .iload 5, 2), (178, .putfield 333, 3), (181, .iload 4, 2), (183, .ifCond .ne 8, 3), (186, .iload 6, 2), (188, .goto 5, 3), (191, .iload 7, 2), (193, .ireturn, 1)]
set_option maxRecDepth 20000 in
theorem D_Bat_drift : (T_Bat_drift.all fun q => decide (decode M_Bat_drift.2.1 q.1 = .ok q.2)) = true := by decide +kernel
def Bat_drift_L100 (k77 : Nat → Int → Int → Int → Int → Int → Int → Int → Int → AH → Option (Int × AH)) : Nat → Nat → Int → Int → Int → Int → Int → Int → Int → Int → Int → AH → Option (Int × AH)
  | 0, _, _, _, _, _, _, _, _, _, _, _ => none
  | n + 1, v0, v1, v2, v3, v4, v5, v6, v7, v8, v9, h => if (v2 : Int) ≤ v9 then (gR h 12 v0 7 fun r1 => gR h 9 r1 1 fun r2 => rc h 8 r2 <| bnd (She_staleOnes r2 h) fun x4 h3 => k77 v0 v1 v2 v3 v4 v5 v6 ((wr (v7 + x4))) ((wr (v8 + 1))) h3) else (rc h 12 v0 <| bnd (Bat_driftOnce v0 v3 h) fun _ h6 => gR h6 12 v0 8 fun r9 => gR h6 12 v0 7 fun r10 => gI h6 12 v0 4 fun x11 => rc h6 5 r9 <| bnd (Pri_look r9 r10 x11 h6) fun _ h12 => gR h12 12 v0 8 fun r15 => gR h12 12 v0 7 fun r16 => gR h12 9 r16 1 fun r17 => rc h12 5 r15 <| bnd (Pri_batchBy r15 r17 h12) fun x19 h18 => Bat_drift_L100 k77 n v0 v1 v2 v3 v4 v5 ((wr (v6 + x19))) v7 v8 ((wr (v9 + 1))) h18)
set_option maxHeartbeats 4000000 in
set_option maxRecDepth 20000 in
theorem s_Bat_drift_L100 (k77 : Nat → Int → Int → Int → Int → Int → Int → Int → Int → AH → Option (Int × AH)) (hk77 : ∀ v0 v1 v2 v3 v4 v5 v6 v7 v8 h, Sd M_Bat_drift 6 121 emI 77 [(0, vr v0), (1, vi v1), (2, vi v2), (3, vi v3), (4, vi v4), (5, vi v5), (6, vi v6), (7, vi v7), (8, vi v8)] [] h (k77 v0 v1 v2 v3 v4 v5 v6 v7 v8 h)) : ∀ (n : Nat) (v0 : Nat) (v1 : Int) (v2 : Int) (v3 : Int) (v4 : Int) (v5 : Int) (v6 : Int) (v7 : Int) (v8 : Int) (v9 : Int) (h : AH), Sd M_Bat_drift 6 121 emI 100 [(0, vr v0), (1, vi v1), (2, vi v2), (3, vi v3), (4, vi v4), (5, vi v5), (6, vi v6), (7, vi v7), (8, vi v8), (9, vi v9)] [] h (Bat_drift_L100 k77 n v0 v1 v2 v3 v4 v5 v6 v7 v8 v9 h)
  | 0, _, _, _, _, _, _, _, _, _, _, _ => Sd.none
  | n + 1, v0, v1, v2, v3, v4, v5, v6, v7, v8, v9, h => by
    rw [Bat_drift_L100]
    refine Sd_iload (pc' := 102) (dc D_Bat_drift 52 rfl) rfl 9 rfl ?_
    refine Sd_iload_n (pc' := 103) (dc D_Bat_drift 53 rfl) rfl 2 rfl rfl ?_
    refine Sd_icmp_ge (tgt := 151) (pc' := 106) (dc D_Bat_drift 54 rfl) (by decide) rfl (fun _ => ?_) (fun _ => ?_)
    · refine Sd_iload (pc' := 153) (dc D_Bat_drift 76 rfl) rfl 7 rfl ?_
      refine Sd_aload_n (pc' := 154) (dc D_Bat_drift 77 rfl) rfl 0 rfl rfl ?_
      refine Sd_getR (pc' := 157) (dc D_Bat_drift 78 rfl) rfl F_Bat_42 rfl rfl ?_
      refine Sd_getR (pc' := 160) (dc D_Bat_drift 79 rfl) rfl F_Bat_186 rfl rfl ?_
      refine Sd.callVI (ci := 7) (t := 8) (as := []) RX7 (pc' := 163) (dc D_Bat_drift 80 rfl) rfl rfl rfl rfl K_She_staleOnes L_Bat_342 Ks_She_staleOnes Kv_She_staleOnes ⟨by decide, by decide⟩ rfl rfl (Nat.le_of_ble_eq_true rfl) (s_She_staleOnes _ _) (fun x4 h3 => ?_)
      refine Sd_iadd (pc' := 164) (dc D_Bat_drift 81 rfl) rfl ?_
      refine Sd_istore (pc' := 166) (l' := [(7, _), (0, _), (1, _), (2, _), (3, _), (4, _), (5, _), (6, _), (8, _), (9, _)]) (dc D_Bat_drift 82 rfl) rfl (by decide) rfl ?_
      refine Sd_iinc (pc' := 169) (l' := [(8, _), (7, _), (0, _), (1, _), (2, _), (3, _), (4, _), (5, _), (6, _), (9, _)]) (dc D_Bat_drift 83 rfl) rfl 8 rfl (by decide) rfl ?_
      refine Sd_goto (tgt := 77) (dc D_Bat_drift 84 rfl) (by decide) ?_
      refine Sd.sub (l' := [(0, _), (1, _), (2, _), (3, _), (4, _), (5, _), (6, _), (7, _), (8, _)]) [2, 3, 4, 5, 6, 7, 8, 1, 0] rfl ?_
      exact hk77 _ _ _ _ _ _ _ _ _ _
    · refine Sd_aload_n (pc' := 107) (dc D_Bat_drift 55 rfl) rfl 0 rfl rfl ?_
      refine Sd_iload_n (pc' := 108) (dc D_Bat_drift 56 rfl) rfl 3 rfl rfl ?_
      refine Sd.callVV (ci := 11) (t := 12) (as := [_]) RX11 (pc' := 111) (dc D_Bat_drift 57 rfl) rfl rfl rfl rfl K_Bat_driftOnce L_Bat_339 Ks_Bat_driftOnce Kv_Bat_driftOnce ⟨by decide, by decide⟩ rfl rfl (Nat.le_of_ble_eq_true rfl) (s_Bat_driftOnce _ _ _) (fun _ h6 => ?_)
      refine Sd_aload_n (pc' := 112) (dc D_Bat_drift 58 rfl) rfl 0 rfl rfl ?_
      refine Sd_getR (pc' := 115) (dc D_Bat_drift 59 rfl) rfl F_Bat_51 rfl rfl ?_
      refine Sd_aload_n (pc' := 116) (dc D_Bat_drift 60 rfl) rfl 0 rfl rfl ?_
      refine Sd_getR (pc' := 119) (dc D_Bat_drift 61 rfl) rfl F_Bat_42 rfl rfl ?_
      refine Sd_aload_n (pc' := 120) (dc D_Bat_drift 62 rfl) rfl 0 rfl rfl ?_
      refine Sd_getI (pc' := 123) (dc D_Bat_drift 63 rfl) rfl F_Bat_105 rfl rfl ?_
      refine Sd.callVV (ci := 4) (t := 5) (as := [_, _]) RX4 (pc' := 126) (dc D_Bat_drift 64 rfl) rfl rfl rfl rfl K_Pri_look L_Bat_159 Ks_Pri_look Kv_Pri_look ⟨by decide, by decide⟩ rfl rfl (Nat.le_of_ble_eq_true rfl) (s_Pri_look _ _ _ _) (fun _ h12 => ?_)
      refine Sd_iload (pc' := 128) (dc D_Bat_drift 65 rfl) rfl 6 rfl ?_
      refine Sd_aload_n (pc' := 129) (dc D_Bat_drift 66 rfl) rfl 0 rfl rfl ?_
      refine Sd_getR (pc' := 132) (dc D_Bat_drift 67 rfl) rfl F_Bat_51 rfl rfl ?_
      refine Sd_aload_n (pc' := 133) (dc D_Bat_drift 68 rfl) rfl 0 rfl rfl ?_
      refine Sd_getR (pc' := 136) (dc D_Bat_drift 69 rfl) rfl F_Bat_42 rfl rfl ?_
      refine Sd_getR (pc' := 139) (dc D_Bat_drift 70 rfl) rfl F_Bat_186 rfl rfl ?_
      refine Sd.callVI (ci := 4) (t := 5) (as := [_]) RX4 (pc' := 142) (dc D_Bat_drift 71 rfl) rfl rfl rfl rfl K_Pri_batchBy L_Bat_304 Ks_Pri_batchBy Kv_Pri_batchBy ⟨by decide, by decide⟩ rfl rfl (Nat.le_of_ble_eq_true rfl) (s_Pri_batchBy _ _ _) (fun x19 h18 => ?_)
      refine Sd_iadd (pc' := 143) (dc D_Bat_drift 72 rfl) rfl ?_
      refine Sd_istore (pc' := 145) (l' := [(6, _), (0, _), (1, _), (2, _), (3, _), (4, _), (5, _), (7, _), (8, _), (9, _)]) (dc D_Bat_drift 73 rfl) rfl (by decide) rfl ?_
      refine Sd_iinc (pc' := 148) (l' := [(9, _), (6, _), (0, _), (1, _), (2, _), (3, _), (4, _), (5, _), (7, _), (8, _)]) (dc D_Bat_drift 74 rfl) rfl 9 rfl (by decide) rfl ?_
      refine Sd_goto (tgt := 100) (dc D_Bat_drift 75 rfl) (by decide) ?_
      refine Sd.sub (l' := [(0, _), (1, _), (2, _), (3, _), (4, _), (5, _), (6, _), (7, _), (8, _), (9, _)]) [2, 3, 4, 5, 6, 7, 1, 8, 9, 0] rfl ?_
      exact s_Bat_drift_L100 k77 hk77 n _ _ _ _ _ _ _ _ _ _ _
def Bat_drift_L77 : Nat → Nat → Int → Int → Int → Int → Int → Int → Int → Int → AH → Option (Int × AH)
  | 0, _, _, _, _, _, _, _, _, _, _ => none
  | n + 1, v0, v1, v2, v3, v4, v5, v6, v7, v8, h => if (v1 : Int) ≤ v8 then (gR h 12 v0 5 fun r1 => pI h 11 r1 4 v5 fun h2 => if ¬ (v4 : Int) = 0 then (some (v7, h2)) else (some (v6, h2))) else (gR h 12 v0 7 fun r3 => gR h 12 v0 5 fun r4 => gR h 11 r4 0 fun r5 => rc h 9 r3 <| bnd (Sta_copy r3 r5 h) fun _ h6 => Bat_drift_L100 (Bat_drift_L77 n) FU v0 v1 v2 v3 v4 v5 v6 v7 v8 0 h6)
set_option maxHeartbeats 4000000 in
set_option maxRecDepth 20000 in
theorem s_Bat_drift_L77 : ∀ (n : Nat) (v0 : Nat) (v1 : Int) (v2 : Int) (v3 : Int) (v4 : Int) (v5 : Int) (v6 : Int) (v7 : Int) (v8 : Int) (h : AH), Sd M_Bat_drift 6 121 emI 77 [(0, vr v0), (1, vi v1), (2, vi v2), (3, vi v3), (4, vi v4), (5, vi v5), (6, vi v6), (7, vi v7), (8, vi v8)] [] h (Bat_drift_L77 n v0 v1 v2 v3 v4 v5 v6 v7 v8 h)
  | 0, _, _, _, _, _, _, _, _, _, _ => Sd.none
  | n + 1, v0, v1, v2, v3, v4, v5, v6, v7, v8, h => by
    rw [Bat_drift_L77]
    refine Sd_iload (pc' := 79) (dc D_Bat_drift 41 rfl) rfl 8 rfl ?_
    refine Sd_iload_n (pc' := 80) (dc D_Bat_drift 42 rfl) rfl 1 rfl rfl ?_
    refine Sd_icmp_ge (tgt := 172) (pc' := 83) (dc D_Bat_drift 43 rfl) (by decide) rfl (fun _ => ?_) (fun _ => ?_)
    · refine Sd_aload_n (pc' := 173) (dc D_Bat_drift 85 rfl) rfl 0 rfl rfl ?_
      refine Sd_getR (pc' := 176) (dc D_Bat_drift 86 rfl) rfl F_Bat_31 rfl rfl ?_
      refine Sd_iload (pc' := 178) (dc D_Bat_drift 87 rfl) rfl 5 rfl ?_
      refine Sd_putI (pc' := 181) (dc D_Bat_drift 88 rfl) rfl F_Bat_333 rfl rfl rfl (finOk.no rfl) (by decide) ?_
      refine Sd_iload (pc' := 183) (dc D_Bat_drift 89 rfl) rfl 4 rfl ?_
      refine Sd_if_ne (tgt := 191) (pc' := 186) (dc D_Bat_drift 90 rfl) (by decide) rfl (fun _ => ?_) (fun _ => ?_)
      · refine Sd_iload (pc' := 193) (dc D_Bat_drift 93 rfl) rfl 7 rfl ?_
        exact Sd_iret (dc D_Bat_drift 94 rfl) rfl
      · refine Sd_iload (pc' := 188) (dc D_Bat_drift 91 rfl) rfl 6 rfl ?_
        refine Sd_goto (tgt := 193) (dc D_Bat_drift 92 rfl) (by decide) ?_
        exact Sd_iret (dc D_Bat_drift 94 rfl) rfl
    · refine Sd_aload_n (pc' := 84) (dc D_Bat_drift 44 rfl) rfl 0 rfl rfl ?_
      refine Sd_getR (pc' := 87) (dc D_Bat_drift 45 rfl) rfl F_Bat_42 rfl rfl ?_
      refine Sd_aload_n (pc' := 88) (dc D_Bat_drift 46 rfl) rfl 0 rfl rfl ?_
      refine Sd_getR (pc' := 91) (dc D_Bat_drift 47 rfl) rfl F_Bat_31 rfl rfl ?_
      refine Sd_getR (pc' := 94) (dc D_Bat_drift 48 rfl) rfl F_Bat_116 rfl rfl ?_
      refine Sd.callVV (ci := 8) (t := 9) (as := [_]) RX8 (pc' := 97) (dc D_Bat_drift 49 rfl) rfl rfl rfl rfl K_Sta_copy L_Bat_336 Ks_Sta_copy Kv_Sta_copy ⟨by decide, by decide⟩ rfl rfl (Nat.le_of_ble_eq_true rfl) (s_Sta_copy _ _ _) (fun _ h6 => ?_)
      refine Sd_iconst (pc' := 98) (dc D_Bat_drift 50 rfl) rfl ⟨by decide, by decide⟩ ?_
      refine Sd_istore (pc' := 100) (l' := [(9, _), (0, _), (1, _), (2, _), (3, _), (4, _), (5, _), (6, _), (7, _), (8, _)]) (dc D_Bat_drift 51 rfl) rfl (by decide) rfl ?_
      refine Sd.sub (l' := [(0, _), (1, _), (2, _), (3, _), (4, _), (5, _), (6, _), (7, _), (8, _), (9, _)]) [1, 2, 3, 4, 5, 6, 7, 8, 9, 0] rfl ?_
      exact s_Bat_drift_L100 (Bat_drift_L77 n) (s_Bat_drift_L77 n) FU _ _ _ _ _ _ _ _ _ _ _
def Bat_drift (v0 : Nat) (v1 : Int) (v2 : Int) (v3 : Int) (v4 : Int) (h : AH) : Option (Int × AH) := if (v1 : Int) < 1 then (some ((-1), h)) else (if (5 : Int) < v1 then (some ((-1), h)) else (if (v2 : Int) < 1 then (some ((-1), h)) else (if (30 : Int) < v2 then (some ((-1), h)) else (if (v3 : Int) < 0 then (some ((-1), h)) else (if (v3 : Int) ≤ 100 then (if (v4 : Int) < 0 then (some ((-1), h)) else (if (1 : Int) < v4 then (some ((-1), h)) else (gR h 12 v0 5 fun r1 => gR h 11 r1 0 fun r2 => gI h 9 r2 2 fun x3 => if ¬ (x3 : Int) = 0 then (gR h 12 v0 5 fun r4 => gI h 11 r4 4 fun x5 => Bat_drift_L77 FU v0 v1 v2 v3 v4 x5 0 0 0 h) else (some ((-1), h))))) else (some ((-1), h)))))))
set_option maxHeartbeats 4000000 in
set_option maxRecDepth 20000 in
theorem s_Bat_drift (v0 : Nat) (v1 : Int) (v2 : Int) (v3 : Int) (v4 : Int) (h : AH) : CS M_Bat_drift 6 121 emI [vr v0, vi v1, vi v2, vi v3, vi v4] h (Bat_drift v0 v1 v2 v3 v4 h) := by
  refine CS.of (by decide) (Nat.le_of_ble_eq_true rfl) ?_
  show Sd M_Bat_drift 6 121 emI 0 [(0, vr v0), (1, vi v1), (2, vi v2), (3, vi v3), (4, vi v4)] [] h _
  unfold Bat_drift
  refine Sd_iload_n (pc' := 1) (dc D_Bat_drift 0 rfl) rfl 1 rfl rfl ?_
  refine Sd_iconst (pc' := 2) (dc D_Bat_drift 1 rfl) rfl ⟨by decide, by decide⟩ ?_
  refine Sd_icmp_lt (tgt := 31) (pc' := 5) (dc D_Bat_drift 2 rfl) (by decide) rfl (fun _ => ?_) (fun _ => ?_)
  · refine Sd_iconst (pc' := 32) (dc D_Bat_drift 17 rfl) rfl ⟨by decide, by decide⟩ ?_
    exact Sd_iret (dc D_Bat_drift 18 rfl) rfl
  · refine Sd_iload_n (pc' := 6) (dc D_Bat_drift 3 rfl) rfl 1 rfl rfl ?_
    refine Sd_iconst (pc' := 7) (dc D_Bat_drift 4 rfl) rfl ⟨by decide, by decide⟩ ?_
    refine Sd_icmp_gt (tgt := 31) (pc' := 10) (dc D_Bat_drift 5 rfl) (by decide) rfl (fun _ => ?_) (fun _ => ?_)
    · refine Sd_iconst (pc' := 32) (dc D_Bat_drift 17 rfl) rfl ⟨by decide, by decide⟩ ?_
      exact Sd_iret (dc D_Bat_drift 18 rfl) rfl
    · refine Sd_iload_n (pc' := 11) (dc D_Bat_drift 6 rfl) rfl 2 rfl rfl ?_
      refine Sd_iconst (pc' := 12) (dc D_Bat_drift 7 rfl) rfl ⟨by decide, by decide⟩ ?_
      refine Sd_icmp_lt (tgt := 31) (pc' := 15) (dc D_Bat_drift 8 rfl) (by decide) rfl (fun _ => ?_) (fun _ => ?_)
      · refine Sd_iconst (pc' := 32) (dc D_Bat_drift 17 rfl) rfl ⟨by decide, by decide⟩ ?_
        exact Sd_iret (dc D_Bat_drift 18 rfl) rfl
      · refine Sd_iload_n (pc' := 16) (dc D_Bat_drift 9 rfl) rfl 2 rfl rfl ?_
        refine Sd_bipush (pc' := 18) (dc D_Bat_drift 10 rfl) rfl ⟨by decide, by decide⟩ (by decide) ?_
        refine Sd_icmp_gt (tgt := 31) (pc' := 21) (dc D_Bat_drift 11 rfl) (by decide) rfl (fun _ => ?_) (fun _ => ?_)
        · refine Sd_iconst (pc' := 32) (dc D_Bat_drift 17 rfl) rfl ⟨by decide, by decide⟩ ?_
          exact Sd_iret (dc D_Bat_drift 18 rfl) rfl
        · refine Sd_iload_n (pc' := 22) (dc D_Bat_drift 12 rfl) rfl 3 rfl rfl ?_
          refine Sd_if_lt (tgt := 31) (pc' := 25) (dc D_Bat_drift 13 rfl) (by decide) rfl (fun _ => ?_) (fun _ => ?_)
          · refine Sd_iconst (pc' := 32) (dc D_Bat_drift 17 rfl) rfl ⟨by decide, by decide⟩ ?_
            exact Sd_iret (dc D_Bat_drift 18 rfl) rfl
          · refine Sd_iload_n (pc' := 26) (dc D_Bat_drift 14 rfl) rfl 3 rfl rfl ?_
            refine Sd_bipush (pc' := 28) (dc D_Bat_drift 15 rfl) rfl ⟨by decide, by decide⟩ (by decide) ?_
            refine Sd_icmp_le (tgt := 33) (pc' := 31) (dc D_Bat_drift 16 rfl) (by decide) rfl (fun _ => ?_) (fun _ => ?_)
            · refine Sd_iload (pc' := 35) (dc D_Bat_drift 19 rfl) rfl 4 rfl ?_
              refine Sd_if_lt (tgt := 57) (pc' := 38) (dc D_Bat_drift 20 rfl) (by decide) rfl (fun _ => ?_) (fun _ => ?_)
              · refine Sd_iconst (pc' := 58) (dc D_Bat_drift 29 rfl) rfl ⟨by decide, by decide⟩ ?_
                exact Sd_iret (dc D_Bat_drift 30 rfl) rfl
              · refine Sd_iload (pc' := 40) (dc D_Bat_drift 21 rfl) rfl 4 rfl ?_
                refine Sd_iconst (pc' := 41) (dc D_Bat_drift 22 rfl) rfl ⟨by decide, by decide⟩ ?_
                refine Sd_icmp_gt (tgt := 57) (pc' := 44) (dc D_Bat_drift 23 rfl) (by decide) rfl (fun _ => ?_) (fun _ => ?_)
                · refine Sd_iconst (pc' := 58) (dc D_Bat_drift 29 rfl) rfl ⟨by decide, by decide⟩ ?_
                  exact Sd_iret (dc D_Bat_drift 30 rfl) rfl
                · refine Sd_aload_n (pc' := 45) (dc D_Bat_drift 24 rfl) rfl 0 rfl rfl ?_
                  refine Sd_getR (pc' := 48) (dc D_Bat_drift 25 rfl) rfl F_Bat_31 rfl rfl ?_
                  refine Sd_getR (pc' := 51) (dc D_Bat_drift 26 rfl) rfl F_Bat_116 rfl rfl ?_
                  refine Sd_getI (pc' := 54) (dc D_Bat_drift 27 rfl) rfl F_Bat_210 rfl rfl ?_
                  refine Sd_if_ne (tgt := 59) (pc' := 57) (dc D_Bat_drift 28 rfl) (by decide) rfl (fun _ => ?_) (fun _ => ?_)
                  · refine Sd_aload_n (pc' := 60) (dc D_Bat_drift 31 rfl) rfl 0 rfl rfl ?_
                    refine Sd_getR (pc' := 63) (dc D_Bat_drift 32 rfl) rfl F_Bat_31 rfl rfl ?_
                    refine Sd_getI (pc' := 66) (dc D_Bat_drift 33 rfl) rfl F_Bat_333 rfl rfl ?_
                    refine Sd_istore (pc' := 68) (l' := [(5, _), (0, _), (1, _), (2, _), (3, _), (4, _)]) (dc D_Bat_drift 34 rfl) rfl (by decide) rfl ?_
                    refine Sd_iconst (pc' := 69) (dc D_Bat_drift 35 rfl) rfl ⟨by decide, by decide⟩ ?_
                    refine Sd_istore (pc' := 71) (l' := [(6, _), (5, _), (0, _), (1, _), (2, _), (3, _), (4, _)]) (dc D_Bat_drift 36 rfl) rfl (by decide) rfl ?_
                    refine Sd_iconst (pc' := 72) (dc D_Bat_drift 37 rfl) rfl ⟨by decide, by decide⟩ ?_
                    refine Sd_istore (pc' := 74) (l' := [(7, _), (6, _), (5, _), (0, _), (1, _), (2, _), (3, _), (4, _)]) (dc D_Bat_drift 38 rfl) rfl (by decide) rfl ?_
                    refine Sd_iconst (pc' := 75) (dc D_Bat_drift 39 rfl) rfl ⟨by decide, by decide⟩ ?_
                    refine Sd_istore (pc' := 77) (l' := [(8, _), (7, _), (6, _), (5, _), (0, _), (1, _), (2, _), (3, _), (4, _)]) (dc D_Bat_drift 40 rfl) rfl (by decide) rfl ?_
                    refine Sd.sub (l' := [(0, _), (1, _), (2, _), (3, _), (4, _), (5, _), (6, _), (7, _), (8, _)]) [4, 5, 6, 7, 8, 3, 2, 1, 0] rfl ?_
                    exact s_Bat_drift_L77 FU _ _ _ _ _ _ _ _ _ _
                  · refine Sd_iconst (pc' := 58) (dc D_Bat_drift 29 rfl) rfl ⟨by decide, by decide⟩ ?_
                    exact Sd_iret (dc D_Bat_drift 30 rfl) rfl
            · refine Sd_iconst (pc' := 32) (dc D_Bat_drift 17 rfl) rfl ⟨by decide, by decide⟩ ?_
              exact Sd_iret (dc D_Bat_drift 18 rfl) rfl
theorem K_Bat_drift : MOk M_Bat_drift 4 := ⟨Tb_at 121 (by decide +kernel) rfl, Tb_at 1172 (by decide +kernel) rfl, by decide +kernel, by decide +kernel, by decide +kernel⟩
theorem Ks_Bat_drift : Cond.instanceMethod yX11_drift ∈ Tb := Tb_at 1170 (by decide +kernel) rfl
theorem Kv_Bat_drift : Cond.selects RX11 yX11_drift yX11_drift ∈ Tb := Tb_at 1171 (by decide +kernel) rfl
/-! ===== BatchShare.seed(I)I ===== -/
abbrev M_Bat_seed : AMt := (yX11_seed, cX11_seed, 3, (some .int))
def T_Bat_seed : List (Nat × Instr × Nat) := [(0, .iload_n 1, 1), (1, .ifCond .ge 5, 3), (4, .iconst (-1), 1), (5, .ireturn, 1), (6, .aload_n 0, 1), (7, .getfield 31, 3), (10, .getfield 333, 3), (13, .istore_n 2, 1), (14, .aload_n 0, 1), (15, .getfield 31, 3), (18, .iload_n 1, 1), (19, .putfield 333, 3), (22, .iload_n 2, 1), (23, .ireturn, 1)]
set_option maxRecDepth 20000 in
theorem D_Bat_seed : (T_Bat_seed.all fun q => decide (decode M_Bat_seed.2.1 q.1 = .ok q.2)) = true := by decide +kernel
def Bat_seed (v0 : Nat) (v1 : Int) (h : AH) : Option (Int × AH) := if (0 : Int) ≤ v1 then (gR h 12 v0 5 fun r1 => gI h 11 r1 4 fun x2 => gR h 12 v0 5 fun r3 => pI h 11 r3 4 v1 fun h4 => some (x2, h4)) else (some ((-1), h))
set_option maxHeartbeats 4000000 in
set_option maxRecDepth 20000 in
theorem s_Bat_seed (v0 : Nat) (v1 : Int) (h : AH) : CS M_Bat_seed 1 0 emI [vr v0, vi v1] h (Bat_seed v0 v1 h) := by
  refine CS.of (by decide) (Nat.le_of_ble_eq_true rfl) ?_
  show Sd M_Bat_seed 1 0 emI 0 [(0, vr v0), (1, vi v1)] [] h _
  unfold Bat_seed
  refine Sd_iload_n (pc' := 1) (dc D_Bat_seed 0 rfl) rfl 1 rfl rfl ?_
  refine Sd_if_ge (tgt := 6) (pc' := 4) (dc D_Bat_seed 1 rfl) (by decide) rfl (fun _ => ?_) (fun _ => ?_)
  · refine Sd_aload_n (pc' := 7) (dc D_Bat_seed 4 rfl) rfl 0 rfl rfl ?_
    refine Sd_getR (pc' := 10) (dc D_Bat_seed 5 rfl) rfl F_Bat_31 rfl rfl ?_
    refine Sd_getI (pc' := 13) (dc D_Bat_seed 6 rfl) rfl F_Bat_333 rfl rfl ?_
    refine Sd_istore_n (pc' := 14) (l' := [(2, _), (0, _), (1, _)]) (dc D_Bat_seed 7 rfl) rfl rfl (by decide) rfl ?_
    refine Sd_aload_n (pc' := 15) (dc D_Bat_seed 8 rfl) rfl 1 rfl rfl ?_
    refine Sd_getR (pc' := 18) (dc D_Bat_seed 9 rfl) rfl F_Bat_31 rfl rfl ?_
    refine Sd_iload_n (pc' := 19) (dc D_Bat_seed 10 rfl) rfl 2 rfl rfl ?_
    refine Sd_putI (pc' := 22) (dc D_Bat_seed 11 rfl) rfl F_Bat_333 rfl rfl rfl (finOk.no rfl) (by decide) ?_
    refine Sd_iload_n (pc' := 23) (dc D_Bat_seed 12 rfl) rfl 0 rfl rfl ?_
    exact Sd_iret (dc D_Bat_seed 13 rfl) rfl
  · refine Sd_iconst (pc' := 5) (dc D_Bat_seed 2 rfl) rfl ⟨by decide, by decide⟩ ?_
    exact Sd_iret (dc D_Bat_seed 3 rfl) rfl
theorem K_Bat_seed : MOk M_Bat_seed 1 := ⟨Tb_at 121 (by decide +kernel) rfl, Tb_at 1193 (by decide +kernel) rfl, by decide +kernel, by decide +kernel, by decide +kernel⟩
theorem Ks_Bat_seed : Cond.instanceMethod yX11_seed ∈ Tb := Tb_at 1191 (by decide +kernel) rfl
theorem Kv_Bat_seed : Cond.selects RX11 yX11_seed yX11_seed ∈ Tb := Tb_at 1192 (by decide +kernel) rfl
/-! ===== BatchShare.count(I)I ===== -/
abbrev M_Bat_count : AMt := (yX11_count, cX11_count, 3, (some .int))
def T_Bat_count : List (Nat × Instr × Nat) := [(0, .aload_n 0, 1), (1, .getfield 31, 3), (4, .getfield 116, 3), (7, .astore_n 2, 1), (8, .iload_n 1, 1), (9, .tableswitch 145 0 11 #[63, 68, 78, 88, 93, 98, 106, 114, 119, 124, 132, 140], 63), (72, .aload_n 2, 1), (73, .getfield 192, 3), (76, .ireturn, 1), (77, .aload_n 2, 1), (78, .getfield 96, 3), (81, .iconst 0, 1), (82, .aaload, 1), (83, .getfield 100, 3), (86, .ireturn, 1), (87, .aload_n 2, 1), (88, .getfield 96, 3), (91, .iconst 1, 1), (92, .aaload, 1), (93, .getfield 100, 3), (96, .ireturn, 1), (97, .aload_n 0, 1), (98, .getfield 105, 3), (101, .ireturn, 1), (102, .aload_n 2, 1), (103, .getfield 245, 3), (106, .ireturn, 1), (107, .aload_n 2, 1), (108, .getfield 186, 3), (111, .getfield 274, 3), (114, .ireturn, 1), (115, .aload_n 2, 1), (116, .getfield 186, 3), (119, .invokevirtual 345, 3), (122, .ireturn, 1), (123, .aload_n 2, 1), (124, .getfield 267, 3), (127, .ireturn, 1), (128, .aload_n 2, 1), (129, .getfield 260, 3), (132, .ireturn, 1), (133, .aload_n 0, 1), (134, .getfield 31, 3), (137, .getfield 348, 3), (140, .ireturn, 1), (141, .aload_n 0, 1), (142, .getfield 31, 3), (145, .getfield 333, 3), (148, .ireturn, 1), (149, .aload_n 0, 1), (150, .getfield 81, 3), (153, .ireturn, 1), (154, .iconst (-1), 1), (155, .ireturn, 1)]
set_option maxRecDepth 20000 in
theorem D_Bat_count : (T_Bat_count.all fun q => decide (decode M_Bat_count.2.1 q.1 = .ok q.2)) = true := by decide +kernel
def Bat_count (v0 : Nat) (v1 : Int) (h : AH) : Option (Int × AH) := gR h 12 v0 5 fun r1 => gR h 11 r1 0 fun r2 => if r2 = 0 then none else if (v1 : Int) = 0 then (gI h 9 r2 3 fun x3 => some (x3, h)) else (if (v1 : Int) = 1 then (gR h 9 r2 0 fun r4 => aR h 34 r4 0 fun r5 => gI h 10 r5 3 fun x6 => some (x6, h)) else (if (v1 : Int) = 2 then (gR h 9 r2 0 fun r7 => aR h 34 r7 1 fun r8 => gI h 10 r8 3 fun x9 => some (x9, h)) else (if (v1 : Int) = 3 then (gI h 12 v0 4 fun x10 => some (x10, h)) else (if (v1 : Int) = 4 then (gI h 9 r2 4 fun x11 => some (x11, h)) else (if (v1 : Int) = 5 then (gR h 9 r2 1 fun r12 => gI h 8 r12 1 fun x13 => some (x13, h)) else (if (v1 : Int) = 6 then (gR h 9 r2 1 fun r14 => rc h 8 r14 <| bnd (She_rowsOfAll r14 h) fun x16 h15 => some (x16, h15)) else (if (v1 : Int) = 7 then (gI h 9 r2 5 fun x18 => some (x18, h)) else (if (v1 : Int) = 8 then (gI h 9 r2 6 fun x19 => some (x19, h)) else (if (v1 : Int) = 9 then (gR h 12 v0 5 fun r20 => gI h 11 r20 3 fun x21 => some (x21, h)) else (if (v1 : Int) = 10 then (gR h 12 v0 5 fun r22 => gI h 11 r22 4 fun x23 => some (x23, h)) else (if (v1 : Int) = 11 then (gI h 12 v0 1 fun x24 => some (x24, h)) else (some ((-1), h)))))))))))))
set_option maxHeartbeats 4000000 in
set_option maxRecDepth 20000 in
theorem s_Bat_count (v0 : Nat) (v1 : Int) (h : AH) : CS M_Bat_count 2 22 emI [vr v0, vi v1] h (Bat_count v0 v1 h) := by
  refine CS.of (by decide) (Nat.le_of_ble_eq_true rfl) ?_
  show Sd M_Bat_count 2 22 emI 0 [(0, vr v0), (1, vi v1)] [] h _
  unfold Bat_count
  refine Sd_aload_n (pc' := 1) (dc D_Bat_count 0 rfl) rfl 0 rfl rfl ?_
  refine Sd_getR (pc' := 4) (dc D_Bat_count 1 rfl) rfl F_Bat_31 rfl rfl ?_
  refine Sd_getR (pc' := 7) (dc D_Bat_count 2 rfl) rfl F_Bat_116 rfl rfl ?_
  refine Sd_astore_n (pc' := 8) (l' := [(2, _), (0, _), (1, _)]) (dc D_Bat_count 3 rfl) rfl rfl (by decide) rfl (fun _ => ?_)
  refine Sd_iload_n (pc' := 9) (dc D_Bat_count 4 rfl) rfl 2 rfl rfl ?_
  refine Sd_tcase (i := 0) (tgt := 72) (dc D_Bat_count 5 rfl) rfl (by decide) (by decide) (by decide) (fun _ => ?_) (fun hn0 => ?_)
  · refine Sd_aload_n (pc' := 73) (dc D_Bat_count 6 rfl) rfl 0 rfl rfl ?_
    refine Sd_getI (pc' := 76) (dc D_Bat_count 7 rfl) rfl F_Bat_192 rfl rfl ?_
    exact Sd_iret (dc D_Bat_count 8 rfl) rfl
  refine Sd_tcase (i := 1) (tgt := 77) (dc D_Bat_count 5 rfl) rfl (by decide) (by decide) (by decide) (fun _ => ?_) (fun hn1 => ?_)
  · refine Sd_aload_n (pc' := 78) (dc D_Bat_count 9 rfl) rfl 0 rfl rfl ?_
    refine Sd_getR (pc' := 81) (dc D_Bat_count 10 rfl) rfl F_Bat_96 rfl rfl ?_
    refine Sd_iconst (pc' := 82) (dc D_Bat_count 11 rfl) rfl ⟨by decide, by decide⟩ ?_
    refine Sd_aaload (t := 34) (j := 6) (C0 := RX9) (pc' := 83) (dc D_Bat_count 12 rfl) rfl rfl (by decide) ?_
    refine Sd_getI (pc' := 86) (dc D_Bat_count 13 rfl) rfl F_Bat_100 rfl rfl ?_
    exact Sd_iret (dc D_Bat_count 14 rfl) rfl
  refine Sd_tcase (i := 2) (tgt := 87) (dc D_Bat_count 5 rfl) rfl (by decide) (by decide) (by decide) (fun _ => ?_) (fun hn2 => ?_)
  · refine Sd_aload_n (pc' := 88) (dc D_Bat_count 15 rfl) rfl 0 rfl rfl ?_
    refine Sd_getR (pc' := 91) (dc D_Bat_count 16 rfl) rfl F_Bat_96 rfl rfl ?_
    refine Sd_iconst (pc' := 92) (dc D_Bat_count 17 rfl) rfl ⟨by decide, by decide⟩ ?_
    refine Sd_aaload (t := 34) (j := 6) (C0 := RX9) (pc' := 93) (dc D_Bat_count 18 rfl) rfl rfl (by decide) ?_
    refine Sd_getI (pc' := 96) (dc D_Bat_count 19 rfl) rfl F_Bat_100 rfl rfl ?_
    exact Sd_iret (dc D_Bat_count 20 rfl) rfl
  refine Sd_tcase (i := 3) (tgt := 97) (dc D_Bat_count 5 rfl) rfl (by decide) (by decide) (by decide) (fun _ => ?_) (fun hn3 => ?_)
  · refine Sd_aload_n (pc' := 98) (dc D_Bat_count 21 rfl) rfl 1 rfl rfl ?_
    refine Sd_getI (pc' := 101) (dc D_Bat_count 22 rfl) rfl F_Bat_105 rfl rfl ?_
    exact Sd_iret (dc D_Bat_count 23 rfl) rfl
  refine Sd_tcase (i := 4) (tgt := 102) (dc D_Bat_count 5 rfl) rfl (by decide) (by decide) (by decide) (fun _ => ?_) (fun hn4 => ?_)
  · refine Sd_aload_n (pc' := 103) (dc D_Bat_count 24 rfl) rfl 0 rfl rfl ?_
    refine Sd_getI (pc' := 106) (dc D_Bat_count 25 rfl) rfl F_Bat_245 rfl rfl ?_
    exact Sd_iret (dc D_Bat_count 26 rfl) rfl
  refine Sd_tcase (i := 5) (tgt := 107) (dc D_Bat_count 5 rfl) rfl (by decide) (by decide) (by decide) (fun _ => ?_) (fun hn5 => ?_)
  · refine Sd_aload_n (pc' := 108) (dc D_Bat_count 27 rfl) rfl 0 rfl rfl ?_
    refine Sd_getR (pc' := 111) (dc D_Bat_count 28 rfl) rfl F_Bat_186 rfl rfl ?_
    refine Sd_getI (pc' := 114) (dc D_Bat_count 29 rfl) rfl F_Bat_274 rfl rfl ?_
    exact Sd_iret (dc D_Bat_count 30 rfl) rfl
  refine Sd_tcase (i := 6) (tgt := 115) (dc D_Bat_count 5 rfl) rfl (by decide) (by decide) (by decide) (fun _ => ?_) (fun hn6 => ?_)
  · refine Sd_aload_n (pc' := 116) (dc D_Bat_count 31 rfl) rfl 0 rfl rfl ?_
    refine Sd_getR (pc' := 119) (dc D_Bat_count 32 rfl) rfl F_Bat_186 rfl rfl ?_
    refine Sd.callVI (ci := 7) (t := 8) (as := []) RX7 (pc' := 122) (dc D_Bat_count 33 rfl) rfl rfl rfl rfl K_She_rowsOfAll L_Bat_345 Ks_She_rowsOfAll Kv_She_rowsOfAll ⟨by decide, by decide⟩ rfl rfl (Nat.le_of_ble_eq_true rfl) (s_She_rowsOfAll _ _) (fun x16 h15 => ?_)
    exact Sd_iret (dc D_Bat_count 34 rfl) rfl
  refine Sd_tcase (i := 7) (tgt := 123) (dc D_Bat_count 5 rfl) rfl (by decide) (by decide) (by decide) (fun _ => ?_) (fun hn7 => ?_)
  · refine Sd_aload_n (pc' := 124) (dc D_Bat_count 35 rfl) rfl 0 rfl rfl ?_
    refine Sd_getI (pc' := 127) (dc D_Bat_count 36 rfl) rfl F_Bat_267 rfl rfl ?_
    exact Sd_iret (dc D_Bat_count 37 rfl) rfl
  refine Sd_tcase (i := 8) (tgt := 128) (dc D_Bat_count 5 rfl) rfl (by decide) (by decide) (by decide) (fun _ => ?_) (fun hn8 => ?_)
  · refine Sd_aload_n (pc' := 129) (dc D_Bat_count 38 rfl) rfl 0 rfl rfl ?_
    refine Sd_getI (pc' := 132) (dc D_Bat_count 39 rfl) rfl F_Bat_260 rfl rfl ?_
    exact Sd_iret (dc D_Bat_count 40 rfl) rfl
  refine Sd_tcase (i := 9) (tgt := 133) (dc D_Bat_count 5 rfl) rfl (by decide) (by decide) (by decide) (fun _ => ?_) (fun hn9 => ?_)
  · refine Sd_aload_n (pc' := 134) (dc D_Bat_count 41 rfl) rfl 1 rfl rfl ?_
    refine Sd_getR (pc' := 137) (dc D_Bat_count 42 rfl) rfl F_Bat_31 rfl rfl ?_
    refine Sd_getI (pc' := 140) (dc D_Bat_count 43 rfl) rfl F_Bat_348 rfl rfl ?_
    exact Sd_iret (dc D_Bat_count 44 rfl) rfl
  refine Sd_tcase (i := 10) (tgt := 141) (dc D_Bat_count 5 rfl) rfl (by decide) (by decide) (by decide) (fun _ => ?_) (fun hn10 => ?_)
  · refine Sd_aload_n (pc' := 142) (dc D_Bat_count 45 rfl) rfl 1 rfl rfl ?_
    refine Sd_getR (pc' := 145) (dc D_Bat_count 46 rfl) rfl F_Bat_31 rfl rfl ?_
    refine Sd_getI (pc' := 148) (dc D_Bat_count 47 rfl) rfl F_Bat_333 rfl rfl ?_
    exact Sd_iret (dc D_Bat_count 48 rfl) rfl
  refine Sd_tcase (i := 11) (tgt := 149) (dc D_Bat_count 5 rfl) rfl (by decide) (by decide) (by decide) (fun _ => ?_) (fun hn11 => ?_)
  · refine Sd_aload_n (pc' := 150) (dc D_Bat_count 49 rfl) rfl 1 rfl rfl ?_
    refine Sd_getI (pc' := 153) (dc D_Bat_count 50 rfl) rfl F_Bat_81 rfl rfl ?_
    exact Sd_iret (dc D_Bat_count 51 rfl) rfl
  refine Sd_tdef (tgt := 154) (dc D_Bat_count 5 rfl) (by omega) (by decide) ?_
  refine Sd_iconst (pc' := 155) (dc D_Bat_count 52 rfl) rfl ⟨by decide, by decide⟩ ?_
  exact Sd_iret (dc D_Bat_count 53 rfl) rfl
theorem K_Bat_count : MOk M_Bat_count 1 := ⟨Tb_at 121 (by decide +kernel) rfl, Tb_at 1197 (by decide +kernel) rfl, by decide +kernel, by decide +kernel, by decide +kernel⟩
theorem Ks_Bat_count : Cond.instanceMethod yX11_count ∈ Tb := Tb_at 1195 (by decide +kernel) rfl
theorem Kv_Bat_count : Cond.selects RX11 yX11_count yX11_count ∈ Tb := Tb_at 1196 (by decide +kernel) rfl
/-! ===== BatchShare.image(I)I ===== -/
abbrev M_Bat_image : AMt := (yX11_image, cX11_image, 2, (some .int))
def T_Bat_image : List (Nat × Instr × Nat) := [(0, .iload_n 1, 1), (1, .ifCond .lt 8, 3), (4, .iload_n 1, 1), (5, .iconst 4, 1), (6, .if_icmp .lt 5, 3), (9, .iconst (-1), 1), (10, .ireturn, 1), (11, .aload_n 0, 1), (12, .getfield 35, 3), (15, .iload_n 1, 1), (16, .aaload, 1), (17, .ifnonnull 16, 3), (20, .aload_n 0, 1), (21, .getfield 35, 3), (24, .iload_n 1, 1), (25, .new 28, 3), (28, .dup, 1), (29, .invokespecial 30, 3), (32, .aastore, 1), (33, .aload_n 0, 1), (34, .getfield 35, 3), (37, .iload_n 1, 1), (38, .aaload, 1), (39, .aload_n 0, 1), (40, .getfield 31, 3), (43, .invokevirtual 351, 3), (46, .aload_n 0, 1), (47, .getfield 31, 3), (50, .getfield 116, 3), (53, .getfield 260, 3), (56, .ireturn, 1)]
set_option maxRecDepth 20000 in
theorem D_Bat_image : (T_Bat_image.all fun q => decide (decode M_Bat_image.2.1 q.1 = .ok q.2)) = true := by decide +kernel
def Bat_image_L33 (v0 : Nat) (v1 : Int) (h : AH) : Option (Int × AH) := gR h 12 v0 6 fun r1 => aR h 32 r1 v1 fun r2 => gR h 12 v0 5 fun r3 => rc h 11 r2 <| bnd (Wor_copy r2 r3 h) fun _ h4 => gR h4 12 v0 5 fun r7 => gR h4 11 r7 0 fun r8 => gI h4 9 r8 6 fun x9 => some (x9, h4)
set_option maxHeartbeats 4000000 in
set_option maxRecDepth 20000 in
theorem s_Bat_image_L33 (v0 : Nat) (v1 : Int) (h : AH) : Sd M_Bat_image 7 156 emI 33 [(0, vr v0), (1, vi v1)] [] h (Bat_image_L33 v0 v1 h) := by
  unfold Bat_image_L33
  refine Sd_aload_n (pc' := 34) (dc D_Bat_image 19 rfl) rfl 0 rfl rfl ?_
  refine Sd_getR (pc' := 37) (dc D_Bat_image 20 rfl) rfl F_Bat_35 rfl rfl ?_
  refine Sd_iload_n (pc' := 38) (dc D_Bat_image 21 rfl) rfl 1 rfl rfl ?_
  refine Sd_aaload (t := 32) (j := 4) (C0 := RX10) (pc' := 39) (dc D_Bat_image 22 rfl) rfl rfl (by decide) ?_
  refine Sd_aload_n (pc' := 40) (dc D_Bat_image 23 rfl) rfl 0 rfl rfl ?_
  refine Sd_getR (pc' := 43) (dc D_Bat_image 24 rfl) rfl F_Bat_31 rfl rfl ?_
  refine Sd.callVV (ci := 10) (t := 11) (as := [_]) RX10 (pc' := 46) (dc D_Bat_image 25 rfl) rfl rfl rfl rfl K_Wor_copy L_Bat_351 Ks_Wor_copy Kv_Wor_copy ⟨by decide, by decide⟩ rfl rfl (Nat.le_of_ble_eq_true rfl) (s_Wor_copy _ _ _) (fun _ h4 => ?_)
  refine Sd_aload_n (pc' := 47) (dc D_Bat_image 26 rfl) rfl 0 rfl rfl ?_
  refine Sd_getR (pc' := 50) (dc D_Bat_image 27 rfl) rfl F_Bat_31 rfl rfl ?_
  refine Sd_getR (pc' := 53) (dc D_Bat_image 28 rfl) rfl F_Bat_116 rfl rfl ?_
  refine Sd_getI (pc' := 56) (dc D_Bat_image 29 rfl) rfl F_Bat_260 rfl rfl ?_
  exact Sd_iret (dc D_Bat_image 30 rfl) rfl
def Bat_image (v0 : Nat) (v1 : Int) (h : AH) : Option (Int × AH) := if (v1 : Int) < 0 then (some ((-1), h)) else (if (v1 : Int) < 4 then (gR h 12 v0 6 fun r1 => aR h 32 r1 v1 fun r2 => if ¬ r2 = 0 then (Bat_image_L33 v0 v1 h) else (gR h 12 v0 6 fun r3 => nO h 11 5 fun r4 h5 => bnd (Wor_init r4 h5) fun _ h6 => wR h6 32 r3 v1 11 r4 fun h9 => Bat_image_L33 v0 v1 h9)) else (some ((-1), h)))
set_option maxHeartbeats 4000000 in
set_option maxRecDepth 20000 in
theorem s_Bat_image (v0 : Nat) (v1 : Int) (h : AH) : CS M_Bat_image 7 156 emI [vr v0, vi v1] h (Bat_image v0 v1 h) := by
  refine CS.of (by decide) (Nat.le_of_ble_eq_true rfl) ?_
  show Sd M_Bat_image 7 156 emI 0 [(0, vr v0), (1, vi v1)] [] h _
  unfold Bat_image
  refine Sd_iload_n (pc' := 1) (dc D_Bat_image 0 rfl) rfl 1 rfl rfl ?_
  refine Sd_if_lt (tgt := 9) (pc' := 4) (dc D_Bat_image 1 rfl) (by decide) rfl (fun _ => ?_) (fun _ => ?_)
  · refine Sd_iconst (pc' := 10) (dc D_Bat_image 5 rfl) rfl ⟨by decide, by decide⟩ ?_
    exact Sd_iret (dc D_Bat_image 6 rfl) rfl
  · refine Sd_iload_n (pc' := 5) (dc D_Bat_image 2 rfl) rfl 1 rfl rfl ?_
    refine Sd_iconst (pc' := 6) (dc D_Bat_image 3 rfl) rfl ⟨by decide, by decide⟩ ?_
    refine Sd_icmp_lt (tgt := 11) (pc' := 9) (dc D_Bat_image 4 rfl) (by decide) rfl (fun _ => ?_) (fun _ => ?_)
    · refine Sd_aload_n (pc' := 12) (dc D_Bat_image 7 rfl) rfl 0 rfl rfl ?_
      refine Sd_getR (pc' := 15) (dc D_Bat_image 8 rfl) rfl F_Bat_35 rfl rfl ?_
      refine Sd_iload_n (pc' := 16) (dc D_Bat_image 9 rfl) rfl 1 rfl rfl ?_
      refine Sd_aaload (t := 32) (j := 4) (C0 := RX10) (pc' := 17) (dc D_Bat_image 10 rfl) rfl rfl (by decide) ?_
      refine Sd_ifnonnull (tgt := 33) (pc' := 20) (dc D_Bat_image 11 rfl) (by decide) rfl (fun _ => ?_) (fun _ => ?_)
      · exact s_Bat_image_L33 _ _ _
      · refine Sd_aload_n (pc' := 21) (dc D_Bat_image 12 rfl) rfl 0 rfl rfl ?_
        refine Sd_getR (pc' := 24) (dc D_Bat_image 13 rfl) rfl F_Bat_35 rfl rfl ?_
        refine Sd_iload_n (pc' := 25) (dc D_Bat_image 14 rfl) rfl 1 rfl rfl ?_
        refine Sd_new (ci := 10) (t := 11) (sl := 5) RX10 (pc' := 28) (dc D_Bat_image 15 rfl) rfl rfl rfl C_Bat_28 Ni_Wor Nz_Wor ?_
        refine Sd_dup (pc' := 29) (dc D_Bat_image 16 rfl) rfl (cat_r _) ?_
        refine Sd.callNV (as := []) (pc' := 32) (dc D_Bat_image 17 rfl) rfl (Nat.le_add_right 16 _) K_Wor_init (List.mem_of_getElem? (i := 0) rfl) Ks_Wor_init rfl rfl ⟨by decide, by decide⟩ rfl rfl (Nat.le_of_ble_eq_true rfl) (s_Wor_init _ _) (fun _ h6 => ?_)
        refine Sd_aastore (t := 32) (j := 4) (ci := 10) (tv := 11) (C0 := RX10) (pc' := 33) (dc D_Bat_image 18 rfl) rfl (by decide) rfl rfl rfl (by decide) ?_
        exact s_Bat_image_L33 _ _ _
    · refine Sd_iconst (pc' := 10) (dc D_Bat_image 5 rfl) rfl ⟨by decide, by decide⟩ ?_
      exact Sd_iret (dc D_Bat_image 6 rfl) rfl
theorem K_Bat_image : MOk M_Bat_image 1 := ⟨Tb_at 121 (by decide +kernel) rfl, Tb_at 1202 (by decide +kernel) rfl, by decide +kernel, by decide +kernel, by decide +kernel⟩
theorem Ks_Bat_image : Cond.instanceMethod yX11_image ∈ Tb := Tb_at 1200 (by decide +kernel) rfl
theorem Kv_Bat_image : Cond.selects RX11 yX11_image yX11_image ∈ Tb := Tb_at 1201 (by decide +kernel) rfl
/-! ===== BatchShare.back(I)I ===== -/
abbrev M_Bat_back : AMt := (yX11_back, cX11_back, 2, (some .int))
def T_Bat_back : List (Nat × Instr × Nat) := [(0, .iload_n 1, 1), (1, .ifCond .lt 17, 3), (4, .iload_n 1, 1), (5, .iconst 4, 1), (6, .if_icmp .ge 12, 3), (9, .aload_n 0, 1), (10, .getfield 35, 3), (13, .iload_n 1, 1), (14, .aaload, 1), (15, .ifnonnull 5, 3), (18, .iconst (-1), 1), (19, .ireturn, 1), (20, .aload_n 0, 1), (21, .getfield 31, 3), (24, .aload_n 0, 1), (25, .getfield 35, 3), (28, .iload_n 1, 1), (29, .aaload, 1), (30, .invokevirtual 351, 3), (33, .aload_n 0, 1), (34, .getfield 31, 3), (37, .getfield 116, 3), (40, .getfield 260, 3), (43, .ireturn, 1)]
set_option maxRecDepth 20000 in
theorem D_Bat_back : (T_Bat_back.all fun q => decide (decode M_Bat_back.2.1 q.1 = .ok q.2)) = true := by decide +kernel
def Bat_back (v0 : Nat) (v1 : Int) (h : AH) : Option (Int × AH) := if (v1 : Int) < 0 then (some ((-1), h)) else (if (4 : Int) ≤ v1 then (some ((-1), h)) else (gR h 12 v0 6 fun r1 => aR h 32 r1 v1 fun r2 => if ¬ r2 = 0 then (gR h 12 v0 5 fun r3 => gR h 12 v0 6 fun r4 => aR h 32 r4 v1 fun r5 => rc h 11 r3 <| bnd (Wor_copy r3 r5 h) fun _ h6 => gR h6 12 v0 5 fun r9 => gR h6 11 r9 0 fun r10 => gI h6 9 r10 6 fun x11 => some (x11, h6)) else (some ((-1), h))))
set_option maxHeartbeats 4000000 in
set_option maxRecDepth 20000 in
theorem s_Bat_back (v0 : Nat) (v1 : Int) (h : AH) : CS M_Bat_back 7 156 emI [vr v0, vi v1] h (Bat_back v0 v1 h) := by
  refine CS.of (by decide) (Nat.le_of_ble_eq_true rfl) ?_
  show Sd M_Bat_back 7 156 emI 0 [(0, vr v0), (1, vi v1)] [] h _
  unfold Bat_back
  refine Sd_iload_n (pc' := 1) (dc D_Bat_back 0 rfl) rfl 1 rfl rfl ?_
  refine Sd_if_lt (tgt := 18) (pc' := 4) (dc D_Bat_back 1 rfl) (by decide) rfl (fun _ => ?_) (fun _ => ?_)
  · refine Sd_iconst (pc' := 19) (dc D_Bat_back 10 rfl) rfl ⟨by decide, by decide⟩ ?_
    exact Sd_iret (dc D_Bat_back 11 rfl) rfl
  · refine Sd_iload_n (pc' := 5) (dc D_Bat_back 2 rfl) rfl 1 rfl rfl ?_
    refine Sd_iconst (pc' := 6) (dc D_Bat_back 3 rfl) rfl ⟨by decide, by decide⟩ ?_
    refine Sd_icmp_ge (tgt := 18) (pc' := 9) (dc D_Bat_back 4 rfl) (by decide) rfl (fun _ => ?_) (fun _ => ?_)
    · refine Sd_iconst (pc' := 19) (dc D_Bat_back 10 rfl) rfl ⟨by decide, by decide⟩ ?_
      exact Sd_iret (dc D_Bat_back 11 rfl) rfl
    · refine Sd_aload_n (pc' := 10) (dc D_Bat_back 5 rfl) rfl 0 rfl rfl ?_
      refine Sd_getR (pc' := 13) (dc D_Bat_back 6 rfl) rfl F_Bat_35 rfl rfl ?_
      refine Sd_iload_n (pc' := 14) (dc D_Bat_back 7 rfl) rfl 1 rfl rfl ?_
      refine Sd_aaload (t := 32) (j := 4) (C0 := RX10) (pc' := 15) (dc D_Bat_back 8 rfl) rfl rfl (by decide) ?_
      refine Sd_ifnonnull (tgt := 20) (pc' := 18) (dc D_Bat_back 9 rfl) (by decide) rfl (fun _ => ?_) (fun _ => ?_)
      · refine Sd_aload_n (pc' := 21) (dc D_Bat_back 12 rfl) rfl 0 rfl rfl ?_
        refine Sd_getR (pc' := 24) (dc D_Bat_back 13 rfl) rfl F_Bat_31 rfl rfl ?_
        refine Sd_aload_n (pc' := 25) (dc D_Bat_back 14 rfl) rfl 0 rfl rfl ?_
        refine Sd_getR (pc' := 28) (dc D_Bat_back 15 rfl) rfl F_Bat_35 rfl rfl ?_
        refine Sd_iload_n (pc' := 29) (dc D_Bat_back 16 rfl) rfl 1 rfl rfl ?_
        refine Sd_aaload (t := 32) (j := 4) (C0 := RX10) (pc' := 30) (dc D_Bat_back 17 rfl) rfl rfl (by decide) ?_
        refine Sd.callVV (ci := 10) (t := 11) (as := [_]) RX10 (pc' := 33) (dc D_Bat_back 18 rfl) rfl rfl rfl rfl K_Wor_copy L_Bat_351 Ks_Wor_copy Kv_Wor_copy ⟨by decide, by decide⟩ rfl rfl (Nat.le_of_ble_eq_true rfl) (s_Wor_copy _ _ _) (fun _ h6 => ?_)
        refine Sd_aload_n (pc' := 34) (dc D_Bat_back 19 rfl) rfl 0 rfl rfl ?_
        refine Sd_getR (pc' := 37) (dc D_Bat_back 20 rfl) rfl F_Bat_31 rfl rfl ?_
        refine Sd_getR (pc' := 40) (dc D_Bat_back 21 rfl) rfl F_Bat_116 rfl rfl ?_
        refine Sd_getI (pc' := 43) (dc D_Bat_back 22 rfl) rfl F_Bat_260 rfl rfl ?_
        exact Sd_iret (dc D_Bat_back 23 rfl) rfl
      · refine Sd_iconst (pc' := 19) (dc D_Bat_back 10 rfl) rfl ⟨by decide, by decide⟩ ?_
        exact Sd_iret (dc D_Bat_back 11 rfl) rfl
theorem K_Bat_back : MOk M_Bat_back 1 := ⟨Tb_at 121 (by decide +kernel) rfl, Tb_at 1210 (by decide +kernel) rfl, by decide +kernel, by decide +kernel, by decide +kernel⟩
theorem Ks_Bat_back : Cond.instanceMethod yX11_back ∈ Tb := Tb_at 1208 (by decide +kernel) rfl
theorem Kv_Bat_back : Cond.selects RX11 yX11_back yX11_back ∈ Tb := Tb_at 1209 (by decide +kernel) rfl
