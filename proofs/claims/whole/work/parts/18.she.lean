/-! ===== BatchShare$Shelf.<init>(I)V ===== -/
abbrev M_She_init : AMt := (yX7_init, cX7_init, 3, none)
def T_She_init : List (Nat × Instr × Nat) := [(0, .aload_n 0, 1), (1, .invokespecial 3, 3), (4, .aload_n 0, 1), (5, .iload_n 1, 1), (6, .anewarray 9, 3), (9, .putfield 11, 3), (12, .iconst 0, 1), (13, .istore_n 2, 1), (14, .iload_n 2, 1), (15, .iload_n 1, 1), (16, .if_icmp .ge 22, 3), (19, .aload_n 0, 1), (20, .getfield 11, 3), (23, .iload_n 2, 1), (24, .new 9, 3), (27, .dup, 1), (28, .invokespecial 17, 3), (31, .aastore, 1), (32, .iinc 2 1, 3), (35, .goto (-21), 3), (38, .return_, 1)]
set_option maxRecDepth 20000 in
theorem D_She_init : (T_She_init.all fun q => decide (decode M_She_init.2.1 q.1 = .ok q.2)) = true := by decide +kernel
def She_init_L14 : Nat → Nat → Int → Int → AH → Option (Unit × AH)
  | 0, _, _, _, _ => none
  | n + 1, v0, v1, v2, h => if (v1 : Int) ≤ v2 then (some ((), h)) else (gR h 8 v0 0 fun r1 => nO h 3 4 fun r2 h3 => bnd (Kep_init r2 h3) fun _ h4 => wR h4 35 r1 v2 3 r2 fun h7 => She_init_L14 n v0 v1 ((wr (v2 + 1))) h7)
set_option maxHeartbeats 4000000 in
set_option maxRecDepth 20000 in
theorem s_She_init_L14 : ∀ (n : Nat) (v0 : Nat) (v1 : Int) (v2 : Int) (h : AH), Sd M_She_init 3 60 emV 14 [(0, vr v0), (1, vi v1), (2, vi v2)] [] h (She_init_L14 n v0 v1 v2 h)
  | 0, _, _, _, _ => Sd.none
  | n + 1, v0, v1, v2, h => by
    rw [She_init_L14]
    refine Sd_iload_n (pc' := 15) (dc D_She_init 8 rfl) rfl 2 rfl rfl ?_
    refine Sd_iload_n (pc' := 16) (dc D_She_init 9 rfl) rfl 1 rfl rfl ?_
    refine Sd_icmp_ge (tgt := 38) (pc' := 19) (dc D_She_init 10 rfl) (by decide) rfl (fun _ => ?_) (fun _ => ?_)
    · exact Sd_vret (dc D_She_init 20 rfl) rfl
    · refine Sd_aload_n (pc' := 20) (dc D_She_init 11 rfl) rfl 0 rfl rfl ?_
      refine Sd_getR (pc' := 23) (dc D_She_init 12 rfl) rfl F_She_11 rfl rfl ?_
      refine Sd_iload_n (pc' := 24) (dc D_She_init 13 rfl) rfl 2 rfl rfl ?_
      refine Sd_new (ci := 2) (t := 3) (sl := 4) RX2 (pc' := 27) (dc D_She_init 14 rfl) rfl rfl rfl C_She_9 Ni_Kep Nz_Kep ?_
      refine Sd_dup (pc' := 28) (dc D_She_init 15 rfl) rfl (cat_r _) ?_
      refine Sd.callNV (as := []) (pc' := 31) (dc D_She_init 16 rfl) rfl (Nat.le_add_right 16 _) K_Kep_init (List.mem_of_getElem? (i := 1) rfl) Ks_Kep_init rfl rfl ⟨by decide, by decide⟩ rfl rfl (Nat.le_of_ble_eq_true rfl) (s_Kep_init _ _) (fun _ h4 => ?_)
      refine Sd_aastore (t := 35) (j := 7) (ci := 2) (tv := 3) (C0 := RX2) (pc' := 32) (dc D_She_init 17 rfl) rfl (by decide) rfl rfl rfl (by decide) ?_
      refine Sd_iinc (pc' := 35) (l' := [(2, _), (0, _), (1, _)]) (dc D_She_init 18 rfl) rfl 2 rfl (by decide) rfl ?_
      refine Sd_goto (tgt := 14) (dc D_She_init 19 rfl) (by decide) ?_
      refine Sd.sub (l' := [(0, _), (1, _), (2, _)]) [1, 2, 0] rfl ?_
      exact s_She_init_L14 n _ _ _ _
def She_init (v0 : Nat) (v1 : Int) (h : AH) : Option (Unit × AH) := oi v0 <| nA h 35 v1 fun r1 h2 => pR h2 8 v0 0 r1 fun h3 => She_init_L14 FU v0 v1 0 h3
set_option maxHeartbeats 4000000 in
set_option maxRecDepth 20000 in
theorem s_She_init (v0 : Nat) (v1 : Int) (h : AH) : CS M_She_init 3 60 emV [vr v0, vi v1] h (She_init v0 v1 h) := by
  refine CS.of (by decide) (Nat.le_of_ble_eq_true rfl) ?_
  show Sd M_She_init 3 60 emV 0 [(0, vr v0), (1, vi v1)] [] h _
  unfold She_init
  refine Sd_aload_n (pc' := 1) (dc D_She_init 0 rfl) rfl 0 rfl rfl ?_
  refine Sd_oi (pc' := 4) (dc D_She_init 1 rfl) rfl L_She_3 W_obj2 W_obj3 (by decide) (Nat.le_of_ble_eq_true rfl) ?_
  refine Sd_aload_n (pc' := 5) (dc D_She_init 2 rfl) rfl 0 rfl rfl ?_
  refine Sd_iload_n (pc' := 6) (dc D_She_init 3 rfl) rfl 1 rfl rfl ?_
  refine Sd_anewarray (t := 35) (j := 7) (C0 := RX2) (pc' := 9) (dc D_She_init 4 rfl) rfl (by decide) rfl C_She_9 (List.mem_of_getElem? (i := 4) rfl) ?_
  refine Sd_putR (pc' := 12) (dc D_She_init 5 rfl) rfl F_She_11 rfl rfl rfl (finOk.yes rfl rfl) (by decide) ?_
  refine Sd_iconst (pc' := 13) (dc D_She_init 6 rfl) rfl ⟨by decide, by decide⟩ ?_
  refine Sd_istore_n (pc' := 14) (l' := [(2, _), (0, _), (1, _)]) (dc D_She_init 7 rfl) rfl rfl (by decide) rfl ?_
  refine Sd.sub (l' := [(0, _), (1, _), (2, _)]) [1, 2, 0] rfl ?_
  exact s_She_init_L14 FU _ _ _ _
theorem K_She_init : MOk M_She_init 1 := ⟨Tb_at 125 (by decide +kernel) rfl, Tb_at 193 (by decide +kernel) rfl, by decide +kernel, by decide +kernel, by decide +kernel⟩
theorem Ks_She_init : Cond.instanceMethod yX7_init ∈ Tb := Tb_at 192 (by decide +kernel) rfl
/-! ===== BatchShare$State.<init>()V ===== -/
abbrev M_Sta_init : AMt := (yX8_init, cX8_init, 1, none)
def T_Sta_init : List (Nat × Instr × Nat) := [(0, .aload_n 0, 1), (1, .invokespecial 3, 3), (4, .aload_n 0, 1), (5, .iconst 2, 1), (6, .anewarray 9, 3), (9, .putfield 11, 3), (12, .aload_n 0, 1), (13, .new 17, 3), (16, .dup, 1), (17, .bipush 6, 2), (19, .invokespecial 19, 3), (22, .putfield 22, 3), (25, .aload_n 0, 1), (26, .getfield 11, 3), (29, .iconst 0, 1), (30, .new 9, 3), (33, .dup, 1), (34, .iconst 0, 1), (35, .iconst 3, 1), (36, .bipush 12, 2), (38, .invokespecial 26, 3), (41, .aastore, 1), (42, .aload_n 0, 1), (43, .getfield 11, 3), (46, .iconst 1, 1), (47, .new 9, 3), (50, .dup, 1), (51, .iconst 3, 1), (52, .iconst 2, 1), (53, .bipush 8, 2), (55, .invokespecial 26, 3), (58, .aastore, 1), (59, .return_, 1)]
set_option maxRecDepth 20000 in
theorem D_Sta_init : (T_Sta_init.all fun q => decide (decode M_Sta_init.2.1 q.1 = .ok q.2)) = true := by decide +kernel
def Sta_init (v0 : Nat) (h : AH) : Option (Unit × AH) := oi v0 <| nA h 34 2 fun r1 h2 => pR h2 9 v0 0 r1 fun h3 => nO h3 8 2 fun r4 h5 => bnd (She_init r4 6 h5) fun _ h6 => pR h6 9 v0 1 r4 fun h9 => gR h9 9 v0 0 fun r10 => nO h9 10 4 fun r11 h12 => bnd (Tab_init r11 0 3 12 h12) fun _ h13 => wR h13 34 r10 0 10 r11 fun h16 => gR h16 9 v0 0 fun r17 => nO h16 10 4 fun r18 h19 => bnd (Tab_init r18 3 2 8 h19) fun _ h20 => wR h20 34 r17 1 10 r18 fun h23 => some ((), h23)
set_option maxHeartbeats 4000000 in
set_option maxRecDepth 20000 in
theorem s_Sta_init (v0 : Nat) (h : AH) : CS M_Sta_init 4 82 emV [vr v0] h (Sta_init v0 h) := by
  refine CS.of (by decide) (Nat.le_of_ble_eq_true rfl) ?_
  show Sd M_Sta_init 4 82 emV 0 [(0, vr v0)] [] h _
  unfold Sta_init
  refine Sd_aload_n (pc' := 1) (dc D_Sta_init 0 rfl) rfl 0 rfl rfl ?_
  refine Sd_oi (pc' := 4) (dc D_Sta_init 1 rfl) rfl L_Sta_3 W_obj2 W_obj3 (by decide) (Nat.le_of_ble_eq_true rfl) ?_
  refine Sd_aload_n (pc' := 5) (dc D_Sta_init 2 rfl) rfl 0 rfl rfl ?_
  refine Sd_iconst (pc' := 6) (dc D_Sta_init 3 rfl) rfl ⟨by decide, by decide⟩ ?_
  refine Sd_anewarray (t := 34) (j := 6) (C0 := RX9) (pc' := 9) (dc D_Sta_init 4 rfl) rfl (by decide) rfl C_Sta_9 (List.mem_of_getElem? (i := 3) rfl) ?_
  refine Sd_putR (pc' := 12) (dc D_Sta_init 5 rfl) rfl F_Sta_11 rfl rfl rfl (finOk.yes rfl rfl) (by decide) ?_
  refine Sd_aload_n (pc' := 13) (dc D_Sta_init 6 rfl) rfl 0 rfl rfl ?_
  refine Sd_new (ci := 7) (t := 8) (sl := 2) RX7 (pc' := 16) (dc D_Sta_init 7 rfl) rfl rfl rfl C_Sta_17 Ni_She Nz_She ?_
  refine Sd_dup (pc' := 17) (dc D_Sta_init 8 rfl) rfl (cat_r _) ?_
  refine Sd_bipush (pc' := 19) (dc D_Sta_init 9 rfl) rfl ⟨by decide, by decide⟩ (by decide) ?_
  refine Sd.callIV (as := [_]) (pc' := 22) (dc D_Sta_init 10 rfl) rfl (Nat.le_add_right 16 _) K_She_init L_Sta_19 Ks_She_init rfl rfl ⟨by decide, by decide⟩ rfl rfl (Nat.le_of_ble_eq_true rfl) (s_She_init _ _ _) (fun _ h6 => ?_)
  refine Sd_putR (pc' := 25) (dc D_Sta_init 11 rfl) rfl F_Sta_22 rfl rfl rfl (finOk.yes rfl rfl) (by decide) ?_
  refine Sd_aload_n (pc' := 26) (dc D_Sta_init 12 rfl) rfl 0 rfl rfl ?_
  refine Sd_getR (pc' := 29) (dc D_Sta_init 13 rfl) rfl F_Sta_11 rfl rfl ?_
  refine Sd_iconst (pc' := 30) (dc D_Sta_init 14 rfl) rfl ⟨by decide, by decide⟩ ?_
  refine Sd_new (ci := 9) (t := 10) (sl := 4) RX9 (pc' := 33) (dc D_Sta_init 15 rfl) rfl rfl rfl C_Sta_9 Ni_Tab Nz_Tab ?_
  refine Sd_dup (pc' := 34) (dc D_Sta_init 16 rfl) rfl (cat_r _) ?_
  refine Sd_iconst (pc' := 35) (dc D_Sta_init 17 rfl) rfl ⟨by decide, by decide⟩ ?_
  refine Sd_iconst (pc' := 36) (dc D_Sta_init 18 rfl) rfl ⟨by decide, by decide⟩ ?_
  refine Sd_bipush (pc' := 38) (dc D_Sta_init 19 rfl) rfl ⟨by decide, by decide⟩ (by decide) ?_
  refine Sd.callIV (as := [_, _, _]) (pc' := 41) (dc D_Sta_init 20 rfl) rfl (Nat.le_add_right 16 _) K_Tab_init L_Sta_26 Ks_Tab_init rfl rfl ⟨by decide, by decide⟩ rfl rfl (Nat.le_of_ble_eq_true rfl) (s_Tab_init _ _ _ _ _) (fun _ h13 => ?_)
  refine Sd_aastore (t := 34) (j := 6) (ci := 9) (tv := 10) (C0 := RX9) (pc' := 42) (dc D_Sta_init 21 rfl) rfl (by decide) rfl rfl rfl (by decide) ?_
  refine Sd_aload_n (pc' := 43) (dc D_Sta_init 22 rfl) rfl 0 rfl rfl ?_
  refine Sd_getR (pc' := 46) (dc D_Sta_init 23 rfl) rfl F_Sta_11 rfl rfl ?_
  refine Sd_iconst (pc' := 47) (dc D_Sta_init 24 rfl) rfl ⟨by decide, by decide⟩ ?_
  refine Sd_new (ci := 9) (t := 10) (sl := 4) RX9 (pc' := 50) (dc D_Sta_init 25 rfl) rfl rfl rfl C_Sta_9 Ni_Tab Nz_Tab ?_
  refine Sd_dup (pc' := 51) (dc D_Sta_init 26 rfl) rfl (cat_r _) ?_
  refine Sd_iconst (pc' := 52) (dc D_Sta_init 27 rfl) rfl ⟨by decide, by decide⟩ ?_
  refine Sd_iconst (pc' := 53) (dc D_Sta_init 28 rfl) rfl ⟨by decide, by decide⟩ ?_
  refine Sd_bipush (pc' := 55) (dc D_Sta_init 29 rfl) rfl ⟨by decide, by decide⟩ (by decide) ?_
  refine Sd.callIV (as := [_, _, _]) (pc' := 58) (dc D_Sta_init 30 rfl) rfl (Nat.le_add_right 16 _) K_Tab_init L_Sta_26 Ks_Tab_init rfl rfl ⟨by decide, by decide⟩ rfl rfl (Nat.le_of_ble_eq_true rfl) (s_Tab_init _ _ _ _ _) (fun _ h20 => ?_)
  refine Sd_aastore (t := 34) (j := 6) (ci := 9) (tv := 10) (C0 := RX9) (pc' := 59) (dc D_Sta_init 31 rfl) rfl (by decide) rfl rfl rfl (by decide) ?_
  exact Sd_vret (dc D_Sta_init 32 rfl) rfl
theorem K_Sta_init : MOk M_Sta_init 0 := ⟨Tb_at 124 (by decide +kernel) rfl, Tb_at 185 (by decide +kernel) rfl, by decide +kernel, by decide +kernel, by decide +kernel⟩
theorem Ks_Sta_init : Cond.instanceMethod yX8_init ∈ Tb := Tb_at 184 (by decide +kernel) rfl
/-! ===== BatchShare$World.<init>()V ===== -/
abbrev M_Wor_init : AMt := (yX10_init, cX10_init, 1, none)
def T_Wor_init : List (Nat × Instr × Nat) := [(0, .aload_n 0, 1), (1, .invokespecial 3, 3), (4, .aload_n 0, 1), (5, .new 9, 3), (8, .dup, 1), (9, .invokespecial 11, 3), (12, .putfield 12, 3), (15, .aload_n 0, 1), (16, .bipush 20, 2), (18, .anewarray 9, 3), (21, .putfield 18, 3), (24, .return_, 1)]
set_option maxRecDepth 20000 in
theorem D_Wor_init : (T_Wor_init.all fun q => decide (decode M_Wor_init.2.1 q.1 = .ok q.2)) = true := by decide +kernel
def Wor_init (v0 : Nat) (h : AH) : Option (Unit × AH) := oi v0 <| nO h 9 7 fun r1 h2 => bnd (Sta_init r1 h2) fun _ h3 => pR h3 11 v0 0 r1 fun h6 => nA h6 33 20 fun r7 h8 => pR h8 11 v0 1 r7 fun h9 => some ((), h9)
set_option maxHeartbeats 4000000 in
set_option maxRecDepth 20000 in
theorem s_Wor_init (v0 : Nat) (h : AH) : CS M_Wor_init 5 102 emV [vr v0] h (Wor_init v0 h) := by
  refine CS.of (by decide) (Nat.le_of_ble_eq_true rfl) ?_
  show Sd M_Wor_init 5 102 emV 0 [(0, vr v0)] [] h _
  unfold Wor_init
  refine Sd_aload_n (pc' := 1) (dc D_Wor_init 0 rfl) rfl 0 rfl rfl ?_
  refine Sd_oi (pc' := 4) (dc D_Wor_init 1 rfl) rfl L_Wor_3 W_obj2 W_obj3 (by decide) (Nat.le_of_ble_eq_true rfl) ?_
  refine Sd_aload_n (pc' := 5) (dc D_Wor_init 2 rfl) rfl 0 rfl rfl ?_
  refine Sd_new (ci := 8) (t := 9) (sl := 7) RX8 (pc' := 8) (dc D_Wor_init 3 rfl) rfl rfl rfl C_Wor_9 Ni_Sta Nz_Sta ?_
  refine Sd_dup (pc' := 9) (dc D_Wor_init 4 rfl) rfl (cat_r _) ?_
  refine Sd.callIV (as := []) (pc' := 12) (dc D_Wor_init 5 rfl) rfl (Nat.le_add_right 16 _) K_Sta_init L_Wor_11 Ks_Sta_init rfl rfl ⟨by decide, by decide⟩ rfl rfl (Nat.le_of_ble_eq_true rfl) (s_Sta_init _ _) (fun _ h3 => ?_)
  refine Sd_putR (pc' := 15) (dc D_Wor_init 6 rfl) rfl F_Wor_12 rfl rfl rfl (finOk.yes rfl rfl) (by decide) ?_
  refine Sd_aload_n (pc' := 16) (dc D_Wor_init 7 rfl) rfl 0 rfl rfl ?_
  refine Sd_bipush (pc' := 18) (dc D_Wor_init 8 rfl) rfl ⟨by decide, by decide⟩ (by decide) ?_
  refine Sd_anewarray (t := 33) (j := 5) (C0 := RX8) (pc' := 21) (dc D_Wor_init 9 rfl) rfl (by decide) rfl C_Wor_9 (List.mem_of_getElem? (i := 2) rfl) ?_
  refine Sd_putR (pc' := 24) (dc D_Wor_init 10 rfl) rfl F_Wor_18 rfl rfl rfl (finOk.yes rfl rfl) (by decide) ?_
  exact Sd_vret (dc D_Wor_init 11 rfl) rfl
theorem K_Wor_init : MOk M_Wor_init 0 := ⟨Tb_at 123 (by decide +kernel) rfl, Tb_at 179 (by decide +kernel) rfl, by decide +kernel, by decide +kernel, by decide +kernel⟩
theorem Ks_Wor_init : Cond.instanceMethod yX10_init ∈ Tb := Tb_at 178 (by decide +kernel) rfl
/-! ===== BatchShare$Shelf.clear()V ===== -/
abbrev M_She_clear : AMt := (yX7_clear, cX7_clear, 1, none)
def T_She_clear : List (Nat × Instr × Nat) := [(0, .aload_n 0, 1), (1, .iconst 0, 1), (2, .putfield 18, 3), (5, .return_, 1)]
set_option maxRecDepth 20000 in
theorem D_She_clear : (T_She_clear.all fun q => decide (decode M_She_clear.2.1 q.1 = .ok q.2)) = true := by decide +kernel
def She_clear (v0 : Nat) (h : AH) : Option (Unit × AH) := pI h 8 v0 1 0 fun h1 => some ((), h1)
set_option maxHeartbeats 4000000 in
set_option maxRecDepth 20000 in
theorem s_She_clear (v0 : Nat) (h : AH) : CS M_She_clear 1 0 emV [vr v0] h (She_clear v0 h) := by
  refine CS.of (by decide) (Nat.le_of_ble_eq_true rfl) ?_
  show Sd M_She_clear 1 0 emV 0 [(0, vr v0)] [] h _
  unfold She_clear
  refine Sd_aload_n (pc' := 1) (dc D_She_clear 0 rfl) rfl 0 rfl rfl ?_
  refine Sd_iconst (pc' := 2) (dc D_She_clear 1 rfl) rfl ⟨by decide, by decide⟩ ?_
  refine Sd_putI (pc' := 5) (dc D_She_clear 2 rfl) rfl F_She_18 rfl rfl rfl (finOk.no rfl) (by decide) ?_
  exact Sd_vret (dc D_She_clear 3 rfl) rfl
theorem K_She_clear : MOk M_She_clear 0 := ⟨Tb_at 125 (by decide +kernel) rfl, Tb_at 523 (by decide +kernel) rfl, by decide +kernel, by decide +kernel, by decide +kernel⟩
theorem Ks_She_clear : Cond.instanceMethod yX7_clear ∈ Tb := Tb_at 521 (by decide +kernel) rfl
theorem Kv_She_clear : Cond.selects RX7 yX7_clear yX7_clear ∈ Tb := Tb_at 522 (by decide +kernel) rfl
/-! ===== BatchShare$State.clear()V ===== -/
abbrev M_Sta_clear : AMt := (yX8_clear, cX8_clear, 1, none)
def T_Sta_clear : List (Nat × Instr × Nat) := [(0, .aload_n 0, 1), (1, .getfield 11, 3), (4, .iconst 0, 1), (5, .aaload, 1), (6, .iconst 0, 1), (7, .putfield 29, 3), (10, .aload_n 0, 1), (11, .getfield 11, 3), (14, .iconst 1, 1), (15, .aaload, 1), (16, .iconst 0, 1), (17, .putfield 29, 3), (20, .aload_n 0, 1), (21, .getfield 22, 3), (24, .invokevirtual 33, 3), (27, .aload_n 0, 1), (28, .iconst 0, 1), (29, .putfield 36, 3), (32, .aload_n 0, 1), (33, .iconst 0, 1), (34, .putfield 40, 3), (37, .aload_n 0, 1), (38, .iconst 0, 1), (39, .putfield 43, 3), (42, .aload_n 0, 1), (43, .iconst 0, 1), (44, .putfield 46, 3), (47, .aload_n 0, 1), (48, .iconst 0, 1), (49, .putfield 49, 3), (52, .return_, 1)]
set_option maxRecDepth 20000 in
theorem D_Sta_clear : (T_Sta_clear.all fun q => decide (decode M_Sta_clear.2.1 q.1 = .ok q.2)) = true := by decide +kernel
def Sta_clear (v0 : Nat) (h : AH) : Option (Unit × AH) := gR h 9 v0 0 fun r1 => aR h 34 r1 0 fun r2 => pI h 10 r2 3 0 fun h3 => gR h3 9 v0 0 fun r4 => aR h3 34 r4 1 fun r5 => pI h3 10 r5 3 0 fun h6 => gR h6 9 v0 1 fun r7 => rc h6 8 r7 <| bnd (She_clear r7 h6) fun _ h8 => pZ h8 9 v0 2 0 fun h11 => pI h11 9 v0 3 0 fun h12 => pI h12 9 v0 4 0 fun h13 => pI h13 9 v0 5 0 fun h14 => pI h14 9 v0 6 0 fun h15 => some ((), h15)
set_option maxHeartbeats 4000000 in
set_option maxRecDepth 20000 in
theorem s_Sta_clear (v0 : Nat) (h : AH) : CS M_Sta_clear 2 20 emV [vr v0] h (Sta_clear v0 h) := by
  refine CS.of (by decide) (Nat.le_of_ble_eq_true rfl) ?_
  show Sd M_Sta_clear 2 20 emV 0 [(0, vr v0)] [] h _
  unfold Sta_clear
  refine Sd_aload_n (pc' := 1) (dc D_Sta_clear 0 rfl) rfl 0 rfl rfl ?_
  refine Sd_getR (pc' := 4) (dc D_Sta_clear 1 rfl) rfl F_Sta_11 rfl rfl ?_
  refine Sd_iconst (pc' := 5) (dc D_Sta_clear 2 rfl) rfl ⟨by decide, by decide⟩ ?_
  refine Sd_aaload (t := 34) (j := 6) (C0 := RX9) (pc' := 6) (dc D_Sta_clear 3 rfl) rfl rfl (by decide) ?_
  refine Sd_iconst (pc' := 7) (dc D_Sta_clear 4 rfl) rfl ⟨by decide, by decide⟩ ?_
  refine Sd_putI (pc' := 10) (dc D_Sta_clear 5 rfl) rfl F_Sta_29 rfl rfl rfl (finOk.no rfl) (by decide) ?_
  refine Sd_aload_n (pc' := 11) (dc D_Sta_clear 6 rfl) rfl 0 rfl rfl ?_
  refine Sd_getR (pc' := 14) (dc D_Sta_clear 7 rfl) rfl F_Sta_11 rfl rfl ?_
  refine Sd_iconst (pc' := 15) (dc D_Sta_clear 8 rfl) rfl ⟨by decide, by decide⟩ ?_
  refine Sd_aaload (t := 34) (j := 6) (C0 := RX9) (pc' := 16) (dc D_Sta_clear 9 rfl) rfl rfl (by decide) ?_
  refine Sd_iconst (pc' := 17) (dc D_Sta_clear 10 rfl) rfl ⟨by decide, by decide⟩ ?_
  refine Sd_putI (pc' := 20) (dc D_Sta_clear 11 rfl) rfl F_Sta_29 rfl rfl rfl (finOk.no rfl) (by decide) ?_
  refine Sd_aload_n (pc' := 21) (dc D_Sta_clear 12 rfl) rfl 0 rfl rfl ?_
  refine Sd_getR (pc' := 24) (dc D_Sta_clear 13 rfl) rfl F_Sta_22 rfl rfl ?_
  refine Sd.callVV (ci := 7) (t := 8) (as := []) RX7 (pc' := 27) (dc D_Sta_clear 14 rfl) rfl rfl rfl rfl K_She_clear L_Sta_33 Ks_She_clear Kv_She_clear ⟨by decide, by decide⟩ rfl rfl (Nat.le_of_ble_eq_true rfl) (s_She_clear _ _) (fun _ h8 => ?_)
  refine Sd_aload_n (pc' := 28) (dc D_Sta_clear 15 rfl) rfl 0 rfl rfl ?_
  refine Sd_iconst (pc' := 29) (dc D_Sta_clear 16 rfl) rfl ⟨by decide, by decide⟩ ?_
  refine Sd_putZ (pc' := 32) (dc D_Sta_clear 17 rfl) rfl F_Sta_36 rfl rfl rfl (finOk.no rfl) (by decide) ?_
  refine Sd_aload_n (pc' := 33) (dc D_Sta_clear 18 rfl) rfl 0 rfl rfl ?_
  refine Sd_iconst (pc' := 34) (dc D_Sta_clear 19 rfl) rfl ⟨by decide, by decide⟩ ?_
  refine Sd_putI (pc' := 37) (dc D_Sta_clear 20 rfl) rfl F_Sta_40 rfl rfl rfl (finOk.no rfl) (by decide) ?_
  refine Sd_aload_n (pc' := 38) (dc D_Sta_clear 21 rfl) rfl 0 rfl rfl ?_
  refine Sd_iconst (pc' := 39) (dc D_Sta_clear 22 rfl) rfl ⟨by decide, by decide⟩ ?_
  refine Sd_putI (pc' := 42) (dc D_Sta_clear 23 rfl) rfl F_Sta_43 rfl rfl rfl (finOk.no rfl) (by decide) ?_
  refine Sd_aload_n (pc' := 43) (dc D_Sta_clear 24 rfl) rfl 0 rfl rfl ?_
  refine Sd_iconst (pc' := 44) (dc D_Sta_clear 25 rfl) rfl ⟨by decide, by decide⟩ ?_
  refine Sd_putI (pc' := 47) (dc D_Sta_clear 26 rfl) rfl F_Sta_46 rfl rfl rfl (finOk.no rfl) (by decide) ?_
  refine Sd_aload_n (pc' := 48) (dc D_Sta_clear 27 rfl) rfl 0 rfl rfl ?_
  refine Sd_iconst (pc' := 49) (dc D_Sta_clear 28 rfl) rfl ⟨by decide, by decide⟩ ?_
  refine Sd_putI (pc' := 52) (dc D_Sta_clear 29 rfl) rfl F_Sta_49 rfl rfl rfl (finOk.no rfl) (by decide) ?_
  exact Sd_vret (dc D_Sta_clear 30 rfl) rfl
theorem K_Sta_clear : MOk M_Sta_clear 0 := ⟨Tb_at 124 (by decide +kernel) rfl, Tb_at 519 (by decide +kernel) rfl, by decide +kernel, by decide +kernel, by decide +kernel⟩
theorem Ks_Sta_clear : Cond.instanceMethod yX8_clear ∈ Tb := Tb_at 517 (by decide +kernel) rfl
theorem Kv_Sta_clear : Cond.selects RX8 yX8_clear yX8_clear ∈ Tb := Tb_at 518 (by decide +kernel) rfl
/-! ===== BatchShare$Shelf.copy(LBatchShare$Shelf;)V ===== -/
abbrev M_She_copy : AMt := (yX7_copy, cX7_copy, 3, none)
def T_She_copy : List (Nat × Instr × Nat) := [(0, .aload_n 0, 1), (1, .aload_n 1, 1), (2, .getfield 18, 3), (5, .aload_n 0, 1), (6, .getfield 11, 3), (9, .arraylength, 1), (10, .invokestatic 22, 3), (13, .putfield 18, 3), (16, .iconst 0, 1), (17, .istore_n 2, 1), (18, .iload_n 2, 1), (19, .aload_n 0, 1), (20, .getfield 18, 3), (23, .if_icmp .ge 24, 3), (26, .aload_n 0, 1), (27, .getfield 11, 3), (30, .iload_n 2, 1), (31, .aaload, 1), (32, .aload_n 1, 1), (33, .getfield 11, 3), (36, .iload_n 2, 1), (37, .aaload, 1), (38, .invokevirtual 28, 3), (41, .iinc 2 1, 3), (44, .goto (-26), 3), (47, .return_, 1)]
set_option maxRecDepth 20000 in
theorem D_She_copy : (T_She_copy.all fun q => decide (decode M_She_copy.2.1 q.1 = .ok q.2)) = true := by decide +kernel
def She_copy_L18 : Nat → Nat → Nat → Int → AH → Option (Unit × AH)
  | 0, _, _, _, _ => none
  | n + 1, v0, v1, v2, h => gI h 8 v0 1 fun x1 => if (x1 : Int) ≤ v2 then (some ((), h)) else (gR h 8 v0 0 fun r2 => aR h 35 r2 v2 fun r3 => gR h 8 v1 0 fun r4 => aR h 35 r4 v2 fun r5 => rc h 3 r3 <| bnd (Kep_copy r3 r5 h) fun _ h6 => She_copy_L18 n v0 v1 ((wr (v2 + 1))) h6)
set_option maxHeartbeats 4000000 in
set_option maxRecDepth 20000 in
theorem s_She_copy_L18 : ∀ (n : Nat) (v0 : Nat) (v1 : Nat) (v2 : Int) (h : AH), Sd M_She_copy 3 68 emV 18 [(0, vr v0), (1, vr v1), (2, vi v2)] [] h (She_copy_L18 n v0 v1 v2 h)
  | 0, _, _, _, _ => Sd.none
  | n + 1, v0, v1, v2, h => by
    rw [She_copy_L18]
    refine Sd_iload_n (pc' := 19) (dc D_She_copy 10 rfl) rfl 2 rfl rfl ?_
    refine Sd_aload_n (pc' := 20) (dc D_She_copy 11 rfl) rfl 0 rfl rfl ?_
    refine Sd_getI (pc' := 23) (dc D_She_copy 12 rfl) rfl F_She_18 rfl rfl ?_
    refine Sd_icmp_ge (tgt := 47) (pc' := 26) (dc D_She_copy 13 rfl) (by decide) rfl (fun _ => ?_) (fun _ => ?_)
    · exact Sd_vret (dc D_She_copy 25 rfl) rfl
    · refine Sd_aload_n (pc' := 27) (dc D_She_copy 14 rfl) rfl 0 rfl rfl ?_
      refine Sd_getR (pc' := 30) (dc D_She_copy 15 rfl) rfl F_She_11 rfl rfl ?_
      refine Sd_iload_n (pc' := 31) (dc D_She_copy 16 rfl) rfl 2 rfl rfl ?_
      refine Sd_aaload (t := 35) (j := 7) (C0 := RX2) (pc' := 32) (dc D_She_copy 17 rfl) rfl rfl (by decide) ?_
      refine Sd_aload_n (pc' := 33) (dc D_She_copy 18 rfl) rfl 1 rfl rfl ?_
      refine Sd_getR (pc' := 36) (dc D_She_copy 19 rfl) rfl F_She_11 rfl rfl ?_
      refine Sd_iload_n (pc' := 37) (dc D_She_copy 20 rfl) rfl 2 rfl rfl ?_
      refine Sd_aaload (t := 35) (j := 7) (C0 := RX2) (pc' := 38) (dc D_She_copy 21 rfl) rfl rfl (by decide) ?_
      refine Sd.callVV (ci := 2) (t := 3) (as := [_]) RX2 (pc' := 41) (dc D_She_copy 22 rfl) rfl rfl rfl rfl K_Kep_copy L_She_28 Ks_Kep_copy Kv_Kep_copy ⟨by decide, by decide⟩ rfl rfl (Nat.le_of_ble_eq_true rfl) (s_Kep_copy _ _ _) (fun _ h6 => ?_)
      refine Sd_iinc (pc' := 44) (l' := [(2, _), (0, _), (1, _)]) (dc D_She_copy 23 rfl) rfl 2 rfl (by decide) rfl ?_
      refine Sd_goto (tgt := 18) (dc D_She_copy 24 rfl) (by decide) ?_
      refine Sd.sub (l' := [(0, _), (1, _), (2, _)]) [1, 2, 0] rfl ?_
      exact s_She_copy_L18 n _ _ _ _
def She_copy (v0 : Nat) (v1 : Nat) (h : AH) : Option (Unit × AH) := gI h 8 v1 1 fun x1 => gR h 8 v0 0 fun r2 => aN h 35 r2 fun x3 => pI h 8 v0 1 (mMin x1 x3) fun h4 => She_copy_L18 FU v0 v1 0 h4
set_option maxHeartbeats 4000000 in
set_option maxRecDepth 20000 in
theorem s_She_copy (v0 : Nat) (v1 : Nat) (h : AH) : CS M_She_copy 3 68 emV [vr v0, vr v1] h (She_copy v0 v1 h) := by
  refine CS.of (by decide) (Nat.le_of_ble_eq_true rfl) ?_
  show Sd M_She_copy 3 68 emV 0 [(0, vr v0), (1, vr v1)] [] h _
  unfold She_copy
  refine Sd_aload_n (pc' := 1) (dc D_She_copy 0 rfl) rfl 0 rfl rfl ?_
  refine Sd_aload_n (pc' := 2) (dc D_She_copy 1 rfl) rfl 1 rfl rfl ?_
  refine Sd_getI (pc' := 5) (dc D_She_copy 2 rfl) rfl F_She_18 rfl rfl ?_
  refine Sd_aload_n (pc' := 6) (dc D_She_copy 3 rfl) rfl 0 rfl rfl ?_
  refine Sd_getR (pc' := 9) (dc D_She_copy 4 rfl) rfl F_She_11 rfl rfl ?_
  refine Sd_alen (t := 35) (j := 7) (pc' := 10) (dc D_She_copy 5 rfl) rfl rfl (by decide) (by decide) ?_
  refine Sd_mmin (pc' := 13) (dc D_She_copy 6 rfl) rfl L_She_22 W_mmin1 W_m2 W_mmin3 (by decide) (Nat.le_of_ble_eq_true rfl) ?_
  refine Sd_putI (pc' := 16) (dc D_She_copy 7 rfl) rfl F_She_18 rfl rfl rfl (finOk.no rfl) (by decide) ?_
  refine Sd_iconst (pc' := 17) (dc D_She_copy 8 rfl) rfl ⟨by decide, by decide⟩ ?_
  refine Sd_istore_n (pc' := 18) (l' := [(2, _), (0, _), (1, _)]) (dc D_She_copy 9 rfl) rfl rfl (by decide) rfl ?_
  refine Sd.sub (l' := [(0, _), (1, _), (2, _)]) [1, 2, 0] rfl ?_
  exact s_She_copy_L18 FU _ _ _ _
theorem K_She_copy : MOk M_She_copy 1 := ⟨Tb_at 125 (by decide +kernel) rfl, Tb_at 651 (by decide +kernel) rfl, by decide +kernel, by decide +kernel, by decide +kernel⟩
theorem Ks_She_copy : Cond.instanceMethod yX7_copy ∈ Tb := Tb_at 649 (by decide +kernel) rfl
theorem Kv_She_copy : Cond.selects RX7 yX7_copy yX7_copy ∈ Tb := Tb_at 650 (by decide +kernel) rfl
/-! ===== BatchShare$State.copy(LBatchShare$State;)V ===== -/
abbrev M_Sta_copy : AMt := (yX8_copy, cX8_copy, 2, none)
def T_Sta_copy : List (Nat × Instr × Nat) := [(0, .aload_n 0, 1), (1, .getfield 11, 3), (4, .iconst 0, 1), (5, .aaload, 1), (6, .aload_n 1, 1), (7, .getfield 11, 3), (10, .iconst 0, 1), (11, .aaload, 1), (12, .invokevirtual 52, 3), (15, .aload_n 0, 1), (16, .getfield 11, 3), (19, .iconst 1, 1), (20, .aaload, 1), (21, .aload_n 1, 1), (22, .getfield 11, 3), (25, .iconst 1, 1), (26, .aaload, 1), (27, .invokevirtual 52, 3), (30, .aload_n 0, 1), (31, .getfield 22, 3), (34, .aload_n 1, 1), (35, .getfield 22, 3), (38, .invokevirtual 56, 3), (41, .aload_n 0, 1), (42, .aload_n 1, 1), (43, .getfield 36, 3), (46, .putfield 36, 3), (49, .aload_n 0, 1), (50, .aload_n 1, 1), (51, .getfield 40, 3), (54, .putfield 40, 3), (57, .aload_n 0, 1), (58, .aload_n 1, 1), (59, .getfield 43, 3), (62, .putfield 43, 3), (65, .aload_n 0, 1), (66, .aload_n 1, 1), (67, .getfield 46, 3), (70, .putfield 46, 3), (73, .aload_n 0, 1), (74, .aload_n 1, 1), (75, .getfield 49, 3), (78, .putfield 49, 3), (81, .return_, 1)]
set_option maxRecDepth 20000 in
theorem D_Sta_copy : (T_Sta_copy.all fun q => decide (decode M_Sta_copy.2.1 q.1 = .ok q.2)) = true := by decide +kernel
def Sta_copy (v0 : Nat) (v1 : Nat) (h : AH) : Option (Unit × AH) := gR h 9 v0 0 fun r1 => aR h 34 r1 0 fun r2 => gR h 9 v1 0 fun r3 => aR h 34 r3 0 fun r4 => rc h 10 r2 <| bnd (Tab_copy r2 r4 h) fun _ h5 => gR h5 9 v0 0 fun r8 => aR h5 34 r8 1 fun r9 => gR h5 9 v1 0 fun r10 => aR h5 34 r10 1 fun r11 => rc h5 10 r9 <| bnd (Tab_copy r9 r11 h5) fun _ h12 => gR h12 9 v0 1 fun r15 => gR h12 9 v1 1 fun r16 => rc h12 8 r15 <| bnd (She_copy r15 r16 h12) fun _ h17 => gI h17 9 v1 2 fun x20 => pZ h17 9 v0 2 x20 fun h21 => gI h21 9 v1 3 fun x22 => pI h21 9 v0 3 x22 fun h23 => gI h23 9 v1 4 fun x24 => pI h23 9 v0 4 x24 fun h25 => gI h25 9 v1 5 fun x26 => pI h25 9 v0 5 x26 fun h27 => gI h27 9 v1 6 fun x28 => pI h27 9 v0 6 x28 fun h29 => some ((), h29)
set_option maxHeartbeats 4000000 in
set_option maxRecDepth 20000 in
theorem s_Sta_copy (v0 : Nat) (v1 : Nat) (h : AH) : CS M_Sta_copy 4 90 emV [vr v0, vr v1] h (Sta_copy v0 v1 h) := by
  refine CS.of (by decide) (Nat.le_of_ble_eq_true rfl) ?_
  show Sd M_Sta_copy 4 90 emV 0 [(0, vr v0), (1, vr v1)] [] h _
  unfold Sta_copy
  refine Sd_aload_n (pc' := 1) (dc D_Sta_copy 0 rfl) rfl 0 rfl rfl ?_
  refine Sd_getR (pc' := 4) (dc D_Sta_copy 1 rfl) rfl F_Sta_11 rfl rfl ?_
  refine Sd_iconst (pc' := 5) (dc D_Sta_copy 2 rfl) rfl ⟨by decide, by decide⟩ ?_
  refine Sd_aaload (t := 34) (j := 6) (C0 := RX9) (pc' := 6) (dc D_Sta_copy 3 rfl) rfl rfl (by decide) ?_
  refine Sd_aload_n (pc' := 7) (dc D_Sta_copy 4 rfl) rfl 1 rfl rfl ?_
  refine Sd_getR (pc' := 10) (dc D_Sta_copy 5 rfl) rfl F_Sta_11 rfl rfl ?_
  refine Sd_iconst (pc' := 11) (dc D_Sta_copy 6 rfl) rfl ⟨by decide, by decide⟩ ?_
  refine Sd_aaload (t := 34) (j := 6) (C0 := RX9) (pc' := 12) (dc D_Sta_copy 7 rfl) rfl rfl (by decide) ?_
  refine Sd.callVV (ci := 9) (t := 10) (as := [_]) RX9 (pc' := 15) (dc D_Sta_copy 8 rfl) rfl rfl rfl rfl K_Tab_copy L_Sta_52 Ks_Tab_copy Kv_Tab_copy ⟨by decide, by decide⟩ rfl rfl (Nat.le_of_ble_eq_true rfl) (s_Tab_copy _ _ _) (fun _ h5 => ?_)
  refine Sd_aload_n (pc' := 16) (dc D_Sta_copy 9 rfl) rfl 0 rfl rfl ?_
  refine Sd_getR (pc' := 19) (dc D_Sta_copy 10 rfl) rfl F_Sta_11 rfl rfl ?_
  refine Sd_iconst (pc' := 20) (dc D_Sta_copy 11 rfl) rfl ⟨by decide, by decide⟩ ?_
  refine Sd_aaload (t := 34) (j := 6) (C0 := RX9) (pc' := 21) (dc D_Sta_copy 12 rfl) rfl rfl (by decide) ?_
  refine Sd_aload_n (pc' := 22) (dc D_Sta_copy 13 rfl) rfl 1 rfl rfl ?_
  refine Sd_getR (pc' := 25) (dc D_Sta_copy 14 rfl) rfl F_Sta_11 rfl rfl ?_
  refine Sd_iconst (pc' := 26) (dc D_Sta_copy 15 rfl) rfl ⟨by decide, by decide⟩ ?_
  refine Sd_aaload (t := 34) (j := 6) (C0 := RX9) (pc' := 27) (dc D_Sta_copy 16 rfl) rfl rfl (by decide) ?_
  refine Sd.callVV (ci := 9) (t := 10) (as := [_]) RX9 (pc' := 30) (dc D_Sta_copy 17 rfl) rfl rfl rfl rfl K_Tab_copy L_Sta_52 Ks_Tab_copy Kv_Tab_copy ⟨by decide, by decide⟩ rfl rfl (Nat.le_of_ble_eq_true rfl) (s_Tab_copy _ _ _) (fun _ h12 => ?_)
  refine Sd_aload_n (pc' := 31) (dc D_Sta_copy 18 rfl) rfl 0 rfl rfl ?_
  refine Sd_getR (pc' := 34) (dc D_Sta_copy 19 rfl) rfl F_Sta_22 rfl rfl ?_
  refine Sd_aload_n (pc' := 35) (dc D_Sta_copy 20 rfl) rfl 1 rfl rfl ?_
  refine Sd_getR (pc' := 38) (dc D_Sta_copy 21 rfl) rfl F_Sta_22 rfl rfl ?_
  refine Sd.callVV (ci := 7) (t := 8) (as := [_]) RX7 (pc' := 41) (dc D_Sta_copy 22 rfl) rfl rfl rfl rfl K_She_copy L_Sta_56 Ks_She_copy Kv_She_copy ⟨by decide, by decide⟩ rfl rfl (Nat.le_of_ble_eq_true rfl) (s_She_copy _ _ _) (fun _ h17 => ?_)
  refine Sd_aload_n (pc' := 42) (dc D_Sta_copy 23 rfl) rfl 0 rfl rfl ?_
  refine Sd_aload_n (pc' := 43) (dc D_Sta_copy 24 rfl) rfl 1 rfl rfl ?_
  refine Sd_getI (pc' := 46) (dc D_Sta_copy 25 rfl) rfl F_Sta_36 rfl rfl ?_
  refine Sd_putZ (pc' := 49) (dc D_Sta_copy 26 rfl) rfl F_Sta_36 rfl rfl rfl (finOk.no rfl) (by decide) ?_
  refine Sd_aload_n (pc' := 50) (dc D_Sta_copy 27 rfl) rfl 0 rfl rfl ?_
  refine Sd_aload_n (pc' := 51) (dc D_Sta_copy 28 rfl) rfl 1 rfl rfl ?_
  refine Sd_getI (pc' := 54) (dc D_Sta_copy 29 rfl) rfl F_Sta_40 rfl rfl ?_
  refine Sd_putI (pc' := 57) (dc D_Sta_copy 30 rfl) rfl F_Sta_40 rfl rfl rfl (finOk.no rfl) (by decide) ?_
  refine Sd_aload_n (pc' := 58) (dc D_Sta_copy 31 rfl) rfl 0 rfl rfl ?_
  refine Sd_aload_n (pc' := 59) (dc D_Sta_copy 32 rfl) rfl 1 rfl rfl ?_
  refine Sd_getI (pc' := 62) (dc D_Sta_copy 33 rfl) rfl F_Sta_43 rfl rfl ?_
  refine Sd_putI (pc' := 65) (dc D_Sta_copy 34 rfl) rfl F_Sta_43 rfl rfl rfl (finOk.no rfl) (by decide) ?_
  refine Sd_aload_n (pc' := 66) (dc D_Sta_copy 35 rfl) rfl 0 rfl rfl ?_
  refine Sd_aload_n (pc' := 67) (dc D_Sta_copy 36 rfl) rfl 1 rfl rfl ?_
  refine Sd_getI (pc' := 70) (dc D_Sta_copy 37 rfl) rfl F_Sta_46 rfl rfl ?_
  refine Sd_putI (pc' := 73) (dc D_Sta_copy 38 rfl) rfl F_Sta_46 rfl rfl rfl (finOk.no rfl) (by decide) ?_
  refine Sd_aload_n (pc' := 74) (dc D_Sta_copy 39 rfl) rfl 0 rfl rfl ?_
  refine Sd_aload_n (pc' := 75) (dc D_Sta_copy 40 rfl) rfl 1 rfl rfl ?_
  refine Sd_getI (pc' := 78) (dc D_Sta_copy 41 rfl) rfl F_Sta_49 rfl rfl ?_
  refine Sd_putI (pc' := 81) (dc D_Sta_copy 42 rfl) rfl F_Sta_49 rfl rfl rfl (finOk.no rfl) (by decide) ?_
  exact Sd_vret (dc D_Sta_copy 43 rfl) rfl
theorem K_Sta_copy : MOk M_Sta_copy 1 := ⟨Tb_at 124 (by decide +kernel) rfl, Tb_at 639 (by decide +kernel) rfl, by decide +kernel, by decide +kernel, by decide +kernel⟩
theorem Ks_Sta_copy : Cond.instanceMethod yX8_copy ∈ Tb := Tb_at 637 (by decide +kernel) rfl
theorem Kv_Sta_copy : Cond.selects RX8 yX8_copy yX8_copy ∈ Tb := Tb_at 638 (by decide +kernel) rfl
/-! ===== BatchShare$World.beginWith(LBatchShare$State;)V ===== -/
abbrev M_Wor_beginWith : AMt := (yX10_beginWith, cX10_beginWith, 2, none)
def T_Wor_beginWith : List (Nat × Instr × Nat) := [(0, .aload_n 0, 1), (1, .getfield 12, 3), (4, .aload_n 1, 1), (5, .invokevirtual 22, 3), (8, .aload_n 0, 1), (9, .iconst 0, 1), (10, .putfield 30, 3), (13, .aload_n 0, 1), (14, .iconst 0, 1), (15, .putfield 33, 3), (18, .return_, 1)]
set_option maxRecDepth 20000 in
theorem D_Wor_beginWith : (T_Wor_beginWith.all fun q => decide (decode M_Wor_beginWith.2.1 q.1 = .ok q.2)) = true := by decide +kernel
def Wor_beginWith (v0 : Nat) (v1 : Nat) (h : AH) : Option (Unit × AH) := gR h 11 v0 0 fun r1 => rc h 9 r1 <| bnd (Sta_copy r1 v1 h) fun _ h2 => pI h2 11 v0 2 0 fun h5 => pI h5 11 v0 3 0 fun h6 => some ((), h6)
set_option maxHeartbeats 4000000 in
set_option maxRecDepth 20000 in
theorem s_Wor_beginWith (v0 : Nat) (v1 : Nat) (h : AH) : CS M_Wor_beginWith 5 111 emV [vr v0, vr v1] h (Wor_beginWith v0 v1 h) := by
  refine CS.of (by decide) (Nat.le_of_ble_eq_true rfl) ?_
  show Sd M_Wor_beginWith 5 111 emV 0 [(0, vr v0), (1, vr v1)] [] h _
  unfold Wor_beginWith
  refine Sd_aload_n (pc' := 1) (dc D_Wor_beginWith 0 rfl) rfl 0 rfl rfl ?_
  refine Sd_getR (pc' := 4) (dc D_Wor_beginWith 1 rfl) rfl F_Wor_12 rfl rfl ?_
  refine Sd_aload_n (pc' := 5) (dc D_Wor_beginWith 2 rfl) rfl 1 rfl rfl ?_
  refine Sd.callVV (ci := 8) (t := 9) (as := [_]) RX8 (pc' := 8) (dc D_Wor_beginWith 3 rfl) rfl rfl rfl rfl K_Sta_copy L_Wor_22 Ks_Sta_copy Kv_Sta_copy ⟨by decide, by decide⟩ rfl rfl (Nat.le_of_ble_eq_true rfl) (s_Sta_copy _ _ _) (fun _ h2 => ?_)
  refine Sd_aload_n (pc' := 9) (dc D_Wor_beginWith 4 rfl) rfl 0 rfl rfl ?_
  refine Sd_iconst (pc' := 10) (dc D_Wor_beginWith 5 rfl) rfl ⟨by decide, by decide⟩ ?_
  refine Sd_putI (pc' := 13) (dc D_Wor_beginWith 6 rfl) rfl F_Wor_30 rfl rfl rfl (finOk.no rfl) (by decide) ?_
  refine Sd_aload_n (pc' := 14) (dc D_Wor_beginWith 7 rfl) rfl 0 rfl rfl ?_
  refine Sd_iconst (pc' := 15) (dc D_Wor_beginWith 8 rfl) rfl ⟨by decide, by decide⟩ ?_
  refine Sd_putI (pc' := 18) (dc D_Wor_beginWith 9 rfl) rfl F_Wor_33 rfl rfl rfl (finOk.no rfl) (by decide) ?_
  exact Sd_vret (dc D_Wor_beginWith 10 rfl) rfl
theorem K_Wor_beginWith : MOk M_Wor_beginWith 1 := ⟨Tb_at 123 (by decide +kernel) rfl, Tb_at 635 (by decide +kernel) rfl, by decide +kernel, by decide +kernel, by decide +kernel⟩
theorem Ks_Wor_beginWith : Cond.instanceMethod yX10_beginWith ∈ Tb := Tb_at 633 (by decide +kernel) rfl
theorem Kv_Wor_beginWith : Cond.selects RX10 yX10_beginWith yX10_beginWith ∈ Tb := Tb_at 634 (by decide +kernel) rfl
/-! ===== BatchShare$State.isStruck(I)Z ===== -/
abbrev M_Sta_isStruck : AMt := (yX8_isStruck, cX8_isStruck, 2, (some .boolean))
def T_Sta_isStruck : List (Nat × Instr × Nat) := [(0, .aload_n 0, 1), (1, .getfield 43, 3), (4, .iload_n 1, 1), (5, .ishr, 1), (6, .iconst 1, 1), (7, .iand, 1), (8, .ifCond .eq 7, 3), (11, .iconst 1, 1), (12, .goto 4, 3), (15, .iconst 0, 1), (16, .ireturn, 1)]
set_option maxRecDepth 20000 in
theorem D_Sta_isStruck : (T_Sta_isStruck.all fun q => decide (decode M_Sta_isStruck.2.1 q.1 = .ok q.2)) = true := by decide +kernel
def Sta_isStruck (v0 : Nat) (v1 : Int) (h : AH) : Option (Int × AH) := gI h 9 v0 4 fun x1 => if ((iAnd (iShr x1 v1) 1) : Int) = 0 then (some (0, h)) else (some (1, h))
set_option maxHeartbeats 4000000 in
set_option maxRecDepth 20000 in
theorem s_Sta_isStruck (v0 : Nat) (v1 : Int) (h : AH) : CS M_Sta_isStruck 1 0 emI [vr v0, vi v1] h (Sta_isStruck v0 v1 h) := by
  refine CS.of (by decide) (Nat.le_of_ble_eq_true rfl) ?_
  show Sd M_Sta_isStruck 1 0 emI 0 [(0, vr v0), (1, vi v1)] [] h _
  unfold Sta_isStruck
  refine Sd_aload_n (pc' := 1) (dc D_Sta_isStruck 0 rfl) rfl 0 rfl rfl ?_
  refine Sd_getI (pc' := 4) (dc D_Sta_isStruck 1 rfl) rfl F_Sta_43 rfl rfl ?_
  refine Sd_iload_n (pc' := 5) (dc D_Sta_isStruck 2 rfl) rfl 1 rfl rfl ?_
  refine Sd_ishr (pc' := 6) (dc D_Sta_isStruck 3 rfl) rfl ?_
  refine Sd_iconst (pc' := 7) (dc D_Sta_isStruck 4 rfl) rfl ⟨by decide, by decide⟩ ?_
  refine Sd_iand (pc' := 8) (dc D_Sta_isStruck 5 rfl) rfl ?_
  refine Sd_if_eq (tgt := 15) (pc' := 11) (dc D_Sta_isStruck 6 rfl) (by decide) rfl (fun _ => ?_) (fun _ => ?_)
  · refine Sd_iconst (pc' := 16) (dc D_Sta_isStruck 9 rfl) rfl ⟨by decide, by decide⟩ ?_
    exact Sd_zret (dc D_Sta_isStruck 10 rfl) rfl (Or.inl rfl)
  · refine Sd_iconst (pc' := 12) (dc D_Sta_isStruck 7 rfl) rfl ⟨by decide, by decide⟩ ?_
    refine Sd_goto (tgt := 16) (dc D_Sta_isStruck 8 rfl) (by decide) ?_
    exact Sd_zret (dc D_Sta_isStruck 10 rfl) rfl (Or.inr rfl)
theorem K_Sta_isStruck : MOk M_Sta_isStruck 1 := ⟨Tb_at 124 (by decide +kernel) rfl, Tb_at 784 (by decide +kernel) rfl, by decide +kernel, by decide +kernel, by decide +kernel⟩
theorem Ks_Sta_isStruck : Cond.instanceMethod yX8_isStruck ∈ Tb := Tb_at 782 (by decide +kernel) rfl
theorem Kv_Sta_isStruck : Cond.selects RX8 yX8_isStruck yX8_isStruck ∈ Tb := Tb_at 783 (by decide +kernel) rfl
/-! ===== BatchShare$Shelf.leastHolding(LBatchShare$Part;I)I ===== -/
abbrev M_She_leastHolding : AMt := (yX7_leastHolding, cX7_leastHolding, 7, (some .int))
def T_She_leastHolding : List (Nat × Instr × Nat) := [(0, .bipush (-2), 2), (2, .istore_n 3, 1), (3, .iload_n 2, 1), (4, .istore 4, 2), (6, .iconst 0, 1), (7, .istore 5, 2), (9, .iload 5, 2), (11, .aload_n 0, 1), (12, .getfield 18, 3), (15, .if_icmp .ge 58, 3), (18, .aload_n 0, 1), (19, .getfield 11, 3), (22, .iload 5, 2), (24, .aaload, 1), (25, .astore 6, 2), (27, .aload 6, 2), (29, .getfield 47, 3), (32, .ifCond .ne 35, 3), (35, .aload 6, 2), (37, .getfield 41, 3), (40, .iload 4, 2), (42, .if_icmp .ge 25, 3), (45, .aload 6, 2), (47, .getfield 32, 3), (50, .aload_n 1, 1), (51, .invokevirtual 63, 3), (54, .ifCond .eq 13, 3), (57, .aload 6, 2), (59, .getfield 41, 3), (62, .istore 4, 2), (64, .iload 5, 2), (66, .istore_n 3, 1), (67, .iinc 5 1, 3), (70, .goto (-61), 3), (73, .iload_n 3, 1), (74, .ireturn, 1)]
set_option maxRecDepth 20000 in
theorem D_She_leastHolding : (T_She_leastHolding.all fun q => decide (decode M_She_leastHolding.2.1 q.1 = .ok q.2)) = true := by decide +kernel
def She_leastHolding_L9 : Nat → Nat → Nat → Int → Int → Int → AH → Option (Int × AH)
  | 0, _, _, _, _, _, _ => none
  | n + 1, v0, v1, v3, v4, v5, h => gI h 8 v0 1 fun x1 => if (x1 : Int) ≤ v5 then (some (v3, h)) else (gR h 8 v0 0 fun r2 => aR h 35 r2 v5 fun r3 => if r3 = 0 then none else gI h 3 r3 3 fun x4 => if ¬ (x4 : Int) = 0 then (She_leastHolding_L9 n v0 v1 v3 v4 ((wr (v5 + 1))) h) else (gI h 3 r3 1 fun x5 => if (v4 : Int) ≤ x5 then (She_leastHolding_L9 n v0 v1 v3 v4 ((wr (v5 + 1))) h) else (gR h 3 r3 0 fun r6 => rc h 4 r6 <| bnd (Par_holds r6 v1 h) fun x8 h7 => if (x8 : Int) = 0 then (She_leastHolding_L9 n v0 v1 v3 v4 ((wr (v5 + 1))) h7) else (gI h7 3 r3 1 fun x10 => She_leastHolding_L9 n v0 v1 v5 x10 ((wr (v5 + 1))) h7))))
set_option maxHeartbeats 4000000 in
set_option maxRecDepth 20000 in
theorem s_She_leastHolding_L9 : ∀ (n : Nat) (v0 : Nat) (v1 : Nat) (v3 : Int) (v4 : Int) (v5 : Int) (h : AH), Sd M_She_leastHolding 2 23 emI 9 [(0, vr v0), (1, vr v1), (3, vi v3), (4, vi v4), (5, vi v5)] [] h (She_leastHolding_L9 n v0 v1 v3 v4 v5 h)
  | 0, _, _, _, _, _, _ => Sd.none
  | n + 1, v0, v1, v3, v4, v5, h => by
    rw [She_leastHolding_L9]
    refine Sd_iload (pc' := 11) (dc D_She_leastHolding 6 rfl) rfl 4 rfl ?_
    refine Sd_aload_n (pc' := 12) (dc D_She_leastHolding 7 rfl) rfl 0 rfl rfl ?_
    refine Sd_getI (pc' := 15) (dc D_She_leastHolding 8 rfl) rfl F_She_18 rfl rfl ?_
    refine Sd_icmp_ge (tgt := 73) (pc' := 18) (dc D_She_leastHolding 9 rfl) (by decide) rfl (fun _ => ?_) (fun _ => ?_)
    · refine Sd_iload_n (pc' := 74) (dc D_She_leastHolding 34 rfl) rfl 2 rfl rfl ?_
      exact Sd_iret (dc D_She_leastHolding 35 rfl) rfl
    · refine Sd_aload_n (pc' := 19) (dc D_She_leastHolding 10 rfl) rfl 0 rfl rfl ?_
      refine Sd_getR (pc' := 22) (dc D_She_leastHolding 11 rfl) rfl F_She_11 rfl rfl ?_
      refine Sd_iload (pc' := 24) (dc D_She_leastHolding 12 rfl) rfl 4 rfl ?_
      refine Sd_aaload (t := 35) (j := 7) (C0 := RX2) (pc' := 25) (dc D_She_leastHolding 13 rfl) rfl rfl (by decide) ?_
      refine Sd_astore (pc' := 27) (l' := [(6, _), (0, _), (1, _), (3, _), (4, _), (5, _)]) (dc D_She_leastHolding 14 rfl) rfl (by decide) rfl (fun _ => ?_)
      refine Sd_aload (pc' := 29) (dc D_She_leastHolding 15 rfl) rfl 0 rfl ?_
      refine Sd_getI (pc' := 32) (dc D_She_leastHolding 16 rfl) rfl F_She_47 rfl rfl ?_
      refine Sd_if_ne (tgt := 67) (pc' := 35) (dc D_She_leastHolding 17 rfl) (by decide) rfl (fun _ => ?_) (fun _ => ?_)
      · refine Sd_iinc (pc' := 70) (l' := [(5, _), (6, _), (0, _), (1, _), (3, _), (4, _)]) (dc D_She_leastHolding 32 rfl) rfl 5 rfl (by decide) rfl ?_
        refine Sd_goto (tgt := 9) (dc D_She_leastHolding 33 rfl) (by decide) ?_
        refine Sd.sub (l' := [(0, _), (1, _), (3, _), (4, _), (5, _)]) [2, 3, 4, 5, 0] rfl ?_
        exact s_She_leastHolding_L9 n _ _ _ _ _ _
      · refine Sd_aload (pc' := 37) (dc D_She_leastHolding 18 rfl) rfl 0 rfl ?_
        refine Sd_getI (pc' := 40) (dc D_She_leastHolding 19 rfl) rfl F_She_41 rfl rfl ?_
        refine Sd_iload (pc' := 42) (dc D_She_leastHolding 20 rfl) rfl 4 rfl ?_
        refine Sd_icmp_ge (tgt := 67) (pc' := 45) (dc D_She_leastHolding 21 rfl) (by decide) rfl (fun _ => ?_) (fun _ => ?_)
        · refine Sd_iinc (pc' := 70) (l' := [(5, _), (6, _), (0, _), (1, _), (3, _), (4, _)]) (dc D_She_leastHolding 32 rfl) rfl 5 rfl (by decide) rfl ?_
          refine Sd_goto (tgt := 9) (dc D_She_leastHolding 33 rfl) (by decide) ?_
          refine Sd.sub (l' := [(0, _), (1, _), (3, _), (4, _), (5, _)]) [2, 3, 4, 5, 0] rfl ?_
          exact s_She_leastHolding_L9 n _ _ _ _ _ _
        · refine Sd_aload (pc' := 47) (dc D_She_leastHolding 22 rfl) rfl 0 rfl ?_
          refine Sd_getR (pc' := 50) (dc D_She_leastHolding 23 rfl) rfl F_She_32 rfl rfl ?_
          refine Sd_aload_n (pc' := 51) (dc D_She_leastHolding 24 rfl) rfl 2 rfl rfl ?_
          refine Sd.callVI (ci := 3) (t := 4) (as := [_]) RX3 (pc' := 54) (dc D_She_leastHolding 25 rfl) rfl rfl rfl rfl K_Par_holds L_She_63 Ks_Par_holds Kv_Par_holds ⟨by decide, by decide⟩ rfl rfl (Nat.le_of_ble_eq_true rfl) (s_Par_holds _ _ _) (fun x8 h7 => ?_)
          refine Sd_if_eq (tgt := 67) (pc' := 57) (dc D_She_leastHolding 26 rfl) (by decide) rfl (fun _ => ?_) (fun _ => ?_)
          · refine Sd_iinc (pc' := 70) (l' := [(5, _), (6, _), (0, _), (1, _), (3, _), (4, _)]) (dc D_She_leastHolding 32 rfl) rfl 5 rfl (by decide) rfl ?_
            refine Sd_goto (tgt := 9) (dc D_She_leastHolding 33 rfl) (by decide) ?_
            refine Sd.sub (l' := [(0, _), (1, _), (3, _), (4, _), (5, _)]) [2, 3, 4, 5, 0] rfl ?_
            exact s_She_leastHolding_L9 n _ _ _ _ _ _
          · refine Sd_aload (pc' := 59) (dc D_She_leastHolding 27 rfl) rfl 0 rfl ?_
            refine Sd_getI (pc' := 62) (dc D_She_leastHolding 28 rfl) rfl F_She_41 rfl rfl ?_
            refine Sd_istore (pc' := 64) (l' := [(4, _), (6, _), (0, _), (1, _), (3, _), (5, _)]) (dc D_She_leastHolding 29 rfl) rfl (by decide) rfl ?_
            refine Sd_iload (pc' := 66) (dc D_She_leastHolding 30 rfl) rfl 5 rfl ?_
            refine Sd_istore_n (pc' := 67) (l' := [(3, _), (4, _), (6, _), (0, _), (1, _), (5, _)]) (dc D_She_leastHolding 31 rfl) rfl rfl (by decide) rfl ?_
            refine Sd_iinc (pc' := 70) (l' := [(5, _), (3, _), (4, _), (6, _), (0, _), (1, _)]) (dc D_She_leastHolding 32 rfl) rfl 5 rfl (by decide) rfl ?_
            refine Sd_goto (tgt := 9) (dc D_She_leastHolding 33 rfl) (by decide) ?_
            refine Sd.sub (l' := [(0, _), (1, _), (3, _), (4, _), (5, _)]) [4, 5, 1, 2, 0] rfl ?_
            exact s_She_leastHolding_L9 n _ _ _ _ _ _
def She_leastHolding (v0 : Nat) (v1 : Nat) (v2 : Int) (h : AH) : Option (Int × AH) := She_leastHolding_L9 FU v0 v1 (-2) v2 0 h
set_option maxHeartbeats 4000000 in
set_option maxRecDepth 20000 in
theorem s_She_leastHolding (v0 : Nat) (v1 : Nat) (v2 : Int) (h : AH) : CS M_She_leastHolding 2 23 emI [vr v0, vr v1, vi v2] h (She_leastHolding v0 v1 v2 h) := by
  refine CS.of (by decide) (Nat.le_of_ble_eq_true rfl) ?_
  show Sd M_She_leastHolding 2 23 emI 0 [(0, vr v0), (1, vr v1), (2, vi v2)] [] h _
  unfold She_leastHolding
  refine Sd_bipush (pc' := 2) (dc D_She_leastHolding 0 rfl) rfl ⟨by decide, by decide⟩ (by decide) ?_
  refine Sd_istore_n (pc' := 3) (l' := [(3, _), (0, _), (1, _), (2, _)]) (dc D_She_leastHolding 1 rfl) rfl rfl (by decide) rfl ?_
  refine Sd_iload_n (pc' := 4) (dc D_She_leastHolding 2 rfl) rfl 3 rfl rfl ?_
  refine Sd_istore (pc' := 6) (l' := [(4, _), (3, _), (0, _), (1, _), (2, _)]) (dc D_She_leastHolding 3 rfl) rfl (by decide) rfl ?_
  refine Sd_iconst (pc' := 7) (dc D_She_leastHolding 4 rfl) rfl ⟨by decide, by decide⟩ ?_
  refine Sd_istore (pc' := 9) (l' := [(5, _), (4, _), (3, _), (0, _), (1, _), (2, _)]) (dc D_She_leastHolding 5 rfl) rfl (by decide) rfl ?_
  refine Sd.sub (l' := [(0, _), (1, _), (3, _), (4, _), (5, _)]) [3, 4, 2, 1, 0] rfl ?_
  exact s_She_leastHolding_L9 FU _ _ _ _ _ _
theorem K_She_leastHolding : MOk M_She_leastHolding 2 := ⟨Tb_at 125 (by decide +kernel) rfl, Tb_at 860 (by decide +kernel) rfl, by decide +kernel, by decide +kernel, by decide +kernel⟩
theorem Ks_She_leastHolding : Cond.instanceMethod yX7_leastHolding ∈ Tb := Tb_at 858 (by decide +kernel) rfl
theorem Kv_She_leastHolding : Cond.selects RX7 yX7_leastHolding yX7_leastHolding ∈ Tb := Tb_at 859 (by decide +kernel) rfl
/-! ===== BatchShare$Shelf.add(LBatchShare$Part;II)V ===== -/
abbrev M_She_add : AMt := (yX7_add, cX7_add, 4, none)
def T_She_add : List (Nat × Instr × Nat) := [(0, .aload_n 0, 1), (1, .getfield 18, 3), (4, .aload_n 0, 1), (5, .getfield 11, 3), (8, .arraylength, 1), (9, .if_icmp .lt 4, 3), (12, .return_, 1), (13, .aload_n 0, 1), (14, .getfield 11, 3), (17, .aload_n 0, 1), (18, .getfield 18, 3), (21, .aaload, 1), (22, .getfield 32, 3), (25, .aload_n 1, 1), (26, .invokevirtual 36, 3), (29, .aload_n 0, 1), (30, .getfield 11, 3), (33, .aload_n 0, 1), (34, .getfield 18, 3), (37, .aaload, 1), (38, .iload_n 2, 1), (39, .putfield 41, 3), (42, .aload_n 0, 1), (43, .getfield 11, 3), (46, .aload_n 0, 1), (47, .getfield 18, 3), (50, .aaload, 1), (51, .iload_n 3, 1), (52, .putfield 44, 3), (55, .aload_n 0, 1), (56, .getfield 11, 3), (59, .aload_n 0, 1), (60, .getfield 18, 3), (63, .aaload, 1), (64, .iconst 0, 1), (65, .putfield 47, 3), (68, .aload_n 0, 1), (69, .dup, 1), (70, .getfield 18, 3), (73, .iconst 1, 1), (74, .iadd, 1), (75, .putfield 18, 3), (78, .return_, 1)]
set_option maxRecDepth 20000 in
theorem D_She_add : (T_She_add.all fun q => decide (decode M_She_add.2.1 q.1 = .ok q.2)) = true := by decide +kernel
def She_add (v0 : Nat) (v1 : Nat) (v2 : Int) (v3 : Int) (h : AH) : Option (Unit × AH) := gI h 8 v0 1 fun x1 => gR h 8 v0 0 fun r2 => aN h 35 r2 fun x3 => if (x1 : Int) < x3 then (gR h 8 v0 0 fun r4 => gI h 8 v0 1 fun x5 => aR h 35 r4 x5 fun r6 => gR h 3 r6 0 fun r7 => rc h 4 r7 <| bnd (Par_copy r7 v1 h) fun _ h8 => gR h8 8 v0 0 fun r11 => gI h8 8 v0 1 fun x12 => aR h8 35 r11 x12 fun r13 => pI h8 3 r13 1 v2 fun h14 => gR h14 8 v0 0 fun r15 => gI h14 8 v0 1 fun x16 => aR h14 35 r15 x16 fun r17 => pI h14 3 r17 2 v3 fun h18 => gR h18 8 v0 0 fun r19 => gI h18 8 v0 1 fun x20 => aR h18 35 r19 x20 fun r21 => pZ h18 3 r21 3 0 fun h22 => gI h22 8 v0 1 fun x23 => pI h22 8 v0 1 (wr (x23 + 1)) fun h24 => some ((), h24)) else (some ((), h))
set_option maxHeartbeats 4000000 in
set_option maxRecDepth 20000 in
theorem s_She_add (v0 : Nat) (v1 : Nat) (v2 : Int) (v3 : Int) (h : AH) : CS M_She_add 2 47 emV [vr v0, vr v1, vi v2, vi v3] h (She_add v0 v1 v2 v3 h) := by
  refine CS.of (by decide) (Nat.le_of_ble_eq_true rfl) ?_
  show Sd M_She_add 2 47 emV 0 [(0, vr v0), (1, vr v1), (2, vi v2), (3, vi v3)] [] h _
  unfold She_add
  refine Sd_aload_n (pc' := 1) (dc D_She_add 0 rfl) rfl 0 rfl rfl ?_
  refine Sd_getI (pc' := 4) (dc D_She_add 1 rfl) rfl F_She_18 rfl rfl ?_
  refine Sd_aload_n (pc' := 5) (dc D_She_add 2 rfl) rfl 0 rfl rfl ?_
  refine Sd_getR (pc' := 8) (dc D_She_add 3 rfl) rfl F_She_11 rfl rfl ?_
  refine Sd_alen (t := 35) (j := 7) (pc' := 9) (dc D_She_add 4 rfl) rfl rfl (by decide) (by decide) ?_
  refine Sd_icmp_lt (tgt := 13) (pc' := 12) (dc D_She_add 5 rfl) (by decide) rfl (fun _ => ?_) (fun _ => ?_)
  · refine Sd_aload_n (pc' := 14) (dc D_She_add 7 rfl) rfl 0 rfl rfl ?_
    refine Sd_getR (pc' := 17) (dc D_She_add 8 rfl) rfl F_She_11 rfl rfl ?_
    refine Sd_aload_n (pc' := 18) (dc D_She_add 9 rfl) rfl 0 rfl rfl ?_
    refine Sd_getI (pc' := 21) (dc D_She_add 10 rfl) rfl F_She_18 rfl rfl ?_
    refine Sd_aaload (t := 35) (j := 7) (C0 := RX2) (pc' := 22) (dc D_She_add 11 rfl) rfl rfl (by decide) ?_
    refine Sd_getR (pc' := 25) (dc D_She_add 12 rfl) rfl F_She_32 rfl rfl ?_
    refine Sd_aload_n (pc' := 26) (dc D_She_add 13 rfl) rfl 1 rfl rfl ?_
    refine Sd.callVV (ci := 3) (t := 4) (as := [_]) RX3 (pc' := 29) (dc D_She_add 14 rfl) rfl rfl rfl rfl K_Par_copy L_She_36 Ks_Par_copy Kv_Par_copy ⟨by decide, by decide⟩ rfl rfl (Nat.le_of_ble_eq_true rfl) (s_Par_copy _ _ _) (fun _ h8 => ?_)
    refine Sd_aload_n (pc' := 30) (dc D_She_add 15 rfl) rfl 0 rfl rfl ?_
    refine Sd_getR (pc' := 33) (dc D_She_add 16 rfl) rfl F_She_11 rfl rfl ?_
    refine Sd_aload_n (pc' := 34) (dc D_She_add 17 rfl) rfl 0 rfl rfl ?_
    refine Sd_getI (pc' := 37) (dc D_She_add 18 rfl) rfl F_She_18 rfl rfl ?_
    refine Sd_aaload (t := 35) (j := 7) (C0 := RX2) (pc' := 38) (dc D_She_add 19 rfl) rfl rfl (by decide) ?_
    refine Sd_iload_n (pc' := 39) (dc D_She_add 20 rfl) rfl 2 rfl rfl ?_
    refine Sd_putI (pc' := 42) (dc D_She_add 21 rfl) rfl F_She_41 rfl rfl rfl (finOk.no rfl) (by decide) ?_
    refine Sd_aload_n (pc' := 43) (dc D_She_add 22 rfl) rfl 0 rfl rfl ?_
    refine Sd_getR (pc' := 46) (dc D_She_add 23 rfl) rfl F_She_11 rfl rfl ?_
    refine Sd_aload_n (pc' := 47) (dc D_She_add 24 rfl) rfl 0 rfl rfl ?_
    refine Sd_getI (pc' := 50) (dc D_She_add 25 rfl) rfl F_She_18 rfl rfl ?_
    refine Sd_aaload (t := 35) (j := 7) (C0 := RX2) (pc' := 51) (dc D_She_add 26 rfl) rfl rfl (by decide) ?_
    refine Sd_iload_n (pc' := 52) (dc D_She_add 27 rfl) rfl 3 rfl rfl ?_
    refine Sd_putI (pc' := 55) (dc D_She_add 28 rfl) rfl F_She_44 rfl rfl rfl (finOk.no rfl) (by decide) ?_
    refine Sd_aload_n (pc' := 56) (dc D_She_add 29 rfl) rfl 0 rfl rfl ?_
    refine Sd_getR (pc' := 59) (dc D_She_add 30 rfl) rfl F_She_11 rfl rfl ?_
    refine Sd_aload_n (pc' := 60) (dc D_She_add 31 rfl) rfl 0 rfl rfl ?_
    refine Sd_getI (pc' := 63) (dc D_She_add 32 rfl) rfl F_She_18 rfl rfl ?_
    refine Sd_aaload (t := 35) (j := 7) (C0 := RX2) (pc' := 64) (dc D_She_add 33 rfl) rfl rfl (by decide) ?_
    refine Sd_iconst (pc' := 65) (dc D_She_add 34 rfl) rfl ⟨by decide, by decide⟩ ?_
    refine Sd_putZ (pc' := 68) (dc D_She_add 35 rfl) rfl F_She_47 rfl rfl rfl (finOk.no rfl) (by decide) ?_
    refine Sd_aload_n (pc' := 69) (dc D_She_add 36 rfl) rfl 0 rfl rfl ?_
    refine Sd_dup (pc' := 70) (dc D_She_add 37 rfl) rfl (cat_r _) ?_
    refine Sd_getI (pc' := 73) (dc D_She_add 38 rfl) rfl F_She_18 rfl rfl ?_
    refine Sd_iconst (pc' := 74) (dc D_She_add 39 rfl) rfl ⟨by decide, by decide⟩ ?_
    refine Sd_iadd (pc' := 75) (dc D_She_add 40 rfl) rfl ?_
    refine Sd_putI (pc' := 78) (dc D_She_add 41 rfl) rfl F_She_18 rfl rfl rfl (finOk.no rfl) (by decide) ?_
    exact Sd_vret (dc D_She_add 42 rfl) rfl
  · exact Sd_vret (dc D_She_add 6 rfl) rfl
theorem K_She_add : MOk M_She_add 3 := ⟨Tb_at 125 (by decide +kernel) rfl, Tb_at 956 (by decide +kernel) rfl, by decide +kernel, by decide +kernel, by decide +kernel⟩
theorem Ks_She_add : Cond.instanceMethod yX7_add ∈ Tb := Tb_at 954 (by decide +kernel) rfl
theorem Kv_She_add : Cond.selects RX7 yX7_add yX7_add ∈ Tb := Tb_at 955 (by decide +kernel) rfl
/-! ===== BatchShare$Shelf.drop(I)V ===== -/
abbrev M_She_drop : AMt := (yX7_drop, cX7_drop, 4, none)
def T_She_drop : List (Nat × Instr × Nat) := [(0, .iload_n 1, 1), (1, .ifCond .lt 11, 3), (4, .iload_n 1, 1), (5, .aload_n 0, 1), (6, .getfield 18, 3), (9, .if_icmp .lt 4, 3), (12, .return_, 1), (13, .aload_n 0, 1), (14, .getfield 11, 3), (17, .iload_n 1, 1), (18, .aaload, 1), (19, .astore_n 2, 1), (20, .iload_n 1, 1), (21, .istore_n 3, 1), (22, .iload_n 3, 1), (23, .aload_n 0, 1), (24, .getfield 18, 3), (27, .iconst 1, 1), (28, .isub, 1), (29, .if_icmp .ge 23, 3), (32, .aload_n 0, 1), (33, .getfield 11, 3), (36, .iload_n 3, 1), (37, .aload_n 0, 1), (38, .getfield 11, 3), (41, .iload_n 3, 1), (42, .iconst 1, 1), (43, .iadd, 1), (44, .aaload, 1), (45, .aastore, 1), (46, .iinc 3 1, 3), (49, .goto (-27), 3), (52, .aload_n 0, 1), (53, .getfield 11, 3), (56, .aload_n 0, 1), (57, .getfield 18, 3), (60, .iconst 1, 1), (61, .isub, 1), (62, .aload_n 2, 1), (63, .aastore, 1), (64, .aload_n 0, 1), (65, .dup, 1), (66, .getfield 18, 3), (69, .iconst 1, 1), (70, .isub, 1), (71, .putfield 18, 3), (74, .return_, 1)]
set_option maxRecDepth 20000 in
theorem D_She_drop : (T_She_drop.all fun q => decide (decode M_She_drop.2.1 q.1 = .ok q.2)) = true := by decide +kernel
def She_drop_L22 : Nat → Nat → Nat → Int → AH → Option (Unit × AH)
  | 0, _, _, _, _ => none
  | n + 1, v0, v2, v3, h => gI h 8 v0 1 fun x1 => if ((wr (x1 - 1)) : Int) ≤ v3 then (gR h 8 v0 0 fun r2 => gI h 8 v0 1 fun x3 => wR h 35 r2 (wr (x3 - 1)) 3 v2 fun h4 => gI h4 8 v0 1 fun x5 => pI h4 8 v0 1 (wr (x5 - 1)) fun h6 => some ((), h6)) else (gR h 8 v0 0 fun r7 => gR h 8 v0 0 fun r8 => aR h 35 r8 (wr (v3 + 1)) fun r9 => wR h 35 r7 v3 3 r9 fun h10 => She_drop_L22 n v0 v2 ((wr (v3 + 1))) h10)
set_option maxHeartbeats 4000000 in
set_option maxRecDepth 20000 in
theorem s_She_drop_L22 : ∀ (n : Nat) (v0 : Nat) (v2 : Nat) (v3 : Int) (h : AH), Sd M_She_drop 1 0 emV 22 [(0, vr v0), (2, vr v2), (3, vi v3)] [] h (She_drop_L22 n v0 v2 v3 h)
  | 0, _, _, _, _ => Sd.none
  | n + 1, v0, v2, v3, h => by
    rw [She_drop_L22]
    refine Sd_iload_n (pc' := 23) (dc D_She_drop 14 rfl) rfl 2 rfl rfl ?_
    refine Sd_aload_n (pc' := 24) (dc D_She_drop 15 rfl) rfl 0 rfl rfl ?_
    refine Sd_getI (pc' := 27) (dc D_She_drop 16 rfl) rfl F_She_18 rfl rfl ?_
    refine Sd_iconst (pc' := 28) (dc D_She_drop 17 rfl) rfl ⟨by decide, by decide⟩ ?_
    refine Sd_isub (pc' := 29) (dc D_She_drop 18 rfl) rfl ?_
    refine Sd_icmp_ge (tgt := 52) (pc' := 32) (dc D_She_drop 19 rfl) (by decide) rfl (fun _ => ?_) (fun _ => ?_)
    · refine Sd_aload_n (pc' := 53) (dc D_She_drop 32 rfl) rfl 0 rfl rfl ?_
      refine Sd_getR (pc' := 56) (dc D_She_drop 33 rfl) rfl F_She_11 rfl rfl ?_
      refine Sd_aload_n (pc' := 57) (dc D_She_drop 34 rfl) rfl 0 rfl rfl ?_
      refine Sd_getI (pc' := 60) (dc D_She_drop 35 rfl) rfl F_She_18 rfl rfl ?_
      refine Sd_iconst (pc' := 61) (dc D_She_drop 36 rfl) rfl ⟨by decide, by decide⟩ ?_
      refine Sd_isub (pc' := 62) (dc D_She_drop 37 rfl) rfl ?_
      refine Sd_aload_n (pc' := 63) (dc D_She_drop 38 rfl) rfl 1 rfl rfl ?_
      refine Sd_aastore (t := 35) (j := 7) (ci := 2) (tv := 3) (C0 := RX2) (pc' := 64) (dc D_She_drop 39 rfl) rfl (by decide) rfl rfl rfl (by decide) ?_
      refine Sd_aload_n (pc' := 65) (dc D_She_drop 40 rfl) rfl 0 rfl rfl ?_
      refine Sd_dup (pc' := 66) (dc D_She_drop 41 rfl) rfl (cat_r _) ?_
      refine Sd_getI (pc' := 69) (dc D_She_drop 42 rfl) rfl F_She_18 rfl rfl ?_
      refine Sd_iconst (pc' := 70) (dc D_She_drop 43 rfl) rfl ⟨by decide, by decide⟩ ?_
      refine Sd_isub (pc' := 71) (dc D_She_drop 44 rfl) rfl ?_
      refine Sd_putI (pc' := 74) (dc D_She_drop 45 rfl) rfl F_She_18 rfl rfl rfl (finOk.no rfl) (by decide) ?_
      exact Sd_vret (dc D_She_drop 46 rfl) rfl
    · refine Sd_aload_n (pc' := 33) (dc D_She_drop 20 rfl) rfl 0 rfl rfl ?_
      refine Sd_getR (pc' := 36) (dc D_She_drop 21 rfl) rfl F_She_11 rfl rfl ?_
      refine Sd_iload_n (pc' := 37) (dc D_She_drop 22 rfl) rfl 2 rfl rfl ?_
      refine Sd_aload_n (pc' := 38) (dc D_She_drop 23 rfl) rfl 0 rfl rfl ?_
      refine Sd_getR (pc' := 41) (dc D_She_drop 24 rfl) rfl F_She_11 rfl rfl ?_
      refine Sd_iload_n (pc' := 42) (dc D_She_drop 25 rfl) rfl 2 rfl rfl ?_
      refine Sd_iconst (pc' := 43) (dc D_She_drop 26 rfl) rfl ⟨by decide, by decide⟩ ?_
      refine Sd_iadd (pc' := 44) (dc D_She_drop 27 rfl) rfl ?_
      refine Sd_aaload (t := 35) (j := 7) (C0 := RX2) (pc' := 45) (dc D_She_drop 28 rfl) rfl rfl (by decide) ?_
      refine Sd_aastore (t := 35) (j := 7) (ci := 2) (tv := 3) (C0 := RX2) (pc' := 46) (dc D_She_drop 29 rfl) rfl (by decide) rfl rfl rfl (by decide) ?_
      refine Sd_iinc (pc' := 49) (l' := [(3, _), (0, _), (2, _)]) (dc D_She_drop 30 rfl) rfl 2 rfl (by decide) rfl ?_
      refine Sd_goto (tgt := 22) (dc D_She_drop 31 rfl) (by decide) ?_
      refine Sd.sub (l' := [(0, _), (2, _), (3, _)]) [1, 2, 0] rfl ?_
      exact s_She_drop_L22 n _ _ _ _
def She_drop (v0 : Nat) (v1 : Int) (h : AH) : Option (Unit × AH) := if (v1 : Int) < 0 then (some ((), h)) else (gI h 8 v0 1 fun x1 => if (v1 : Int) < x1 then (gR h 8 v0 0 fun r2 => aR h 35 r2 v1 fun r3 => if r3 = 0 then none else She_drop_L22 FU v0 r3 v1 h) else (some ((), h)))
set_option maxHeartbeats 4000000 in
set_option maxRecDepth 20000 in
theorem s_She_drop (v0 : Nat) (v1 : Int) (h : AH) : CS M_She_drop 1 0 emV [vr v0, vi v1] h (She_drop v0 v1 h) := by
  refine CS.of (by decide) (Nat.le_of_ble_eq_true rfl) ?_
  show Sd M_She_drop 1 0 emV 0 [(0, vr v0), (1, vi v1)] [] h _
  unfold She_drop
  refine Sd_iload_n (pc' := 1) (dc D_She_drop 0 rfl) rfl 1 rfl rfl ?_
  refine Sd_if_lt (tgt := 12) (pc' := 4) (dc D_She_drop 1 rfl) (by decide) rfl (fun _ => ?_) (fun _ => ?_)
  · exact Sd_vret (dc D_She_drop 6 rfl) rfl
  · refine Sd_iload_n (pc' := 5) (dc D_She_drop 2 rfl) rfl 1 rfl rfl ?_
    refine Sd_aload_n (pc' := 6) (dc D_She_drop 3 rfl) rfl 0 rfl rfl ?_
    refine Sd_getI (pc' := 9) (dc D_She_drop 4 rfl) rfl F_She_18 rfl rfl ?_
    refine Sd_icmp_lt (tgt := 13) (pc' := 12) (dc D_She_drop 5 rfl) (by decide) rfl (fun _ => ?_) (fun _ => ?_)
    · refine Sd_aload_n (pc' := 14) (dc D_She_drop 7 rfl) rfl 0 rfl rfl ?_
      refine Sd_getR (pc' := 17) (dc D_She_drop 8 rfl) rfl F_She_11 rfl rfl ?_
      refine Sd_iload_n (pc' := 18) (dc D_She_drop 9 rfl) rfl 1 rfl rfl ?_
      refine Sd_aaload (t := 35) (j := 7) (C0 := RX2) (pc' := 19) (dc D_She_drop 10 rfl) rfl rfl (by decide) ?_
      refine Sd_astore_n (pc' := 20) (l' := [(2, _), (0, _), (1, _)]) (dc D_She_drop 11 rfl) rfl rfl (by decide) rfl (fun _ => ?_)
      refine Sd_iload_n (pc' := 21) (dc D_She_drop 12 rfl) rfl 2 rfl rfl ?_
      refine Sd_istore_n (pc' := 22) (l' := [(3, _), (2, _), (0, _), (1, _)]) (dc D_She_drop 13 rfl) rfl rfl (by decide) rfl ?_
      refine Sd.sub (l' := [(0, _), (2, _), (3, _)]) [2, 1, 0] rfl ?_
      exact s_She_drop_L22 FU _ _ _ _
    · exact Sd_vret (dc D_She_drop 6 rfl) rfl
theorem K_She_drop : MOk M_She_drop 1 := ⟨Tb_at 125 (by decide +kernel) rfl, Tb_at 961 (by decide +kernel) rfl, by decide +kernel, by decide +kernel, by decide +kernel⟩
theorem Ks_She_drop : Cond.instanceMethod yX7_drop ∈ Tb := Tb_at 959 (by decide +kernel) rfl
theorem Kv_She_drop : Cond.selects RX7 yX7_drop yX7_drop ∈ Tb := Tb_at 960 (by decide +kernel) rfl
/-! ===== BatchShare$World.add(LBatchShare$State;)V ===== -/
abbrev M_Wor_add : AMt := (yX10_add, cX10_add, 3, none)
def T_Wor_add : List (Nat × Instr × Nat) := [(0, .aload_n 0, 1), (1, .getfield 33, 3), (4, .bipush 20, 2), (6, .if_icmp .ne 26, 3), (9, .aload_n 0, 1), (10, .aload_n 0, 1), (11, .getfield 30, 3), (14, .iconst 1, 1), (15, .iadd, 1), (16, .bipush 20, 2), (18, .irem, 1), (19, .putfield 30, 3), (22, .aload_n 0, 1), (23, .dup, 1), (24, .getfield 33, 3), (27, .iconst 1, 1), (28, .isub, 1), (29, .putfield 33, 3), (32, .aload_n 0, 1), (33, .getfield 30, 3), (36, .aload_n 0, 1), (37, .getfield 33, 3), (40, .iadd, 1), (41, .bipush 20, 2), (43, .irem, 1), (44, .istore_n 2, 1), (45, .aload_n 0, 1), (46, .getfield 18, 3), (49, .iload_n 2, 1), (50, .aaload, 1), (51, .ifnonnull 16, 3), (54, .aload_n 0, 1), (55, .getfield 18, 3), (58, .iload_n 2, 1), (59, .new 9, 3), (62, .dup, 1), (63, .invokespecial 11, 3), (66, .aastore, 1), (67, .aload_n 0, 1), (68, .getfield 18, 3), (71, .iload_n 2, 1), (72, .aaload, 1), (73, .aload_n 1, 1), (74, .invokevirtual 22, 3), (77, .aload_n 0, 1), (78, .dup, 1), (79, .getfield 33, 3), (82, .iconst 1, 1), (83, .iadd, 1), (84, .putfield 33, 3), (87, .return_, 1)]
set_option maxRecDepth 20000 in
theorem D_Wor_add : (T_Wor_add.all fun q => decide (decode M_Wor_add.2.1 q.1 = .ok q.2)) = true := by decide +kernel
def Wor_add_L67 (v0 : Nat) (v1 : Nat) (v2 : Int) (h : AH) : Option (Unit × AH) := gR h 11 v0 1 fun r1 => aR h 33 r1 v2 fun r2 => rc h 9 r2 <| bnd (Sta_copy r2 v1 h) fun _ h3 => gI h3 11 v0 3 fun x6 => pI h3 11 v0 3 (wr (x6 + 1)) fun h7 => some ((), h7)
set_option maxHeartbeats 4000000 in
set_option maxRecDepth 20000 in
theorem s_Wor_add_L67 (v0 : Nat) (v1 : Nat) (v2 : Int) (h : AH) : Sd M_Wor_add 5 111 emV 67 [(0, vr v0), (1, vr v1), (2, vi v2)] [] h (Wor_add_L67 v0 v1 v2 h) := by
  unfold Wor_add_L67
  refine Sd_aload_n (pc' := 68) (dc D_Wor_add 38 rfl) rfl 0 rfl rfl ?_
  refine Sd_getR (pc' := 71) (dc D_Wor_add 39 rfl) rfl F_Wor_18 rfl rfl ?_
  refine Sd_iload_n (pc' := 72) (dc D_Wor_add 40 rfl) rfl 2 rfl rfl ?_
  refine Sd_aaload (t := 33) (j := 5) (C0 := RX8) (pc' := 73) (dc D_Wor_add 41 rfl) rfl rfl (by decide) ?_
  refine Sd_aload_n (pc' := 74) (dc D_Wor_add 42 rfl) rfl 1 rfl rfl ?_
  refine Sd.callVV (ci := 8) (t := 9) (as := [_]) RX8 (pc' := 77) (dc D_Wor_add 43 rfl) rfl rfl rfl rfl K_Sta_copy L_Wor_22 Ks_Sta_copy Kv_Sta_copy ⟨by decide, by decide⟩ rfl rfl (Nat.le_of_ble_eq_true rfl) (s_Sta_copy _ _ _) (fun _ h3 => ?_)
  refine Sd_aload_n (pc' := 78) (dc D_Wor_add 44 rfl) rfl 0 rfl rfl ?_
  refine Sd_dup (pc' := 79) (dc D_Wor_add 45 rfl) rfl (cat_r _) ?_
  refine Sd_getI (pc' := 82) (dc D_Wor_add 46 rfl) rfl F_Wor_33 rfl rfl ?_
  refine Sd_iconst (pc' := 83) (dc D_Wor_add 47 rfl) rfl ⟨by decide, by decide⟩ ?_
  refine Sd_iadd (pc' := 84) (dc D_Wor_add 48 rfl) rfl ?_
  refine Sd_putI (pc' := 87) (dc D_Wor_add 49 rfl) rfl F_Wor_33 rfl rfl rfl (finOk.no rfl) (by decide) ?_
  exact Sd_vret (dc D_Wor_add 50 rfl) rfl
def Wor_add_L32 (v0 : Nat) (v1 : Nat) (h : AH) : Option (Unit × AH) := gI h 11 v0 2 fun x1 => gI h 11 v0 3 fun x2 => if (20 : Int) = 0 then none else gR h 11 v0 1 fun r3 => aR h 33 r3 (iRem (wr (x1 + x2)) 20) fun r4 => if ¬ r4 = 0 then (Wor_add_L67 v0 v1 ((iRem (wr (x1 + x2)) 20)) h) else (gR h 11 v0 1 fun r5 => nO h 9 7 fun r6 h7 => bnd (Sta_init r6 h7) fun _ h8 => wR h8 33 r5 (iRem (wr (x1 + x2)) 20) 9 r6 fun h11 => Wor_add_L67 v0 v1 ((iRem (wr (x1 + x2)) 20)) h11)
set_option maxHeartbeats 4000000 in
set_option maxRecDepth 20000 in
theorem s_Wor_add_L32 (v0 : Nat) (v1 : Nat) (h : AH) : Sd M_Wor_add 5 111 emV 32 [(0, vr v0), (1, vr v1)] [] h (Wor_add_L32 v0 v1 h) := by
  unfold Wor_add_L32
  refine Sd_aload_n (pc' := 33) (dc D_Wor_add 18 rfl) rfl 0 rfl rfl ?_
  refine Sd_getI (pc' := 36) (dc D_Wor_add 19 rfl) rfl F_Wor_30 rfl rfl ?_
  refine Sd_aload_n (pc' := 37) (dc D_Wor_add 20 rfl) rfl 0 rfl rfl ?_
  refine Sd_getI (pc' := 40) (dc D_Wor_add 21 rfl) rfl F_Wor_33 rfl rfl ?_
  refine Sd_iadd (pc' := 41) (dc D_Wor_add 22 rfl) rfl ?_
  refine Sd_bipush (pc' := 43) (dc D_Wor_add 23 rfl) rfl ⟨by decide, by decide⟩ (by decide) ?_
  refine Sd_irem (pc' := 44) (dc D_Wor_add 24 rfl) rfl ?_
  refine Sd_istore_n (pc' := 45) (l' := [(2, _), (0, _), (1, _)]) (dc D_Wor_add 25 rfl) rfl rfl (by decide) rfl ?_
  refine Sd_aload_n (pc' := 46) (dc D_Wor_add 26 rfl) rfl 1 rfl rfl ?_
  refine Sd_getR (pc' := 49) (dc D_Wor_add 27 rfl) rfl F_Wor_18 rfl rfl ?_
  refine Sd_iload_n (pc' := 50) (dc D_Wor_add 28 rfl) rfl 0 rfl rfl ?_
  refine Sd_aaload (t := 33) (j := 5) (C0 := RX8) (pc' := 51) (dc D_Wor_add 29 rfl) rfl rfl (by decide) ?_
  refine Sd_ifnonnull (tgt := 67) (pc' := 54) (dc D_Wor_add 30 rfl) (by decide) rfl (fun _ => ?_) (fun _ => ?_)
  · refine Sd.sub (l' := [(0, _), (1, _), (2, _)]) [1, 2, 0] rfl ?_
    exact s_Wor_add_L67 _ _ _ _
  · refine Sd_aload_n (pc' := 55) (dc D_Wor_add 31 rfl) rfl 1 rfl rfl ?_
    refine Sd_getR (pc' := 58) (dc D_Wor_add 32 rfl) rfl F_Wor_18 rfl rfl ?_
    refine Sd_iload_n (pc' := 59) (dc D_Wor_add 33 rfl) rfl 0 rfl rfl ?_
    refine Sd_new (ci := 8) (t := 9) (sl := 7) RX8 (pc' := 62) (dc D_Wor_add 34 rfl) rfl rfl rfl C_Wor_9 Ni_Sta Nz_Sta ?_
    refine Sd_dup (pc' := 63) (dc D_Wor_add 35 rfl) rfl (cat_r _) ?_
    refine Sd.callIV (as := []) (pc' := 66) (dc D_Wor_add 36 rfl) rfl (Nat.le_add_right 16 _) K_Sta_init L_Wor_11 Ks_Sta_init rfl rfl ⟨by decide, by decide⟩ rfl rfl (Nat.le_of_ble_eq_true rfl) (s_Sta_init _ _) (fun _ h8 => ?_)
    refine Sd_aastore (t := 33) (j := 5) (ci := 8) (tv := 9) (C0 := RX8) (pc' := 67) (dc D_Wor_add 37 rfl) rfl (by decide) rfl rfl rfl (by decide) ?_
    refine Sd.sub (l' := [(0, _), (1, _), (2, _)]) [1, 2, 0] rfl ?_
    exact s_Wor_add_L67 _ _ _ _
def Wor_add (v0 : Nat) (v1 : Nat) (h : AH) : Option (Unit × AH) := gI h 11 v0 3 fun x1 => if ¬ (x1 : Int) = 20 then (Wor_add_L32 v0 v1 h) else (gI h 11 v0 2 fun x2 => if (20 : Int) = 0 then none else pI h 11 v0 2 (iRem (wr (x2 + 1)) 20) fun h3 => gI h3 11 v0 3 fun x4 => pI h3 11 v0 3 (wr (x4 - 1)) fun h5 => Wor_add_L32 v0 v1 h5)
set_option maxHeartbeats 4000000 in
set_option maxRecDepth 20000 in
theorem s_Wor_add (v0 : Nat) (v1 : Nat) (h : AH) : CS M_Wor_add 5 111 emV [vr v0, vr v1] h (Wor_add v0 v1 h) := by
  refine CS.of (by decide) (Nat.le_of_ble_eq_true rfl) ?_
  show Sd M_Wor_add 5 111 emV 0 [(0, vr v0), (1, vr v1)] [] h _
  unfold Wor_add
  refine Sd_aload_n (pc' := 1) (dc D_Wor_add 0 rfl) rfl 0 rfl rfl ?_
  refine Sd_getI (pc' := 4) (dc D_Wor_add 1 rfl) rfl F_Wor_33 rfl rfl ?_
  refine Sd_bipush (pc' := 6) (dc D_Wor_add 2 rfl) rfl ⟨by decide, by decide⟩ (by decide) ?_
  refine Sd_icmp_ne (tgt := 32) (pc' := 9) (dc D_Wor_add 3 rfl) (by decide) rfl (fun _ => ?_) (fun _ => ?_)
  · exact s_Wor_add_L32 _ _ _
  · refine Sd_aload_n (pc' := 10) (dc D_Wor_add 4 rfl) rfl 0 rfl rfl ?_
    refine Sd_aload_n (pc' := 11) (dc D_Wor_add 5 rfl) rfl 0 rfl rfl ?_
    refine Sd_getI (pc' := 14) (dc D_Wor_add 6 rfl) rfl F_Wor_30 rfl rfl ?_
    refine Sd_iconst (pc' := 15) (dc D_Wor_add 7 rfl) rfl ⟨by decide, by decide⟩ ?_
    refine Sd_iadd (pc' := 16) (dc D_Wor_add 8 rfl) rfl ?_
    refine Sd_bipush (pc' := 18) (dc D_Wor_add 9 rfl) rfl ⟨by decide, by decide⟩ (by decide) ?_
    refine Sd_irem (pc' := 19) (dc D_Wor_add 10 rfl) rfl ?_
    refine Sd_putI (pc' := 22) (dc D_Wor_add 11 rfl) rfl F_Wor_30 rfl rfl rfl (finOk.no rfl) (by decide) ?_
    refine Sd_aload_n (pc' := 23) (dc D_Wor_add 12 rfl) rfl 0 rfl rfl ?_
    refine Sd_dup (pc' := 24) (dc D_Wor_add 13 rfl) rfl (cat_r _) ?_
    refine Sd_getI (pc' := 27) (dc D_Wor_add 14 rfl) rfl F_Wor_33 rfl rfl ?_
    refine Sd_iconst (pc' := 28) (dc D_Wor_add 15 rfl) rfl ⟨by decide, by decide⟩ ?_
    refine Sd_isub (pc' := 29) (dc D_Wor_add 16 rfl) rfl ?_
    refine Sd_putI (pc' := 32) (dc D_Wor_add 17 rfl) rfl F_Wor_33 rfl rfl rfl (finOk.no rfl) (by decide) ?_
    exact s_Wor_add_L32 _ _ _
theorem K_Wor_add : MOk M_Wor_add 1 := ⟨Tb_at 123 (by decide +kernel) rfl, Tb_at 1007 (by decide +kernel) rfl, by decide +kernel, by decide +kernel, by decide +kernel⟩
theorem Ks_Wor_add : Cond.instanceMethod yX10_add ∈ Tb := Tb_at 1006 (by decide +kernel) rfl
theorem Kv_Wor_add : Cond.selects RX10 yX10_add yX10_add ∈ Tb := Tb_at 29 (by decide +kernel) rfl
/-! ===== BatchShare$World.remember()V ===== -/
abbrev M_Wor_remember : AMt := (yX10_remember, cX10_remember, 1, none)
def T_Wor_remember : List (Nat × Instr × Nat) := [(0, .aload_n 0, 1), (1, .aload_n 0, 1), (2, .getfield 12, 3), (5, .invokevirtual 36, 3), (8, .return_, 1)]
set_option maxRecDepth 20000 in
theorem D_Wor_remember : (T_Wor_remember.all fun q => decide (decode M_Wor_remember.2.1 q.1 = .ok q.2)) = true := by decide +kernel
def Wor_remember (v0 : Nat) (h : AH) : Option (Unit × AH) := gR h 11 v0 0 fun r1 => rc h 11 v0 <| bnd (Wor_add v0 r1 h) fun _ h2 => some ((), h2)
set_option maxHeartbeats 4000000 in
set_option maxRecDepth 20000 in
theorem s_Wor_remember (v0 : Nat) (h : AH) : CS M_Wor_remember 6 133 emV [vr v0] h (Wor_remember v0 h) := by
  refine CS.of (by decide) (Nat.le_of_ble_eq_true rfl) ?_
  show Sd M_Wor_remember 6 133 emV 0 [(0, vr v0)] [] h _
  unfold Wor_remember
  refine Sd_aload_n (pc' := 1) (dc D_Wor_remember 0 rfl) rfl 0 rfl rfl ?_
  refine Sd_aload_n (pc' := 2) (dc D_Wor_remember 1 rfl) rfl 0 rfl rfl ?_
  refine Sd_getR (pc' := 5) (dc D_Wor_remember 2 rfl) rfl F_Wor_12 rfl rfl ?_
  refine Sd.callVV (ci := 10) (t := 11) (as := [_]) RX10 (pc' := 8) (dc D_Wor_remember 3 rfl) rfl rfl rfl rfl K_Wor_add L_Wor_36 Ks_Wor_add Kv_Wor_add ⟨by decide, by decide⟩ rfl rfl (Nat.le_of_ble_eq_true rfl) (s_Wor_add _ _ _) (fun _ h2 => ?_)
  exact Sd_vret (dc D_Wor_remember 4 rfl) rfl
theorem K_Wor_remember : MOk M_Wor_remember 0 := ⟨Tb_at 123 (by decide +kernel) rfl, Tb_at 1003 (by decide +kernel) rfl, by decide +kernel, by decide +kernel, by decide +kernel⟩
theorem Ks_Wor_remember : Cond.instanceMethod yX10_remember ∈ Tb := Tb_at 1001 (by decide +kernel) rfl
theorem Kv_Wor_remember : Cond.selects RX10 yX10_remember yX10_remember ∈ Tb := Tb_at 1002 (by decide +kernel) rfl
/-! ===== BatchShare$Shelf.spoil(ILBatchShare$Table;I)V ===== -/
abbrev M_She_spoil : AMt := (yX7_spoil, cX7_spoil, 6, none)
def T_She_spoil : List (Nat × Instr × Nat) := [(0, .iconst 0, 1), (1, .istore 4, 2), (3, .iload 4, 2), (5, .aload_n 0, 1), (6, .getfield 18, 3), (9, .if_icmp .ge 49, 3), (12, .aload_n 0, 1), (13, .getfield 11, 3), (16, .iload 4, 2), (18, .aaload, 1), (19, .astore 5, 2), (21, .aload 5, 2), (23, .getfield 32, 3), (26, .iload_n 1, 1), (27, .invokevirtual 55, 3), (30, .ifCond .eq 22, 3), (33, .aload 5, 2), (35, .getfield 32, 3), (38, .aload_n 2, 1), (39, .iload_n 3, 1), (40, .invokevirtual 59, 3), (43, .ifCond .eq 9, 3), (46, .aload 5, 2), (48, .iconst 1, 1), (49, .putfield 47, 3), (52, .iinc 4 1, 3), (55, .goto (-52), 3), (58, .return_, 1)]
set_option maxRecDepth 20000 in
theorem D_She_spoil : (T_She_spoil.all fun q => decide (decode M_She_spoil.2.1 q.1 = .ok q.2)) = true := by decide +kernel
def She_spoil_L3 : Nat → Nat → Int → Nat → Int → Int → AH → Option (Unit × AH)
  | 0, _, _, _, _, _, _ => none
  | n + 1, v0, v1, v2, v3, v4, h => gI h 8 v0 1 fun x1 => if (x1 : Int) ≤ v4 then (some ((), h)) else (gR h 8 v0 0 fun r2 => aR h 35 r2 v4 fun r3 => if r3 = 0 then none else gR h 3 r3 0 fun r4 => rc h 4 r4 <| bnd (Par_isOver r4 v1 h) fun x6 h5 => if (x6 : Int) = 0 then (She_spoil_L3 n v0 v1 v2 v3 ((wr (v4 + 1))) h5) else (gR h5 3 r3 0 fun r8 => rc h5 4 r8 <| bnd (Par_takes r8 v2 v3 h5) fun x10 h9 => if (x10 : Int) = 0 then (She_spoil_L3 n v0 v1 v2 v3 ((wr (v4 + 1))) h9) else (pZ h9 3 r3 3 1 fun h12 => She_spoil_L3 n v0 v1 v2 v3 ((wr (v4 + 1))) h12)))
set_option maxHeartbeats 4000000 in
set_option maxRecDepth 20000 in
theorem s_She_spoil_L3 : ∀ (n : Nat) (v0 : Nat) (v1 : Int) (v2 : Nat) (v3 : Int) (v4 : Int) (h : AH), Sd M_She_spoil 3 47 emV 3 [(0, vr v0), (1, vi v1), (2, vr v2), (3, vi v3), (4, vi v4)] [] h (She_spoil_L3 n v0 v1 v2 v3 v4 h)
  | 0, _, _, _, _, _, _ => Sd.none
  | n + 1, v0, v1, v2, v3, v4, h => by
    rw [She_spoil_L3]
    refine Sd_iload (pc' := 5) (dc D_She_spoil 2 rfl) rfl 4 rfl ?_
    refine Sd_aload_n (pc' := 6) (dc D_She_spoil 3 rfl) rfl 0 rfl rfl ?_
    refine Sd_getI (pc' := 9) (dc D_She_spoil 4 rfl) rfl F_She_18 rfl rfl ?_
    refine Sd_icmp_ge (tgt := 58) (pc' := 12) (dc D_She_spoil 5 rfl) (by decide) rfl (fun _ => ?_) (fun _ => ?_)
    · exact Sd_vret (dc D_She_spoil 27 rfl) rfl
    · refine Sd_aload_n (pc' := 13) (dc D_She_spoil 6 rfl) rfl 0 rfl rfl ?_
      refine Sd_getR (pc' := 16) (dc D_She_spoil 7 rfl) rfl F_She_11 rfl rfl ?_
      refine Sd_iload (pc' := 18) (dc D_She_spoil 8 rfl) rfl 4 rfl ?_
      refine Sd_aaload (t := 35) (j := 7) (C0 := RX2) (pc' := 19) (dc D_She_spoil 9 rfl) rfl rfl (by decide) ?_
      refine Sd_astore (pc' := 21) (l' := [(5, _), (0, _), (1, _), (2, _), (3, _), (4, _)]) (dc D_She_spoil 10 rfl) rfl (by decide) rfl (fun _ => ?_)
      refine Sd_aload (pc' := 23) (dc D_She_spoil 11 rfl) rfl 0 rfl ?_
      refine Sd_getR (pc' := 26) (dc D_She_spoil 12 rfl) rfl F_She_32 rfl rfl ?_
      refine Sd_iload_n (pc' := 27) (dc D_She_spoil 13 rfl) rfl 2 rfl rfl ?_
      refine Sd.callVI (ci := 3) (t := 4) (as := [_]) RX3 (pc' := 30) (dc D_She_spoil 14 rfl) rfl rfl rfl rfl K_Par_isOver L_She_55 Ks_Par_isOver Kv_Par_isOver ⟨by decide, by decide⟩ rfl rfl (Nat.le_of_ble_eq_true rfl) (s_Par_isOver _ _ _) (fun x6 h5 => ?_)
      refine Sd_if_eq (tgt := 52) (pc' := 33) (dc D_She_spoil 15 rfl) (by decide) rfl (fun _ => ?_) (fun _ => ?_)
      · refine Sd_iinc (pc' := 55) (l' := [(4, _), (5, _), (0, _), (1, _), (2, _), (3, _)]) (dc D_She_spoil 25 rfl) rfl 5 rfl (by decide) rfl ?_
        refine Sd_goto (tgt := 3) (dc D_She_spoil 26 rfl) (by decide) ?_
        refine Sd.sub (l' := [(0, _), (1, _), (2, _), (3, _), (4, _)]) [2, 3, 4, 5, 0] rfl ?_
        exact s_She_spoil_L3 n _ _ _ _ _ _
      · refine Sd_aload (pc' := 35) (dc D_She_spoil 16 rfl) rfl 0 rfl ?_
        refine Sd_getR (pc' := 38) (dc D_She_spoil 17 rfl) rfl F_She_32 rfl rfl ?_
        refine Sd_aload_n (pc' := 39) (dc D_She_spoil 18 rfl) rfl 3 rfl rfl ?_
        refine Sd_iload_n (pc' := 40) (dc D_She_spoil 19 rfl) rfl 4 rfl rfl ?_
        refine Sd.callVI (ci := 3) (t := 4) (as := [_, _]) RX3 (pc' := 43) (dc D_She_spoil 20 rfl) rfl rfl rfl rfl K_Par_takes L_She_59 Ks_Par_takes Kv_Par_takes ⟨by decide, by decide⟩ rfl rfl (Nat.le_of_ble_eq_true rfl) (s_Par_takes _ _ _ _) (fun x10 h9 => ?_)
        refine Sd_if_eq (tgt := 52) (pc' := 46) (dc D_She_spoil 21 rfl) (by decide) rfl (fun _ => ?_) (fun _ => ?_)
        · refine Sd_iinc (pc' := 55) (l' := [(4, _), (5, _), (0, _), (1, _), (2, _), (3, _)]) (dc D_She_spoil 25 rfl) rfl 5 rfl (by decide) rfl ?_
          refine Sd_goto (tgt := 3) (dc D_She_spoil 26 rfl) (by decide) ?_
          refine Sd.sub (l' := [(0, _), (1, _), (2, _), (3, _), (4, _)]) [2, 3, 4, 5, 0] rfl ?_
          exact s_She_spoil_L3 n _ _ _ _ _ _
        · refine Sd_aload (pc' := 48) (dc D_She_spoil 22 rfl) rfl 0 rfl ?_
          refine Sd_iconst (pc' := 49) (dc D_She_spoil 23 rfl) rfl ⟨by decide, by decide⟩ ?_
          refine Sd_putZ (pc' := 52) (dc D_She_spoil 24 rfl) rfl F_She_47 rfl rfl rfl (finOk.no rfl) (by decide) ?_
          refine Sd_iinc (pc' := 55) (l' := [(4, _), (5, _), (0, _), (1, _), (2, _), (3, _)]) (dc D_She_spoil 25 rfl) rfl 5 rfl (by decide) rfl ?_
          refine Sd_goto (tgt := 3) (dc D_She_spoil 26 rfl) (by decide) ?_
          refine Sd.sub (l' := [(0, _), (1, _), (2, _), (3, _), (4, _)]) [2, 3, 4, 5, 0] rfl ?_
          exact s_She_spoil_L3 n _ _ _ _ _ _
def She_spoil (v0 : Nat) (v1 : Int) (v2 : Nat) (v3 : Int) (h : AH) : Option (Unit × AH) := She_spoil_L3 FU v0 v1 v2 v3 0 h
set_option maxHeartbeats 4000000 in
set_option maxRecDepth 20000 in
theorem s_She_spoil (v0 : Nat) (v1 : Int) (v2 : Nat) (v3 : Int) (h : AH) : CS M_She_spoil 3 47 emV [vr v0, vi v1, vr v2, vi v3] h (She_spoil v0 v1 v2 v3 h) := by
  refine CS.of (by decide) (Nat.le_of_ble_eq_true rfl) ?_
  show Sd M_She_spoil 3 47 emV 0 [(0, vr v0), (1, vi v1), (2, vr v2), (3, vi v3)] [] h _
  unfold She_spoil
  refine Sd_iconst (pc' := 1) (dc D_She_spoil 0 rfl) rfl ⟨by decide, by decide⟩ ?_
  refine Sd_istore (pc' := 3) (l' := [(4, _), (0, _), (1, _), (2, _), (3, _)]) (dc D_She_spoil 1 rfl) rfl (by decide) rfl ?_
  refine Sd.sub (l' := [(0, _), (1, _), (2, _), (3, _), (4, _)]) [1, 2, 3, 4, 0] rfl ?_
  exact s_She_spoil_L3 FU _ _ _ _ _ _
theorem K_She_spoil : MOk M_She_spoil 3 := ⟨Tb_at 125 (by decide +kernel) rfl, Tb_at 1012 (by decide +kernel) rfl, by decide +kernel, by decide +kernel, by decide +kernel⟩
theorem Ks_She_spoil : Cond.instanceMethod yX7_spoil ∈ Tb := Tb_at 1010 (by decide +kernel) rfl
theorem Kv_She_spoil : Cond.selects RX7 yX7_spoil yX7_spoil ∈ Tb := Tb_at 1011 (by decide +kernel) rfl
/-! ===== BatchShare$State.replace(IIII)V ===== -/
abbrev M_Sta_replace : AMt := (yX8_replace, cX8_replace, 5, none)
def T_Sta_replace : List (Nat × Instr × Nat) := [(0, .aload_n 0, 1), (1, .getfield 22, 3), (4, .iload_n 1, 1), (5, .aload_n 0, 1), (6, .getfield 11, 3), (9, .iload_n 1, 1), (10, .aaload, 1), (11, .iload_n 2, 1), (12, .invokevirtual 59, 3), (15, .aload_n 0, 1), (16, .getfield 11, 3), (19, .iload_n 1, 1), (20, .aaload, 1), (21, .iload_n 2, 1), (22, .iload_n 3, 1), (23, .iload 4, 2), (25, .invokevirtual 63, 3), (28, .aload_n 0, 1), (29, .getfield 22, 3), (32, .iload_n 1, 1), (33, .aload_n 0, 1), (34, .getfield 11, 3), (37, .iload_n 1, 1), (38, .aaload, 1), (39, .iload_n 2, 1), (40, .invokevirtual 59, 3), (43, .return_, 1)]
set_option maxRecDepth 20000 in
theorem D_Sta_replace : (T_Sta_replace.all fun q => decide (decode M_Sta_replace.2.1 q.1 = .ok q.2)) = true := by decide +kernel
def Sta_replace (v0 : Nat) (v1 : Int) (v2 : Int) (v3 : Int) (v4 : Int) (h : AH) : Option (Unit × AH) := gR h 9 v0 1 fun r1 => gR h 9 v0 0 fun r2 => aR h 34 r2 v1 fun r3 => rc h 8 r1 <| bnd (She_spoil r1 v1 r3 v2 h) fun _ h4 => gR h4 9 v0 0 fun r7 => aR h4 34 r7 v1 fun r8 => rc h4 10 r8 <| bnd (Tab_write r8 v2 v3 v4 h4) fun _ h9 => gR h9 9 v0 1 fun r12 => gR h9 9 v0 0 fun r13 => aR h9 34 r13 v1 fun r14 => rc h9 8 r12 <| bnd (She_spoil r12 v1 r14 v2 h9) fun _ h15 => some ((), h15)
set_option maxHeartbeats 4000000 in
set_option maxRecDepth 20000 in
theorem s_Sta_replace (v0 : Nat) (v1 : Int) (v2 : Int) (v3 : Int) (v4 : Int) (h : AH) : CS M_Sta_replace 4 72 emV [vr v0, vi v1, vi v2, vi v3, vi v4] h (Sta_replace v0 v1 v2 v3 v4 h) := by
  refine CS.of (by decide) (Nat.le_of_ble_eq_true rfl) ?_
  show Sd M_Sta_replace 4 72 emV 0 [(0, vr v0), (1, vi v1), (2, vi v2), (3, vi v3), (4, vi v4)] [] h _
  unfold Sta_replace
  refine Sd_aload_n (pc' := 1) (dc D_Sta_replace 0 rfl) rfl 0 rfl rfl ?_
  refine Sd_getR (pc' := 4) (dc D_Sta_replace 1 rfl) rfl F_Sta_22 rfl rfl ?_
  refine Sd_iload_n (pc' := 5) (dc D_Sta_replace 2 rfl) rfl 1 rfl rfl ?_
  refine Sd_aload_n (pc' := 6) (dc D_Sta_replace 3 rfl) rfl 0 rfl rfl ?_
  refine Sd_getR (pc' := 9) (dc D_Sta_replace 4 rfl) rfl F_Sta_11 rfl rfl ?_
  refine Sd_iload_n (pc' := 10) (dc D_Sta_replace 5 rfl) rfl 1 rfl rfl ?_
  refine Sd_aaload (t := 34) (j := 6) (C0 := RX9) (pc' := 11) (dc D_Sta_replace 6 rfl) rfl rfl (by decide) ?_
  refine Sd_iload_n (pc' := 12) (dc D_Sta_replace 7 rfl) rfl 2 rfl rfl ?_
  refine Sd.callVV (ci := 7) (t := 8) (as := [_, _, _]) RX7 (pc' := 15) (dc D_Sta_replace 8 rfl) rfl rfl rfl rfl K_She_spoil L_Sta_59 Ks_She_spoil Kv_She_spoil ⟨by decide, by decide⟩ rfl rfl (Nat.le_of_ble_eq_true rfl) (s_She_spoil _ _ _ _ _) (fun _ h4 => ?_)
  refine Sd_aload_n (pc' := 16) (dc D_Sta_replace 9 rfl) rfl 0 rfl rfl ?_
  refine Sd_getR (pc' := 19) (dc D_Sta_replace 10 rfl) rfl F_Sta_11 rfl rfl ?_
  refine Sd_iload_n (pc' := 20) (dc D_Sta_replace 11 rfl) rfl 1 rfl rfl ?_
  refine Sd_aaload (t := 34) (j := 6) (C0 := RX9) (pc' := 21) (dc D_Sta_replace 12 rfl) rfl rfl (by decide) ?_
  refine Sd_iload_n (pc' := 22) (dc D_Sta_replace 13 rfl) rfl 2 rfl rfl ?_
  refine Sd_iload_n (pc' := 23) (dc D_Sta_replace 14 rfl) rfl 3 rfl rfl ?_
  refine Sd_iload (pc' := 25) (dc D_Sta_replace 15 rfl) rfl 4 rfl ?_
  refine Sd.callVV (ci := 9) (t := 10) (as := [_, _, _]) RX9 (pc' := 28) (dc D_Sta_replace 16 rfl) rfl rfl rfl rfl K_Tab_write L_Sta_63 Ks_Tab_write Kv_Tab_write ⟨by decide, by decide⟩ rfl rfl (Nat.le_of_ble_eq_true rfl) (s_Tab_write _ _ _ _ _) (fun _ h9 => ?_)
  refine Sd_aload_n (pc' := 29) (dc D_Sta_replace 17 rfl) rfl 0 rfl rfl ?_
  refine Sd_getR (pc' := 32) (dc D_Sta_replace 18 rfl) rfl F_Sta_22 rfl rfl ?_
  refine Sd_iload_n (pc' := 33) (dc D_Sta_replace 19 rfl) rfl 1 rfl rfl ?_
  refine Sd_aload_n (pc' := 34) (dc D_Sta_replace 20 rfl) rfl 0 rfl rfl ?_
  refine Sd_getR (pc' := 37) (dc D_Sta_replace 21 rfl) rfl F_Sta_11 rfl rfl ?_
  refine Sd_iload_n (pc' := 38) (dc D_Sta_replace 22 rfl) rfl 1 rfl rfl ?_
  refine Sd_aaload (t := 34) (j := 6) (C0 := RX9) (pc' := 39) (dc D_Sta_replace 23 rfl) rfl rfl (by decide) ?_
  refine Sd_iload_n (pc' := 40) (dc D_Sta_replace 24 rfl) rfl 2 rfl rfl ?_
  refine Sd.callVV (ci := 7) (t := 8) (as := [_, _, _]) RX7 (pc' := 43) (dc D_Sta_replace 25 rfl) rfl rfl rfl rfl K_She_spoil L_Sta_59 Ks_She_spoil Kv_She_spoil ⟨by decide, by decide⟩ rfl rfl (Nat.le_of_ble_eq_true rfl) (s_She_spoil _ _ _ _ _) (fun _ h15 => ?_)
  exact Sd_vret (dc D_Sta_replace 26 rfl) rfl
theorem K_Sta_replace : MOk M_Sta_replace 4 := ⟨Tb_at 124 (by decide +kernel) rfl, Tb_at 1033 (by decide +kernel) rfl, by decide +kernel, by decide +kernel, by decide +kernel⟩
theorem Ks_Sta_replace : Cond.instanceMethod yX8_replace ∈ Tb := Tb_at 1031 (by decide +kernel) rfl
theorem Kv_Sta_replace : Cond.selects RX8 yX8_replace yX8_replace ∈ Tb := Tb_at 1032 (by decide +kernel) rfl
/-! ===== BatchShare$Shelf.has(LBatchShare$Part;)Z ===== -/
abbrev M_She_has : AMt := (yX7_has, cX7_has, 3, (some .boolean))
def T_She_has : List (Nat × Instr × Nat) := [(0, .iconst 0, 1), (1, .istore_n 2, 1), (2, .iload_n 2, 1), (3, .aload_n 0, 1), (4, .getfield 18, 3), (7, .if_icmp .ge 27, 3), (10, .aload_n 0, 1), (11, .getfield 11, 3), (14, .iload_n 2, 1), (15, .aaload, 1), (16, .getfield 32, 3), (19, .aload_n 1, 1), (20, .invokevirtual 51, 3), (23, .ifCond .eq 5, 3), (26, .iconst 1, 1), (27, .ireturn, 1), (28, .iinc 2 1, 3), (31, .goto (-29), 3), (34, .iconst 0, 1), (35, .ireturn, 1)]
set_option maxRecDepth 20000 in
theorem D_She_has : (T_She_has.all fun q => decide (decode M_She_has.2.1 q.1 = .ok q.2)) = true := by decide +kernel
def She_has_L2 : Nat → Nat → Nat → Int → AH → Option (Int × AH)
  | 0, _, _, _, _ => none
  | n + 1, v0, v1, v2, h => gI h 8 v0 1 fun x1 => if (x1 : Int) ≤ v2 then (some (0, h)) else (gR h 8 v0 0 fun r2 => aR h 35 r2 v2 fun r3 => gR h 3 r3 0 fun r4 => rc h 4 r4 <| bnd (Par_isLike r4 v1 h) fun x6 h5 => if (x6 : Int) = 0 then (She_has_L2 n v0 v1 ((wr (v2 + 1))) h5) else (some (1, h5)))
set_option maxHeartbeats 4000000 in
set_option maxRecDepth 20000 in
theorem s_She_has_L2 : ∀ (n : Nat) (v0 : Nat) (v1 : Nat) (v2 : Int) (h : AH), Sd M_She_has 2 22 emI 2 [(0, vr v0), (1, vr v1), (2, vi v2)] [] h (She_has_L2 n v0 v1 v2 h)
  | 0, _, _, _, _ => Sd.none
  | n + 1, v0, v1, v2, h => by
    rw [She_has_L2]
    refine Sd_iload_n (pc' := 3) (dc D_She_has 2 rfl) rfl 2 rfl rfl ?_
    refine Sd_aload_n (pc' := 4) (dc D_She_has 3 rfl) rfl 0 rfl rfl ?_
    refine Sd_getI (pc' := 7) (dc D_She_has 4 rfl) rfl F_She_18 rfl rfl ?_
    refine Sd_icmp_ge (tgt := 34) (pc' := 10) (dc D_She_has 5 rfl) (by decide) rfl (fun _ => ?_) (fun _ => ?_)
    · refine Sd_iconst (pc' := 35) (dc D_She_has 18 rfl) rfl ⟨by decide, by decide⟩ ?_
      exact Sd_zret (dc D_She_has 19 rfl) rfl (Or.inl rfl)
    · refine Sd_aload_n (pc' := 11) (dc D_She_has 6 rfl) rfl 0 rfl rfl ?_
      refine Sd_getR (pc' := 14) (dc D_She_has 7 rfl) rfl F_She_11 rfl rfl ?_
      refine Sd_iload_n (pc' := 15) (dc D_She_has 8 rfl) rfl 2 rfl rfl ?_
      refine Sd_aaload (t := 35) (j := 7) (C0 := RX2) (pc' := 16) (dc D_She_has 9 rfl) rfl rfl (by decide) ?_
      refine Sd_getR (pc' := 19) (dc D_She_has 10 rfl) rfl F_She_32 rfl rfl ?_
      refine Sd_aload_n (pc' := 20) (dc D_She_has 11 rfl) rfl 1 rfl rfl ?_
      refine Sd.callVI (ci := 3) (t := 4) (as := [_]) RX3 (pc' := 23) (dc D_She_has 12 rfl) rfl rfl rfl rfl K_Par_isLike L_She_51 Ks_Par_isLike Kv_Par_isLike ⟨by decide, by decide⟩ rfl rfl (Nat.le_of_ble_eq_true rfl) (s_Par_isLike _ _ _) (fun x6 h5 => ?_)
      refine Sd_if_eq (tgt := 28) (pc' := 26) (dc D_She_has 13 rfl) (by decide) rfl (fun _ => ?_) (fun _ => ?_)
      · refine Sd_iinc (pc' := 31) (l' := [(2, _), (0, _), (1, _)]) (dc D_She_has 16 rfl) rfl 2 rfl (by decide) rfl ?_
        refine Sd_goto (tgt := 2) (dc D_She_has 17 rfl) (by decide) ?_
        refine Sd.sub (l' := [(0, _), (1, _), (2, _)]) [1, 2, 0] rfl ?_
        exact s_She_has_L2 n _ _ _ _
      · refine Sd_iconst (pc' := 27) (dc D_She_has 14 rfl) rfl ⟨by decide, by decide⟩ ?_
        exact Sd_zret (dc D_She_has 15 rfl) rfl (Or.inr rfl)
def She_has (v0 : Nat) (v1 : Nat) (h : AH) : Option (Int × AH) := She_has_L2 FU v0 v1 0 h
set_option maxHeartbeats 4000000 in
set_option maxRecDepth 20000 in
theorem s_She_has (v0 : Nat) (v1 : Nat) (h : AH) : CS M_She_has 2 22 emI [vr v0, vr v1] h (She_has v0 v1 h) := by
  refine CS.of (by decide) (Nat.le_of_ble_eq_true rfl) ?_
  show Sd M_She_has 2 22 emI 0 [(0, vr v0), (1, vr v1)] [] h _
  unfold She_has
  refine Sd_iconst (pc' := 1) (dc D_She_has 0 rfl) rfl ⟨by decide, by decide⟩ ?_
  refine Sd_istore_n (pc' := 2) (l' := [(2, _), (0, _), (1, _)]) (dc D_She_has 1 rfl) rfl rfl (by decide) rfl ?_
  refine Sd.sub (l' := [(0, _), (1, _), (2, _)]) [1, 2, 0] rfl ?_
  exact s_She_has_L2 FU _ _ _ _
theorem K_She_has : MOk M_She_has 1 := ⟨Tb_at 125 (by decide +kernel) rfl, Tb_at 1053 (by decide +kernel) rfl, by decide +kernel, by decide +kernel, by decide +kernel⟩
theorem Ks_She_has : Cond.instanceMethod yX7_has ∈ Tb := Tb_at 1051 (by decide +kernel) rfl
theorem Kv_She_has : Cond.selects RX7 yX7_has yX7_has ∈ Tb := Tb_at 1052 (by decide +kernel) rfl
/-! ===== BatchShare$Shelf.rowsOfAll()I ===== -/
abbrev M_She_rowsOfAll : AMt := (yX7_rowsOfAll, cX7_rowsOfAll, 3, (some .int))
def T_She_rowsOfAll : List (Nat × Instr × Nat) := [(0, .iconst 0, 1), (1, .istore_n 1, 1), (2, .iconst 0, 1), (3, .istore_n 2, 1), (4, .iload_n 2, 1), (5, .aload_n 0, 1), (6, .getfield 18, 3), (9, .if_icmp .ge 21, 3), (12, .iload_n 1, 1), (13, .aload_n 0, 1), (14, .getfield 11, 3), (17, .iload_n 2, 1), (18, .aaload, 1), (19, .getfield 41, 3), (22, .iadd, 1), (23, .istore_n 1, 1), (24, .iinc 2 1, 3), (27, .goto (-23), 3), (30, .iload_n 1, 1), (31, .ireturn, 1)]
set_option maxRecDepth 20000 in
theorem D_She_rowsOfAll : (T_She_rowsOfAll.all fun q => decide (decode M_She_rowsOfAll.2.1 q.1 = .ok q.2)) = true := by decide +kernel
def She_rowsOfAll_L4 : Nat → Nat → Int → Int → AH → Option (Int × AH)
  | 0, _, _, _, _ => none
  | n + 1, v0, v1, v2, h => gI h 8 v0 1 fun x1 => if (x1 : Int) ≤ v2 then (some (v1, h)) else (gR h 8 v0 0 fun r2 => aR h 35 r2 v2 fun r3 => gI h 3 r3 1 fun x4 => She_rowsOfAll_L4 n v0 ((wr (v1 + x4))) ((wr (v2 + 1))) h)
set_option maxHeartbeats 4000000 in
set_option maxRecDepth 20000 in
theorem s_She_rowsOfAll_L4 : ∀ (n : Nat) (v0 : Nat) (v1 : Int) (v2 : Int) (h : AH), Sd M_She_rowsOfAll 1 0 emI 4 [(0, vr v0), (1, vi v1), (2, vi v2)] [] h (She_rowsOfAll_L4 n v0 v1 v2 h)
  | 0, _, _, _, _ => Sd.none
  | n + 1, v0, v1, v2, h => by
    rw [She_rowsOfAll_L4]
    refine Sd_iload_n (pc' := 5) (dc D_She_rowsOfAll 4 rfl) rfl 2 rfl rfl ?_
    refine Sd_aload_n (pc' := 6) (dc D_She_rowsOfAll 5 rfl) rfl 0 rfl rfl ?_
    refine Sd_getI (pc' := 9) (dc D_She_rowsOfAll 6 rfl) rfl F_She_18 rfl rfl ?_
    refine Sd_icmp_ge (tgt := 30) (pc' := 12) (dc D_She_rowsOfAll 7 rfl) (by decide) rfl (fun _ => ?_) (fun _ => ?_)
    · refine Sd_iload_n (pc' := 31) (dc D_She_rowsOfAll 18 rfl) rfl 1 rfl rfl ?_
      exact Sd_iret (dc D_She_rowsOfAll 19 rfl) rfl
    · refine Sd_iload_n (pc' := 13) (dc D_She_rowsOfAll 8 rfl) rfl 1 rfl rfl ?_
      refine Sd_aload_n (pc' := 14) (dc D_She_rowsOfAll 9 rfl) rfl 0 rfl rfl ?_
      refine Sd_getR (pc' := 17) (dc D_She_rowsOfAll 10 rfl) rfl F_She_11 rfl rfl ?_
      refine Sd_iload_n (pc' := 18) (dc D_She_rowsOfAll 11 rfl) rfl 2 rfl rfl ?_
      refine Sd_aaload (t := 35) (j := 7) (C0 := RX2) (pc' := 19) (dc D_She_rowsOfAll 12 rfl) rfl rfl (by decide) ?_
      refine Sd_getI (pc' := 22) (dc D_She_rowsOfAll 13 rfl) rfl F_She_41 rfl rfl ?_
      refine Sd_iadd (pc' := 23) (dc D_She_rowsOfAll 14 rfl) rfl ?_
      refine Sd_istore_n (pc' := 24) (l' := [(1, _), (0, _), (2, _)]) (dc D_She_rowsOfAll 15 rfl) rfl rfl (by decide) rfl ?_
      refine Sd_iinc (pc' := 27) (l' := [(2, _), (1, _), (0, _)]) (dc D_She_rowsOfAll 16 rfl) rfl 2 rfl (by decide) rfl ?_
      refine Sd_goto (tgt := 4) (dc D_She_rowsOfAll 17 rfl) (by decide) ?_
      refine Sd.sub (l' := [(0, _), (1, _), (2, _)]) [2, 1, 0] rfl ?_
      exact s_She_rowsOfAll_L4 n _ _ _ _
def She_rowsOfAll (v0 : Nat) (h : AH) : Option (Int × AH) := She_rowsOfAll_L4 FU v0 0 0 h
set_option maxHeartbeats 4000000 in
set_option maxRecDepth 20000 in
theorem s_She_rowsOfAll (v0 : Nat) (h : AH) : CS M_She_rowsOfAll 1 0 emI [vr v0] h (She_rowsOfAll v0 h) := by
  refine CS.of (by decide) (Nat.le_of_ble_eq_true rfl) ?_
  show Sd M_She_rowsOfAll 1 0 emI 0 [(0, vr v0)] [] h _
  unfold She_rowsOfAll
  refine Sd_iconst (pc' := 1) (dc D_She_rowsOfAll 0 rfl) rfl ⟨by decide, by decide⟩ ?_
  refine Sd_istore_n (pc' := 2) (l' := [(1, _), (0, _)]) (dc D_She_rowsOfAll 1 rfl) rfl rfl (by decide) rfl ?_
  refine Sd_iconst (pc' := 3) (dc D_She_rowsOfAll 2 rfl) rfl ⟨by decide, by decide⟩ ?_
  refine Sd_istore_n (pc' := 4) (l' := [(2, _), (1, _), (0, _)]) (dc D_She_rowsOfAll 3 rfl) rfl rfl (by decide) rfl ?_
  refine Sd.sub (l' := [(0, _), (1, _), (2, _)]) [2, 1, 0] rfl ?_
  exact s_She_rowsOfAll_L4 FU _ _ _ _
theorem K_She_rowsOfAll : MOk M_She_rowsOfAll 0 := ⟨Tb_at 125 (by decide +kernel) rfl, Tb_at 1066 (by decide +kernel) rfl, by decide +kernel, by decide +kernel, by decide +kernel⟩
theorem Ks_She_rowsOfAll : Cond.instanceMethod yX7_rowsOfAll ∈ Tb := Tb_at 1064 (by decide +kernel) rfl
theorem Kv_She_rowsOfAll : Cond.selects RX7 yX7_rowsOfAll yX7_rowsOfAll ∈ Tb := Tb_at 1065 (by decide +kernel) rfl
/-! ===== BatchShare$State.lacksRoom(I)Z ===== -/
abbrev M_Sta_lacksRoom : AMt := (yX8_lacksRoom, cX8_lacksRoom, 2, (some .boolean))
def T_Sta_lacksRoom : List (Nat × Instr × Nat) := [(0, .aload_n 0, 1), (1, .getfield 22, 3), (4, .getfield 77, 3), (7, .bipush 6, 2), (9, .if_icmp .ge 19, 3), (12, .aload_n 0, 1), (13, .getfield 22, 3), (16, .invokevirtual 78, 3), (19, .iload_n 1, 1), (20, .iadd, 1), (21, .aload_n 0, 1), (22, .getfield 40, 3), (25, .if_icmp .le 7, 3), (28, .iconst 1, 1), (29, .goto 4, 3), (32, .iconst 0, 1), (33, .ireturn, 1)]
set_option maxRecDepth 20000 in
theorem D_Sta_lacksRoom : (T_Sta_lacksRoom.all fun q => decide (decode M_Sta_lacksRoom.2.1 q.1 = .ok q.2)) = true := by decide +kernel
def Sta_lacksRoom (v0 : Nat) (v1 : Int) (h : AH) : Option (Int × AH) := gR h 9 v0 1 fun r1 => gI h 8 r1 1 fun x2 => if (6 : Int) ≤ x2 then (some (1, h)) else (gR h 9 v0 1 fun r3 => rc h 8 r3 <| bnd (She_rowsOfAll r3 h) fun x5 h4 => gI h4 9 v0 3 fun x7 => if ((wr (x5 + v1)) : Int) ≤ x7 then (some (0, h4)) else (some (1, h4)))
set_option maxHeartbeats 4000000 in
set_option maxRecDepth 20000 in
theorem s_Sta_lacksRoom (v0 : Nat) (v1 : Int) (h : AH) : CS M_Sta_lacksRoom 2 22 emI [vr v0, vi v1] h (Sta_lacksRoom v0 v1 h) := by
  refine CS.of (by decide) (Nat.le_of_ble_eq_true rfl) ?_
  show Sd M_Sta_lacksRoom 2 22 emI 0 [(0, vr v0), (1, vi v1)] [] h _
  unfold Sta_lacksRoom
  refine Sd_aload_n (pc' := 1) (dc D_Sta_lacksRoom 0 rfl) rfl 0 rfl rfl ?_
  refine Sd_getR (pc' := 4) (dc D_Sta_lacksRoom 1 rfl) rfl F_Sta_22 rfl rfl ?_
  refine Sd_getI (pc' := 7) (dc D_Sta_lacksRoom 2 rfl) rfl F_Sta_77 rfl rfl ?_
  refine Sd_bipush (pc' := 9) (dc D_Sta_lacksRoom 3 rfl) rfl ⟨by decide, by decide⟩ (by decide) ?_
  refine Sd_icmp_ge (tgt := 28) (pc' := 12) (dc D_Sta_lacksRoom 4 rfl) (by decide) rfl (fun _ => ?_) (fun _ => ?_)
  · refine Sd_iconst (pc' := 29) (dc D_Sta_lacksRoom 13 rfl) rfl ⟨by decide, by decide⟩ ?_
    refine Sd_goto (tgt := 33) (dc D_Sta_lacksRoom 14 rfl) (by decide) ?_
    exact Sd_zret (dc D_Sta_lacksRoom 16 rfl) rfl (Or.inr rfl)
  · refine Sd_aload_n (pc' := 13) (dc D_Sta_lacksRoom 5 rfl) rfl 0 rfl rfl ?_
    refine Sd_getR (pc' := 16) (dc D_Sta_lacksRoom 6 rfl) rfl F_Sta_22 rfl rfl ?_
    refine Sd.callVI (ci := 7) (t := 8) (as := []) RX7 (pc' := 19) (dc D_Sta_lacksRoom 7 rfl) rfl rfl rfl rfl K_She_rowsOfAll L_Sta_78 Ks_She_rowsOfAll Kv_She_rowsOfAll ⟨by decide, by decide⟩ rfl rfl (Nat.le_of_ble_eq_true rfl) (s_She_rowsOfAll _ _) (fun x5 h4 => ?_)
    refine Sd_iload_n (pc' := 20) (dc D_Sta_lacksRoom 8 rfl) rfl 1 rfl rfl ?_
    refine Sd_iadd (pc' := 21) (dc D_Sta_lacksRoom 9 rfl) rfl ?_
    refine Sd_aload_n (pc' := 22) (dc D_Sta_lacksRoom 10 rfl) rfl 0 rfl rfl ?_
    refine Sd_getI (pc' := 25) (dc D_Sta_lacksRoom 11 rfl) rfl F_Sta_40 rfl rfl ?_
    refine Sd_icmp_le (tgt := 32) (pc' := 28) (dc D_Sta_lacksRoom 12 rfl) (by decide) rfl (fun _ => ?_) (fun _ => ?_)
    · refine Sd_iconst (pc' := 33) (dc D_Sta_lacksRoom 15 rfl) rfl ⟨by decide, by decide⟩ ?_
      exact Sd_zret (dc D_Sta_lacksRoom 16 rfl) rfl (Or.inl rfl)
    · refine Sd_iconst (pc' := 29) (dc D_Sta_lacksRoom 13 rfl) rfl ⟨by decide, by decide⟩ ?_
      refine Sd_goto (tgt := 33) (dc D_Sta_lacksRoom 14 rfl) (by decide) ?_
      exact Sd_zret (dc D_Sta_lacksRoom 16 rfl) rfl (Or.inr rfl)
theorem K_Sta_lacksRoom : MOk M_Sta_lacksRoom 1 := ⟨Tb_at 124 (by decide +kernel) rfl, Tb_at 1062 (by decide +kernel) rfl, by decide +kernel, by decide +kernel, by decide +kernel⟩
theorem Ks_Sta_lacksRoom : Cond.instanceMethod yX8_lacksRoom ∈ Tb := Tb_at 1061 (by decide +kernel) rfl
theorem Kv_Sta_lacksRoom : Cond.selects RX8 yX8_lacksRoom yX8_lacksRoom ∈ Tb := Tb_at 30 (by decide +kernel) rfl
/-! ===== BatchShare$Shelf.leastUsed()I ===== -/
abbrev M_She_leastUsed : AMt := (yX7_leastUsed, cX7_leastUsed, 3, (some .int))
def T_She_leastUsed : List (Nat × Instr × Nat) := [(0, .iconst 0, 1), (1, .istore_n 1, 1), (2, .iconst 1, 1), (3, .istore_n 2, 1), (4, .iload_n 2, 1), (5, .aload_n 0, 1), (6, .getfield 18, 3), (9, .if_icmp .ge 32, 3), (12, .aload_n 0, 1), (13, .getfield 11, 3), (16, .iload_n 2, 1), (17, .aaload, 1), (18, .getfield 44, 3), (21, .aload_n 0, 1), (22, .getfield 11, 3), (25, .iload_n 1, 1), (26, .aaload, 1), (27, .getfield 44, 3), (30, .if_icmp .ge 5, 3), (33, .iload_n 2, 1), (34, .istore_n 1, 1), (35, .iinc 2 1, 3), (38, .goto (-34), 3), (41, .iload_n 1, 1), (42, .ireturn, 1)]
set_option maxRecDepth 20000 in
theorem D_She_leastUsed : (T_She_leastUsed.all fun q => decide (decode M_She_leastUsed.2.1 q.1 = .ok q.2)) = true := by decide +kernel
def She_leastUsed_L4 : Nat → Nat → Int → Int → AH → Option (Int × AH)
  | 0, _, _, _, _ => none
  | n + 1, v0, v1, v2, h => gI h 8 v0 1 fun x1 => if (x1 : Int) ≤ v2 then (some (v1, h)) else (gR h 8 v0 0 fun r2 => aR h 35 r2 v2 fun r3 => gI h 3 r3 2 fun x4 => gR h 8 v0 0 fun r5 => aR h 35 r5 v1 fun r6 => gI h 3 r6 2 fun x7 => if (x7 : Int) ≤ x4 then (She_leastUsed_L4 n v0 v1 ((wr (v2 + 1))) h) else (She_leastUsed_L4 n v0 v2 ((wr (v2 + 1))) h))
set_option maxHeartbeats 4000000 in
set_option maxRecDepth 20000 in
theorem s_She_leastUsed_L4 : ∀ (n : Nat) (v0 : Nat) (v1 : Int) (v2 : Int) (h : AH), Sd M_She_leastUsed 1 0 emI 4 [(0, vr v0), (1, vi v1), (2, vi v2)] [] h (She_leastUsed_L4 n v0 v1 v2 h)
  | 0, _, _, _, _ => Sd.none
  | n + 1, v0, v1, v2, h => by
    rw [She_leastUsed_L4]
    refine Sd_iload_n (pc' := 5) (dc D_She_leastUsed 4 rfl) rfl 2 rfl rfl ?_
    refine Sd_aload_n (pc' := 6) (dc D_She_leastUsed 5 rfl) rfl 0 rfl rfl ?_
    refine Sd_getI (pc' := 9) (dc D_She_leastUsed 6 rfl) rfl F_She_18 rfl rfl ?_
    refine Sd_icmp_ge (tgt := 41) (pc' := 12) (dc D_She_leastUsed 7 rfl) (by decide) rfl (fun _ => ?_) (fun _ => ?_)
    · refine Sd_iload_n (pc' := 42) (dc D_She_leastUsed 23 rfl) rfl 1 rfl rfl ?_
      exact Sd_iret (dc D_She_leastUsed 24 rfl) rfl
    · refine Sd_aload_n (pc' := 13) (dc D_She_leastUsed 8 rfl) rfl 0 rfl rfl ?_
      refine Sd_getR (pc' := 16) (dc D_She_leastUsed 9 rfl) rfl F_She_11 rfl rfl ?_
      refine Sd_iload_n (pc' := 17) (dc D_She_leastUsed 10 rfl) rfl 2 rfl rfl ?_
      refine Sd_aaload (t := 35) (j := 7) (C0 := RX2) (pc' := 18) (dc D_She_leastUsed 11 rfl) rfl rfl (by decide) ?_
      refine Sd_getI (pc' := 21) (dc D_She_leastUsed 12 rfl) rfl F_She_44 rfl rfl ?_
      refine Sd_aload_n (pc' := 22) (dc D_She_leastUsed 13 rfl) rfl 0 rfl rfl ?_
      refine Sd_getR (pc' := 25) (dc D_She_leastUsed 14 rfl) rfl F_She_11 rfl rfl ?_
      refine Sd_iload_n (pc' := 26) (dc D_She_leastUsed 15 rfl) rfl 1 rfl rfl ?_
      refine Sd_aaload (t := 35) (j := 7) (C0 := RX2) (pc' := 27) (dc D_She_leastUsed 16 rfl) rfl rfl (by decide) ?_
      refine Sd_getI (pc' := 30) (dc D_She_leastUsed 17 rfl) rfl F_She_44 rfl rfl ?_
      refine Sd_icmp_ge (tgt := 35) (pc' := 33) (dc D_She_leastUsed 18 rfl) (by decide) rfl (fun _ => ?_) (fun _ => ?_)
      · refine Sd_iinc (pc' := 38) (l' := [(2, _), (0, _), (1, _)]) (dc D_She_leastUsed 21 rfl) rfl 2 rfl (by decide) rfl ?_
        refine Sd_goto (tgt := 4) (dc D_She_leastUsed 22 rfl) (by decide) ?_
        refine Sd.sub (l' := [(0, _), (1, _), (2, _)]) [1, 2, 0] rfl ?_
        exact s_She_leastUsed_L4 n _ _ _ _
      · refine Sd_iload_n (pc' := 34) (dc D_She_leastUsed 19 rfl) rfl 2 rfl rfl ?_
        refine Sd_istore_n (pc' := 35) (l' := [(1, _), (0, _), (2, _)]) (dc D_She_leastUsed 20 rfl) rfl rfl (by decide) rfl ?_
        refine Sd_iinc (pc' := 38) (l' := [(2, _), (1, _), (0, _)]) (dc D_She_leastUsed 21 rfl) rfl 2 rfl (by decide) rfl ?_
        refine Sd_goto (tgt := 4) (dc D_She_leastUsed 22 rfl) (by decide) ?_
        refine Sd.sub (l' := [(0, _), (1, _), (2, _)]) [2, 1, 0] rfl ?_
        exact s_She_leastUsed_L4 n _ _ _ _
def She_leastUsed (v0 : Nat) (h : AH) : Option (Int × AH) := She_leastUsed_L4 FU v0 0 1 h
set_option maxHeartbeats 4000000 in
set_option maxRecDepth 20000 in
theorem s_She_leastUsed (v0 : Nat) (h : AH) : CS M_She_leastUsed 1 0 emI [vr v0] h (She_leastUsed v0 h) := by
  refine CS.of (by decide) (Nat.le_of_ble_eq_true rfl) ?_
  show Sd M_She_leastUsed 1 0 emI 0 [(0, vr v0)] [] h _
  unfold She_leastUsed
  refine Sd_iconst (pc' := 1) (dc D_She_leastUsed 0 rfl) rfl ⟨by decide, by decide⟩ ?_
  refine Sd_istore_n (pc' := 2) (l' := [(1, _), (0, _)]) (dc D_She_leastUsed 1 rfl) rfl rfl (by decide) rfl ?_
  refine Sd_iconst (pc' := 3) (dc D_She_leastUsed 2 rfl) rfl ⟨by decide, by decide⟩ ?_
  refine Sd_istore_n (pc' := 4) (l' := [(2, _), (1, _), (0, _)]) (dc D_She_leastUsed 3 rfl) rfl rfl (by decide) rfl ?_
  refine Sd.sub (l' := [(0, _), (1, _), (2, _)]) [2, 1, 0] rfl ?_
  exact s_She_leastUsed_L4 FU _ _ _ _
theorem K_She_leastUsed : MOk M_She_leastUsed 0 := ⟨Tb_at 125 (by decide +kernel) rfl, Tb_at 1070 (by decide +kernel) rfl, by decide +kernel, by decide +kernel, by decide +kernel⟩
theorem Ks_She_leastUsed : Cond.instanceMethod yX7_leastUsed ∈ Tb := Tb_at 1068 (by decide +kernel) rfl
theorem Kv_She_leastUsed : Cond.selects RX7 yX7_leastUsed yX7_leastUsed ∈ Tb := Tb_at 1069 (by decide +kernel) rfl
/-! ===== BatchShare$State.makeRoom(I)I ===== -/
abbrev M_Sta_makeRoom : AMt := (yX8_makeRoom, cX8_makeRoom, 3, (some .int))
def T_Sta_makeRoom : List (Nat × Instr × Nat) := [(0, .iconst 0, 1), (1, .istore_n 2, 1), (2, .iload_n 2, 1), (3, .bipush 6, 2), (5, .if_icmp .ge 31, 3), (8, .aload_n 0, 1), (9, .iload_n 1, 1), (10, .invokevirtual 66, 3), (13, .ifCond .eq 23, 3), (16, .aload_n 0, 1), (17, .getfield 22, 3), (20, .aload_n 0, 1), (21, .getfield 22, 3), (24, .invokevirtual 70, 3), (27, .invokevirtual 74, 3), (30, .iinc 2 1, 3), (33, .goto (-31), 3), (36, .iload_n 2, 1), (37, .ireturn, 1)]
set_option maxRecDepth 20000 in
theorem D_Sta_makeRoom : (T_Sta_makeRoom.all fun q => decide (decode M_Sta_makeRoom.2.1 q.1 = .ok q.2)) = true := by decide +kernel
def Sta_makeRoom_L2 : Nat → Nat → Int → Int → AH → Option (Int × AH)
  | 0, _, _, _, _ => none
  | n + 1, v0, v1, v2, h => if (6 : Int) ≤ v2 then (some (v2, h)) else (rc h 9 v0 <| bnd (Sta_lacksRoom v0 v1 h) fun x2 h1 => if (x2 : Int) = 0 then (some (v2, h1)) else (gR h1 9 v0 1 fun r4 => gR h1 9 v0 1 fun r5 => rc h1 8 r5 <| bnd (She_leastUsed r5 h1) fun x7 h6 => rc h6 8 r4 <| bnd (She_drop r4 x7 h6) fun _ h9 => Sta_makeRoom_L2 n v0 v1 ((wr (v2 + 1))) h9))
set_option maxHeartbeats 4000000 in
set_option maxRecDepth 20000 in
theorem s_Sta_makeRoom_L2 : ∀ (n : Nat) (v0 : Nat) (v1 : Int) (v2 : Int) (h : AH), Sd M_Sta_makeRoom 3 43 emI 2 [(0, vr v0), (1, vi v1), (2, vi v2)] [] h (Sta_makeRoom_L2 n v0 v1 v2 h)
  | 0, _, _, _, _ => Sd.none
  | n + 1, v0, v1, v2, h => by
    rw [Sta_makeRoom_L2]
    refine Sd_iload_n (pc' := 3) (dc D_Sta_makeRoom 2 rfl) rfl 2 rfl rfl ?_
    refine Sd_bipush (pc' := 5) (dc D_Sta_makeRoom 3 rfl) rfl ⟨by decide, by decide⟩ (by decide) ?_
    refine Sd_icmp_ge (tgt := 36) (pc' := 8) (dc D_Sta_makeRoom 4 rfl) (by decide) rfl (fun _ => ?_) (fun _ => ?_)
    · refine Sd_iload_n (pc' := 37) (dc D_Sta_makeRoom 17 rfl) rfl 2 rfl rfl ?_
      exact Sd_iret (dc D_Sta_makeRoom 18 rfl) rfl
    · refine Sd_aload_n (pc' := 9) (dc D_Sta_makeRoom 5 rfl) rfl 0 rfl rfl ?_
      refine Sd_iload_n (pc' := 10) (dc D_Sta_makeRoom 6 rfl) rfl 1 rfl rfl ?_
      refine Sd.callVI (ci := 8) (t := 9) (as := [_]) RX8 (pc' := 13) (dc D_Sta_makeRoom 7 rfl) rfl rfl rfl rfl K_Sta_lacksRoom L_Sta_66 Ks_Sta_lacksRoom Kv_Sta_lacksRoom ⟨by decide, by decide⟩ rfl rfl (Nat.le_of_ble_eq_true rfl) (s_Sta_lacksRoom _ _ _) (fun x2 h1 => ?_)
      refine Sd_if_eq (tgt := 36) (pc' := 16) (dc D_Sta_makeRoom 8 rfl) (by decide) rfl (fun _ => ?_) (fun _ => ?_)
      · refine Sd_iload_n (pc' := 37) (dc D_Sta_makeRoom 17 rfl) rfl 2 rfl rfl ?_
        exact Sd_iret (dc D_Sta_makeRoom 18 rfl) rfl
      · refine Sd_aload_n (pc' := 17) (dc D_Sta_makeRoom 9 rfl) rfl 0 rfl rfl ?_
        refine Sd_getR (pc' := 20) (dc D_Sta_makeRoom 10 rfl) rfl F_Sta_22 rfl rfl ?_
        refine Sd_aload_n (pc' := 21) (dc D_Sta_makeRoom 11 rfl) rfl 0 rfl rfl ?_
        refine Sd_getR (pc' := 24) (dc D_Sta_makeRoom 12 rfl) rfl F_Sta_22 rfl rfl ?_
        refine Sd.callVI (ci := 7) (t := 8) (as := []) RX7 (pc' := 27) (dc D_Sta_makeRoom 13 rfl) rfl rfl rfl rfl K_She_leastUsed L_Sta_70 Ks_She_leastUsed Kv_She_leastUsed ⟨by decide, by decide⟩ rfl rfl (Nat.le_of_ble_eq_true rfl) (s_She_leastUsed _ _) (fun x7 h6 => ?_)
        refine Sd.callVV (ci := 7) (t := 8) (as := [_]) RX7 (pc' := 30) (dc D_Sta_makeRoom 14 rfl) rfl rfl rfl rfl K_She_drop L_Sta_74 Ks_She_drop Kv_She_drop ⟨by decide, by decide⟩ rfl rfl (Nat.le_of_ble_eq_true rfl) (s_She_drop _ _ _) (fun _ h9 => ?_)
        refine Sd_iinc (pc' := 33) (l' := [(2, _), (0, _), (1, _)]) (dc D_Sta_makeRoom 15 rfl) rfl 2 rfl (by decide) rfl ?_
        refine Sd_goto (tgt := 2) (dc D_Sta_makeRoom 16 rfl) (by decide) ?_
        refine Sd.sub (l' := [(0, _), (1, _), (2, _)]) [1, 2, 0] rfl ?_
        exact s_Sta_makeRoom_L2 n _ _ _ _
def Sta_makeRoom (v0 : Nat) (v1 : Int) (h : AH) : Option (Int × AH) := Sta_makeRoom_L2 FU v0 v1 0 h
set_option maxHeartbeats 4000000 in
set_option maxRecDepth 20000 in
theorem s_Sta_makeRoom (v0 : Nat) (v1 : Int) (h : AH) : CS M_Sta_makeRoom 3 43 emI [vr v0, vi v1] h (Sta_makeRoom v0 v1 h) := by
  refine CS.of (by decide) (Nat.le_of_ble_eq_true rfl) ?_
  show Sd M_Sta_makeRoom 3 43 emI 0 [(0, vr v0), (1, vi v1)] [] h _
  unfold Sta_makeRoom
  refine Sd_iconst (pc' := 1) (dc D_Sta_makeRoom 0 rfl) rfl ⟨by decide, by decide⟩ ?_
  refine Sd_istore_n (pc' := 2) (l' := [(2, _), (0, _), (1, _)]) (dc D_Sta_makeRoom 1 rfl) rfl rfl (by decide) rfl ?_
  refine Sd.sub (l' := [(0, _), (1, _), (2, _)]) [1, 2, 0] rfl ?_
  exact s_Sta_makeRoom_L2 FU _ _ _ _
theorem K_Sta_makeRoom : MOk M_Sta_makeRoom 1 := ⟨Tb_at 124 (by decide +kernel) rfl, Tb_at 1058 (by decide +kernel) rfl, by decide +kernel, by decide +kernel, by decide +kernel⟩
theorem Ks_Sta_makeRoom : Cond.instanceMethod yX8_makeRoom ∈ Tb := Tb_at 1056 (by decide +kernel) rfl
theorem Kv_Sta_makeRoom : Cond.selects RX8 yX8_makeRoom yX8_makeRoom ∈ Tb := Tb_at 1057 (by decide +kernel) rfl
/-! ===== BatchShare$State.makeAnew(I)Z ===== -/
abbrev M_Sta_makeAnew : AMt := (yX8_makeAnew, cX8_makeAnew, 4, (some .boolean))
def T_Sta_makeAnew : List (Nat × Instr × Nat) := [(0, .aload_n 0, 1), (1, .getfield 22, 3), (4, .getfield 81, 3), (7, .iload_n 1, 1), (8, .aaload, 1), (9, .astore_n 2, 1), (10, .aload_n 2, 1), (11, .getfield 85, 3), (14, .aload_n 0, 1), (15, .invokevirtual 91, 3), (18, .istore_n 3, 1), (19, .aload_n 0, 1), (20, .getfield 22, 3), (23, .invokevirtual 78, 3), (26, .aload_n 2, 1), (27, .getfield 97, 3), (30, .isub, 1), (31, .iload_n 3, 1), (32, .iadd, 1), (33, .aload_n 0, 1), (34, .getfield 40, 3), (37, .if_icmp .le 13, 3), (40, .aload_n 0, 1), (41, .getfield 22, 3), (44, .iload_n 1, 1), (45, .invokevirtual 74, 3), (48, .iconst 0, 1), (49, .ireturn, 1), (50, .aload_n 2, 1), (51, .iload_n 3, 1), (52, .putfield 97, 3), (55, .aload_n 2, 1), (56, .iconst 0, 1), (57, .putfield 100, 3), (60, .aload_n 0, 1), (61, .dup, 1), (62, .getfield 46, 3), (65, .aload_n 2, 1), (66, .getfield 85, 3), (69, .aload_n 0, 1), (70, .invokevirtual 103, 3), (73, .iadd, 1), (74, .putfield 46, 3), (77, .iconst 1, 1), (78, .ireturn, 1)]
set_option maxRecDepth 20000 in
theorem D_Sta_makeAnew : (T_Sta_makeAnew.all fun q => decide (decode M_Sta_makeAnew.2.1 q.1 = .ok q.2)) = true := by decide +kernel
def Sta_makeAnew (v0 : Nat) (v1 : Int) (h : AH) : Option (Int × AH) := gR h 9 v0 1 fun r1 => gR h 8 r1 0 fun r2 => aR h 35 r2 v1 fun r3 => if r3 = 0 then none else gR h 3 r3 0 fun r4 => rc h 4 r4 <| bnd (Par_rowsIn r4 v0 h) fun x6 h5 => gR h5 9 v0 1 fun r8 => rc h5 8 r8 <| bnd (She_rowsOfAll r8 h5) fun x10 h9 => gI h9 3 r3 1 fun x12 => gI h9 9 v0 3 fun x13 => if ((wr ((wr (x10 - x12)) + x6)) : Int) ≤ x13 then (pI h9 3 r3 1 x6 fun h14 => pZ h14 3 r3 3 0 fun h15 => gI h15 9 v0 5 fun x16 => gR h15 3 r3 0 fun r17 => rc h15 4 r17 <| bnd (Par_makeIn r17 v0 h15) fun x19 h18 => pI h18 9 v0 5 (wr (x16 + x19)) fun h21 => some (1, h21)) else (gR h9 9 v0 1 fun r22 => rc h9 8 r22 <| bnd (She_drop r22 v1 h9) fun _ h23 => some (0, h23))
set_option maxHeartbeats 4000000 in
set_option maxRecDepth 20000 in
theorem s_Sta_makeAnew (v0 : Nat) (v1 : Int) (h : AH) : CS M_Sta_makeAnew 5 94 emI [vr v0, vi v1] h (Sta_makeAnew v0 v1 h) := by
  refine CS.of (by decide) (Nat.le_of_ble_eq_true rfl) ?_
  show Sd M_Sta_makeAnew 5 94 emI 0 [(0, vr v0), (1, vi v1)] [] h _
  unfold Sta_makeAnew
  refine Sd_aload_n (pc' := 1) (dc D_Sta_makeAnew 0 rfl) rfl 0 rfl rfl ?_
  refine Sd_getR (pc' := 4) (dc D_Sta_makeAnew 1 rfl) rfl F_Sta_22 rfl rfl ?_
  refine Sd_getR (pc' := 7) (dc D_Sta_makeAnew 2 rfl) rfl F_Sta_81 rfl rfl ?_
  refine Sd_iload_n (pc' := 8) (dc D_Sta_makeAnew 3 rfl) rfl 1 rfl rfl ?_
  refine Sd_aaload (t := 35) (j := 7) (C0 := RX2) (pc' := 9) (dc D_Sta_makeAnew 4 rfl) rfl rfl (by decide) ?_
  refine Sd_astore_n (pc' := 10) (l' := [(2, _), (0, _), (1, _)]) (dc D_Sta_makeAnew 5 rfl) rfl rfl (by decide) rfl (fun _ => ?_)
  refine Sd_aload_n (pc' := 11) (dc D_Sta_makeAnew 6 rfl) rfl 0 rfl rfl ?_
  refine Sd_getR (pc' := 14) (dc D_Sta_makeAnew 7 rfl) rfl F_Sta_85 rfl rfl ?_
  refine Sd_aload_n (pc' := 15) (dc D_Sta_makeAnew 8 rfl) rfl 1 rfl rfl ?_
  refine Sd.callVI (ci := 3) (t := 4) (as := [_]) RX3 (pc' := 18) (dc D_Sta_makeAnew 9 rfl) rfl rfl rfl rfl K_Par_rowsIn L_Sta_91 Ks_Par_rowsIn Kv_Par_rowsIn ⟨by decide, by decide⟩ rfl rfl (Nat.le_of_ble_eq_true rfl) (s_Par_rowsIn _ _ _) (fun x6 h5 => ?_)
  refine Sd_istore_n (pc' := 19) (l' := [(3, _), (2, _), (0, _), (1, _)]) (dc D_Sta_makeAnew 10 rfl) rfl rfl (by decide) rfl ?_
  refine Sd_aload_n (pc' := 20) (dc D_Sta_makeAnew 11 rfl) rfl 2 rfl rfl ?_
  refine Sd_getR (pc' := 23) (dc D_Sta_makeAnew 12 rfl) rfl F_Sta_22 rfl rfl ?_
  refine Sd.callVI (ci := 7) (t := 8) (as := []) RX7 (pc' := 26) (dc D_Sta_makeAnew 13 rfl) rfl rfl rfl rfl K_She_rowsOfAll L_Sta_78 Ks_She_rowsOfAll Kv_She_rowsOfAll ⟨by decide, by decide⟩ rfl rfl (Nat.le_of_ble_eq_true rfl) (s_She_rowsOfAll _ _) (fun x10 h9 => ?_)
  refine Sd_aload_n (pc' := 27) (dc D_Sta_makeAnew 14 rfl) rfl 1 rfl rfl ?_
  refine Sd_getI (pc' := 30) (dc D_Sta_makeAnew 15 rfl) rfl F_Sta_97 rfl rfl ?_
  refine Sd_isub (pc' := 31) (dc D_Sta_makeAnew 16 rfl) rfl ?_
  refine Sd_iload_n (pc' := 32) (dc D_Sta_makeAnew 17 rfl) rfl 0 rfl rfl ?_
  refine Sd_iadd (pc' := 33) (dc D_Sta_makeAnew 18 rfl) rfl ?_
  refine Sd_aload_n (pc' := 34) (dc D_Sta_makeAnew 19 rfl) rfl 2 rfl rfl ?_
  refine Sd_getI (pc' := 37) (dc D_Sta_makeAnew 20 rfl) rfl F_Sta_40 rfl rfl ?_
  refine Sd_icmp_le (tgt := 50) (pc' := 40) (dc D_Sta_makeAnew 21 rfl) (by decide) rfl (fun _ => ?_) (fun _ => ?_)
  · refine Sd_aload_n (pc' := 51) (dc D_Sta_makeAnew 28 rfl) rfl 1 rfl rfl ?_
    refine Sd_iload_n (pc' := 52) (dc D_Sta_makeAnew 29 rfl) rfl 0 rfl rfl ?_
    refine Sd_putI (pc' := 55) (dc D_Sta_makeAnew 30 rfl) rfl F_Sta_97 rfl rfl rfl (finOk.no rfl) (by decide) ?_
    refine Sd_aload_n (pc' := 56) (dc D_Sta_makeAnew 31 rfl) rfl 1 rfl rfl ?_
    refine Sd_iconst (pc' := 57) (dc D_Sta_makeAnew 32 rfl) rfl ⟨by decide, by decide⟩ ?_
    refine Sd_putZ (pc' := 60) (dc D_Sta_makeAnew 33 rfl) rfl F_Sta_100 rfl rfl rfl (finOk.no rfl) (by decide) ?_
    refine Sd_aload_n (pc' := 61) (dc D_Sta_makeAnew 34 rfl) rfl 2 rfl rfl ?_
    refine Sd_dup (pc' := 62) (dc D_Sta_makeAnew 35 rfl) rfl (cat_r _) ?_
    refine Sd_getI (pc' := 65) (dc D_Sta_makeAnew 36 rfl) rfl F_Sta_46 rfl rfl ?_
    refine Sd_aload_n (pc' := 66) (dc D_Sta_makeAnew 37 rfl) rfl 1 rfl rfl ?_
    refine Sd_getR (pc' := 69) (dc D_Sta_makeAnew 38 rfl) rfl F_Sta_85 rfl rfl ?_
    refine Sd_aload_n (pc' := 70) (dc D_Sta_makeAnew 39 rfl) rfl 2 rfl rfl ?_
    refine Sd.callVI (ci := 3) (t := 4) (as := [_]) RX3 (pc' := 73) (dc D_Sta_makeAnew 40 rfl) rfl rfl rfl rfl K_Par_makeIn L_Sta_103 Ks_Par_makeIn Kv_Par_makeIn ⟨by decide, by decide⟩ rfl rfl (Nat.le_of_ble_eq_true rfl) (s_Par_makeIn _ _ _) (fun x19 h18 => ?_)
    refine Sd_iadd (pc' := 74) (dc D_Sta_makeAnew 41 rfl) rfl ?_
    refine Sd_putI (pc' := 77) (dc D_Sta_makeAnew 42 rfl) rfl F_Sta_46 rfl rfl rfl (finOk.no rfl) (by decide) ?_
    refine Sd_iconst (pc' := 78) (dc D_Sta_makeAnew 43 rfl) rfl ⟨by decide, by decide⟩ ?_
    exact Sd_zret (dc D_Sta_makeAnew 44 rfl) rfl (Or.inr rfl)
  · refine Sd_aload_n (pc' := 41) (dc D_Sta_makeAnew 22 rfl) rfl 2 rfl rfl ?_
    refine Sd_getR (pc' := 44) (dc D_Sta_makeAnew 23 rfl) rfl F_Sta_22 rfl rfl ?_
    refine Sd_iload_n (pc' := 45) (dc D_Sta_makeAnew 24 rfl) rfl 3 rfl rfl ?_
    refine Sd.callVV (ci := 7) (t := 8) (as := [_]) RX7 (pc' := 48) (dc D_Sta_makeAnew 25 rfl) rfl rfl rfl rfl K_She_drop L_Sta_74 Ks_She_drop Kv_She_drop ⟨by decide, by decide⟩ rfl rfl (Nat.le_of_ble_eq_true rfl) (s_She_drop _ _ _) (fun _ h23 => ?_)
    refine Sd_iconst (pc' := 49) (dc D_Sta_makeAnew 26 rfl) rfl ⟨by decide, by decide⟩ ?_
    exact Sd_zret (dc D_Sta_makeAnew 27 rfl) rfl (Or.inl rfl)
theorem K_Sta_makeAnew : MOk M_Sta_makeAnew 1 := ⟨Tb_at 124 (by decide +kernel) rfl, Tb_at 1089 (by decide +kernel) rfl, by decide +kernel, by decide +kernel, by decide +kernel⟩
theorem Ks_Sta_makeAnew : Cond.instanceMethod yX8_makeAnew ∈ Tb := Tb_at 1087 (by decide +kernel) rfl
theorem Kv_Sta_makeAnew : Cond.selects RX8 yX8_makeAnew yX8_makeAnew ∈ Tb := Tb_at 1088 (by decide +kernel) rfl
/-! ===== BatchShare$World.goBack()I ===== -/
abbrev M_Wor_goBack : AMt := (yX10_goBack, cX10_goBack, 2, (some .int))
def T_Wor_goBack : List (Nat × Instr × Nat) := [(0, .aload_n 0, 1), (1, .getfield 33, 3), (4, .ifCond .ne 6, 3), (7, .bipush (-2), 2), (9, .ireturn, 1), (10, .aload_n 0, 1), (11, .dup, 1), (12, .getfield 33, 3), (15, .iconst 1, 1), (16, .isub, 1), (17, .putfield 33, 3), (20, .aload_n 0, 1), (21, .getfield 18, 3), (24, .aload_n 0, 1), (25, .getfield 30, 3), (28, .aload_n 0, 1), (29, .getfield 33, 3), (32, .iadd, 1), (33, .bipush 20, 2), (35, .irem, 1), (36, .aaload, 1), (37, .astore_n 1, 1), (38, .aload_n 1, 1), (39, .ifnull 11, 3), (42, .aload_n 0, 1), (43, .getfield 12, 3), (46, .aload_n 1, 1), (47, .invokevirtual 22, 3), (50, .aload_n 0, 1), (51, .getfield 33, 3), (54, .ireturn, 1)]
set_option maxRecDepth 20000 in
theorem D_Wor_goBack : (T_Wor_goBack.all fun q => decide (decode M_Wor_goBack.2.1 q.1 = .ok q.2)) = true := by decide +kernel
def Wor_goBack (v0 : Nat) (h : AH) : Option (Int × AH) := gI h 11 v0 3 fun x1 => if ¬ (x1 : Int) = 0 then (gI h 11 v0 3 fun x2 => pI h 11 v0 3 (wr (x2 - 1)) fun h3 => gR h3 11 v0 1 fun r4 => gI h3 11 v0 2 fun x5 => gI h3 11 v0 3 fun x6 => if (20 : Int) = 0 then none else aR h3 33 r4 (iRem (wr (x5 + x6)) 20) fun r7 => if r7 = 0 then none else if r7 = 0 then (gI h3 11 v0 3 fun x8 => some (x8, h3)) else (gR h3 11 v0 0 fun r9 => rc h3 9 r9 <| bnd (Sta_copy r9 r7 h3) fun _ h10 => gI h10 11 v0 3 fun x13 => some (x13, h10))) else (some ((-2), h))
set_option maxHeartbeats 4000000 in
set_option maxRecDepth 20000 in
theorem s_Wor_goBack (v0 : Nat) (h : AH) : CS M_Wor_goBack 5 111 emI [vr v0] h (Wor_goBack v0 h) := by
  refine CS.of (by decide) (Nat.le_of_ble_eq_true rfl) ?_
  show Sd M_Wor_goBack 5 111 emI 0 [(0, vr v0)] [] h _
  unfold Wor_goBack
  refine Sd_aload_n (pc' := 1) (dc D_Wor_goBack 0 rfl) rfl 0 rfl rfl ?_
  refine Sd_getI (pc' := 4) (dc D_Wor_goBack 1 rfl) rfl F_Wor_33 rfl rfl ?_
  refine Sd_if_ne (tgt := 10) (pc' := 7) (dc D_Wor_goBack 2 rfl) (by decide) rfl (fun _ => ?_) (fun _ => ?_)
  · refine Sd_aload_n (pc' := 11) (dc D_Wor_goBack 5 rfl) rfl 0 rfl rfl ?_
    refine Sd_dup (pc' := 12) (dc D_Wor_goBack 6 rfl) rfl (cat_r _) ?_
    refine Sd_getI (pc' := 15) (dc D_Wor_goBack 7 rfl) rfl F_Wor_33 rfl rfl ?_
    refine Sd_iconst (pc' := 16) (dc D_Wor_goBack 8 rfl) rfl ⟨by decide, by decide⟩ ?_
    refine Sd_isub (pc' := 17) (dc D_Wor_goBack 9 rfl) rfl ?_
    refine Sd_putI (pc' := 20) (dc D_Wor_goBack 10 rfl) rfl F_Wor_33 rfl rfl rfl (finOk.no rfl) (by decide) ?_
    refine Sd_aload_n (pc' := 21) (dc D_Wor_goBack 11 rfl) rfl 0 rfl rfl ?_
    refine Sd_getR (pc' := 24) (dc D_Wor_goBack 12 rfl) rfl F_Wor_18 rfl rfl ?_
    refine Sd_aload_n (pc' := 25) (dc D_Wor_goBack 13 rfl) rfl 0 rfl rfl ?_
    refine Sd_getI (pc' := 28) (dc D_Wor_goBack 14 rfl) rfl F_Wor_30 rfl rfl ?_
    refine Sd_aload_n (pc' := 29) (dc D_Wor_goBack 15 rfl) rfl 0 rfl rfl ?_
    refine Sd_getI (pc' := 32) (dc D_Wor_goBack 16 rfl) rfl F_Wor_33 rfl rfl ?_
    refine Sd_iadd (pc' := 33) (dc D_Wor_goBack 17 rfl) rfl ?_
    refine Sd_bipush (pc' := 35) (dc D_Wor_goBack 18 rfl) rfl ⟨by decide, by decide⟩ (by decide) ?_
    refine Sd_irem (pc' := 36) (dc D_Wor_goBack 19 rfl) rfl ?_
    refine Sd_aaload (t := 33) (j := 5) (C0 := RX8) (pc' := 37) (dc D_Wor_goBack 20 rfl) rfl rfl (by decide) ?_
    refine Sd_astore_n (pc' := 38) (l' := [(1, _), (0, _)]) (dc D_Wor_goBack 21 rfl) rfl rfl (by decide) rfl (fun _ => ?_)
    refine Sd_aload_n (pc' := 39) (dc D_Wor_goBack 22 rfl) rfl 0 rfl rfl ?_
    refine Sd_ifnull (tgt := 50) (pc' := 42) (dc D_Wor_goBack 23 rfl) (by decide) rfl (fun _ => ?_) (fun _ => ?_)
    · refine Sd_aload_n (pc' := 51) (dc D_Wor_goBack 28 rfl) rfl 1 rfl rfl ?_
      refine Sd_getI (pc' := 54) (dc D_Wor_goBack 29 rfl) rfl F_Wor_33 rfl rfl ?_
      exact Sd_iret (dc D_Wor_goBack 30 rfl) rfl
    · refine Sd_aload_n (pc' := 43) (dc D_Wor_goBack 24 rfl) rfl 1 rfl rfl ?_
      refine Sd_getR (pc' := 46) (dc D_Wor_goBack 25 rfl) rfl F_Wor_12 rfl rfl ?_
      refine Sd_aload_n (pc' := 47) (dc D_Wor_goBack 26 rfl) rfl 0 rfl rfl ?_
      refine Sd.callVV (ci := 8) (t := 9) (as := [_]) RX8 (pc' := 50) (dc D_Wor_goBack 27 rfl) rfl rfl rfl rfl K_Sta_copy L_Wor_22 Ks_Sta_copy Kv_Sta_copy ⟨by decide, by decide⟩ rfl rfl (Nat.le_of_ble_eq_true rfl) (s_Sta_copy _ _ _) (fun _ h10 => ?_)
      refine Sd_aload_n (pc' := 51) (dc D_Wor_goBack 28 rfl) rfl 1 rfl rfl ?_
      refine Sd_getI (pc' := 54) (dc D_Wor_goBack 29 rfl) rfl F_Wor_33 rfl rfl ?_
      exact Sd_iret (dc D_Wor_goBack 30 rfl) rfl
  · refine Sd_bipush (pc' := 9) (dc D_Wor_goBack 3 rfl) rfl ⟨by decide, by decide⟩ (by decide) ?_
    exact Sd_iret (dc D_Wor_goBack 4 rfl) rfl
theorem K_Wor_goBack : MOk M_Wor_goBack 0 := ⟨Tb_at 123 (by decide +kernel) rfl, Tb_at 1111 (by decide +kernel) rfl, by decide +kernel, by decide +kernel, by decide +kernel⟩
theorem Ks_Wor_goBack : Cond.instanceMethod yX10_goBack ∈ Tb := Tb_at 1109 (by decide +kernel) rfl
theorem Kv_Wor_goBack : Cond.selects RX10 yX10_goBack yX10_goBack ∈ Tb := Tb_at 1110 (by decide +kernel) rfl
/-! ===== BatchShare$World.draw()I ===== -/
abbrev M_Wor_draw : AMt := (yX10_draw, cX10_draw, 1, (some .int))
def T_Wor_draw : List (Nat × Instr × Nat) := [(0, .aload_n 0, 1), (1, .aload_n 0, 1), (2, .getfield 26, 3), (5, .i2l, 1), (6, .ldc2_w 39, 3), (9, .lmul, 1), (10, .ldc2_w 41, 3), (13, .ladd, 1), (14, .ldc2_w 43, 3), (17, .land, 1), (18, .l2i, 1), (19, .putfield 26, 3), (22, .aload_n 0, 1), (23, .getfield 26, 3), (26, .ldc 45, 2), (28, .idiv, 1), (29, .ireturn, 1)]
set_option maxRecDepth 20000 in
theorem D_Wor_draw : (T_Wor_draw.all fun q => decide (decode M_Wor_draw.2.1 q.1 = .ok q.2)) = true := by decide +kernel
def Wor_draw (v0 : Nat) (h : AH) : Option (Int × AH) := gI h 11 v0 4 fun x1 => pI h 11 v0 4 (wr (lAnd (wr64 ((wr64 (x1 * 1103515245)) + 12345)) 2147483647)) fun h2 => gI h2 11 v0 4 fun x3 => if (65536 : Int) = 0 then none else some ((iDiv x3 65536), h2)
set_option maxHeartbeats 4000000 in
set_option maxRecDepth 20000 in
theorem s_Wor_draw (v0 : Nat) (h : AH) : CS M_Wor_draw 1 0 emI [vr v0] h (Wor_draw v0 h) := by
  refine CS.of (by decide) (Nat.le_of_ble_eq_true rfl) ?_
  show Sd M_Wor_draw 1 0 emI 0 [(0, vr v0)] [] h _
  unfold Wor_draw
  refine Sd_aload_n (pc' := 1) (dc D_Wor_draw 0 rfl) rfl 0 rfl rfl ?_
  refine Sd_aload_n (pc' := 2) (dc D_Wor_draw 1 rfl) rfl 0 rfl rfl ?_
  refine Sd_getI (pc' := 5) (dc D_Wor_draw 2 rfl) rfl F_Wor_26 rfl rfl ?_
  refine Sd_i2l (pc' := 6) (dc D_Wor_draw 3 rfl) rfl ?_
  refine Sd_ldc2 (n := 1103515245) (pc' := 9) (dc D_Wor_draw 4 rfl) rfl ⟨by decide, by decide⟩ Q_Wor_39 ?_
  refine Sd_lmul (pc' := 10) (dc D_Wor_draw 5 rfl) rfl ?_
  refine Sd_ldc2 (n := 12345) (pc' := 13) (dc D_Wor_draw 6 rfl) rfl ⟨by decide, by decide⟩ Q_Wor_41 ?_
  refine Sd_ladd (pc' := 14) (dc D_Wor_draw 7 rfl) rfl ?_
  refine Sd_ldc2 (n := 2147483647) (pc' := 17) (dc D_Wor_draw 8 rfl) rfl ⟨by decide, by decide⟩ Q_Wor_43 ?_
  refine Sd_land (pc' := 18) (dc D_Wor_draw 9 rfl) rfl ?_
  refine Sd_l2i (pc' := 19) (dc D_Wor_draw 10 rfl) rfl ?_
  refine Sd_putI (pc' := 22) (dc D_Wor_draw 11 rfl) rfl F_Wor_26 rfl rfl rfl (finOk.no rfl) (by decide) ?_
  refine Sd_aload_n (pc' := 23) (dc D_Wor_draw 12 rfl) rfl 0 rfl rfl ?_
  refine Sd_getI (pc' := 26) (dc D_Wor_draw 13 rfl) rfl F_Wor_26 rfl rfl ?_
  refine Sd_ldc (n := 65536) (pc' := 28) (dc D_Wor_draw 14 rfl) rfl ⟨by decide, by decide⟩ Q_Wor_45 ?_
  refine Sd_idiv (pc' := 29) (dc D_Wor_draw 15 rfl) rfl ?_
  exact Sd_iret (dc D_Wor_draw 16 rfl) rfl
theorem K_Wor_draw : MOk M_Wor_draw 0 := ⟨Tb_at 123 (by decide +kernel) rfl, Tb_at 1181 (by decide +kernel) rfl, by decide +kernel, by decide +kernel, by decide +kernel⟩
theorem Ks_Wor_draw : Cond.instanceMethod yX10_draw ∈ Tb := Tb_at 1179 (by decide +kernel) rfl
theorem Kv_Wor_draw : Cond.selects RX10 yX10_draw yX10_draw ∈ Tb := Tb_at 1180 (by decide +kernel) rfl
/-! ===== BatchShare$Shelf.staleOnes()I ===== -/
abbrev M_She_staleOnes : AMt := (yX7_staleOnes, cX7_staleOnes, 3, (some .int))
def T_She_staleOnes : List (Nat × Instr × Nat) := [(0, .iconst 0, 1), (1, .istore_n 1, 1), (2, .iconst 0, 1), (3, .istore_n 2, 1), (4, .iload_n 2, 1), (5, .aload_n 0, 1), (6, .getfield 18, 3), (9, .if_icmp .ge 29, 3), (12, .iload_n 1, 1), (13, .aload_n 0, 1), (14, .getfield 11, 3), (17, .iload_n 2, 1), (18, .aaload, 1), (19, .getfield 47, 3), (22, .ifCond .eq 7, 3), (25, .iconst 1, 1), (26, .goto 4, 3), (29, .iconst 0, 1), (30, .iadd, 1), (31, .istore_n 1, 1), (32, .iinc 2 1, 3), (35, .goto (-31), 3), (38, .iload_n 1, 1), (39, .ireturn, 1)]
set_option maxRecDepth 20000 in
theorem D_She_staleOnes : (T_She_staleOnes.all fun q => decide (decode M_She_staleOnes.2.1 q.1 = .ok q.2)) = true := by decide +kernel
def She_staleOnes_L4 : Nat → Nat → Int → Int → AH → Option (Int × AH)
  | 0, _, _, _, _ => none
  | n + 1, v0, v1, v2, h => gI h 8 v0 1 fun x1 => if (x1 : Int) ≤ v2 then (some (v1, h)) else (gR h 8 v0 0 fun r2 => aR h 35 r2 v2 fun r3 => gI h 3 r3 3 fun x4 => if (x4 : Int) = 0 then (She_staleOnes_L4 n v0 ((wr (v1 + 0))) ((wr (v2 + 1))) h) else (She_staleOnes_L4 n v0 ((wr (v1 + 1))) ((wr (v2 + 1))) h))
set_option maxHeartbeats 4000000 in
set_option maxRecDepth 20000 in
theorem s_She_staleOnes_L4 : ∀ (n : Nat) (v0 : Nat) (v1 : Int) (v2 : Int) (h : AH), Sd M_She_staleOnes 1 0 emI 4 [(0, vr v0), (1, vi v1), (2, vi v2)] [] h (She_staleOnes_L4 n v0 v1 v2 h)
  | 0, _, _, _, _ => Sd.none
  | n + 1, v0, v1, v2, h => by
    rw [She_staleOnes_L4]
    refine Sd_iload_n (pc' := 5) (dc D_She_staleOnes 4 rfl) rfl 2 rfl rfl ?_
    refine Sd_aload_n (pc' := 6) (dc D_She_staleOnes 5 rfl) rfl 0 rfl rfl ?_
    refine Sd_getI (pc' := 9) (dc D_She_staleOnes 6 rfl) rfl F_She_18 rfl rfl ?_
    refine Sd_icmp_ge (tgt := 38) (pc' := 12) (dc D_She_staleOnes 7 rfl) (by decide) rfl (fun _ => ?_) (fun _ => ?_)
    · refine Sd_iload_n (pc' := 39) (dc D_She_staleOnes 22 rfl) rfl 1 rfl rfl ?_
      exact Sd_iret (dc D_She_staleOnes 23 rfl) rfl
    · refine Sd_iload_n (pc' := 13) (dc D_She_staleOnes 8 rfl) rfl 1 rfl rfl ?_
      refine Sd_aload_n (pc' := 14) (dc D_She_staleOnes 9 rfl) rfl 0 rfl rfl ?_
      refine Sd_getR (pc' := 17) (dc D_She_staleOnes 10 rfl) rfl F_She_11 rfl rfl ?_
      refine Sd_iload_n (pc' := 18) (dc D_She_staleOnes 11 rfl) rfl 2 rfl rfl ?_
      refine Sd_aaload (t := 35) (j := 7) (C0 := RX2) (pc' := 19) (dc D_She_staleOnes 12 rfl) rfl rfl (by decide) ?_
      refine Sd_getI (pc' := 22) (dc D_She_staleOnes 13 rfl) rfl F_She_47 rfl rfl ?_
      refine Sd_if_eq (tgt := 29) (pc' := 25) (dc D_She_staleOnes 14 rfl) (by decide) rfl (fun _ => ?_) (fun _ => ?_)
      · refine Sd_iconst (pc' := 30) (dc D_She_staleOnes 17 rfl) rfl ⟨by decide, by decide⟩ ?_
        refine Sd_iadd (pc' := 31) (dc D_She_staleOnes 18 rfl) rfl ?_
        refine Sd_istore_n (pc' := 32) (l' := [(1, _), (0, _), (2, _)]) (dc D_She_staleOnes 19 rfl) rfl rfl (by decide) rfl ?_
        refine Sd_iinc (pc' := 35) (l' := [(2, _), (1, _), (0, _)]) (dc D_She_staleOnes 20 rfl) rfl 2 rfl (by decide) rfl ?_
        refine Sd_goto (tgt := 4) (dc D_She_staleOnes 21 rfl) (by decide) ?_
        refine Sd.sub (l' := [(0, _), (1, _), (2, _)]) [2, 1, 0] rfl ?_
        exact s_She_staleOnes_L4 n _ _ _ _
      · refine Sd_iconst (pc' := 26) (dc D_She_staleOnes 15 rfl) rfl ⟨by decide, by decide⟩ ?_
        refine Sd_goto (tgt := 30) (dc D_She_staleOnes 16 rfl) (by decide) ?_
        refine Sd_iadd (pc' := 31) (dc D_She_staleOnes 18 rfl) rfl ?_
        refine Sd_istore_n (pc' := 32) (l' := [(1, _), (0, _), (2, _)]) (dc D_She_staleOnes 19 rfl) rfl rfl (by decide) rfl ?_
        refine Sd_iinc (pc' := 35) (l' := [(2, _), (1, _), (0, _)]) (dc D_She_staleOnes 20 rfl) rfl 2 rfl (by decide) rfl ?_
        refine Sd_goto (tgt := 4) (dc D_She_staleOnes 21 rfl) (by decide) ?_
        refine Sd.sub (l' := [(0, _), (1, _), (2, _)]) [2, 1, 0] rfl ?_
        exact s_She_staleOnes_L4 n _ _ _ _
def She_staleOnes (v0 : Nat) (h : AH) : Option (Int × AH) := She_staleOnes_L4 FU v0 0 0 h
set_option maxHeartbeats 4000000 in
set_option maxRecDepth 20000 in
theorem s_She_staleOnes (v0 : Nat) (h : AH) : CS M_She_staleOnes 1 0 emI [vr v0] h (She_staleOnes v0 h) := by
  refine CS.of (by decide) (Nat.le_of_ble_eq_true rfl) ?_
  show Sd M_She_staleOnes 1 0 emI 0 [(0, vr v0)] [] h _
  unfold She_staleOnes
  refine Sd_iconst (pc' := 1) (dc D_She_staleOnes 0 rfl) rfl ⟨by decide, by decide⟩ ?_
  refine Sd_istore_n (pc' := 2) (l' := [(1, _), (0, _)]) (dc D_She_staleOnes 1 rfl) rfl rfl (by decide) rfl ?_
  refine Sd_iconst (pc' := 3) (dc D_She_staleOnes 2 rfl) rfl ⟨by decide, by decide⟩ ?_
  refine Sd_istore_n (pc' := 4) (l' := [(2, _), (1, _), (0, _)]) (dc D_She_staleOnes 3 rfl) rfl rfl (by decide) rfl ?_
  refine Sd.sub (l' := [(0, _), (1, _), (2, _)]) [2, 1, 0] rfl ?_
  exact s_She_staleOnes_L4 FU _ _ _ _
theorem K_She_staleOnes : MOk M_She_staleOnes 0 := ⟨Tb_at 125 (by decide +kernel) rfl, Tb_at 1189 (by decide +kernel) rfl, by decide +kernel, by decide +kernel, by decide +kernel⟩
theorem Ks_She_staleOnes : Cond.instanceMethod yX7_staleOnes ∈ Tb := Tb_at 1187 (by decide +kernel) rfl
theorem Kv_She_staleOnes : Cond.selects RX7 yX7_staleOnes yX7_staleOnes ∈ Tb := Tb_at 1188 (by decide +kernel) rfl
/-! ===== BatchShare$World.copy(LBatchShare$World;)V ===== -/
abbrev M_Wor_copy : AMt := (yX10_copy, cX10_copy, 4, none)
def T_Wor_copy : List (Nat × Instr × Nat) := [(0, .aload_n 0, 1), (1, .getfield 12, 3), (4, .aload_n 1, 1), (5, .getfield 12, 3), (8, .invokevirtual 22, 3), (11, .aload_n 0, 1), (12, .aload_n 1, 1), (13, .getfield 26, 3), (16, .putfield 26, 3), (19, .aload_n 0, 1), (20, .iconst 0, 1), (21, .putfield 30, 3), (24, .aload_n 0, 1), (25, .iconst 0, 1), (26, .putfield 33, 3), (29, .iconst 0, 1), (30, .istore_n 2, 1), (31, .iload_n 2, 1), (32, .aload_n 1, 1), (33, .getfield 33, 3), (36, .if_icmp .ge 33, 3), (39, .aload_n 1, 1), (40, .getfield 18, 3), (43, .aload_n 1, 1), (44, .getfield 30, 3), (47, .iload_n 2, 1), (48, .iadd, 1), (49, .bipush 20, 2), (51, .irem, 1), (52, .aaload, 1), (53, .astore_n 3, 1), (54, .aload_n 3, 1), (55, .ifnull 8, 3), (58, .aload_n 0, 1), (59, .aload_n 3, 1), (60, .invokevirtual 36, 3), (63, .iinc 2 1, 3), (66, .goto (-35), 3), (69, .return_, 1)]
set_option maxRecDepth 20000 in
theorem D_Wor_copy : (T_Wor_copy.all fun q => decide (decode M_Wor_copy.2.1 q.1 = .ok q.2)) = true := by decide +kernel
def Wor_copy_L31 : Nat → Nat → Nat → Int → AH → Option (Unit × AH)
  | 0, _, _, _, _ => none
  | n + 1, v0, v1, v2, h => gI h 11 v1 3 fun x1 => if (x1 : Int) ≤ v2 then (some ((), h)) else (gR h 11 v1 1 fun r2 => gI h 11 v1 2 fun x3 => if (20 : Int) = 0 then none else aR h 33 r2 (iRem (wr (x3 + v2)) 20) fun r4 => if r4 = 0 then none else if r4 = 0 then (Wor_copy_L31 n v0 v1 ((wr (v2 + 1))) h) else (rc h 11 v0 <| bnd (Wor_add v0 r4 h) fun _ h5 => Wor_copy_L31 n v0 v1 ((wr (v2 + 1))) h5))
set_option maxHeartbeats 4000000 in
set_option maxRecDepth 20000 in
theorem s_Wor_copy_L31 : ∀ (n : Nat) (v0 : Nat) (v1 : Nat) (v2 : Int) (h : AH), Sd M_Wor_copy 6 133 emV 31 [(0, vr v0), (1, vr v1), (2, vi v2)] [] h (Wor_copy_L31 n v0 v1 v2 h)
  | 0, _, _, _, _ => Sd.none
  | n + 1, v0, v1, v2, h => by
    rw [Wor_copy_L31]
    refine Sd_iload_n (pc' := 32) (dc D_Wor_copy 17 rfl) rfl 2 rfl rfl ?_
    refine Sd_aload_n (pc' := 33) (dc D_Wor_copy 18 rfl) rfl 1 rfl rfl ?_
    refine Sd_getI (pc' := 36) (dc D_Wor_copy 19 rfl) rfl F_Wor_33 rfl rfl ?_
    refine Sd_icmp_ge (tgt := 69) (pc' := 39) (dc D_Wor_copy 20 rfl) (by decide) rfl (fun _ => ?_) (fun _ => ?_)
    · exact Sd_vret (dc D_Wor_copy 38 rfl) rfl
    · refine Sd_aload_n (pc' := 40) (dc D_Wor_copy 21 rfl) rfl 1 rfl rfl ?_
      refine Sd_getR (pc' := 43) (dc D_Wor_copy 22 rfl) rfl F_Wor_18 rfl rfl ?_
      refine Sd_aload_n (pc' := 44) (dc D_Wor_copy 23 rfl) rfl 1 rfl rfl ?_
      refine Sd_getI (pc' := 47) (dc D_Wor_copy 24 rfl) rfl F_Wor_30 rfl rfl ?_
      refine Sd_iload_n (pc' := 48) (dc D_Wor_copy 25 rfl) rfl 2 rfl rfl ?_
      refine Sd_iadd (pc' := 49) (dc D_Wor_copy 26 rfl) rfl ?_
      refine Sd_bipush (pc' := 51) (dc D_Wor_copy 27 rfl) rfl ⟨by decide, by decide⟩ (by decide) ?_
      refine Sd_irem (pc' := 52) (dc D_Wor_copy 28 rfl) rfl ?_
      refine Sd_aaload (t := 33) (j := 5) (C0 := RX8) (pc' := 53) (dc D_Wor_copy 29 rfl) rfl rfl (by decide) ?_
      refine Sd_astore_n (pc' := 54) (l' := [(3, _), (0, _), (1, _), (2, _)]) (dc D_Wor_copy 30 rfl) rfl rfl (by decide) rfl (fun _ => ?_)
      refine Sd_aload_n (pc' := 55) (dc D_Wor_copy 31 rfl) rfl 0 rfl rfl ?_
      refine Sd_ifnull (tgt := 63) (pc' := 58) (dc D_Wor_copy 32 rfl) (by decide) rfl (fun _ => ?_) (fun _ => ?_)
      · refine Sd_iinc (pc' := 66) (l' := [(2, _), (3, _), (0, _), (1, _)]) (dc D_Wor_copy 36 rfl) rfl 3 rfl (by decide) rfl ?_
        refine Sd_goto (tgt := 31) (dc D_Wor_copy 37 rfl) (by decide) ?_
        refine Sd.sub (l' := [(0, _), (1, _), (2, _)]) [2, 3, 0] rfl ?_
        exact s_Wor_copy_L31 n _ _ _ _
      · refine Sd_aload_n (pc' := 59) (dc D_Wor_copy 33 rfl) rfl 1 rfl rfl ?_
        refine Sd_aload_n (pc' := 60) (dc D_Wor_copy 34 rfl) rfl 0 rfl rfl ?_
        refine Sd.callVV (ci := 10) (t := 11) (as := [_]) RX10 (pc' := 63) (dc D_Wor_copy 35 rfl) rfl rfl rfl rfl K_Wor_add L_Wor_36 Ks_Wor_add Kv_Wor_add ⟨by decide, by decide⟩ rfl rfl (Nat.le_of_ble_eq_true rfl) (s_Wor_add _ _ _) (fun _ h5 => ?_)
        refine Sd_iinc (pc' := 66) (l' := [(2, _), (3, _), (0, _), (1, _)]) (dc D_Wor_copy 36 rfl) rfl 3 rfl (by decide) rfl ?_
        refine Sd_goto (tgt := 31) (dc D_Wor_copy 37 rfl) (by decide) ?_
        refine Sd.sub (l' := [(0, _), (1, _), (2, _)]) [2, 3, 0] rfl ?_
        exact s_Wor_copy_L31 n _ _ _ _
def Wor_copy (v0 : Nat) (v1 : Nat) (h : AH) : Option (Unit × AH) := gR h 11 v0 0 fun r1 => gR h 11 v1 0 fun r2 => rc h 9 r1 <| bnd (Sta_copy r1 r2 h) fun _ h3 => gI h3 11 v1 4 fun x6 => pI h3 11 v0 4 x6 fun h7 => pI h7 11 v0 2 0 fun h8 => pI h8 11 v0 3 0 fun h9 => Wor_copy_L31 FU v0 v1 0 h9
set_option maxHeartbeats 4000000 in
set_option maxRecDepth 20000 in
theorem s_Wor_copy (v0 : Nat) (v1 : Nat) (h : AH) : CS M_Wor_copy 6 133 emV [vr v0, vr v1] h (Wor_copy v0 v1 h) := by
  refine CS.of (by decide) (Nat.le_of_ble_eq_true rfl) ?_
  show Sd M_Wor_copy 6 133 emV 0 [(0, vr v0), (1, vr v1)] [] h _
  unfold Wor_copy
  refine Sd_aload_n (pc' := 1) (dc D_Wor_copy 0 rfl) rfl 0 rfl rfl ?_
  refine Sd_getR (pc' := 4) (dc D_Wor_copy 1 rfl) rfl F_Wor_12 rfl rfl ?_
  refine Sd_aload_n (pc' := 5) (dc D_Wor_copy 2 rfl) rfl 1 rfl rfl ?_
  refine Sd_getR (pc' := 8) (dc D_Wor_copy 3 rfl) rfl F_Wor_12 rfl rfl ?_
  refine Sd.callVV (ci := 8) (t := 9) (as := [_]) RX8 (pc' := 11) (dc D_Wor_copy 4 rfl) rfl rfl rfl rfl K_Sta_copy L_Wor_22 Ks_Sta_copy Kv_Sta_copy ⟨by decide, by decide⟩ rfl rfl (Nat.le_of_ble_eq_true rfl) (s_Sta_copy _ _ _) (fun _ h3 => ?_)
  refine Sd_aload_n (pc' := 12) (dc D_Wor_copy 5 rfl) rfl 0 rfl rfl ?_
  refine Sd_aload_n (pc' := 13) (dc D_Wor_copy 6 rfl) rfl 1 rfl rfl ?_
  refine Sd_getI (pc' := 16) (dc D_Wor_copy 7 rfl) rfl F_Wor_26 rfl rfl ?_
  refine Sd_putI (pc' := 19) (dc D_Wor_copy 8 rfl) rfl F_Wor_26 rfl rfl rfl (finOk.no rfl) (by decide) ?_
  refine Sd_aload_n (pc' := 20) (dc D_Wor_copy 9 rfl) rfl 0 rfl rfl ?_
  refine Sd_iconst (pc' := 21) (dc D_Wor_copy 10 rfl) rfl ⟨by decide, by decide⟩ ?_
  refine Sd_putI (pc' := 24) (dc D_Wor_copy 11 rfl) rfl F_Wor_30 rfl rfl rfl (finOk.no rfl) (by decide) ?_
  refine Sd_aload_n (pc' := 25) (dc D_Wor_copy 12 rfl) rfl 0 rfl rfl ?_
  refine Sd_iconst (pc' := 26) (dc D_Wor_copy 13 rfl) rfl ⟨by decide, by decide⟩ ?_
  refine Sd_putI (pc' := 29) (dc D_Wor_copy 14 rfl) rfl F_Wor_33 rfl rfl rfl (finOk.no rfl) (by decide) ?_
  refine Sd_iconst (pc' := 30) (dc D_Wor_copy 15 rfl) rfl ⟨by decide, by decide⟩ ?_
  refine Sd_istore_n (pc' := 31) (l' := [(2, _), (0, _), (1, _)]) (dc D_Wor_copy 16 rfl) rfl rfl (by decide) rfl ?_
  refine Sd.sub (l' := [(0, _), (1, _), (2, _)]) [1, 2, 0] rfl ?_
  exact s_Wor_copy_L31 FU _ _ _ _
theorem K_Wor_copy : MOk M_Wor_copy 1 := ⟨Tb_at 123 (by decide +kernel) rfl, Tb_at 1206 (by decide +kernel) rfl, by decide +kernel, by decide +kernel, by decide +kernel⟩
theorem Ks_Wor_copy : Cond.instanceMethod yX10_copy ∈ Tb := Tb_at 1204 (by decide +kernel) rfl
theorem Kv_Wor_copy : Cond.selects RX10 yX10_copy yX10_copy ∈ Tb := Tb_at 1205 (by decide +kernel) rfl
