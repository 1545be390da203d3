/-! ===== BatchShare$Part.<init>()V ===== -/
abbrev M_Par_init : AMt := (yX3_init, cX3_init, 1, none)
def T_Par_init : List (Nat × Instr × Nat) := [(0, .aload_n 0, 1), (1, .invokespecial 3, 3), (4, .aload_n 0, 1), (5, .bipush 13, 2), (7, .newarray .int, 2), (9, .putfield 9, 3), (12, .return_, 1)]
set_option maxRecDepth 20000 in
theorem D_Par_init : (T_Par_init.all fun q => decide (decode M_Par_init.2.1 q.1 = .ok q.2)) = true := by decide +kernel
def Par_init (v0 : Nat) (h : AH) : Option (Unit × AH) := oi v0 <| nA h 21 13 fun r1 h2 => pR h2 4 v0 0 r1 fun h3 => some ((), h3)
set_option maxHeartbeats 4000000 in
set_option maxRecDepth 20000 in
theorem s_Par_init (v0 : Nat) (h : AH) : CS M_Par_init 1 20 emV [vr v0] h (Par_init v0 h) := by
  refine CS.of (by decide) (Nat.le_of_ble_eq_true rfl) ?_
  show Sd M_Par_init 1 20 emV 0 [(0, vr v0)] [] h _
  unfold Par_init
  refine Sd_aload_n (pc' := 1) (dc D_Par_init 0 rfl) rfl 0 rfl rfl ?_
  refine Sd_oi (pc' := 4) (dc D_Par_init 1 rfl) rfl L_Par_3 W_obj2 W_obj3 (by decide) (Nat.le_of_ble_eq_true rfl) ?_
  refine Sd_aload_n (pc' := 5) (dc D_Par_init 2 rfl) rfl 0 rfl rfl ?_
  refine Sd_bipush (pc' := 7) (dc D_Par_init 3 rfl) rfl ⟨by decide, by decide⟩ (by decide) ?_
  refine Sd_newarray (t := 21) (j := 0) (ty := .int) (pc' := 9) (dc D_Par_init 4 rfl) rfl rfl (by decide) rfl W_aI (by decide) rfl (fun _ _ h => h) ?_
  refine Sd_putR (pc' := 12) (dc D_Par_init 5 rfl) rfl F_Par_9 rfl rfl rfl (finOk.yes rfl rfl) (by decide) ?_
  exact Sd_vret (dc D_Par_init 6 rfl) rfl
theorem K_Par_init : MOk M_Par_init 0 := ⟨Tb_at 127 (by decide +kernel) rfl, Tb_at 206 (by decide +kernel) rfl, by decide +kernel, by decide +kernel, by decide +kernel⟩
theorem Ks_Par_init : Cond.instanceMethod yX3_init ∈ Tb := Tb_at 205 (by decide +kernel) rfl
/-! ===== BatchShare$Kept.<init>()V ===== -/
abbrev M_Kep_init : AMt := (yX2_init, cX2_init, 1, none)
def T_Kep_init : List (Nat × Instr × Nat) := [(0, .aload_n 0, 1), (1, .invokespecial 1, 3), (4, .aload_n 0, 1), (5, .new 7, 3), (8, .dup, 1), (9, .invokespecial 9, 3), (12, .putfield 10, 3), (15, .return_, 1)]
set_option maxRecDepth 20000 in
theorem D_Kep_init : (T_Kep_init.all fun q => decide (decode M_Kep_init.2.1 q.1 = .ok q.2)) = true := by decide +kernel
def Kep_init (v0 : Nat) (h : AH) : Option (Unit × AH) := oi v0 <| nO h 4 1 fun r1 h2 => bnd (Par_init r1 h2) fun _ h3 => pR h3 3 v0 0 r1 fun h6 => some ((), h6)
set_option maxHeartbeats 4000000 in
set_option maxRecDepth 20000 in
theorem s_Kep_init (v0 : Nat) (h : AH) : CS M_Kep_init 2 40 emV [vr v0] h (Kep_init v0 h) := by
  refine CS.of (by decide) (Nat.le_of_ble_eq_true rfl) ?_
  show Sd M_Kep_init 2 40 emV 0 [(0, vr v0)] [] h _
  unfold Kep_init
  refine Sd_aload_n (pc' := 1) (dc D_Kep_init 0 rfl) rfl 0 rfl rfl ?_
  refine Sd_oi (pc' := 4) (dc D_Kep_init 1 rfl) rfl L_Kep_1 W_obj2 W_obj3 (by decide) (Nat.le_of_ble_eq_true rfl) ?_
  refine Sd_aload_n (pc' := 5) (dc D_Kep_init 2 rfl) rfl 0 rfl rfl ?_
  refine Sd_new (ci := 3) (t := 4) (sl := 1) RX3 (pc' := 8) (dc D_Kep_init 3 rfl) rfl rfl rfl C_Kep_7 Ni_Par Nz_Par ?_
  refine Sd_dup (pc' := 9) (dc D_Kep_init 4 rfl) rfl (cat_r _) ?_
  refine Sd.callNV (as := []) (pc' := 12) (dc D_Kep_init 5 rfl) rfl (Nat.le_add_right 16 _) K_Par_init (List.mem_of_getElem? (i := 2) rfl) Ks_Par_init rfl rfl ⟨by decide, by decide⟩ rfl rfl (Nat.le_of_ble_eq_true rfl) (s_Par_init _ _) (fun _ h3 => ?_)
  refine Sd_putR (pc' := 15) (dc D_Kep_init 6 rfl) rfl F_Kep_10 rfl rfl rfl (finOk.yes rfl rfl) (by decide) ?_
  exact Sd_vret (dc D_Kep_init 7 rfl) rfl
theorem K_Kep_init : MOk M_Kep_init 0 := ⟨Tb_at 126 (by decide +kernel) rfl, Tb_at 200 (by decide +kernel) rfl, by decide +kernel, by decide +kernel, by decide +kernel⟩
theorem Ks_Kep_init : Cond.instanceMethod yX2_init ∈ Tb := Tb_at 199 (by decide +kernel) rfl
/-! ===== BatchShare$Part.copy(LBatchShare$Part;)V ===== -/
abbrev M_Par_copy : AMt := (yX3_copy, cX3_copy, 2, none)
def T_Par_copy : List (Nat × Instr × Nat) := [(0, .aload_n 1, 1), (1, .getfield 9, 3), (4, .iconst 0, 1), (5, .aload_n 0, 1), (6, .getfield 9, 3), (9, .iconst 0, 1), (10, .bipush 13, 2), (12, .invokestatic 15, 3), (15, .return_, 1)]
set_option maxRecDepth 20000 in
theorem D_Par_copy : (T_Par_copy.all fun q => decide (decode M_Par_copy.2.1 q.1 = .ok q.2)) = true := by decide +kernel
def Par_copy (v0 : Nat) (v1 : Nat) (h : AH) : Option (Unit × AH) := gR h 4 v1 0 fun r1 => gR h 4 v0 0 fun r2 => cp h r1 0 r2 0 13 fun h3 => some ((), h3)
set_option maxHeartbeats 4000000 in
set_option maxRecDepth 20000 in
theorem s_Par_copy (v0 : Nat) (v1 : Nat) (h : AH) : CS M_Par_copy 1 26 emV [vr v0, vr v1] h (Par_copy v0 v1 h) := by
  refine CS.of (by decide) (Nat.le_of_ble_eq_true rfl) ?_
  show Sd M_Par_copy 1 26 emV 0 [(0, vr v0), (1, vr v1)] [] h _
  unfold Par_copy
  refine Sd_aload_n (pc' := 1) (dc D_Par_copy 0 rfl) rfl 1 rfl rfl ?_
  refine Sd_getR (pc' := 4) (dc D_Par_copy 1 rfl) rfl F_Par_9 rfl rfl ?_
  refine Sd_iconst (pc' := 5) (dc D_Par_copy 2 rfl) rfl ⟨by decide, by decide⟩ ?_
  refine Sd_aload_n (pc' := 6) (dc D_Par_copy 3 rfl) rfl 0 rfl rfl ?_
  refine Sd_getR (pc' := 9) (dc D_Par_copy 4 rfl) rfl F_Par_9 rfl rfl ?_
  refine Sd_iconst (pc' := 10) (dc D_Par_copy 5 rfl) rfl ⟨by decide, by decide⟩ ?_
  refine Sd_bipush (pc' := 12) (dc D_Par_copy 6 rfl) rfl ⟨by decide, by decide⟩ (by decide) ?_
  refine Sd_copy (pc' := 15) (dc D_Par_copy 7 rfl) rfl L_Par_15 W_cp2 W_cp3 W_cp4 (by decide) (Nat.le_of_ble_eq_true rfl) ?_
  exact Sd_vret (dc D_Par_copy 8 rfl) rfl
theorem K_Par_copy : MOk M_Par_copy 1 := ⟨Tb_at 127 (by decide +kernel) rfl, Tb_at 660 (by decide +kernel) rfl, by decide +kernel, by decide +kernel, by decide +kernel⟩
theorem Ks_Par_copy : Cond.instanceMethod yX3_copy ∈ Tb := Tb_at 658 (by decide +kernel) rfl
theorem Kv_Par_copy : Cond.selects RX3 yX3_copy yX3_copy ∈ Tb := Tb_at 659 (by decide +kernel) rfl
/-! ===== BatchShare$Kept.copy(LBatchShare$Kept;)V ===== -/
abbrev M_Kep_copy : AMt := (yX2_copy, cX2_copy, 2, none)
def T_Kep_copy : List (Nat × Instr × Nat) := [(0, .aload_n 0, 1), (1, .getfield 10, 3), (4, .aload_n 1, 1), (5, .getfield 10, 3), (8, .invokevirtual 16, 3), (11, .aload_n 0, 1), (12, .aload_n 1, 1), (13, .getfield 20, 3), (16, .putfield 20, 3), (19, .aload_n 0, 1), (20, .aload_n 1, 1), (21, .getfield 24, 3), (24, .putfield 24, 3), (27, .aload_n 0, 1), (28, .aload_n 1, 1), (29, .getfield 27, 3), (32, .putfield 27, 3), (35, .return_, 1)]
set_option maxRecDepth 20000 in
theorem D_Kep_copy : (T_Kep_copy.all fun q => decide (decode M_Kep_copy.2.1 q.1 = .ok q.2)) = true := by decide +kernel
def Kep_copy (v0 : Nat) (v1 : Nat) (h : AH) : Option (Unit × AH) := gR h 3 v0 0 fun r1 => gR h 3 v1 0 fun r2 => rc h 4 r1 <| bnd (Par_copy r1 r2 h) fun _ h3 => gI h3 3 v1 1 fun x6 => pI h3 3 v0 1 x6 fun h7 => gI h7 3 v1 2 fun x8 => pI h7 3 v0 2 x8 fun h9 => gI h9 3 v1 3 fun x10 => pZ h9 3 v0 3 x10 fun h11 => some ((), h11)
set_option maxHeartbeats 4000000 in
set_option maxRecDepth 20000 in
theorem s_Kep_copy (v0 : Nat) (v1 : Nat) (h : AH) : CS M_Kep_copy 2 47 emV [vr v0, vr v1] h (Kep_copy v0 v1 h) := by
  refine CS.of (by decide) (Nat.le_of_ble_eq_true rfl) ?_
  show Sd M_Kep_copy 2 47 emV 0 [(0, vr v0), (1, vr v1)] [] h _
  unfold Kep_copy
  refine Sd_aload_n (pc' := 1) (dc D_Kep_copy 0 rfl) rfl 0 rfl rfl ?_
  refine Sd_getR (pc' := 4) (dc D_Kep_copy 1 rfl) rfl F_Kep_10 rfl rfl ?_
  refine Sd_aload_n (pc' := 5) (dc D_Kep_copy 2 rfl) rfl 1 rfl rfl ?_
  refine Sd_getR (pc' := 8) (dc D_Kep_copy 3 rfl) rfl F_Kep_10 rfl rfl ?_
  refine Sd.callVV (ci := 3) (t := 4) (as := [_]) RX3 (pc' := 11) (dc D_Kep_copy 4 rfl) rfl rfl rfl rfl K_Par_copy L_Kep_16 Ks_Par_copy Kv_Par_copy ⟨by decide, by decide⟩ rfl rfl (Nat.le_of_ble_eq_true rfl) (s_Par_copy _ _ _) (fun _ h3 => ?_)
  refine Sd_aload_n (pc' := 12) (dc D_Kep_copy 5 rfl) rfl 0 rfl rfl ?_
  refine Sd_aload_n (pc' := 13) (dc D_Kep_copy 6 rfl) rfl 1 rfl rfl ?_
  refine Sd_getI (pc' := 16) (dc D_Kep_copy 7 rfl) rfl F_Kep_20 rfl rfl ?_
  refine Sd_putI (pc' := 19) (dc D_Kep_copy 8 rfl) rfl F_Kep_20 rfl rfl rfl (finOk.no rfl) (by decide) ?_
  refine Sd_aload_n (pc' := 20) (dc D_Kep_copy 9 rfl) rfl 0 rfl rfl ?_
  refine Sd_aload_n (pc' := 21) (dc D_Kep_copy 10 rfl) rfl 1 rfl rfl ?_
  refine Sd_getI (pc' := 24) (dc D_Kep_copy 11 rfl) rfl F_Kep_24 rfl rfl ?_
  refine Sd_putI (pc' := 27) (dc D_Kep_copy 12 rfl) rfl F_Kep_24 rfl rfl rfl (finOk.no rfl) (by decide) ?_
  refine Sd_aload_n (pc' := 28) (dc D_Kep_copy 13 rfl) rfl 0 rfl rfl ?_
  refine Sd_aload_n (pc' := 29) (dc D_Kep_copy 14 rfl) rfl 1 rfl rfl ?_
  refine Sd_getI (pc' := 32) (dc D_Kep_copy 15 rfl) rfl F_Kep_27 rfl rfl ?_
  refine Sd_putZ (pc' := 35) (dc D_Kep_copy 16 rfl) rfl F_Kep_27 rfl rfl rfl (finOk.no rfl) (by decide) ?_
  exact Sd_vret (dc D_Kep_copy 17 rfl) rfl
theorem K_Kep_copy : MOk M_Kep_copy 1 := ⟨Tb_at 126 (by decide +kernel) rfl, Tb_at 656 (by decide +kernel) rfl, by decide +kernel, by decide +kernel, by decide +kernel⟩
theorem Ks_Kep_copy : Cond.instanceMethod yX2_copy ∈ Tb := Tb_at 654 (by decide +kernel) rfl
theorem Kv_Kep_copy : Cond.selects RX2 yX2_copy yX2_copy ∈ Tb := Tb_at 655 (by decide +kernel) rfl
/-! ===== BatchShare$Part.limit(III)V ===== -/
abbrev M_Par_limit : AMt := (yX3_limit, cX3_limit, 4, none)
def T_Par_limit : List (Nat × Instr × Nat) := [(0, .aload_n 0, 1), (1, .getfield 9, 3), (4, .iconst 3, 1), (5, .iconst 2, 1), (6, .iload_n 1, 1), (7, .imul, 1), (8, .iadd, 1), (9, .iload_n 2, 1), (10, .iastore, 1), (11, .aload_n 0, 1), (12, .getfield 9, 3), (15, .iconst 4, 1), (16, .iconst 2, 1), (17, .iload_n 1, 1), (18, .imul, 1), (19, .iadd, 1), (20, .iload_n 3, 1), (21, .iastore, 1), (22, .return_, 1)]
set_option maxRecDepth 20000 in
theorem D_Par_limit : (T_Par_limit.all fun q => decide (decode M_Par_limit.2.1 q.1 = .ok q.2)) = true := by decide +kernel
def Par_limit (v0 : Nat) (v1 : Int) (v2 : Int) (v3 : Int) (h : AH) : Option (Unit × AH) := gR h 4 v0 0 fun r1 => wI h 21 r1 (wr (3 + (wr (2 * v1)))) v2 fun h2 => gR h2 4 v0 0 fun r3 => wI h2 21 r3 (wr (4 + (wr (2 * v1)))) v3 fun h4 => some ((), h4)
set_option maxHeartbeats 4000000 in
set_option maxRecDepth 20000 in
theorem s_Par_limit (v0 : Nat) (v1 : Int) (v2 : Int) (v3 : Int) (h : AH) : CS M_Par_limit 1 0 emV [vr v0, vi v1, vi v2, vi v3] h (Par_limit v0 v1 v2 v3 h) := by
  refine CS.of (by decide) (Nat.le_of_ble_eq_true rfl) ?_
  show Sd M_Par_limit 1 0 emV 0 [(0, vr v0), (1, vi v1), (2, vi v2), (3, vi v3)] [] h _
  unfold Par_limit
  refine Sd_aload_n (pc' := 1) (dc D_Par_limit 0 rfl) rfl 0 rfl rfl ?_
  refine Sd_getR (pc' := 4) (dc D_Par_limit 1 rfl) rfl F_Par_9 rfl rfl ?_
  refine Sd_iconst (pc' := 5) (dc D_Par_limit 2 rfl) rfl ⟨by decide, by decide⟩ ?_
  refine Sd_iconst (pc' := 6) (dc D_Par_limit 3 rfl) rfl ⟨by decide, by decide⟩ ?_
  refine Sd_iload_n (pc' := 7) (dc D_Par_limit 4 rfl) rfl 1 rfl rfl ?_
  refine Sd_imul (pc' := 8) (dc D_Par_limit 5 rfl) rfl ?_
  refine Sd_iadd (pc' := 9) (dc D_Par_limit 6 rfl) rfl ?_
  refine Sd_iload_n (pc' := 10) (dc D_Par_limit 7 rfl) rfl 2 rfl rfl ?_
  refine Sd_iastore (pc' := 11) (dc D_Par_limit 8 rfl) rfl (by decide) ?_
  refine Sd_aload_n (pc' := 12) (dc D_Par_limit 9 rfl) rfl 0 rfl rfl ?_
  refine Sd_getR (pc' := 15) (dc D_Par_limit 10 rfl) rfl F_Par_9 rfl rfl ?_
  refine Sd_iconst (pc' := 16) (dc D_Par_limit 11 rfl) rfl ⟨by decide, by decide⟩ ?_
  refine Sd_iconst (pc' := 17) (dc D_Par_limit 12 rfl) rfl ⟨by decide, by decide⟩ ?_
  refine Sd_iload_n (pc' := 18) (dc D_Par_limit 13 rfl) rfl 1 rfl rfl ?_
  refine Sd_imul (pc' := 19) (dc D_Par_limit 14 rfl) rfl ?_
  refine Sd_iadd (pc' := 20) (dc D_Par_limit 15 rfl) rfl ?_
  refine Sd_iload_n (pc' := 21) (dc D_Par_limit 16 rfl) rfl 3 rfl rfl ?_
  refine Sd_iastore (pc' := 22) (dc D_Par_limit 17 rfl) rfl (by decide) ?_
  exact Sd_vret (dc D_Par_limit 18 rfl) rfl
theorem K_Par_limit : MOk M_Par_limit 3 := ⟨Tb_at 127 (by decide +kernel) rfl, Tb_at 751 (by decide +kernel) rfl, by decide +kernel, by decide +kernel, by decide +kernel⟩
theorem Ks_Par_limit : Cond.instanceMethod yX3_limit ∈ Tb := Tb_at 749 (by decide +kernel) rfl
theorem Kv_Par_limit : Cond.selects RX3 yX3_limit yX3_limit ∈ Tb := Tb_at 750 (by decide +kernel) rfl
/-! ===== BatchShare$Part.kind()I ===== -/
abbrev M_Par_kind : AMt := (yX3_kind, cX3_kind, 1, (some .int))
def T_Par_kind : List (Nat × Instr × Nat) := [(0, .aload_n 0, 1), (1, .getfield 9, 3), (4, .iconst 0, 1), (5, .iaload, 1), (6, .ireturn, 1)]
set_option maxRecDepth 20000 in
theorem D_Par_kind : (T_Par_kind.all fun q => decide (decode M_Par_kind.2.1 q.1 = .ok q.2)) = true := by decide +kernel
def Par_kind (v0 : Nat) (h : AH) : Option (Int × AH) := gR h 4 v0 0 fun r1 => aI h 21 r1 0 fun x2 => some (x2, h)
set_option maxHeartbeats 4000000 in
set_option maxRecDepth 20000 in
theorem s_Par_kind (v0 : Nat) (h : AH) : CS M_Par_kind 1 0 emI [vr v0] h (Par_kind v0 h) := by
  refine CS.of (by decide) (Nat.le_of_ble_eq_true rfl) ?_
  show Sd M_Par_kind 1 0 emI 0 [(0, vr v0)] [] h _
  unfold Par_kind
  refine Sd_aload_n (pc' := 1) (dc D_Par_kind 0 rfl) rfl 0 rfl rfl ?_
  refine Sd_getR (pc' := 4) (dc D_Par_kind 1 rfl) rfl F_Par_9 rfl rfl ?_
  refine Sd_iconst (pc' := 5) (dc D_Par_kind 2 rfl) rfl ⟨by decide, by decide⟩ ?_
  refine Sd_iaload (pc' := 6) (dc D_Par_kind 3 rfl) rfl ?_
  exact Sd_iret (dc D_Par_kind 4 rfl) rfl
theorem K_Par_kind : MOk M_Par_kind 0 := ⟨Tb_at 127 (by decide +kernel) rfl, Tb_at 817 (by decide +kernel) rfl, by decide +kernel, by decide +kernel, by decide +kernel⟩
theorem Ks_Par_kind : Cond.instanceMethod yX3_kind ∈ Tb := Tb_at 815 (by decide +kernel) rfl
theorem Kv_Par_kind : Cond.selects RX3 yX3_kind yX3_kind ∈ Tb := Tb_at 816 (by decide +kernel) rfl
/-! ===== BatchShare$Part.takes(LBatchShare$Table;I)Z ===== -/
abbrev M_Par_takes : AMt := (yX3_takes, cX3_takes, 7, (some .boolean))
def T_Par_takes : List (Nat × Instr × Nat) := [(0, .aload_n 1, 1), (1, .iload_n 2, 1), (2, .invokevirtual 49, 3), (5, .istore_n 3, 1), (6, .iconst 0, 1), (7, .istore 4, 2), (9, .iload 4, 2), (11, .aload_n 1, 1), (12, .getfield 55, 3), (15, .if_icmp .ge 74, 3), (18, .iload_n 3, 1), (19, .ifCond .eq 70, 3), (22, .aload_n 1, 1), (23, .getfield 59, 3), (26, .iload_n 2, 1), (27, .aload_n 1, 1), (28, .getfield 55, 3), (31, .imul, 1), (32, .iload 4, 2), (34, .iadd, 1), (35, .iaload, 1), (36, .istore 5, 2), (38, .iconst 3, 1), (39, .iconst 2, 1), (40, .aload_n 1, 1), (41, .getfield 62, 3), (44, .iload 4, 2), (46, .iadd, 1), (47, .imul, 1), (48, .iadd, 1), (49, .istore 6, 2), (51, .iload 5, 2), (53, .aload_n 0, 1), (54, .getfield 9, 3), (57, .iload 6, 2), (59, .iaload, 1), (60, .if_icmp .lt 21, 3), (63, .iload 5, 2), (65, .aload_n 0, 1), (66, .getfield 9, 3), (69, .iload 6, 2), (71, .iconst 1, 1), (72, .iadd, 1), (73, .iaload, 1), (74, .if_icmp .gt 7, 3), (77, .iconst 1, 1), (78, .goto 4, 3), (81, .iconst 0, 1), (82, .istore_n 3, 1), (83, .iinc 4 1, 3), (86, .goto (-77), 3), (89, .iload_n 3, 1), (90, .ireturn, 1)]
set_option maxRecDepth 20000 in
theorem D_Par_takes : (T_Par_takes.all fun q => decide (decode M_Par_takes.2.1 q.1 = .ok q.2)) = true := by decide +kernel
def Par_takes_L9 : Nat → Nat → Nat → Int → Int → Int → AH → Option (Int × AH)
  | 0, _, _, _, _, _, _ => none
  | n + 1, v0, v1, v2, v3, v4, h => gI h 10 v1 1 fun x1 => if (x1 : Int) ≤ v4 then (rz v3 h) else (if (v3 : Int) = 0 then (rz v3 h) else (gR h 10 v1 2 fun r2 => gI h 10 v1 1 fun x3 => aI h 21 r2 (wr ((wr (v2 * x3)) + v4)) fun x4 => gI h 10 v1 0 fun x5 => gR h 4 v0 0 fun r6 => aI h 21 r6 (wr (3 + (wr (2 * (wr (x5 + v4)))))) fun x7 => if (x4 : Int) < x7 then (Par_takes_L9 n v0 v1 v2 0 ((wr (v4 + 1))) h) else (gR h 4 v0 0 fun r8 => aI h 21 r8 (wr ((wr (3 + (wr (2 * (wr (x5 + v4)))))) + 1)) fun x9 => if (x9 : Int) < x4 then (Par_takes_L9 n v0 v1 v2 0 ((wr (v4 + 1))) h) else (Par_takes_L9 n v0 v1 v2 1 ((wr (v4 + 1))) h))))
set_option maxHeartbeats 4000000 in
set_option maxRecDepth 20000 in
theorem s_Par_takes_L9 : ∀ (n : Nat) (v0 : Nat) (v1 : Nat) (v2 : Int) (v3 : Int) (v4 : Int) (h : AH), Sd M_Par_takes 2 21 emI 9 [(0, vr v0), (1, vr v1), (2, vi v2), (3, vi v3), (4, vi v4)] [] h (Par_takes_L9 n v0 v1 v2 v3 v4 h)
  | 0, _, _, _, _, _, _ => Sd.none
  | n + 1, v0, v1, v2, v3, v4, h => by
    rw [Par_takes_L9]
    refine Sd_iload (pc' := 11) (dc D_Par_takes 6 rfl) rfl 4 rfl ?_
    refine Sd_aload_n (pc' := 12) (dc D_Par_takes 7 rfl) rfl 1 rfl rfl ?_
    refine Sd_getI (pc' := 15) (dc D_Par_takes 8 rfl) rfl F_Par_55 rfl rfl ?_
    refine Sd_icmp_ge (tgt := 89) (pc' := 18) (dc D_Par_takes 9 rfl) (by decide) rfl (fun _ => ?_) (fun _ => ?_)
    · refine Sd_iload_n (pc' := 90) (dc D_Par_takes 51 rfl) rfl 3 rfl rfl ?_
      exact Sd_zret' (dc D_Par_takes 52 rfl) rfl
    · refine Sd_iload_n (pc' := 19) (dc D_Par_takes 10 rfl) rfl 3 rfl rfl ?_
      refine Sd_if_eq (tgt := 89) (pc' := 22) (dc D_Par_takes 11 rfl) (by decide) rfl (fun _ => ?_) (fun _ => ?_)
      · refine Sd_iload_n (pc' := 90) (dc D_Par_takes 51 rfl) rfl 3 rfl rfl ?_
        exact Sd_zret' (dc D_Par_takes 52 rfl) rfl
      · refine Sd_aload_n (pc' := 23) (dc D_Par_takes 12 rfl) rfl 1 rfl rfl ?_
        refine Sd_getR (pc' := 26) (dc D_Par_takes 13 rfl) rfl F_Par_59 rfl rfl ?_
        refine Sd_iload_n (pc' := 27) (dc D_Par_takes 14 rfl) rfl 2 rfl rfl ?_
        refine Sd_aload_n (pc' := 28) (dc D_Par_takes 15 rfl) rfl 1 rfl rfl ?_
        refine Sd_getI (pc' := 31) (dc D_Par_takes 16 rfl) rfl F_Par_55 rfl rfl ?_
        refine Sd_imul (pc' := 32) (dc D_Par_takes 17 rfl) rfl ?_
        refine Sd_iload (pc' := 34) (dc D_Par_takes 18 rfl) rfl 4 rfl ?_
        refine Sd_iadd (pc' := 35) (dc D_Par_takes 19 rfl) rfl ?_
        refine Sd_iaload (pc' := 36) (dc D_Par_takes 20 rfl) rfl ?_
        refine Sd_istore (pc' := 38) (l' := [(5, _), (0, _), (1, _), (2, _), (3, _), (4, _)]) (dc D_Par_takes 21 rfl) rfl (by decide) rfl ?_
        refine Sd_iconst (pc' := 39) (dc D_Par_takes 22 rfl) rfl ⟨by decide, by decide⟩ ?_
        refine Sd_iconst (pc' := 40) (dc D_Par_takes 23 rfl) rfl ⟨by decide, by decide⟩ ?_
        refine Sd_aload_n (pc' := 41) (dc D_Par_takes 24 rfl) rfl 2 rfl rfl ?_
        refine Sd_getI (pc' := 44) (dc D_Par_takes 25 rfl) rfl F_Par_62 rfl rfl ?_
        refine Sd_iload (pc' := 46) (dc D_Par_takes 26 rfl) rfl 5 rfl ?_
        refine Sd_iadd (pc' := 47) (dc D_Par_takes 27 rfl) rfl ?_
        refine Sd_imul (pc' := 48) (dc D_Par_takes 28 rfl) rfl ?_
        refine Sd_iadd (pc' := 49) (dc D_Par_takes 29 rfl) rfl ?_
        refine Sd_istore (pc' := 51) (l' := [(6, _), (5, _), (0, _), (1, _), (2, _), (3, _), (4, _)]) (dc D_Par_takes 30 rfl) rfl (by decide) rfl ?_
        refine Sd_iload (pc' := 53) (dc D_Par_takes 31 rfl) rfl 1 rfl ?_
        refine Sd_aload_n (pc' := 54) (dc D_Par_takes 32 rfl) rfl 2 rfl rfl ?_
        refine Sd_getR (pc' := 57) (dc D_Par_takes 33 rfl) rfl F_Par_9 rfl rfl ?_
        refine Sd_iload (pc' := 59) (dc D_Par_takes 34 rfl) rfl 0 rfl ?_
        refine Sd_iaload (pc' := 60) (dc D_Par_takes 35 rfl) rfl ?_
        refine Sd_icmp_lt (tgt := 81) (pc' := 63) (dc D_Par_takes 36 rfl) (by decide) rfl (fun _ => ?_) (fun _ => ?_)
        · refine Sd_iconst (pc' := 82) (dc D_Par_takes 47 rfl) rfl ⟨by decide, by decide⟩ ?_
          refine Sd_istore_n (pc' := 83) (l' := [(3, _), (6, _), (5, _), (0, _), (1, _), (2, _), (4, _)]) (dc D_Par_takes 48 rfl) rfl rfl (by decide) rfl ?_
          refine Sd_iinc (pc' := 86) (l' := [(4, _), (3, _), (6, _), (5, _), (0, _), (1, _), (2, _)]) (dc D_Par_takes 49 rfl) rfl 6 rfl (by decide) rfl ?_
          refine Sd_goto (tgt := 9) (dc D_Par_takes 50 rfl) (by decide) ?_
          refine Sd.sub (l' := [(0, _), (1, _), (2, _), (3, _), (4, _)]) [4, 5, 6, 1, 0] rfl ?_
          exact s_Par_takes_L9 n _ _ _ _ _ _
        · refine Sd_iload (pc' := 65) (dc D_Par_takes 37 rfl) rfl 1 rfl ?_
          refine Sd_aload_n (pc' := 66) (dc D_Par_takes 38 rfl) rfl 2 rfl rfl ?_
          refine Sd_getR (pc' := 69) (dc D_Par_takes 39 rfl) rfl F_Par_9 rfl rfl ?_
          refine Sd_iload (pc' := 71) (dc D_Par_takes 40 rfl) rfl 0 rfl ?_
          refine Sd_iconst (pc' := 72) (dc D_Par_takes 41 rfl) rfl ⟨by decide, by decide⟩ ?_
          refine Sd_iadd (pc' := 73) (dc D_Par_takes 42 rfl) rfl ?_
          refine Sd_iaload (pc' := 74) (dc D_Par_takes 43 rfl) rfl ?_
          refine Sd_icmp_gt (tgt := 81) (pc' := 77) (dc D_Par_takes 44 rfl) (by decide) rfl (fun _ => ?_) (fun _ => ?_)
          · refine Sd_iconst (pc' := 82) (dc D_Par_takes 47 rfl) rfl ⟨by decide, by decide⟩ ?_
            refine Sd_istore_n (pc' := 83) (l' := [(3, _), (6, _), (5, _), (0, _), (1, _), (2, _), (4, _)]) (dc D_Par_takes 48 rfl) rfl rfl (by decide) rfl ?_
            refine Sd_iinc (pc' := 86) (l' := [(4, _), (3, _), (6, _), (5, _), (0, _), (1, _), (2, _)]) (dc D_Par_takes 49 rfl) rfl 6 rfl (by decide) rfl ?_
            refine Sd_goto (tgt := 9) (dc D_Par_takes 50 rfl) (by decide) ?_
            refine Sd.sub (l' := [(0, _), (1, _), (2, _), (3, _), (4, _)]) [4, 5, 6, 1, 0] rfl ?_
            exact s_Par_takes_L9 n _ _ _ _ _ _
          · refine Sd_iconst (pc' := 78) (dc D_Par_takes 45 rfl) rfl ⟨by decide, by decide⟩ ?_
            refine Sd_goto (tgt := 82) (dc D_Par_takes 46 rfl) (by decide) ?_
            refine Sd_istore_n (pc' := 83) (l' := [(3, _), (6, _), (5, _), (0, _), (1, _), (2, _), (4, _)]) (dc D_Par_takes 48 rfl) rfl rfl (by decide) rfl ?_
            refine Sd_iinc (pc' := 86) (l' := [(4, _), (3, _), (6, _), (5, _), (0, _), (1, _), (2, _)]) (dc D_Par_takes 49 rfl) rfl 6 rfl (by decide) rfl ?_
            refine Sd_goto (tgt := 9) (dc D_Par_takes 50 rfl) (by decide) ?_
            refine Sd.sub (l' := [(0, _), (1, _), (2, _), (3, _), (4, _)]) [4, 5, 6, 1, 0] rfl ?_
            exact s_Par_takes_L9 n _ _ _ _ _ _
def Par_takes (v0 : Nat) (v1 : Nat) (v2 : Int) (h : AH) : Option (Int × AH) := rc h 10 v1 <| bnd (Tab_hasRow v1 v2 h) fun x2 h1 => Par_takes_L9 FU v0 v1 v2 x2 0 h1
set_option maxHeartbeats 4000000 in
set_option maxRecDepth 20000 in
theorem s_Par_takes (v0 : Nat) (v1 : Nat) (v2 : Int) (h : AH) : CS M_Par_takes 2 21 emI [vr v0, vr v1, vi v2] h (Par_takes v0 v1 v2 h) := by
  refine CS.of (by decide) (Nat.le_of_ble_eq_true rfl) ?_
  show Sd M_Par_takes 2 21 emI 0 [(0, vr v0), (1, vr v1), (2, vi v2)] [] h _
  unfold Par_takes
  refine Sd_aload_n (pc' := 1) (dc D_Par_takes 0 rfl) rfl 1 rfl rfl ?_
  refine Sd_iload_n (pc' := 2) (dc D_Par_takes 1 rfl) rfl 2 rfl rfl ?_
  refine Sd.callVI (ci := 9) (t := 10) (as := [_]) RX9 (pc' := 5) (dc D_Par_takes 2 rfl) rfl rfl rfl rfl K_Tab_hasRow L_Par_49 Ks_Tab_hasRow Kv_Tab_hasRow ⟨by decide, by decide⟩ rfl rfl (Nat.le_of_ble_eq_true rfl) (s_Tab_hasRow _ _ _) (fun x2 h1 => ?_)
  refine Sd_istore_n (pc' := 6) (l' := [(3, _), (0, _), (1, _), (2, _)]) (dc D_Par_takes 3 rfl) rfl rfl (by decide) rfl ?_
  refine Sd_iconst (pc' := 7) (dc D_Par_takes 4 rfl) rfl ⟨by decide, by decide⟩ ?_
  refine Sd_istore (pc' := 9) (l' := [(4, _), (3, _), (0, _), (1, _), (2, _)]) (dc D_Par_takes 5 rfl) rfl (by decide) rfl ?_
  refine Sd.sub (l' := [(0, _), (1, _), (2, _), (3, _), (4, _)]) [2, 3, 4, 1, 0] rfl ?_
  exact s_Par_takes_L9 FU _ _ _ _ _ _
theorem K_Par_takes : MOk M_Par_takes 2 := ⟨Tb_at 127 (by decide +kernel) rfl, Tb_at 825 (by decide +kernel) rfl, by decide +kernel, by decide +kernel, by decide +kernel⟩
theorem Ks_Par_takes : Cond.instanceMethod yX3_takes ∈ Tb := Tb_at 823 (by decide +kernel) rfl
theorem Kv_Par_takes : Cond.selects RX3 yX3_takes yX3_takes ∈ Tb := Tb_at 824 (by decide +kernel) rfl
/-! ===== BatchShare$Part.rowsOf(LBatchShare$Table;)I ===== -/
abbrev M_Par_rowsOf : AMt := (yX3_rowsOf, cX3_rowsOf, 4, (some .int))
def T_Par_rowsOf : List (Nat × Instr × Nat) := [(0, .iconst 0, 1), (1, .istore_n 2, 1), (2, .iconst 0, 1), (3, .istore_n 3, 1), (4, .iload_n 3, 1), (5, .aload_n 1, 1), (6, .getfield 78, 3), (9, .if_icmp .ge 21, 3), (12, .aload_n 0, 1), (13, .aload_n 1, 1), (14, .iload_n 3, 1), (15, .invokevirtual 74, 3), (18, .ifCond .eq 6, 3), (21, .iinc 2 1, 3), (24, .iinc 3 1, 3), (27, .goto (-23), 3), (30, .iload_n 2, 1), (31, .ireturn, 1)]
set_option maxRecDepth 20000 in
theorem D_Par_rowsOf : (T_Par_rowsOf.all fun q => decide (decode M_Par_rowsOf.2.1 q.1 = .ok q.2)) = true := by decide +kernel
def Par_rowsOf_L4 : Nat → Nat → Nat → Int → Int → AH → Option (Int × AH)
  | 0, _, _, _, _, _ => none
  | n + 1, v0, v1, v2, v3, h => gI h 10 v1 3 fun x1 => if (x1 : Int) ≤ v3 then (some (v2, h)) else (rc h 4 v0 <| bnd (Par_takes v0 v1 v3 h) fun x3 h2 => if (x3 : Int) = 0 then (Par_rowsOf_L4 n v0 v1 v2 ((wr (v3 + 1))) h2) else (Par_rowsOf_L4 n v0 v1 ((wr (v2 + 1))) ((wr (v3 + 1))) h2))
set_option maxHeartbeats 4000000 in
set_option maxRecDepth 20000 in
theorem s_Par_rowsOf_L4 : ∀ (n : Nat) (v0 : Nat) (v1 : Nat) (v2 : Int) (v3 : Int) (h : AH), Sd M_Par_rowsOf 3 47 emI 4 [(0, vr v0), (1, vr v1), (2, vi v2), (3, vi v3)] [] h (Par_rowsOf_L4 n v0 v1 v2 v3 h)
  | 0, _, _, _, _, _ => Sd.none
  | n + 1, v0, v1, v2, v3, h => by
    rw [Par_rowsOf_L4]
    refine Sd_iload_n (pc' := 5) (dc D_Par_rowsOf 4 rfl) rfl 3 rfl rfl ?_
    refine Sd_aload_n (pc' := 6) (dc D_Par_rowsOf 5 rfl) rfl 1 rfl rfl ?_
    refine Sd_getI (pc' := 9) (dc D_Par_rowsOf 6 rfl) rfl F_Par_78 rfl rfl ?_
    refine Sd_icmp_ge (tgt := 30) (pc' := 12) (dc D_Par_rowsOf 7 rfl) (by decide) rfl (fun _ => ?_) (fun _ => ?_)
    · refine Sd_iload_n (pc' := 31) (dc D_Par_rowsOf 16 rfl) rfl 2 rfl rfl ?_
      exact Sd_iret (dc D_Par_rowsOf 17 rfl) rfl
    · refine Sd_aload_n (pc' := 13) (dc D_Par_rowsOf 8 rfl) rfl 0 rfl rfl ?_
      refine Sd_aload_n (pc' := 14) (dc D_Par_rowsOf 9 rfl) rfl 1 rfl rfl ?_
      refine Sd_iload_n (pc' := 15) (dc D_Par_rowsOf 10 rfl) rfl 3 rfl rfl ?_
      refine Sd.callVI (ci := 3) (t := 4) (as := [_, _]) RX3 (pc' := 18) (dc D_Par_rowsOf 11 rfl) rfl rfl rfl rfl K_Par_takes L_Par_74 Ks_Par_takes Kv_Par_takes ⟨by decide, by decide⟩ rfl rfl (Nat.le_of_ble_eq_true rfl) (s_Par_takes _ _ _ _) (fun x3 h2 => ?_)
      refine Sd_if_eq (tgt := 24) (pc' := 21) (dc D_Par_rowsOf 12 rfl) (by decide) rfl (fun _ => ?_) (fun _ => ?_)
      · refine Sd_iinc (pc' := 27) (l' := [(3, _), (0, _), (1, _), (2, _)]) (dc D_Par_rowsOf 14 rfl) rfl 3 rfl (by decide) rfl ?_
        refine Sd_goto (tgt := 4) (dc D_Par_rowsOf 15 rfl) (by decide) ?_
        refine Sd.sub (l' := [(0, _), (1, _), (2, _), (3, _)]) [1, 2, 3, 0] rfl ?_
        exact s_Par_rowsOf_L4 n _ _ _ _ _
      · refine Sd_iinc (pc' := 24) (l' := [(2, _), (0, _), (1, _), (3, _)]) (dc D_Par_rowsOf 13 rfl) rfl 2 rfl (by decide) rfl ?_
        refine Sd_iinc (pc' := 27) (l' := [(3, _), (2, _), (0, _), (1, _)]) (dc D_Par_rowsOf 14 rfl) rfl 3 rfl (by decide) rfl ?_
        refine Sd_goto (tgt := 4) (dc D_Par_rowsOf 15 rfl) (by decide) ?_
        refine Sd.sub (l' := [(0, _), (1, _), (2, _), (3, _)]) [2, 3, 1, 0] rfl ?_
        exact s_Par_rowsOf_L4 n _ _ _ _ _
def Par_rowsOf (v0 : Nat) (v1 : Nat) (h : AH) : Option (Int × AH) := Par_rowsOf_L4 FU v0 v1 0 0 h
set_option maxHeartbeats 4000000 in
set_option maxRecDepth 20000 in
theorem s_Par_rowsOf (v0 : Nat) (v1 : Nat) (h : AH) : CS M_Par_rowsOf 3 47 emI [vr v0, vr v1] h (Par_rowsOf v0 v1 h) := by
  refine CS.of (by decide) (Nat.le_of_ble_eq_true rfl) ?_
  show Sd M_Par_rowsOf 3 47 emI 0 [(0, vr v0), (1, vr v1)] [] h _
  unfold Par_rowsOf
  refine Sd_iconst (pc' := 1) (dc D_Par_rowsOf 0 rfl) rfl ⟨by decide, by decide⟩ ?_
  refine Sd_istore_n (pc' := 2) (l' := [(2, _), (0, _), (1, _)]) (dc D_Par_rowsOf 1 rfl) rfl rfl (by decide) rfl ?_
  refine Sd_iconst (pc' := 3) (dc D_Par_rowsOf 2 rfl) rfl ⟨by decide, by decide⟩ ?_
  refine Sd_istore_n (pc' := 4) (l' := [(3, _), (2, _), (0, _), (1, _)]) (dc D_Par_rowsOf 3 rfl) rfl rfl (by decide) rfl ?_
  refine Sd.sub (l' := [(0, _), (1, _), (2, _), (3, _)]) [2, 3, 1, 0] rfl ?_
  exact s_Par_rowsOf_L4 FU _ _ _ _ _
theorem K_Par_rowsOf : MOk M_Par_rowsOf 1 := ⟨Tb_at 127 (by decide +kernel) rfl, Tb_at 821 (by decide +kernel) rfl, by decide +kernel, by decide +kernel, by decide +kernel⟩
theorem Ks_Par_rowsOf : Cond.instanceMethod yX3_rowsOf ∈ Tb := Tb_at 819 (by decide +kernel) rfl
theorem Kv_Par_rowsOf : Cond.selects RX3 yX3_rowsOf yX3_rowsOf ∈ Tb := Tb_at 820 (by decide +kernel) rfl
/-! ===== BatchShare$Part.takesBoth(LBatchShare$State;II)Z ===== -/
abbrev M_Par_takesBoth : AMt := (yX3_takesBoth, cX3_takesBoth, 4, (some .boolean))
def T_Par_takesBoth : List (Nat × Instr × Nat) := [(0, .aload_n 1, 1), (1, .getfield 65, 3), (4, .iconst 0, 1), (5, .aaload, 1), (6, .iload_n 2, 1), (7, .aload_n 0, 1), (8, .getfield 9, 3), (11, .iconst 1, 1), (12, .iaload, 1), (13, .invokevirtual 71, 3), (16, .aload_n 1, 1), (17, .getfield 65, 3), (20, .iconst 1, 1), (21, .aaload, 1), (22, .iload_n 3, 1), (23, .aload_n 0, 1), (24, .getfield 9, 3), (27, .iconst 2, 1), (28, .iaload, 1), (29, .invokevirtual 71, 3), (32, .if_icmp .ne 21, 3), (35, .aload_n 0, 1), (36, .aload_n 1, 1), (37, .getfield 65, 3), (40, .iconst 1, 1), (41, .aaload, 1), (42, .iload_n 3, 1), (43, .invokevirtual 74, 3), (46, .ifCond .eq 7, 3), (49, .iconst 1, 1), (50, .goto 4, 3), (53, .iconst 0, 1), (54, .ireturn, 1)]
set_option maxRecDepth 20000 in
theorem D_Par_takesBoth : (T_Par_takesBoth.all fun q => decide (decode M_Par_takesBoth.2.1 q.1 = .ok q.2)) = true := by decide +kernel
def Par_takesBoth (v0 : Nat) (v1 : Nat) (v2 : Int) (v3 : Int) (h : AH) : Option (Int × AH) := gR h 9 v1 0 fun r1 => aR h 34 r1 0 fun r2 => gR h 4 v0 0 fun r3 => aI h 21 r3 1 fun x4 => rc h 10 r2 <| bnd (Tab_at r2 v2 x4 h) fun x6 h5 => gR h5 9 v1 0 fun r8 => aR h5 34 r8 1 fun r9 => gR h5 4 v0 0 fun r10 => aI h5 21 r10 2 fun x11 => rc h5 10 r9 <| bnd (Tab_at r9 v3 x11 h5) fun x13 h12 => if ¬ (x6 : Int) = x13 then (some (0, h12)) else (gR h12 9 v1 0 fun r15 => aR h12 34 r15 1 fun r16 => rc h12 4 v0 <| bnd (Par_takes v0 r16 v3 h12) fun x18 h17 => if (x18 : Int) = 0 then (some (0, h17)) else (some (1, h17)))
set_option maxHeartbeats 4000000 in
set_option maxRecDepth 20000 in
theorem s_Par_takesBoth (v0 : Nat) (v1 : Nat) (v2 : Int) (v3 : Int) (h : AH) : CS M_Par_takesBoth 3 47 emI [vr v0, vr v1, vi v2, vi v3] h (Par_takesBoth v0 v1 v2 v3 h) := by
  refine CS.of (by decide) (Nat.le_of_ble_eq_true rfl) ?_
  show Sd M_Par_takesBoth 3 47 emI 0 [(0, vr v0), (1, vr v1), (2, vi v2), (3, vi v3)] [] h _
  unfold Par_takesBoth
  refine Sd_aload_n (pc' := 1) (dc D_Par_takesBoth 0 rfl) rfl 1 rfl rfl ?_
  refine Sd_getR (pc' := 4) (dc D_Par_takesBoth 1 rfl) rfl F_Par_65 rfl rfl ?_
  refine Sd_iconst (pc' := 5) (dc D_Par_takesBoth 2 rfl) rfl ⟨by decide, by decide⟩ ?_
  refine Sd_aaload (t := 34) (j := 6) (C0 := RX9) (pc' := 6) (dc D_Par_takesBoth 3 rfl) rfl rfl (by decide) ?_
  refine Sd_iload_n (pc' := 7) (dc D_Par_takesBoth 4 rfl) rfl 2 rfl rfl ?_
  refine Sd_aload_n (pc' := 8) (dc D_Par_takesBoth 5 rfl) rfl 0 rfl rfl ?_
  refine Sd_getR (pc' := 11) (dc D_Par_takesBoth 6 rfl) rfl F_Par_9 rfl rfl ?_
  refine Sd_iconst (pc' := 12) (dc D_Par_takesBoth 7 rfl) rfl ⟨by decide, by decide⟩ ?_
  refine Sd_iaload (pc' := 13) (dc D_Par_takesBoth 8 rfl) rfl ?_
  refine Sd.callVI (ci := 9) (t := 10) (as := [_, _]) RX9 (pc' := 16) (dc D_Par_takesBoth 9 rfl) rfl rfl rfl rfl K_Tab_at L_Par_71 Ks_Tab_at Kv_Tab_at ⟨by decide, by decide⟩ rfl rfl (Nat.le_of_ble_eq_true rfl) (s_Tab_at _ _ _ _) (fun x6 h5 => ?_)
  refine Sd_aload_n (pc' := 17) (dc D_Par_takesBoth 10 rfl) rfl 1 rfl rfl ?_
  refine Sd_getR (pc' := 20) (dc D_Par_takesBoth 11 rfl) rfl F_Par_65 rfl rfl ?_
  refine Sd_iconst (pc' := 21) (dc D_Par_takesBoth 12 rfl) rfl ⟨by decide, by decide⟩ ?_
  refine Sd_aaload (t := 34) (j := 6) (C0 := RX9) (pc' := 22) (dc D_Par_takesBoth 13 rfl) rfl rfl (by decide) ?_
  refine Sd_iload_n (pc' := 23) (dc D_Par_takesBoth 14 rfl) rfl 3 rfl rfl ?_
  refine Sd_aload_n (pc' := 24) (dc D_Par_takesBoth 15 rfl) rfl 0 rfl rfl ?_
  refine Sd_getR (pc' := 27) (dc D_Par_takesBoth 16 rfl) rfl F_Par_9 rfl rfl ?_
  refine Sd_iconst (pc' := 28) (dc D_Par_takesBoth 17 rfl) rfl ⟨by decide, by decide⟩ ?_
  refine Sd_iaload (pc' := 29) (dc D_Par_takesBoth 18 rfl) rfl ?_
  refine Sd.callVI (ci := 9) (t := 10) (as := [_, _]) RX9 (pc' := 32) (dc D_Par_takesBoth 19 rfl) rfl rfl rfl rfl K_Tab_at L_Par_71 Ks_Tab_at Kv_Tab_at ⟨by decide, by decide⟩ rfl rfl (Nat.le_of_ble_eq_true rfl) (s_Tab_at _ _ _ _) (fun x13 h12 => ?_)
  refine Sd_icmp_ne (tgt := 53) (pc' := 35) (dc D_Par_takesBoth 20 rfl) (by decide) rfl (fun _ => ?_) (fun _ => ?_)
  · refine Sd_iconst (pc' := 54) (dc D_Par_takesBoth 31 rfl) rfl ⟨by decide, by decide⟩ ?_
    exact Sd_zret (dc D_Par_takesBoth 32 rfl) rfl (Or.inl rfl)
  · refine Sd_aload_n (pc' := 36) (dc D_Par_takesBoth 21 rfl) rfl 0 rfl rfl ?_
    refine Sd_aload_n (pc' := 37) (dc D_Par_takesBoth 22 rfl) rfl 1 rfl rfl ?_
    refine Sd_getR (pc' := 40) (dc D_Par_takesBoth 23 rfl) rfl F_Par_65 rfl rfl ?_
    refine Sd_iconst (pc' := 41) (dc D_Par_takesBoth 24 rfl) rfl ⟨by decide, by decide⟩ ?_
    refine Sd_aaload (t := 34) (j := 6) (C0 := RX9) (pc' := 42) (dc D_Par_takesBoth 25 rfl) rfl rfl (by decide) ?_
    refine Sd_iload_n (pc' := 43) (dc D_Par_takesBoth 26 rfl) rfl 3 rfl rfl ?_
    refine Sd.callVI (ci := 3) (t := 4) (as := [_, _]) RX3 (pc' := 46) (dc D_Par_takesBoth 27 rfl) rfl rfl rfl rfl K_Par_takes L_Par_74 Ks_Par_takes Kv_Par_takes ⟨by decide, by decide⟩ rfl rfl (Nat.le_of_ble_eq_true rfl) (s_Par_takes _ _ _ _) (fun x18 h17 => ?_)
    refine Sd_if_eq (tgt := 53) (pc' := 49) (dc D_Par_takesBoth 28 rfl) (by decide) rfl (fun _ => ?_) (fun _ => ?_)
    · refine Sd_iconst (pc' := 54) (dc D_Par_takesBoth 31 rfl) rfl ⟨by decide, by decide⟩ ?_
      exact Sd_zret (dc D_Par_takesBoth 32 rfl) rfl (Or.inl rfl)
    · refine Sd_iconst (pc' := 50) (dc D_Par_takesBoth 29 rfl) rfl ⟨by decide, by decide⟩ ?_
      refine Sd_goto (tgt := 54) (dc D_Par_takesBoth 30 rfl) (by decide) ?_
      exact Sd_zret (dc D_Par_takesBoth 32 rfl) rfl (Or.inr rfl)
theorem K_Par_takesBoth : MOk M_Par_takesBoth 3 := ⟨Tb_at 127 (by decide +kernel) rfl, Tb_at 830 (by decide +kernel) rfl, by decide +kernel, by decide +kernel, by decide +kernel⟩
theorem Ks_Par_takesBoth : Cond.instanceMethod yX3_takesBoth ∈ Tb := Tb_at 828 (by decide +kernel) rfl
theorem Kv_Par_takesBoth : Cond.selects RX3 yX3_takesBoth yX3_takesBoth ∈ Tb := Tb_at 829 (by decide +kernel) rfl
/-! ===== BatchShare$Part.rowsIn(LBatchShare$State;)I ===== -/
abbrev M_Par_rowsIn : AMt := (yX3_rowsIn, cX3_rowsIn, 5, (some .int))
def T_Par_rowsIn : List (Nat × Instr × Nat) := [(0, .aload_n 0, 1), (1, .invokevirtual 45, 3), (4, .iconst 2, 1), (5, .if_icmp .eq 17, 3), (8, .aload_n 0, 1), (9, .aload_n 1, 1), (10, .getfield 65, 3), (13, .aload_n 0, 1), (14, .invokevirtual 45, 3), (17, .aaload, 1), (18, .invokevirtual 81, 3), (21, .ireturn, 1), (22, .iconst 0, 1), (23, .istore_n 2, 1), (24, .iconst 0, 1), (25, .istore_n 3, 1), (26, .iload_n 3, 1), (27, .aload_n 1, 1), (28, .getfield 65, 3), (31, .iconst 0, 1), (32, .aaload, 1), (33, .getfield 78, 3), (36, .if_icmp .ge 63, 3), (39, .aload_n 0, 1), (40, .aload_n 1, 1), (41, .getfield 65, 3), (44, .iconst 0, 1), (45, .aaload, 1), (46, .iload_n 3, 1), (47, .invokevirtual 74, 3), (50, .ifCond .ne 6, 3), (53, .goto 40, 3), (56, .iconst 0, 1), (57, .istore 4, 2), (59, .iload 4, 2), (61, .aload_n 1, 1), (62, .getfield 65, 3), (65, .iconst 1, 1), (66, .aaload, 1), (67, .getfield 78, 3), (70, .if_icmp .ge 23, 3), (73, .aload_n 0, 1), (74, .aload_n 1, 1), (75, .iload_n 3, 1), (76, .iload 4, 2), (78, .invokevirtual 85, 3), (81, .ifCond .eq 6, 3), (84, .iinc 2 1, 3), (87, .iinc 4 1, 3), (90, .goto (-31), 3), (93, .iinc 3 1, 3), (96, .goto (-70), 3), (99, .iload_n 2, 1), (100, .ireturn, 1)]
set_option maxRecDepth 20000 in
theorem D_Par_rowsIn : (T_Par_rowsIn.all fun q => decide (decode M_Par_rowsIn.2.1 q.1 = .ok q.2)) = true := by decide +kernel
def Par_rowsIn_L59 (k26 : Nat → Nat → Int → Int → AH → Option (Int × AH)) : Nat → Nat → Nat → Int → Int → Int → AH → Option (Int × AH)
  | 0, _, _, _, _, _, _ => none
  | n + 1, v0, v1, v2, v3, v4, h => gR h 9 v1 0 fun r1 => aR h 34 r1 1 fun r2 => gI h 10 r2 3 fun x3 => if (x3 : Int) ≤ v4 then (k26 v0 v1 v2 ((wr (v3 + 1))) h) else (rc h 4 v0 <| bnd (Par_takesBoth v0 v1 v3 v4 h) fun x5 h4 => if (x5 : Int) = 0 then (Par_rowsIn_L59 k26 n v0 v1 v2 v3 ((wr (v4 + 1))) h4) else (Par_rowsIn_L59 k26 n v0 v1 ((wr (v2 + 1))) v3 ((wr (v4 + 1))) h4))
set_option maxHeartbeats 4000000 in
set_option maxRecDepth 20000 in
theorem s_Par_rowsIn_L59 (k26 : Nat → Nat → Int → Int → AH → Option (Int × AH)) (hk26 : ∀ v0 v1 v2 v3 h, Sd M_Par_rowsIn 4 70 emI 26 [(0, vr v0), (1, vr v1), (2, vi v2), (3, vi v3)] [] h (k26 v0 v1 v2 v3 h)) : ∀ (n : Nat) (v0 : Nat) (v1 : Nat) (v2 : Int) (v3 : Int) (v4 : Int) (h : AH), Sd M_Par_rowsIn 4 70 emI 59 [(0, vr v0), (1, vr v1), (2, vi v2), (3, vi v3), (4, vi v4)] [] h (Par_rowsIn_L59 k26 n v0 v1 v2 v3 v4 h)
  | 0, _, _, _, _, _, _ => Sd.none
  | n + 1, v0, v1, v2, v3, v4, h => by
    rw [Par_rowsIn_L59]
    refine Sd_iload (pc' := 61) (dc D_Par_rowsIn 34 rfl) rfl 4 rfl ?_
    refine Sd_aload_n (pc' := 62) (dc D_Par_rowsIn 35 rfl) rfl 1 rfl rfl ?_
    refine Sd_getR (pc' := 65) (dc D_Par_rowsIn 36 rfl) rfl F_Par_65 rfl rfl ?_
    refine Sd_iconst (pc' := 66) (dc D_Par_rowsIn 37 rfl) rfl ⟨by decide, by decide⟩ ?_
    refine Sd_aaload (t := 34) (j := 6) (C0 := RX9) (pc' := 67) (dc D_Par_rowsIn 38 rfl) rfl rfl (by decide) ?_
    refine Sd_getI (pc' := 70) (dc D_Par_rowsIn 39 rfl) rfl F_Par_78 rfl rfl ?_
    refine Sd_icmp_ge (tgt := 93) (pc' := 73) (dc D_Par_rowsIn 40 rfl) (by decide) rfl (fun _ => ?_) (fun _ => ?_)
    · refine Sd_iinc (pc' := 96) (l' := [(3, _), (0, _), (1, _), (2, _), (4, _)]) (dc D_Par_rowsIn 50 rfl) rfl 3 rfl (by decide) rfl ?_
      refine Sd_goto (tgt := 26) (dc D_Par_rowsIn 51 rfl) (by decide) ?_
      refine Sd.sub (l' := [(0, _), (1, _), (2, _), (3, _)]) [1, 2, 3, 0] rfl ?_
      exact hk26 _ _ _ _ _
    · refine Sd_aload_n (pc' := 74) (dc D_Par_rowsIn 41 rfl) rfl 0 rfl rfl ?_
      refine Sd_aload_n (pc' := 75) (dc D_Par_rowsIn 42 rfl) rfl 1 rfl rfl ?_
      refine Sd_iload_n (pc' := 76) (dc D_Par_rowsIn 43 rfl) rfl 3 rfl rfl ?_
      refine Sd_iload (pc' := 78) (dc D_Par_rowsIn 44 rfl) rfl 4 rfl ?_
      refine Sd.callVI (ci := 3) (t := 4) (as := [_, _, _]) RX3 (pc' := 81) (dc D_Par_rowsIn 45 rfl) rfl rfl rfl rfl K_Par_takesBoth L_Par_85 Ks_Par_takesBoth Kv_Par_takesBoth ⟨by decide, by decide⟩ rfl rfl (Nat.le_of_ble_eq_true rfl) (s_Par_takesBoth _ _ _ _ _) (fun x5 h4 => ?_)
      refine Sd_if_eq (tgt := 87) (pc' := 84) (dc D_Par_rowsIn 46 rfl) (by decide) rfl (fun _ => ?_) (fun _ => ?_)
      · refine Sd_iinc (pc' := 90) (l' := [(4, _), (0, _), (1, _), (2, _), (3, _)]) (dc D_Par_rowsIn 48 rfl) rfl 4 rfl (by decide) rfl ?_
        refine Sd_goto (tgt := 59) (dc D_Par_rowsIn 49 rfl) (by decide) ?_
        refine Sd.sub (l' := [(0, _), (1, _), (2, _), (3, _), (4, _)]) [1, 2, 3, 4, 0] rfl ?_
        exact s_Par_rowsIn_L59 k26 hk26 n _ _ _ _ _ _
      · refine Sd_iinc (pc' := 87) (l' := [(2, _), (0, _), (1, _), (3, _), (4, _)]) (dc D_Par_rowsIn 47 rfl) rfl 2 rfl (by decide) rfl ?_
        refine Sd_iinc (pc' := 90) (l' := [(4, _), (2, _), (0, _), (1, _), (3, _)]) (dc D_Par_rowsIn 48 rfl) rfl 4 rfl (by decide) rfl ?_
        refine Sd_goto (tgt := 59) (dc D_Par_rowsIn 49 rfl) (by decide) ?_
        refine Sd.sub (l' := [(0, _), (1, _), (2, _), (3, _), (4, _)]) [2, 3, 1, 4, 0] rfl ?_
        exact s_Par_rowsIn_L59 k26 hk26 n _ _ _ _ _ _
def Par_rowsIn_L26 : Nat → Nat → Nat → Int → Int → AH → Option (Int × AH)
  | 0, _, _, _, _, _ => none
  | n + 1, v0, v1, v2, v3, h => gR h 9 v1 0 fun r1 => aR h 34 r1 0 fun r2 => gI h 10 r2 3 fun x3 => if (x3 : Int) ≤ v3 then (some (v2, h)) else (gR h 9 v1 0 fun r4 => aR h 34 r4 0 fun r5 => rc h 4 v0 <| bnd (Par_takes v0 r5 v3 h) fun x7 h6 => if ¬ (x7 : Int) = 0 then (Par_rowsIn_L59 (Par_rowsIn_L26 n) FU v0 v1 v2 v3 0 h6) else (Par_rowsIn_L26 n v0 v1 v2 ((wr (v3 + 1))) h6))
set_option maxHeartbeats 4000000 in
set_option maxRecDepth 20000 in
theorem s_Par_rowsIn_L26 : ∀ (n : Nat) (v0 : Nat) (v1 : Nat) (v2 : Int) (v3 : Int) (h : AH), Sd M_Par_rowsIn 4 70 emI 26 [(0, vr v0), (1, vr v1), (2, vi v2), (3, vi v3)] [] h (Par_rowsIn_L26 n v0 v1 v2 v3 h)
  | 0, _, _, _, _, _ => Sd.none
  | n + 1, v0, v1, v2, v3, h => by
    rw [Par_rowsIn_L26]
    refine Sd_iload_n (pc' := 27) (dc D_Par_rowsIn 16 rfl) rfl 3 rfl rfl ?_
    refine Sd_aload_n (pc' := 28) (dc D_Par_rowsIn 17 rfl) rfl 1 rfl rfl ?_
    refine Sd_getR (pc' := 31) (dc D_Par_rowsIn 18 rfl) rfl F_Par_65 rfl rfl ?_
    refine Sd_iconst (pc' := 32) (dc D_Par_rowsIn 19 rfl) rfl ⟨by decide, by decide⟩ ?_
    refine Sd_aaload (t := 34) (j := 6) (C0 := RX9) (pc' := 33) (dc D_Par_rowsIn 20 rfl) rfl rfl (by decide) ?_
    refine Sd_getI (pc' := 36) (dc D_Par_rowsIn 21 rfl) rfl F_Par_78 rfl rfl ?_
    refine Sd_icmp_ge (tgt := 99) (pc' := 39) (dc D_Par_rowsIn 22 rfl) (by decide) rfl (fun _ => ?_) (fun _ => ?_)
    · refine Sd_iload_n (pc' := 100) (dc D_Par_rowsIn 52 rfl) rfl 2 rfl rfl ?_
      exact Sd_iret (dc D_Par_rowsIn 53 rfl) rfl
    · refine Sd_aload_n (pc' := 40) (dc D_Par_rowsIn 23 rfl) rfl 0 rfl rfl ?_
      refine Sd_aload_n (pc' := 41) (dc D_Par_rowsIn 24 rfl) rfl 1 rfl rfl ?_
      refine Sd_getR (pc' := 44) (dc D_Par_rowsIn 25 rfl) rfl F_Par_65 rfl rfl ?_
      refine Sd_iconst (pc' := 45) (dc D_Par_rowsIn 26 rfl) rfl ⟨by decide, by decide⟩ ?_
      refine Sd_aaload (t := 34) (j := 6) (C0 := RX9) (pc' := 46) (dc D_Par_rowsIn 27 rfl) rfl rfl (by decide) ?_
      refine Sd_iload_n (pc' := 47) (dc D_Par_rowsIn 28 rfl) rfl 3 rfl rfl ?_
      refine Sd.callVI (ci := 3) (t := 4) (as := [_, _]) RX3 (pc' := 50) (dc D_Par_rowsIn 29 rfl) rfl rfl rfl rfl K_Par_takes L_Par_74 Ks_Par_takes Kv_Par_takes ⟨by decide, by decide⟩ rfl rfl (Nat.le_of_ble_eq_true rfl) (s_Par_takes _ _ _ _) (fun x7 h6 => ?_)
      refine Sd_if_ne (tgt := 56) (pc' := 53) (dc D_Par_rowsIn 30 rfl) (by decide) rfl (fun _ => ?_) (fun _ => ?_)
      · refine Sd_iconst (pc' := 57) (dc D_Par_rowsIn 32 rfl) rfl ⟨by decide, by decide⟩ ?_
        refine Sd_istore (pc' := 59) (l' := [(4, _), (0, _), (1, _), (2, _), (3, _)]) (dc D_Par_rowsIn 33 rfl) rfl (by decide) rfl ?_
        refine Sd.sub (l' := [(0, _), (1, _), (2, _), (3, _), (4, _)]) [1, 2, 3, 4, 0] rfl ?_
        exact s_Par_rowsIn_L59 (Par_rowsIn_L26 n) (s_Par_rowsIn_L26 n) FU _ _ _ _ _ _
      · refine Sd_goto (tgt := 93) (dc D_Par_rowsIn 31 rfl) (by decide) ?_
        refine Sd_iinc (pc' := 96) (l' := [(3, _), (0, _), (1, _), (2, _)]) (dc D_Par_rowsIn 50 rfl) rfl 3 rfl (by decide) rfl ?_
        refine Sd_goto (tgt := 26) (dc D_Par_rowsIn 51 rfl) (by decide) ?_
        refine Sd.sub (l' := [(0, _), (1, _), (2, _), (3, _)]) [1, 2, 3, 0] rfl ?_
        exact s_Par_rowsIn_L26 n _ _ _ _ _
def Par_rowsIn (v0 : Nat) (v1 : Nat) (h : AH) : Option (Int × AH) := rc h 4 v0 <| bnd (Par_kind v0 h) fun x2 h1 => if (x2 : Int) = 2 then (Par_rowsIn_L26 FU v0 v1 0 0 h1) else (gR h1 9 v1 0 fun r4 => rc h1 4 v0 <| bnd (Par_kind v0 h1) fun x6 h5 => aR h5 34 r4 x6 fun r8 => rc h5 4 v0 <| bnd (Par_rowsOf v0 r8 h5) fun x10 h9 => some (x10, h9))
set_option maxHeartbeats 4000000 in
set_option maxRecDepth 20000 in
theorem s_Par_rowsIn (v0 : Nat) (v1 : Nat) (h : AH) : CS M_Par_rowsIn 4 70 emI [vr v0, vr v1] h (Par_rowsIn v0 v1 h) := by
  refine CS.of (by decide) (Nat.le_of_ble_eq_true rfl) ?_
  show Sd M_Par_rowsIn 4 70 emI 0 [(0, vr v0), (1, vr v1)] [] h _
  unfold Par_rowsIn
  refine Sd_aload_n (pc' := 1) (dc D_Par_rowsIn 0 rfl) rfl 0 rfl rfl ?_
  refine Sd.callVI (ci := 3) (t := 4) (as := []) RX3 (pc' := 4) (dc D_Par_rowsIn 1 rfl) rfl rfl rfl rfl K_Par_kind L_Par_45 Ks_Par_kind Kv_Par_kind ⟨by decide, by decide⟩ rfl rfl (Nat.le_of_ble_eq_true rfl) (s_Par_kind _ _) (fun x2 h1 => ?_)
  refine Sd_iconst (pc' := 5) (dc D_Par_rowsIn 2 rfl) rfl ⟨by decide, by decide⟩ ?_
  refine Sd_icmp_eq (tgt := 22) (pc' := 8) (dc D_Par_rowsIn 3 rfl) (by decide) rfl (fun _ => ?_) (fun _ => ?_)
  · refine Sd_iconst (pc' := 23) (dc D_Par_rowsIn 12 rfl) rfl ⟨by decide, by decide⟩ ?_
    refine Sd_istore_n (pc' := 24) (l' := [(2, _), (0, _), (1, _)]) (dc D_Par_rowsIn 13 rfl) rfl rfl (by decide) rfl ?_
    refine Sd_iconst (pc' := 25) (dc D_Par_rowsIn 14 rfl) rfl ⟨by decide, by decide⟩ ?_
    refine Sd_istore_n (pc' := 26) (l' := [(3, _), (2, _), (0, _), (1, _)]) (dc D_Par_rowsIn 15 rfl) rfl rfl (by decide) rfl ?_
    refine Sd.sub (l' := [(0, _), (1, _), (2, _), (3, _)]) [2, 3, 1, 0] rfl ?_
    exact s_Par_rowsIn_L26 FU _ _ _ _ _
  · refine Sd_aload_n (pc' := 9) (dc D_Par_rowsIn 4 rfl) rfl 0 rfl rfl ?_
    refine Sd_aload_n (pc' := 10) (dc D_Par_rowsIn 5 rfl) rfl 1 rfl rfl ?_
    refine Sd_getR (pc' := 13) (dc D_Par_rowsIn 6 rfl) rfl F_Par_65 rfl rfl ?_
    refine Sd_aload_n (pc' := 14) (dc D_Par_rowsIn 7 rfl) rfl 0 rfl rfl ?_
    refine Sd.callVI (ci := 3) (t := 4) (as := []) RX3 (pc' := 17) (dc D_Par_rowsIn 8 rfl) rfl rfl rfl rfl K_Par_kind L_Par_45 Ks_Par_kind Kv_Par_kind ⟨by decide, by decide⟩ rfl rfl (Nat.le_of_ble_eq_true rfl) (s_Par_kind _ _) (fun x6 h5 => ?_)
    refine Sd_aaload (t := 34) (j := 6) (C0 := RX9) (pc' := 18) (dc D_Par_rowsIn 9 rfl) rfl rfl (by decide) ?_
    refine Sd.callVI (ci := 3) (t := 4) (as := [_]) RX3 (pc' := 21) (dc D_Par_rowsIn 10 rfl) rfl rfl rfl rfl K_Par_rowsOf L_Par_81 Ks_Par_rowsOf Kv_Par_rowsOf ⟨by decide, by decide⟩ rfl rfl (Nat.le_of_ble_eq_true rfl) (s_Par_rowsOf _ _ _) (fun x10 h9 => ?_)
    exact Sd_iret (dc D_Par_rowsIn 11 rfl) rfl
theorem K_Par_rowsIn : MOk M_Par_rowsIn 1 := ⟨Tb_at 127 (by decide +kernel) rfl, Tb_at 813 (by decide +kernel) rfl, by decide +kernel, by decide +kernel, by decide +kernel⟩
theorem Ks_Par_rowsIn : Cond.instanceMethod yX3_rowsIn ∈ Tb := Tb_at 811 (by decide +kernel) rfl
theorem Kv_Par_rowsIn : Cond.selects RX3 yX3_rowsIn yX3_rowsIn ∈ Tb := Tb_at 812 (by decide +kernel) rfl
/-! ===== BatchShare$Part.locate(LBatchShare$State;I)I ===== -/
abbrev M_Par_locate : AMt := (yX3_locate, cX3_locate, 8, (some .int))
def T_Par_locate : List (Nat × Instr × Nat) := [(0, .aload_n 0, 1), (1, .invokevirtual 45, 3), (4, .iconst 1, 1), (5, .if_icmp .ne 7, 3), (8, .iconst 1, 1), (9, .goto 12, 3), (12, .aload_n 1, 1), (13, .getfield 65, 3), (16, .iconst 0, 1), (17, .aaload, 1), (18, .getfield 78, 3), (21, .istore_n 3, 1), (22, .aload_n 0, 1), (23, .invokevirtual 45, 3), (26, .ifCond .ne 7, 3), (29, .iconst 1, 1), (30, .goto 12, 3), (33, .aload_n 1, 1), (34, .getfield 65, 3), (37, .iconst 1, 1), (38, .aaload, 1), (39, .getfield 78, 3), (42, .istore 4, 2), (44, .iload_n 2, 1), (45, .istore 5, 2), (47, .iconst 0, 1), (48, .istore 6, 2), (50, .iload 6, 2), (52, .iload_n 3, 1), (53, .if_icmp .ge 117, 3), (56, .aload_n 0, 1), (57, .invokevirtual 45, 3), (60, .iconst 1, 1), (61, .if_icmp .eq 21, 3), (64, .aload_n 0, 1), (65, .aload_n 1, 1), (66, .getfield 65, 3), (69, .iconst 0, 1), (70, .aaload, 1), (71, .iload 6, 2), (73, .invokevirtual 74, 3), (76, .ifCond .ne 6, 3), (79, .goto 85, 3), (82, .iconst 0, 1), (83, .istore 7, 2), (85, .iload 7, 2), (87, .iload 4, 2), (89, .if_icmp .ge 75, 3), (92, .aload_n 0, 1), (93, .invokevirtual 45, 3), (96, .iconst 1, 1), (97, .if_icmp .ne 21, 3), (100, .aload_n 0, 1), (101, .aload_n 1, 1), (102, .getfield 65, 3), (105, .iconst 1, 1), (106, .aaload, 1), (107, .iload 7, 2), (109, .invokevirtual 74, 3), (112, .ifCond .ne 6, 3), (115, .goto 43, 3), (118, .aload_n 0, 1), (119, .invokevirtual 45, 3), (122, .iconst 2, 1), (123, .if_icmp .ne 18, 3), (126, .aload_n 0, 1), (127, .aload_n 1, 1), (128, .iload 6, 2), (130, .iload 7, 2), (132, .invokevirtual 85, 3), (135, .ifCond .ne 6, 3), (138, .goto 20, 3), (141, .iload 5, 2), (143, .ifCond .ne 12, 3), (146, .iload 6, 2), (148, .bipush 8, 2), (150, .imul, 1), (151, .iload 7, 2), (153, .iadd, 1), (154, .ireturn, 1), (155, .iinc 5 (-1), 3), (158, .iinc 7 1, 3), (161, .goto (-76), 3), (164, .iinc 6 1, 3), (167, .goto (-117), 3), (170, .iconst (-1), 1), (171, .ireturn, 1)]
set_option maxRecDepth 20000 in
theorem D_Par_locate : (T_Par_locate.all fun q => decide (decode M_Par_locate.2.1 q.1 = .ok q.2)) = true := by decide +kernel
def Par_locate_L118 (k50 : Nat → Nat → Int → Int → Int → Int → AH → Option (Int × AH)) (k85 : Nat → Nat → Int → Int → Int → Int → Int → AH → Option (Int × AH)) (v0 : Nat) (v1 : Nat) (v3 : Int) (v4 : Int) (v5 : Int) (v6 : Int) (v7 : Int) (h : AH) : Option (Int × AH) := rc h 4 v0 <| bnd (Par_kind v0 h) fun x2 h1 => if ¬ (x2 : Int) = 2 then (if ¬ (v5 : Int) = 0 then (k85 v0 v1 v3 v4 ((wr (v5 + (-1)))) v6 ((wr (v7 + 1))) h1) else (some ((wr ((wr (v6 * 8)) + v7)), h1))) else (rc h1 4 v0 <| bnd (Par_takesBoth v0 v1 v6 v7 h1) fun x5 h4 => if ¬ (x5 : Int) = 0 then (if ¬ (v5 : Int) = 0 then (k85 v0 v1 v3 v4 ((wr (v5 + (-1)))) v6 ((wr (v7 + 1))) h4) else (some ((wr ((wr (v6 * 8)) + v7)), h4))) else (k85 v0 v1 v3 v4 v5 v6 ((wr (v7 + 1))) h4))
set_option maxHeartbeats 4000000 in
set_option maxRecDepth 20000 in
theorem s_Par_locate_L118 (k50 : Nat → Nat → Int → Int → Int → Int → AH → Option (Int × AH)) (hk50 : ∀ v0 v1 v3 v4 v5 v6 h, Sd M_Par_locate 4 70 emI 50 [(0, vr v0), (1, vr v1), (3, vi v3), (4, vi v4), (5, vi v5), (6, vi v6)] [] h (k50 v0 v1 v3 v4 v5 v6 h)) (k85 : Nat → Nat → Int → Int → Int → Int → Int → AH → Option (Int × AH)) (hk85 : ∀ v0 v1 v3 v4 v5 v6 v7 h, Sd M_Par_locate 4 70 emI 85 [(0, vr v0), (1, vr v1), (3, vi v3), (4, vi v4), (5, vi v5), (6, vi v6), (7, vi v7)] [] h (k85 v0 v1 v3 v4 v5 v6 v7 h)) (v0 : Nat) (v1 : Nat) (v3 : Int) (v4 : Int) (v5 : Int) (v6 : Int) (v7 : Int) (h : AH) : Sd M_Par_locate 4 70 emI 118 [(0, vr v0), (1, vr v1), (3, vi v3), (4, vi v4), (5, vi v5), (6, vi v6), (7, vi v7)] [] h (Par_locate_L118 k50 k85 v0 v1 v3 v4 v5 v6 v7 h) := by
  unfold Par_locate_L118
  refine Sd_aload_n (pc' := 119) (dc D_Par_locate 61 rfl) rfl 0 rfl rfl ?_
  refine Sd.callVI (ci := 3) (t := 4) (as := []) RX3 (pc' := 122) (dc D_Par_locate 62 rfl) rfl rfl rfl rfl K_Par_kind L_Par_45 Ks_Par_kind Kv_Par_kind ⟨by decide, by decide⟩ rfl rfl (Nat.le_of_ble_eq_true rfl) (s_Par_kind _ _) (fun x2 h1 => ?_)
  refine Sd_iconst (pc' := 123) (dc D_Par_locate 63 rfl) rfl ⟨by decide, by decide⟩ ?_
  refine Sd_icmp_ne (tgt := 141) (pc' := 126) (dc D_Par_locate 64 rfl) (by decide) rfl (fun _ => ?_) (fun _ => ?_)
  · refine Sd_iload (pc' := 143) (dc D_Par_locate 72 rfl) rfl 4 rfl ?_
    refine Sd_if_ne (tgt := 155) (pc' := 146) (dc D_Par_locate 73 rfl) (by decide) rfl (fun _ => ?_) (fun _ => ?_)
    · refine Sd_iinc (pc' := 158) (l' := [(5, _), (0, _), (1, _), (3, _), (4, _), (6, _), (7, _)]) (dc D_Par_locate 80 rfl) rfl 4 rfl (by decide) rfl ?_
      refine Sd_iinc (pc' := 161) (l' := [(7, _), (5, _), (0, _), (1, _), (3, _), (4, _), (6, _)]) (dc D_Par_locate 81 rfl) rfl 6 rfl (by decide) rfl ?_
      refine Sd_goto (tgt := 85) (dc D_Par_locate 82 rfl) (by decide) ?_
      refine Sd.sub (l' := [(0, _), (1, _), (3, _), (4, _), (5, _), (6, _), (7, _)]) [2, 3, 4, 5, 1, 6, 0] rfl ?_
      exact hk85 _ _ _ _ _ _ _ _
    · refine Sd_iload (pc' := 148) (dc D_Par_locate 74 rfl) rfl 5 rfl ?_
      refine Sd_bipush (pc' := 150) (dc D_Par_locate 75 rfl) rfl ⟨by decide, by decide⟩ (by decide) ?_
      refine Sd_imul (pc' := 151) (dc D_Par_locate 76 rfl) rfl ?_
      refine Sd_iload (pc' := 153) (dc D_Par_locate 77 rfl) rfl 6 rfl ?_
      refine Sd_iadd (pc' := 154) (dc D_Par_locate 78 rfl) rfl ?_
      exact Sd_iret (dc D_Par_locate 79 rfl) rfl
  · refine Sd_aload_n (pc' := 127) (dc D_Par_locate 65 rfl) rfl 0 rfl rfl ?_
    refine Sd_aload_n (pc' := 128) (dc D_Par_locate 66 rfl) rfl 1 rfl rfl ?_
    refine Sd_iload (pc' := 130) (dc D_Par_locate 67 rfl) rfl 5 rfl ?_
    refine Sd_iload (pc' := 132) (dc D_Par_locate 68 rfl) rfl 6 rfl ?_
    refine Sd.callVI (ci := 3) (t := 4) (as := [_, _, _]) RX3 (pc' := 135) (dc D_Par_locate 69 rfl) rfl rfl rfl rfl K_Par_takesBoth L_Par_85 Ks_Par_takesBoth Kv_Par_takesBoth ⟨by decide, by decide⟩ rfl rfl (Nat.le_of_ble_eq_true rfl) (s_Par_takesBoth _ _ _ _ _) (fun x5 h4 => ?_)
    refine Sd_if_ne (tgt := 141) (pc' := 138) (dc D_Par_locate 70 rfl) (by decide) rfl (fun _ => ?_) (fun _ => ?_)
    · refine Sd_iload (pc' := 143) (dc D_Par_locate 72 rfl) rfl 4 rfl ?_
      refine Sd_if_ne (tgt := 155) (pc' := 146) (dc D_Par_locate 73 rfl) (by decide) rfl (fun _ => ?_) (fun _ => ?_)
      · refine Sd_iinc (pc' := 158) (l' := [(5, _), (0, _), (1, _), (3, _), (4, _), (6, _), (7, _)]) (dc D_Par_locate 80 rfl) rfl 4 rfl (by decide) rfl ?_
        refine Sd_iinc (pc' := 161) (l' := [(7, _), (5, _), (0, _), (1, _), (3, _), (4, _), (6, _)]) (dc D_Par_locate 81 rfl) rfl 6 rfl (by decide) rfl ?_
        refine Sd_goto (tgt := 85) (dc D_Par_locate 82 rfl) (by decide) ?_
        refine Sd.sub (l' := [(0, _), (1, _), (3, _), (4, _), (5, _), (6, _), (7, _)]) [2, 3, 4, 5, 1, 6, 0] rfl ?_
        exact hk85 _ _ _ _ _ _ _ _
      · refine Sd_iload (pc' := 148) (dc D_Par_locate 74 rfl) rfl 5 rfl ?_
        refine Sd_bipush (pc' := 150) (dc D_Par_locate 75 rfl) rfl ⟨by decide, by decide⟩ (by decide) ?_
        refine Sd_imul (pc' := 151) (dc D_Par_locate 76 rfl) rfl ?_
        refine Sd_iload (pc' := 153) (dc D_Par_locate 77 rfl) rfl 6 rfl ?_
        refine Sd_iadd (pc' := 154) (dc D_Par_locate 78 rfl) rfl ?_
        exact Sd_iret (dc D_Par_locate 79 rfl) rfl
    · refine Sd_goto (tgt := 158) (dc D_Par_locate 71 rfl) (by decide) ?_
      refine Sd_iinc (pc' := 161) (l' := [(7, _), (0, _), (1, _), (3, _), (4, _), (5, _), (6, _)]) (dc D_Par_locate 81 rfl) rfl 6 rfl (by decide) rfl ?_
      refine Sd_goto (tgt := 85) (dc D_Par_locate 82 rfl) (by decide) ?_
      refine Sd.sub (l' := [(0, _), (1, _), (3, _), (4, _), (5, _), (6, _), (7, _)]) [1, 2, 3, 4, 5, 6, 0] rfl ?_
      exact hk85 _ _ _ _ _ _ _ _
def Par_locate_L85 (k50 : Nat → Nat → Int → Int → Int → Int → AH → Option (Int × AH)) : Nat → Nat → Nat → Int → Int → Int → Int → Int → AH → Option (Int × AH)
  | 0, _, _, _, _, _, _, _, _ => none
  | n + 1, v0, v1, v3, v4, v5, v6, v7, h => if (v4 : Int) ≤ v7 then (k50 v0 v1 v3 v4 v5 ((wr (v6 + 1))) h) else (rc h 4 v0 <| bnd (Par_kind v0 h) fun x2 h1 => if ¬ (x2 : Int) = 1 then (Par_locate_L118 k50 (Par_locate_L85 k50 n) v0 v1 v3 v4 v5 v6 v7 h1) else (gR h1 9 v1 0 fun r4 => aR h1 34 r4 1 fun r5 => rc h1 4 v0 <| bnd (Par_takes v0 r5 v7 h1) fun x7 h6 => if ¬ (x7 : Int) = 0 then (Par_locate_L118 k50 (Par_locate_L85 k50 n) v0 v1 v3 v4 v5 v6 v7 h6) else (Par_locate_L85 k50 n v0 v1 v3 v4 v5 v6 ((wr (v7 + 1))) h6)))
set_option maxHeartbeats 4000000 in
set_option maxRecDepth 20000 in
theorem s_Par_locate_L85 (k50 : Nat → Nat → Int → Int → Int → Int → AH → Option (Int × AH)) (hk50 : ∀ v0 v1 v3 v4 v5 v6 h, Sd M_Par_locate 4 70 emI 50 [(0, vr v0), (1, vr v1), (3, vi v3), (4, vi v4), (5, vi v5), (6, vi v6)] [] h (k50 v0 v1 v3 v4 v5 v6 h)) : ∀ (n : Nat) (v0 : Nat) (v1 : Nat) (v3 : Int) (v4 : Int) (v5 : Int) (v6 : Int) (v7 : Int) (h : AH), Sd M_Par_locate 4 70 emI 85 [(0, vr v0), (1, vr v1), (3, vi v3), (4, vi v4), (5, vi v5), (6, vi v6), (7, vi v7)] [] h (Par_locate_L85 k50 n v0 v1 v3 v4 v5 v6 v7 h)
  | 0, _, _, _, _, _, _, _, _ => Sd.none
  | n + 1, v0, v1, v3, v4, v5, v6, v7, h => by
    rw [Par_locate_L85]
    refine Sd_iload (pc' := 87) (dc D_Par_locate 45 rfl) rfl 6 rfl ?_
    refine Sd_iload (pc' := 89) (dc D_Par_locate 46 rfl) rfl 3 rfl ?_
    refine Sd_icmp_ge (tgt := 164) (pc' := 92) (dc D_Par_locate 47 rfl) (by decide) rfl (fun _ => ?_) (fun _ => ?_)
    · refine Sd_iinc (pc' := 167) (l' := [(6, _), (0, _), (1, _), (3, _), (4, _), (5, _), (7, _)]) (dc D_Par_locate 83 rfl) rfl 5 rfl (by decide) rfl ?_
      refine Sd_goto (tgt := 50) (dc D_Par_locate 84 rfl) (by decide) ?_
      refine Sd.sub (l' := [(0, _), (1, _), (3, _), (4, _), (5, _), (6, _)]) [1, 2, 3, 4, 5, 0] rfl ?_
      exact hk50 _ _ _ _ _ _ _
    · refine Sd_aload_n (pc' := 93) (dc D_Par_locate 48 rfl) rfl 0 rfl rfl ?_
      refine Sd.callVI (ci := 3) (t := 4) (as := []) RX3 (pc' := 96) (dc D_Par_locate 49 rfl) rfl rfl rfl rfl K_Par_kind L_Par_45 Ks_Par_kind Kv_Par_kind ⟨by decide, by decide⟩ rfl rfl (Nat.le_of_ble_eq_true rfl) (s_Par_kind _ _) (fun x2 h1 => ?_)
      refine Sd_iconst (pc' := 97) (dc D_Par_locate 50 rfl) rfl ⟨by decide, by decide⟩ ?_
      refine Sd_icmp_ne (tgt := 118) (pc' := 100) (dc D_Par_locate 51 rfl) (by decide) rfl (fun _ => ?_) (fun _ => ?_)
      · exact s_Par_locate_L118 k50 hk50 (Par_locate_L85 k50 n) (s_Par_locate_L85 k50 hk50 n) _ _ _ _ _ _ _ _
      · refine Sd_aload_n (pc' := 101) (dc D_Par_locate 52 rfl) rfl 0 rfl rfl ?_
        refine Sd_aload_n (pc' := 102) (dc D_Par_locate 53 rfl) rfl 1 rfl rfl ?_
        refine Sd_getR (pc' := 105) (dc D_Par_locate 54 rfl) rfl F_Par_65 rfl rfl ?_
        refine Sd_iconst (pc' := 106) (dc D_Par_locate 55 rfl) rfl ⟨by decide, by decide⟩ ?_
        refine Sd_aaload (t := 34) (j := 6) (C0 := RX9) (pc' := 107) (dc D_Par_locate 56 rfl) rfl rfl (by decide) ?_
        refine Sd_iload (pc' := 109) (dc D_Par_locate 57 rfl) rfl 6 rfl ?_
        refine Sd.callVI (ci := 3) (t := 4) (as := [_, _]) RX3 (pc' := 112) (dc D_Par_locate 58 rfl) rfl rfl rfl rfl K_Par_takes L_Par_74 Ks_Par_takes Kv_Par_takes ⟨by decide, by decide⟩ rfl rfl (Nat.le_of_ble_eq_true rfl) (s_Par_takes _ _ _ _) (fun x7 h6 => ?_)
        refine Sd_if_ne (tgt := 118) (pc' := 115) (dc D_Par_locate 59 rfl) (by decide) rfl (fun _ => ?_) (fun _ => ?_)
        · exact s_Par_locate_L118 k50 hk50 (Par_locate_L85 k50 n) (s_Par_locate_L85 k50 hk50 n) _ _ _ _ _ _ _ _
        · refine Sd_goto (tgt := 158) (dc D_Par_locate 60 rfl) (by decide) ?_
          refine Sd_iinc (pc' := 161) (l' := [(7, _), (0, _), (1, _), (3, _), (4, _), (5, _), (6, _)]) (dc D_Par_locate 81 rfl) rfl 6 rfl (by decide) rfl ?_
          refine Sd_goto (tgt := 85) (dc D_Par_locate 82 rfl) (by decide) ?_
          refine Sd.sub (l' := [(0, _), (1, _), (3, _), (4, _), (5, _), (6, _), (7, _)]) [1, 2, 3, 4, 5, 6, 0] rfl ?_
          exact s_Par_locate_L85 k50 hk50 n _ _ _ _ _ _ _ _
def Par_locate_L50 : Nat → Nat → Nat → Int → Int → Int → Int → AH → Option (Int × AH)
  | 0, _, _, _, _, _, _, _ => none
  | n + 1, v0, v1, v3, v4, v5, v6, h => if (v3 : Int) ≤ v6 then (some ((-1), h)) else (rc h 4 v0 <| bnd (Par_kind v0 h) fun x2 h1 => if (x2 : Int) = 1 then (Par_locate_L85 (Par_locate_L50 n) FU v0 v1 v3 v4 v5 v6 0 h1) else (gR h1 9 v1 0 fun r4 => aR h1 34 r4 0 fun r5 => rc h1 4 v0 <| bnd (Par_takes v0 r5 v6 h1) fun x7 h6 => if ¬ (x7 : Int) = 0 then (Par_locate_L85 (Par_locate_L50 n) FU v0 v1 v3 v4 v5 v6 0 h6) else (Par_locate_L50 n v0 v1 v3 v4 v5 ((wr (v6 + 1))) h6)))
set_option maxHeartbeats 4000000 in
set_option maxRecDepth 20000 in
theorem s_Par_locate_L50 : ∀ (n : Nat) (v0 : Nat) (v1 : Nat) (v3 : Int) (v4 : Int) (v5 : Int) (v6 : Int) (h : AH), Sd M_Par_locate 4 70 emI 50 [(0, vr v0), (1, vr v1), (3, vi v3), (4, vi v4), (5, vi v5), (6, vi v6)] [] h (Par_locate_L50 n v0 v1 v3 v4 v5 v6 h)
  | 0, _, _, _, _, _, _, _ => Sd.none
  | n + 1, v0, v1, v3, v4, v5, v6, h => by
    rw [Par_locate_L50]
    refine Sd_iload (pc' := 52) (dc D_Par_locate 27 rfl) rfl 5 rfl ?_
    refine Sd_iload_n (pc' := 53) (dc D_Par_locate 28 rfl) rfl 2 rfl rfl ?_
    refine Sd_icmp_ge (tgt := 170) (pc' := 56) (dc D_Par_locate 29 rfl) (by decide) rfl (fun _ => ?_) (fun _ => ?_)
    · refine Sd_iconst (pc' := 171) (dc D_Par_locate 85 rfl) rfl ⟨by decide, by decide⟩ ?_
      exact Sd_iret (dc D_Par_locate 86 rfl) rfl
    · refine Sd_aload_n (pc' := 57) (dc D_Par_locate 30 rfl) rfl 0 rfl rfl ?_
      refine Sd.callVI (ci := 3) (t := 4) (as := []) RX3 (pc' := 60) (dc D_Par_locate 31 rfl) rfl rfl rfl rfl K_Par_kind L_Par_45 Ks_Par_kind Kv_Par_kind ⟨by decide, by decide⟩ rfl rfl (Nat.le_of_ble_eq_true rfl) (s_Par_kind _ _) (fun x2 h1 => ?_)
      refine Sd_iconst (pc' := 61) (dc D_Par_locate 32 rfl) rfl ⟨by decide, by decide⟩ ?_
      refine Sd_icmp_eq (tgt := 82) (pc' := 64) (dc D_Par_locate 33 rfl) (by decide) rfl (fun _ => ?_) (fun _ => ?_)
      · refine Sd_iconst (pc' := 83) (dc D_Par_locate 43 rfl) rfl ⟨by decide, by decide⟩ ?_
        refine Sd_istore (pc' := 85) (l' := [(7, _), (0, _), (1, _), (3, _), (4, _), (5, _), (6, _)]) (dc D_Par_locate 44 rfl) rfl (by decide) rfl ?_
        refine Sd.sub (l' := [(0, _), (1, _), (3, _), (4, _), (5, _), (6, _), (7, _)]) [1, 2, 3, 4, 5, 6, 0] rfl ?_
        exact s_Par_locate_L85 (Par_locate_L50 n) (s_Par_locate_L50 n) FU _ _ _ _ _ _ _ _
      · refine Sd_aload_n (pc' := 65) (dc D_Par_locate 34 rfl) rfl 0 rfl rfl ?_
        refine Sd_aload_n (pc' := 66) (dc D_Par_locate 35 rfl) rfl 1 rfl rfl ?_
        refine Sd_getR (pc' := 69) (dc D_Par_locate 36 rfl) rfl F_Par_65 rfl rfl ?_
        refine Sd_iconst (pc' := 70) (dc D_Par_locate 37 rfl) rfl ⟨by decide, by decide⟩ ?_
        refine Sd_aaload (t := 34) (j := 6) (C0 := RX9) (pc' := 71) (dc D_Par_locate 38 rfl) rfl rfl (by decide) ?_
        refine Sd_iload (pc' := 73) (dc D_Par_locate 39 rfl) rfl 5 rfl ?_
        refine Sd.callVI (ci := 3) (t := 4) (as := [_, _]) RX3 (pc' := 76) (dc D_Par_locate 40 rfl) rfl rfl rfl rfl K_Par_takes L_Par_74 Ks_Par_takes Kv_Par_takes ⟨by decide, by decide⟩ rfl rfl (Nat.le_of_ble_eq_true rfl) (s_Par_takes _ _ _ _) (fun x7 h6 => ?_)
        refine Sd_if_ne (tgt := 82) (pc' := 79) (dc D_Par_locate 41 rfl) (by decide) rfl (fun _ => ?_) (fun _ => ?_)
        · refine Sd_iconst (pc' := 83) (dc D_Par_locate 43 rfl) rfl ⟨by decide, by decide⟩ ?_
          refine Sd_istore (pc' := 85) (l' := [(7, _), (0, _), (1, _), (3, _), (4, _), (5, _), (6, _)]) (dc D_Par_locate 44 rfl) rfl (by decide) rfl ?_
          refine Sd.sub (l' := [(0, _), (1, _), (3, _), (4, _), (5, _), (6, _), (7, _)]) [1, 2, 3, 4, 5, 6, 0] rfl ?_
          exact s_Par_locate_L85 (Par_locate_L50 n) (s_Par_locate_L50 n) FU _ _ _ _ _ _ _ _
        · refine Sd_goto (tgt := 164) (dc D_Par_locate 42 rfl) (by decide) ?_
          refine Sd_iinc (pc' := 167) (l' := [(6, _), (0, _), (1, _), (3, _), (4, _), (5, _)]) (dc D_Par_locate 83 rfl) rfl 5 rfl (by decide) rfl ?_
          refine Sd_goto (tgt := 50) (dc D_Par_locate 84 rfl) (by decide) ?_
          refine Sd.sub (l' := [(0, _), (1, _), (3, _), (4, _), (5, _), (6, _)]) [1, 2, 3, 4, 5, 0] rfl ?_
          exact s_Par_locate_L50 n _ _ _ _ _ _ _
def Par_locate_L21 (v0 : Nat) (v1 : Nat) (v2 : Int) (s0 : Int) (h : AH) : Option (Int × AH) := rc h 4 v0 <| bnd (Par_kind v0 h) fun x2 h1 => if ¬ (x2 : Int) = 0 then (gR h1 9 v1 0 fun r4 => aR h1 34 r4 1 fun r5 => gI h1 10 r5 3 fun x6 => Par_locate_L50 FU v0 v1 s0 x6 v2 0 h1) else (Par_locate_L50 FU v0 v1 s0 1 v2 0 h1)
set_option maxHeartbeats 4000000 in
set_option maxRecDepth 20000 in
theorem s_Par_locate_L21 (v0 : Nat) (v1 : Nat) (v2 : Int) (s0 : Int) (h : AH) : Sd M_Par_locate 4 70 emI 21 [(0, vr v0), (1, vr v1), (2, vi v2)] [vi s0] h (Par_locate_L21 v0 v1 v2 s0 h) := by
  unfold Par_locate_L21
  refine Sd_istore_n (pc' := 22) (l' := [(3, _), (0, _), (1, _), (2, _)]) (dc D_Par_locate 11 rfl) rfl rfl (by decide) rfl ?_
  refine Sd_aload_n (pc' := 23) (dc D_Par_locate 12 rfl) rfl 1 rfl rfl ?_
  refine Sd.callVI (ci := 3) (t := 4) (as := []) RX3 (pc' := 26) (dc D_Par_locate 13 rfl) rfl rfl rfl rfl K_Par_kind L_Par_45 Ks_Par_kind Kv_Par_kind ⟨by decide, by decide⟩ rfl rfl (Nat.le_of_ble_eq_true rfl) (s_Par_kind _ _) (fun x2 h1 => ?_)
  refine Sd_if_ne (tgt := 33) (pc' := 29) (dc D_Par_locate 14 rfl) (by decide) rfl (fun _ => ?_) (fun _ => ?_)
  · refine Sd_aload_n (pc' := 34) (dc D_Par_locate 17 rfl) rfl 2 rfl rfl ?_
    refine Sd_getR (pc' := 37) (dc D_Par_locate 18 rfl) rfl F_Par_65 rfl rfl ?_
    refine Sd_iconst (pc' := 38) (dc D_Par_locate 19 rfl) rfl ⟨by decide, by decide⟩ ?_
    refine Sd_aaload (t := 34) (j := 6) (C0 := RX9) (pc' := 39) (dc D_Par_locate 20 rfl) rfl rfl (by decide) ?_
    refine Sd_getI (pc' := 42) (dc D_Par_locate 21 rfl) rfl F_Par_78 rfl rfl ?_
    refine Sd_istore (pc' := 44) (l' := [(4, _), (3, _), (0, _), (1, _), (2, _)]) (dc D_Par_locate 22 rfl) rfl (by decide) rfl ?_
    refine Sd_iload_n (pc' := 45) (dc D_Par_locate 23 rfl) rfl 4 rfl rfl ?_
    refine Sd_istore (pc' := 47) (l' := [(5, _), (4, _), (3, _), (0, _), (1, _), (2, _)]) (dc D_Par_locate 24 rfl) rfl (by decide) rfl ?_
    refine Sd_iconst (pc' := 48) (dc D_Par_locate 25 rfl) rfl ⟨by decide, by decide⟩ ?_
    refine Sd_istore (pc' := 50) (l' := [(6, _), (5, _), (4, _), (3, _), (0, _), (1, _), (2, _)]) (dc D_Par_locate 26 rfl) rfl (by decide) rfl ?_
    refine Sd.sub (l' := [(0, _), (1, _), (3, _), (4, _), (5, _), (6, _)]) [4, 5, 3, 2, 1, 0] rfl ?_
    exact s_Par_locate_L50 FU _ _ _ _ _ _ _
  · refine Sd_iconst (pc' := 30) (dc D_Par_locate 15 rfl) rfl ⟨by decide, by decide⟩ ?_
    refine Sd_goto (tgt := 42) (dc D_Par_locate 16 rfl) (by decide) ?_
    refine Sd_istore (pc' := 44) (l' := [(4, _), (3, _), (0, _), (1, _), (2, _)]) (dc D_Par_locate 22 rfl) rfl (by decide) rfl ?_
    refine Sd_iload_n (pc' := 45) (dc D_Par_locate 23 rfl) rfl 4 rfl rfl ?_
    refine Sd_istore (pc' := 47) (l' := [(5, _), (4, _), (3, _), (0, _), (1, _), (2, _)]) (dc D_Par_locate 24 rfl) rfl (by decide) rfl ?_
    refine Sd_iconst (pc' := 48) (dc D_Par_locate 25 rfl) rfl ⟨by decide, by decide⟩ ?_
    refine Sd_istore (pc' := 50) (l' := [(6, _), (5, _), (4, _), (3, _), (0, _), (1, _), (2, _)]) (dc D_Par_locate 26 rfl) rfl (by decide) rfl ?_
    refine Sd.sub (l' := [(0, _), (1, _), (3, _), (4, _), (5, _), (6, _)]) [4, 5, 3, 2, 1, 0] rfl ?_
    exact s_Par_locate_L50 FU _ _ _ _ _ _ _
def Par_locate (v0 : Nat) (v1 : Nat) (v2 : Int) (h : AH) : Option (Int × AH) := rc h 4 v0 <| bnd (Par_kind v0 h) fun x2 h1 => if ¬ (x2 : Int) = 1 then (gR h1 9 v1 0 fun r4 => aR h1 34 r4 0 fun r5 => gI h1 10 r5 3 fun x6 => Par_locate_L21 v0 v1 v2 x6 h1) else (Par_locate_L21 v0 v1 v2 1 h1)
set_option maxHeartbeats 4000000 in
set_option maxRecDepth 20000 in
theorem s_Par_locate (v0 : Nat) (v1 : Nat) (v2 : Int) (h : AH) : CS M_Par_locate 4 70 emI [vr v0, vr v1, vi v2] h (Par_locate v0 v1 v2 h) := by
  refine CS.of (by decide) (Nat.le_of_ble_eq_true rfl) ?_
  show Sd M_Par_locate 4 70 emI 0 [(0, vr v0), (1, vr v1), (2, vi v2)] [] h _
  unfold Par_locate
  refine Sd_aload_n (pc' := 1) (dc D_Par_locate 0 rfl) rfl 0 rfl rfl ?_
  refine Sd.callVI (ci := 3) (t := 4) (as := []) RX3 (pc' := 4) (dc D_Par_locate 1 rfl) rfl rfl rfl rfl K_Par_kind L_Par_45 Ks_Par_kind Kv_Par_kind ⟨by decide, by decide⟩ rfl rfl (Nat.le_of_ble_eq_true rfl) (s_Par_kind _ _) (fun x2 h1 => ?_)
  refine Sd_iconst (pc' := 5) (dc D_Par_locate 2 rfl) rfl ⟨by decide, by decide⟩ ?_
  refine Sd_icmp_ne (tgt := 12) (pc' := 8) (dc D_Par_locate 3 rfl) (by decide) rfl (fun _ => ?_) (fun _ => ?_)
  · refine Sd_aload_n (pc' := 13) (dc D_Par_locate 6 rfl) rfl 1 rfl rfl ?_
    refine Sd_getR (pc' := 16) (dc D_Par_locate 7 rfl) rfl F_Par_65 rfl rfl ?_
    refine Sd_iconst (pc' := 17) (dc D_Par_locate 8 rfl) rfl ⟨by decide, by decide⟩ ?_
    refine Sd_aaload (t := 34) (j := 6) (C0 := RX9) (pc' := 18) (dc D_Par_locate 9 rfl) rfl rfl (by decide) ?_
    refine Sd_getI (pc' := 21) (dc D_Par_locate 10 rfl) rfl F_Par_78 rfl rfl ?_
    exact s_Par_locate_L21 _ _ _ _ _
  · refine Sd_iconst (pc' := 9) (dc D_Par_locate 4 rfl) rfl ⟨by decide, by decide⟩ ?_
    refine Sd_goto (tgt := 21) (dc D_Par_locate 5 rfl) (by decide) ?_
    exact s_Par_locate_L21 _ _ _ _ _
theorem K_Par_locate : MOk M_Par_locate 2 := ⟨Tb_at 127 (by decide +kernel) rfl, Tb_at 835 (by decide +kernel) rfl, by decide +kernel, by decide +kernel, by decide +kernel⟩
theorem Ks_Par_locate : Cond.instanceMethod yX3_locate ∈ Tb := Tb_at 833 (by decide +kernel) rfl
theorem Kv_Par_locate : Cond.selects RX3 yX3_locate yX3_locate ∈ Tb := Tb_at 834 (by decide +kernel) rfl
/-! ===== BatchShare$Part.holds(LBatchShare$Part;)Z ===== -/
abbrev M_Par_holds : AMt := (yX3_holds, cX3_holds, 4, (some .boolean))
def T_Par_holds : List (Nat × Instr × Nat) := [(0, .aload_n 0, 1), (1, .getfield 9, 3), (4, .iconst 0, 1), (5, .iaload, 1), (6, .aload_n 1, 1), (7, .getfield 9, 3), (10, .iconst 0, 1), (11, .iaload, 1), (12, .if_icmp .ne 37, 3), (15, .aload_n 0, 1), (16, .getfield 9, 3), (19, .iconst 1, 1), (20, .iaload, 1), (21, .aload_n 1, 1), (22, .getfield 9, 3), (25, .iconst 1, 1), (26, .iaload, 1), (27, .if_icmp .ne 22, 3), (30, .aload_n 0, 1), (31, .getfield 9, 3), (34, .iconst 2, 1), (35, .iaload, 1), (36, .aload_n 1, 1), (37, .getfield 9, 3), (40, .iconst 2, 1), (41, .iaload, 1), (42, .if_icmp .ne 7, 3), (45, .iconst 1, 1), (46, .goto 4, 3), (49, .iconst 0, 1), (50, .istore_n 2, 1), (51, .iconst 3, 1), (52, .istore_n 3, 1), (53, .iload_n 3, 1), (54, .bipush 12, 2), (56, .if_icmp .ge 53, 3), (59, .iload_n 2, 1), (60, .ifCond .eq 49, 3), (63, .aload_n 0, 1), (64, .getfield 9, 3), (67, .iload_n 3, 1), (68, .iaload, 1), (69, .aload_n 1, 1), (70, .getfield 9, 3), (73, .iload_n 3, 1), (74, .iaload, 1), (75, .if_icmp .gt 26, 3), (78, .aload_n 0, 1), (79, .getfield 9, 3), (82, .iload_n 3, 1), (83, .iconst 1, 1), (84, .iadd, 1), (85, .iaload, 1), (86, .aload_n 1, 1), (87, .getfield 9, 3), (90, .iload_n 3, 1), (91, .iconst 1, 1), (92, .iadd, 1), (93, .iaload, 1), (94, .if_icmp .lt 7, 3), (97, .iconst 1, 1), (98, .goto 4, 3), (101, .iconst 0, 1), (102, .istore_n 2, 1), (103, .iinc 3 2, 3), (106, .goto (-53), 3), (109, .iload_n 2, 1), (110, .ireturn, 1)]
set_option maxRecDepth 20000 in
theorem D_Par_holds : (T_Par_holds.all fun q => decide (decode M_Par_holds.2.1 q.1 = .ok q.2)) = true := by decide +kernel
def Par_holds_L53 : Nat → Nat → Nat → Int → Int → AH → Option (Int × AH)
  | 0, _, _, _, _, _ => none
  | n + 1, v0, v1, v2, v3, h => if (12 : Int) ≤ v3 then (rz v2 h) else (if (v2 : Int) = 0 then (rz v2 h) else (gR h 4 v0 0 fun r1 => aI h 21 r1 v3 fun x2 => gR h 4 v1 0 fun r3 => aI h 21 r3 v3 fun x4 => if (x4 : Int) < x2 then (Par_holds_L53 n v0 v1 0 ((wr (v3 + 2))) h) else (gR h 4 v0 0 fun r5 => aI h 21 r5 (wr (v3 + 1)) fun x6 => gR h 4 v1 0 fun r7 => aI h 21 r7 (wr (v3 + 1)) fun x8 => if (x6 : Int) < x8 then (Par_holds_L53 n v0 v1 0 ((wr (v3 + 2))) h) else (Par_holds_L53 n v0 v1 1 ((wr (v3 + 2))) h))))
set_option maxHeartbeats 4000000 in
set_option maxRecDepth 20000 in
theorem s_Par_holds_L53 : ∀ (n : Nat) (v0 : Nat) (v1 : Nat) (v2 : Int) (v3 : Int) (h : AH), Sd M_Par_holds 1 0 emI 53 [(0, vr v0), (1, vr v1), (2, vi v2), (3, vi v3)] [] h (Par_holds_L53 n v0 v1 v2 v3 h)
  | 0, _, _, _, _, _ => Sd.none
  | n + 1, v0, v1, v2, v3, h => by
    rw [Par_holds_L53]
    refine Sd_iload_n (pc' := 54) (dc D_Par_holds 33 rfl) rfl 3 rfl rfl ?_
    refine Sd_bipush (pc' := 56) (dc D_Par_holds 34 rfl) rfl ⟨by decide, by decide⟩ (by decide) ?_
    refine Sd_icmp_ge (tgt := 109) (pc' := 59) (dc D_Par_holds 35 rfl) (by decide) rfl (fun _ => ?_) (fun _ => ?_)
    · refine Sd_iload_n (pc' := 110) (dc D_Par_holds 66 rfl) rfl 2 rfl rfl ?_
      exact Sd_zret' (dc D_Par_holds 67 rfl) rfl
    · refine Sd_iload_n (pc' := 60) (dc D_Par_holds 36 rfl) rfl 2 rfl rfl ?_
      refine Sd_if_eq (tgt := 109) (pc' := 63) (dc D_Par_holds 37 rfl) (by decide) rfl (fun _ => ?_) (fun _ => ?_)
      · refine Sd_iload_n (pc' := 110) (dc D_Par_holds 66 rfl) rfl 2 rfl rfl ?_
        exact Sd_zret' (dc D_Par_holds 67 rfl) rfl
      · refine Sd_aload_n (pc' := 64) (dc D_Par_holds 38 rfl) rfl 0 rfl rfl ?_
        refine Sd_getR (pc' := 67) (dc D_Par_holds 39 rfl) rfl F_Par_9 rfl rfl ?_
        refine Sd_iload_n (pc' := 68) (dc D_Par_holds 40 rfl) rfl 3 rfl rfl ?_
        refine Sd_iaload (pc' := 69) (dc D_Par_holds 41 rfl) rfl ?_
        refine Sd_aload_n (pc' := 70) (dc D_Par_holds 42 rfl) rfl 1 rfl rfl ?_
        refine Sd_getR (pc' := 73) (dc D_Par_holds 43 rfl) rfl F_Par_9 rfl rfl ?_
        refine Sd_iload_n (pc' := 74) (dc D_Par_holds 44 rfl) rfl 3 rfl rfl ?_
        refine Sd_iaload (pc' := 75) (dc D_Par_holds 45 rfl) rfl ?_
        refine Sd_icmp_gt (tgt := 101) (pc' := 78) (dc D_Par_holds 46 rfl) (by decide) rfl (fun _ => ?_) (fun _ => ?_)
        · refine Sd_iconst (pc' := 102) (dc D_Par_holds 62 rfl) rfl ⟨by decide, by decide⟩ ?_
          refine Sd_istore_n (pc' := 103) (l' := [(2, _), (0, _), (1, _), (3, _)]) (dc D_Par_holds 63 rfl) rfl rfl (by decide) rfl ?_
          refine Sd_iinc (pc' := 106) (l' := [(3, _), (2, _), (0, _), (1, _)]) (dc D_Par_holds 64 rfl) rfl 3 rfl (by decide) rfl ?_
          refine Sd_goto (tgt := 53) (dc D_Par_holds 65 rfl) (by decide) ?_
          refine Sd.sub (l' := [(0, _), (1, _), (2, _), (3, _)]) [2, 3, 1, 0] rfl ?_
          exact s_Par_holds_L53 n _ _ _ _ _
        · refine Sd_aload_n (pc' := 79) (dc D_Par_holds 47 rfl) rfl 0 rfl rfl ?_
          refine Sd_getR (pc' := 82) (dc D_Par_holds 48 rfl) rfl F_Par_9 rfl rfl ?_
          refine Sd_iload_n (pc' := 83) (dc D_Par_holds 49 rfl) rfl 3 rfl rfl ?_
          refine Sd_iconst (pc' := 84) (dc D_Par_holds 50 rfl) rfl ⟨by decide, by decide⟩ ?_
          refine Sd_iadd (pc' := 85) (dc D_Par_holds 51 rfl) rfl ?_
          refine Sd_iaload (pc' := 86) (dc D_Par_holds 52 rfl) rfl ?_
          refine Sd_aload_n (pc' := 87) (dc D_Par_holds 53 rfl) rfl 1 rfl rfl ?_
          refine Sd_getR (pc' := 90) (dc D_Par_holds 54 rfl) rfl F_Par_9 rfl rfl ?_
          refine Sd_iload_n (pc' := 91) (dc D_Par_holds 55 rfl) rfl 3 rfl rfl ?_
          refine Sd_iconst (pc' := 92) (dc D_Par_holds 56 rfl) rfl ⟨by decide, by decide⟩ ?_
          refine Sd_iadd (pc' := 93) (dc D_Par_holds 57 rfl) rfl ?_
          refine Sd_iaload (pc' := 94) (dc D_Par_holds 58 rfl) rfl ?_
          refine Sd_icmp_lt (tgt := 101) (pc' := 97) (dc D_Par_holds 59 rfl) (by decide) rfl (fun _ => ?_) (fun _ => ?_)
          · refine Sd_iconst (pc' := 102) (dc D_Par_holds 62 rfl) rfl ⟨by decide, by decide⟩ ?_
            refine Sd_istore_n (pc' := 103) (l' := [(2, _), (0, _), (1, _), (3, _)]) (dc D_Par_holds 63 rfl) rfl rfl (by decide) rfl ?_
            refine Sd_iinc (pc' := 106) (l' := [(3, _), (2, _), (0, _), (1, _)]) (dc D_Par_holds 64 rfl) rfl 3 rfl (by decide) rfl ?_
            refine Sd_goto (tgt := 53) (dc D_Par_holds 65 rfl) (by decide) ?_
            refine Sd.sub (l' := [(0, _), (1, _), (2, _), (3, _)]) [2, 3, 1, 0] rfl ?_
            exact s_Par_holds_L53 n _ _ _ _ _
          · refine Sd_iconst (pc' := 98) (dc D_Par_holds 60 rfl) rfl ⟨by decide, by decide⟩ ?_
            refine Sd_goto (tgt := 102) (dc D_Par_holds 61 rfl) (by decide) ?_
            refine Sd_istore_n (pc' := 103) (l' := [(2, _), (0, _), (1, _), (3, _)]) (dc D_Par_holds 63 rfl) rfl rfl (by decide) rfl ?_
            refine Sd_iinc (pc' := 106) (l' := [(3, _), (2, _), (0, _), (1, _)]) (dc D_Par_holds 64 rfl) rfl 3 rfl (by decide) rfl ?_
            refine Sd_goto (tgt := 53) (dc D_Par_holds 65 rfl) (by decide) ?_
            refine Sd.sub (l' := [(0, _), (1, _), (2, _), (3, _)]) [2, 3, 1, 0] rfl ?_
            exact s_Par_holds_L53 n _ _ _ _ _
def Par_holds (v0 : Nat) (v1 : Nat) (h : AH) : Option (Int × AH) := gR h 4 v0 0 fun r1 => aI h 21 r1 0 fun x2 => gR h 4 v1 0 fun r3 => aI h 21 r3 0 fun x4 => if ¬ (x2 : Int) = x4 then (Par_holds_L53 FU v0 v1 0 3 h) else (gR h 4 v0 0 fun r5 => aI h 21 r5 1 fun x6 => gR h 4 v1 0 fun r7 => aI h 21 r7 1 fun x8 => if ¬ (x6 : Int) = x8 then (Par_holds_L53 FU v0 v1 0 3 h) else (gR h 4 v0 0 fun r9 => aI h 21 r9 2 fun x10 => gR h 4 v1 0 fun r11 => aI h 21 r11 2 fun x12 => if ¬ (x10 : Int) = x12 then (Par_holds_L53 FU v0 v1 0 3 h) else (Par_holds_L53 FU v0 v1 1 3 h)))
set_option maxHeartbeats 4000000 in
set_option maxRecDepth 20000 in
theorem s_Par_holds (v0 : Nat) (v1 : Nat) (h : AH) : CS M_Par_holds 1 0 emI [vr v0, vr v1] h (Par_holds v0 v1 h) := by
  refine CS.of (by decide) (Nat.le_of_ble_eq_true rfl) ?_
  show Sd M_Par_holds 1 0 emI 0 [(0, vr v0), (1, vr v1)] [] h _
  unfold Par_holds
  refine Sd_aload_n (pc' := 1) (dc D_Par_holds 0 rfl) rfl 0 rfl rfl ?_
  refine Sd_getR (pc' := 4) (dc D_Par_holds 1 rfl) rfl F_Par_9 rfl rfl ?_
  refine Sd_iconst (pc' := 5) (dc D_Par_holds 2 rfl) rfl ⟨by decide, by decide⟩ ?_
  refine Sd_iaload (pc' := 6) (dc D_Par_holds 3 rfl) rfl ?_
  refine Sd_aload_n (pc' := 7) (dc D_Par_holds 4 rfl) rfl 1 rfl rfl ?_
  refine Sd_getR (pc' := 10) (dc D_Par_holds 5 rfl) rfl F_Par_9 rfl rfl ?_
  refine Sd_iconst (pc' := 11) (dc D_Par_holds 6 rfl) rfl ⟨by decide, by decide⟩ ?_
  refine Sd_iaload (pc' := 12) (dc D_Par_holds 7 rfl) rfl ?_
  refine Sd_icmp_ne (tgt := 49) (pc' := 15) (dc D_Par_holds 8 rfl) (by decide) rfl (fun _ => ?_) (fun _ => ?_)
  · refine Sd_iconst (pc' := 50) (dc D_Par_holds 29 rfl) rfl ⟨by decide, by decide⟩ ?_
    refine Sd_istore_n (pc' := 51) (l' := [(2, _), (0, _), (1, _)]) (dc D_Par_holds 30 rfl) rfl rfl (by decide) rfl ?_
    refine Sd_iconst (pc' := 52) (dc D_Par_holds 31 rfl) rfl ⟨by decide, by decide⟩ ?_
    refine Sd_istore_n (pc' := 53) (l' := [(3, _), (2, _), (0, _), (1, _)]) (dc D_Par_holds 32 rfl) rfl rfl (by decide) rfl ?_
    refine Sd.sub (l' := [(0, _), (1, _), (2, _), (3, _)]) [2, 3, 1, 0] rfl ?_
    exact s_Par_holds_L53 FU _ _ _ _ _
  · refine Sd_aload_n (pc' := 16) (dc D_Par_holds 9 rfl) rfl 0 rfl rfl ?_
    refine Sd_getR (pc' := 19) (dc D_Par_holds 10 rfl) rfl F_Par_9 rfl rfl ?_
    refine Sd_iconst (pc' := 20) (dc D_Par_holds 11 rfl) rfl ⟨by decide, by decide⟩ ?_
    refine Sd_iaload (pc' := 21) (dc D_Par_holds 12 rfl) rfl ?_
    refine Sd_aload_n (pc' := 22) (dc D_Par_holds 13 rfl) rfl 1 rfl rfl ?_
    refine Sd_getR (pc' := 25) (dc D_Par_holds 14 rfl) rfl F_Par_9 rfl rfl ?_
    refine Sd_iconst (pc' := 26) (dc D_Par_holds 15 rfl) rfl ⟨by decide, by decide⟩ ?_
    refine Sd_iaload (pc' := 27) (dc D_Par_holds 16 rfl) rfl ?_
    refine Sd_icmp_ne (tgt := 49) (pc' := 30) (dc D_Par_holds 17 rfl) (by decide) rfl (fun _ => ?_) (fun _ => ?_)
    · refine Sd_iconst (pc' := 50) (dc D_Par_holds 29 rfl) rfl ⟨by decide, by decide⟩ ?_
      refine Sd_istore_n (pc' := 51) (l' := [(2, _), (0, _), (1, _)]) (dc D_Par_holds 30 rfl) rfl rfl (by decide) rfl ?_
      refine Sd_iconst (pc' := 52) (dc D_Par_holds 31 rfl) rfl ⟨by decide, by decide⟩ ?_
      refine Sd_istore_n (pc' := 53) (l' := [(3, _), (2, _), (0, _), (1, _)]) (dc D_Par_holds 32 rfl) rfl rfl (by decide) rfl ?_
      refine Sd.sub (l' := [(0, _), (1, _), (2, _), (3, _)]) [2, 3, 1, 0] rfl ?_
      exact s_Par_holds_L53 FU _ _ _ _ _
    · refine Sd_aload_n (pc' := 31) (dc D_Par_holds 18 rfl) rfl 0 rfl rfl ?_
      refine Sd_getR (pc' := 34) (dc D_Par_holds 19 rfl) rfl F_Par_9 rfl rfl ?_
      refine Sd_iconst (pc' := 35) (dc D_Par_holds 20 rfl) rfl ⟨by decide, by decide⟩ ?_
      refine Sd_iaload (pc' := 36) (dc D_Par_holds 21 rfl) rfl ?_
      refine Sd_aload_n (pc' := 37) (dc D_Par_holds 22 rfl) rfl 1 rfl rfl ?_
      refine Sd_getR (pc' := 40) (dc D_Par_holds 23 rfl) rfl F_Par_9 rfl rfl ?_
      refine Sd_iconst (pc' := 41) (dc D_Par_holds 24 rfl) rfl ⟨by decide, by decide⟩ ?_
      refine Sd_iaload (pc' := 42) (dc D_Par_holds 25 rfl) rfl ?_
      refine Sd_icmp_ne (tgt := 49) (pc' := 45) (dc D_Par_holds 26 rfl) (by decide) rfl (fun _ => ?_) (fun _ => ?_)
      · refine Sd_iconst (pc' := 50) (dc D_Par_holds 29 rfl) rfl ⟨by decide, by decide⟩ ?_
        refine Sd_istore_n (pc' := 51) (l' := [(2, _), (0, _), (1, _)]) (dc D_Par_holds 30 rfl) rfl rfl (by decide) rfl ?_
        refine Sd_iconst (pc' := 52) (dc D_Par_holds 31 rfl) rfl ⟨by decide, by decide⟩ ?_
        refine Sd_istore_n (pc' := 53) (l' := [(3, _), (2, _), (0, _), (1, _)]) (dc D_Par_holds 32 rfl) rfl rfl (by decide) rfl ?_
        refine Sd.sub (l' := [(0, _), (1, _), (2, _), (3, _)]) [2, 3, 1, 0] rfl ?_
        exact s_Par_holds_L53 FU _ _ _ _ _
      · refine Sd_iconst (pc' := 46) (dc D_Par_holds 27 rfl) rfl ⟨by decide, by decide⟩ ?_
        refine Sd_goto (tgt := 50) (dc D_Par_holds 28 rfl) (by decide) ?_
        refine Sd_istore_n (pc' := 51) (l' := [(2, _), (0, _), (1, _)]) (dc D_Par_holds 30 rfl) rfl rfl (by decide) rfl ?_
        refine Sd_iconst (pc' := 52) (dc D_Par_holds 31 rfl) rfl ⟨by decide, by decide⟩ ?_
        refine Sd_istore_n (pc' := 53) (l' := [(3, _), (2, _), (0, _), (1, _)]) (dc D_Par_holds 32 rfl) rfl rfl (by decide) rfl ?_
        refine Sd.sub (l' := [(0, _), (1, _), (2, _), (3, _)]) [2, 3, 1, 0] rfl ?_
        exact s_Par_holds_L53 FU _ _ _ _ _
theorem K_Par_holds : MOk M_Par_holds 1 := ⟨Tb_at 127 (by decide +kernel) rfl, Tb_at 864 (by decide +kernel) rfl, by decide +kernel, by decide +kernel, by decide +kernel⟩
theorem Ks_Par_holds : Cond.instanceMethod yX3_holds ∈ Tb := Tb_at 862 (by decide +kernel) rfl
theorem Kv_Par_holds : Cond.selects RX3 yX3_holds yX3_holds ∈ Tb := Tb_at 863 (by decide +kernel) rfl
/-! ===== BatchShare$Part.isLike(LBatchShare$Part;)Z ===== -/
abbrev M_Par_isLike : AMt := (yX3_isLike, cX3_isLike, 3, (some .boolean))
def T_Par_isLike : List (Nat × Instr × Nat) := [(0, .iconst 0, 1), (1, .istore_n 2, 1), (2, .iload_n 2, 1), (3, .bipush 13, 2), (5, .if_icmp .ge 26, 3), (8, .aload_n 0, 1), (9, .getfield 9, 3), (12, .iload_n 2, 1), (13, .iaload, 1), (14, .aload_n 1, 1), (15, .getfield 9, 3), (18, .iload_n 2, 1), (19, .iaload, 1), (20, .if_icmp .eq 5, 3), (23, .iconst 0, 1), (24, .ireturn, 1), (25, .iinc 2 1, 3), (28, .goto (-26), 3), (31, .iconst 1, 1), (32, .ireturn, 1)]
set_option maxRecDepth 20000 in
theorem D_Par_isLike : (T_Par_isLike.all fun q => decide (decode M_Par_isLike.2.1 q.1 = .ok q.2)) = true := by decide +kernel
def Par_isLike_L2 : Nat → Nat → Nat → Int → AH → Option (Int × AH)
  | 0, _, _, _, _ => none
  | n + 1, v0, v1, v2, h => if (13 : Int) ≤ v2 then (some (1, h)) else (gR h 4 v0 0 fun r1 => aI h 21 r1 v2 fun x2 => gR h 4 v1 0 fun r3 => aI h 21 r3 v2 fun x4 => if (x2 : Int) = x4 then (Par_isLike_L2 n v0 v1 ((wr (v2 + 1))) h) else (some (0, h)))
set_option maxHeartbeats 4000000 in
set_option maxRecDepth 20000 in
theorem s_Par_isLike_L2 : ∀ (n : Nat) (v0 : Nat) (v1 : Nat) (v2 : Int) (h : AH), Sd M_Par_isLike 1 0 emI 2 [(0, vr v0), (1, vr v1), (2, vi v2)] [] h (Par_isLike_L2 n v0 v1 v2 h)
  | 0, _, _, _, _ => Sd.none
  | n + 1, v0, v1, v2, h => by
    rw [Par_isLike_L2]
    refine Sd_iload_n (pc' := 3) (dc D_Par_isLike 2 rfl) rfl 2 rfl rfl ?_
    refine Sd_bipush (pc' := 5) (dc D_Par_isLike 3 rfl) rfl ⟨by decide, by decide⟩ (by decide) ?_
    refine Sd_icmp_ge (tgt := 31) (pc' := 8) (dc D_Par_isLike 4 rfl) (by decide) rfl (fun _ => ?_) (fun _ => ?_)
    · refine Sd_iconst (pc' := 32) (dc D_Par_isLike 18 rfl) rfl ⟨by decide, by decide⟩ ?_
      exact Sd_zret (dc D_Par_isLike 19 rfl) rfl (Or.inr rfl)
    · refine Sd_aload_n (pc' := 9) (dc D_Par_isLike 5 rfl) rfl 0 rfl rfl ?_
      refine Sd_getR (pc' := 12) (dc D_Par_isLike 6 rfl) rfl F_Par_9 rfl rfl ?_
      refine Sd_iload_n (pc' := 13) (dc D_Par_isLike 7 rfl) rfl 2 rfl rfl ?_
      refine Sd_iaload (pc' := 14) (dc D_Par_isLike 8 rfl) rfl ?_
      refine Sd_aload_n (pc' := 15) (dc D_Par_isLike 9 rfl) rfl 1 rfl rfl ?_
      refine Sd_getR (pc' := 18) (dc D_Par_isLike 10 rfl) rfl F_Par_9 rfl rfl ?_
      refine Sd_iload_n (pc' := 19) (dc D_Par_isLike 11 rfl) rfl 2 rfl rfl ?_
      refine Sd_iaload (pc' := 20) (dc D_Par_isLike 12 rfl) rfl ?_
      refine Sd_icmp_eq (tgt := 25) (pc' := 23) (dc D_Par_isLike 13 rfl) (by decide) rfl (fun _ => ?_) (fun _ => ?_)
      · refine Sd_iinc (pc' := 28) (l' := [(2, _), (0, _), (1, _)]) (dc D_Par_isLike 16 rfl) rfl 2 rfl (by decide) rfl ?_
        refine Sd_goto (tgt := 2) (dc D_Par_isLike 17 rfl) (by decide) ?_
        refine Sd.sub (l' := [(0, _), (1, _), (2, _)]) [1, 2, 0] rfl ?_
        exact s_Par_isLike_L2 n _ _ _ _
      · refine Sd_iconst (pc' := 24) (dc D_Par_isLike 14 rfl) rfl ⟨by decide, by decide⟩ ?_
        exact Sd_zret (dc D_Par_isLike 15 rfl) rfl (Or.inl rfl)
def Par_isLike (v0 : Nat) (v1 : Nat) (h : AH) : Option (Int × AH) := Par_isLike_L2 FU v0 v1 0 h
set_option maxHeartbeats 4000000 in
set_option maxRecDepth 20000 in
theorem s_Par_isLike (v0 : Nat) (v1 : Nat) (h : AH) : CS M_Par_isLike 1 0 emI [vr v0, vr v1] h (Par_isLike v0 v1 h) := by
  refine CS.of (by decide) (Nat.le_of_ble_eq_true rfl) ?_
  show Sd M_Par_isLike 1 0 emI 0 [(0, vr v0), (1, vr v1)] [] h _
  unfold Par_isLike
  refine Sd_iconst (pc' := 1) (dc D_Par_isLike 0 rfl) rfl ⟨by decide, by decide⟩ ?_
  refine Sd_istore_n (pc' := 2) (l' := [(2, _), (0, _), (1, _)]) (dc D_Par_isLike 1 rfl) rfl rfl (by decide) rfl ?_
  refine Sd.sub (l' := [(0, _), (1, _), (2, _)]) [1, 2, 0] rfl ?_
  exact s_Par_isLike_L2 FU _ _ _ _
theorem K_Par_isLike : MOk M_Par_isLike 1 := ⟨Tb_at 127 (by decide +kernel) rfl, Tb_at 883 (by decide +kernel) rfl, by decide +kernel, by decide +kernel, by decide +kernel⟩
theorem Ks_Par_isLike : Cond.instanceMethod yX3_isLike ∈ Tb := Tb_at 881 (by decide +kernel) rfl
theorem Kv_Par_isLike : Cond.selects RX3 yX3_isLike yX3_isLike ∈ Tb := Tb_at 882 (by decide +kernel) rfl
/-! ===== BatchShare$Part.isOfSort(LBatchShare$Part;)Z ===== -/
abbrev M_Par_isOfSort : AMt := (yX3_isOfSort, cX3_isOfSort, 2, (some .boolean))
def T_Par_isOfSort : List (Nat × Instr × Nat) := [(0, .aload_n 0, 1), (1, .getfield 9, 3), (4, .iconst 0, 1), (5, .iaload, 1), (6, .aload_n 1, 1), (7, .getfield 9, 3), (10, .iconst 0, 1), (11, .iaload, 1), (12, .if_icmp .ne 37, 3), (15, .aload_n 0, 1), (16, .getfield 9, 3), (19, .iconst 1, 1), (20, .iaload, 1), (21, .aload_n 1, 1), (22, .getfield 9, 3), (25, .iconst 1, 1), (26, .iaload, 1), (27, .if_icmp .ne 22, 3), (30, .aload_n 0, 1), (31, .getfield 9, 3), (34, .iconst 2, 1), (35, .iaload, 1), (36, .aload_n 1, 1), (37, .getfield 9, 3), (40, .iconst 2, 1), (41, .iaload, 1), (42, .if_icmp .ne 7, 3), (45, .iconst 1, 1), (46, .goto 4, 3), (49, .iconst 0, 1), (50, .ireturn, 1)]
set_option maxRecDepth 20000 in
theorem D_Par_isOfSort : (T_Par_isOfSort.all fun q => decide (decode M_Par_isOfSort.2.1 q.1 = .ok q.2)) = true := by decide +kernel
def Par_isOfSort (v0 : Nat) (v1 : Nat) (h : AH) : Option (Int × AH) := gR h 4 v0 0 fun r1 => aI h 21 r1 0 fun x2 => gR h 4 v1 0 fun r3 => aI h 21 r3 0 fun x4 => if ¬ (x2 : Int) = x4 then (some (0, h)) else (gR h 4 v0 0 fun r5 => aI h 21 r5 1 fun x6 => gR h 4 v1 0 fun r7 => aI h 21 r7 1 fun x8 => if ¬ (x6 : Int) = x8 then (some (0, h)) else (gR h 4 v0 0 fun r9 => aI h 21 r9 2 fun x10 => gR h 4 v1 0 fun r11 => aI h 21 r11 2 fun x12 => if ¬ (x10 : Int) = x12 then (some (0, h)) else (some (1, h))))
set_option maxHeartbeats 4000000 in
set_option maxRecDepth 20000 in
theorem s_Par_isOfSort (v0 : Nat) (v1 : Nat) (h : AH) : CS M_Par_isOfSort 1 0 emI [vr v0, vr v1] h (Par_isOfSort v0 v1 h) := by
  refine CS.of (by decide) (Nat.le_of_ble_eq_true rfl) ?_
  show Sd M_Par_isOfSort 1 0 emI 0 [(0, vr v0), (1, vr v1)] [] h _
  unfold Par_isOfSort
  refine Sd_aload_n (pc' := 1) (dc D_Par_isOfSort 0 rfl) rfl 0 rfl rfl ?_
  refine Sd_getR (pc' := 4) (dc D_Par_isOfSort 1 rfl) rfl F_Par_9 rfl rfl ?_
  refine Sd_iconst (pc' := 5) (dc D_Par_isOfSort 2 rfl) rfl ⟨by decide, by decide⟩ ?_
  refine Sd_iaload (pc' := 6) (dc D_Par_isOfSort 3 rfl) rfl ?_
  refine Sd_aload_n (pc' := 7) (dc D_Par_isOfSort 4 rfl) rfl 1 rfl rfl ?_
  refine Sd_getR (pc' := 10) (dc D_Par_isOfSort 5 rfl) rfl F_Par_9 rfl rfl ?_
  refine Sd_iconst (pc' := 11) (dc D_Par_isOfSort 6 rfl) rfl ⟨by decide, by decide⟩ ?_
  refine Sd_iaload (pc' := 12) (dc D_Par_isOfSort 7 rfl) rfl ?_
  refine Sd_icmp_ne (tgt := 49) (pc' := 15) (dc D_Par_isOfSort 8 rfl) (by decide) rfl (fun _ => ?_) (fun _ => ?_)
  · refine Sd_iconst (pc' := 50) (dc D_Par_isOfSort 29 rfl) rfl ⟨by decide, by decide⟩ ?_
    exact Sd_zret (dc D_Par_isOfSort 30 rfl) rfl (Or.inl rfl)
  · refine Sd_aload_n (pc' := 16) (dc D_Par_isOfSort 9 rfl) rfl 0 rfl rfl ?_
    refine Sd_getR (pc' := 19) (dc D_Par_isOfSort 10 rfl) rfl F_Par_9 rfl rfl ?_
    refine Sd_iconst (pc' := 20) (dc D_Par_isOfSort 11 rfl) rfl ⟨by decide, by decide⟩ ?_
    refine Sd_iaload (pc' := 21) (dc D_Par_isOfSort 12 rfl) rfl ?_
    refine Sd_aload_n (pc' := 22) (dc D_Par_isOfSort 13 rfl) rfl 1 rfl rfl ?_
    refine Sd_getR (pc' := 25) (dc D_Par_isOfSort 14 rfl) rfl F_Par_9 rfl rfl ?_
    refine Sd_iconst (pc' := 26) (dc D_Par_isOfSort 15 rfl) rfl ⟨by decide, by decide⟩ ?_
    refine Sd_iaload (pc' := 27) (dc D_Par_isOfSort 16 rfl) rfl ?_
    refine Sd_icmp_ne (tgt := 49) (pc' := 30) (dc D_Par_isOfSort 17 rfl) (by decide) rfl (fun _ => ?_) (fun _ => ?_)
    · refine Sd_iconst (pc' := 50) (dc D_Par_isOfSort 29 rfl) rfl ⟨by decide, by decide⟩ ?_
      exact Sd_zret (dc D_Par_isOfSort 30 rfl) rfl (Or.inl rfl)
    · refine Sd_aload_n (pc' := 31) (dc D_Par_isOfSort 18 rfl) rfl 0 rfl rfl ?_
      refine Sd_getR (pc' := 34) (dc D_Par_isOfSort 19 rfl) rfl F_Par_9 rfl rfl ?_
      refine Sd_iconst (pc' := 35) (dc D_Par_isOfSort 20 rfl) rfl ⟨by decide, by decide⟩ ?_
      refine Sd_iaload (pc' := 36) (dc D_Par_isOfSort 21 rfl) rfl ?_
      refine Sd_aload_n (pc' := 37) (dc D_Par_isOfSort 22 rfl) rfl 1 rfl rfl ?_
      refine Sd_getR (pc' := 40) (dc D_Par_isOfSort 23 rfl) rfl F_Par_9 rfl rfl ?_
      refine Sd_iconst (pc' := 41) (dc D_Par_isOfSort 24 rfl) rfl ⟨by decide, by decide⟩ ?_
      refine Sd_iaload (pc' := 42) (dc D_Par_isOfSort 25 rfl) rfl ?_
      refine Sd_icmp_ne (tgt := 49) (pc' := 45) (dc D_Par_isOfSort 26 rfl) (by decide) rfl (fun _ => ?_) (fun _ => ?_)
      · refine Sd_iconst (pc' := 50) (dc D_Par_isOfSort 29 rfl) rfl ⟨by decide, by decide⟩ ?_
        exact Sd_zret (dc D_Par_isOfSort 30 rfl) rfl (Or.inl rfl)
      · refine Sd_iconst (pc' := 46) (dc D_Par_isOfSort 27 rfl) rfl ⟨by decide, by decide⟩ ?_
        refine Sd_goto (tgt := 50) (dc D_Par_isOfSort 28 rfl) (by decide) ?_
        exact Sd_zret (dc D_Par_isOfSort 30 rfl) rfl (Or.inr rfl)
theorem K_Par_isOfSort : MOk M_Par_isOfSort 1 := ⟨Tb_at 127 (by decide +kernel) rfl, Tb_at 892 (by decide +kernel) rfl, by decide +kernel, by decide +kernel, by decide +kernel⟩
theorem Ks_Par_isOfSort : Cond.instanceMethod yX3_isOfSort ∈ Tb := Tb_at 890 (by decide +kernel) rfl
theorem Kv_Par_isOfSort : Cond.selects RX3 yX3_isOfSort yX3_isOfSort ∈ Tb := Tb_at 891 (by decide +kernel) rfl
/-! ===== BatchShare$Part.least(I)I ===== -/
abbrev M_Par_least : AMt := (yX3_least, cX3_least, 2, (some .int))
def T_Par_least : List (Nat × Instr × Nat) := [(0, .aload_n 0, 1), (1, .getfield 9, 3), (4, .iconst 3, 1), (5, .iconst 2, 1), (6, .iload_n 1, 1), (7, .imul, 1), (8, .iadd, 1), (9, .iaload, 1), (10, .ireturn, 1)]
set_option maxRecDepth 20000 in
theorem D_Par_least : (T_Par_least.all fun q => decide (decode M_Par_least.2.1 q.1 = .ok q.2)) = true := by decide +kernel
def Par_least (v0 : Nat) (v1 : Int) (h : AH) : Option (Int × AH) := gR h 4 v0 0 fun r1 => aI h 21 r1 (wr (3 + (wr (2 * v1)))) fun x2 => some (x2, h)
set_option maxHeartbeats 4000000 in
set_option maxRecDepth 20000 in
theorem s_Par_least (v0 : Nat) (v1 : Int) (h : AH) : CS M_Par_least 1 0 emI [vr v0, vi v1] h (Par_least v0 v1 h) := by
  refine CS.of (by decide) (Nat.le_of_ble_eq_true rfl) ?_
  show Sd M_Par_least 1 0 emI 0 [(0, vr v0), (1, vi v1)] [] h _
  unfold Par_least
  refine Sd_aload_n (pc' := 1) (dc D_Par_least 0 rfl) rfl 0 rfl rfl ?_
  refine Sd_getR (pc' := 4) (dc D_Par_least 1 rfl) rfl F_Par_9 rfl rfl ?_
  refine Sd_iconst (pc' := 5) (dc D_Par_least 2 rfl) rfl ⟨by decide, by decide⟩ ?_
  refine Sd_iconst (pc' := 6) (dc D_Par_least 3 rfl) rfl ⟨by decide, by decide⟩ ?_
  refine Sd_iload_n (pc' := 7) (dc D_Par_least 4 rfl) rfl 1 rfl rfl ?_
  refine Sd_imul (pc' := 8) (dc D_Par_least 5 rfl) rfl ?_
  refine Sd_iadd (pc' := 9) (dc D_Par_least 6 rfl) rfl ?_
  refine Sd_iaload (pc' := 10) (dc D_Par_least 7 rfl) rfl ?_
  exact Sd_iret (dc D_Par_least 8 rfl) rfl
theorem K_Par_least : MOk M_Par_least 1 := ⟨Tb_at 127 (by decide +kernel) rfl, Tb_at 901 (by decide +kernel) rfl, by decide +kernel, by decide +kernel, by decide +kernel⟩
theorem Ks_Par_least : Cond.instanceMethod yX3_least ∈ Tb := Tb_at 899 (by decide +kernel) rfl
theorem Kv_Par_least : Cond.selects RX3 yX3_least yX3_least ∈ Tb := Tb_at 900 (by decide +kernel) rfl
/-! ===== BatchShare$Part.greatest(I)I ===== -/
abbrev M_Par_greatest : AMt := (yX3_greatest, cX3_greatest, 2, (some .int))
def T_Par_greatest : List (Nat × Instr × Nat) := [(0, .aload_n 0, 1), (1, .getfield 9, 3), (4, .iconst 4, 1), (5, .iconst 2, 1), (6, .iload_n 1, 1), (7, .imul, 1), (8, .iadd, 1), (9, .iaload, 1), (10, .ireturn, 1)]
set_option maxRecDepth 20000 in
theorem D_Par_greatest : (T_Par_greatest.all fun q => decide (decode M_Par_greatest.2.1 q.1 = .ok q.2)) = true := by decide +kernel
def Par_greatest (v0 : Nat) (v1 : Int) (h : AH) : Option (Int × AH) := gR h 4 v0 0 fun r1 => aI h 21 r1 (wr (4 + (wr (2 * v1)))) fun x2 => some (x2, h)
set_option maxHeartbeats 4000000 in
set_option maxRecDepth 20000 in
theorem s_Par_greatest (v0 : Nat) (v1 : Int) (h : AH) : CS M_Par_greatest 1 0 emI [vr v0, vi v1] h (Par_greatest v0 v1 h) := by
  refine CS.of (by decide) (Nat.le_of_ble_eq_true rfl) ?_
  show Sd M_Par_greatest 1 0 emI 0 [(0, vr v0), (1, vi v1)] [] h _
  unfold Par_greatest
  refine Sd_aload_n (pc' := 1) (dc D_Par_greatest 0 rfl) rfl 0 rfl rfl ?_
  refine Sd_getR (pc' := 4) (dc D_Par_greatest 1 rfl) rfl F_Par_9 rfl rfl ?_
  refine Sd_iconst (pc' := 5) (dc D_Par_greatest 2 rfl) rfl ⟨by decide, by decide⟩ ?_
  refine Sd_iconst (pc' := 6) (dc D_Par_greatest 3 rfl) rfl ⟨by decide, by decide⟩ ?_
  refine Sd_iload_n (pc' := 7) (dc D_Par_greatest 4 rfl) rfl 1 rfl rfl ?_
  refine Sd_imul (pc' := 8) (dc D_Par_greatest 5 rfl) rfl ?_
  refine Sd_iadd (pc' := 9) (dc D_Par_greatest 6 rfl) rfl ?_
  refine Sd_iaload (pc' := 10) (dc D_Par_greatest 7 rfl) rfl ?_
  exact Sd_iret (dc D_Par_greatest 8 rfl) rfl
theorem K_Par_greatest : MOk M_Par_greatest 1 := ⟨Tb_at 127 (by decide +kernel) rfl, Tb_at 906 (by decide +kernel) rfl, by decide +kernel, by decide +kernel, by decide +kernel⟩
theorem Ks_Par_greatest : Cond.instanceMethod yX3_greatest ∈ Tb := Tb_at 904 (by decide +kernel) rfl
theorem Kv_Par_greatest : Cond.selects RX3 yX3_greatest yX3_greatest ∈ Tb := Tb_at 905 (by decide +kernel) rfl
/-! ===== BatchShare$Part.widen(LBatchShare$Part;LBatchShare$Part;)V ===== -/
abbrev M_Par_widen : AMt := (yX3_widen, cX3_widen, 4, none)
def T_Par_widen : List (Nat × Instr × Nat) := [(0, .aload_n 0, 1), (1, .aload_n 1, 1), (2, .invokevirtual 21, 3), (5, .iconst 0, 1), (6, .istore_n 3, 1), (7, .iload_n 3, 1), (8, .iconst 5, 1), (9, .if_icmp .ge 40, 3), (12, .aload_n 0, 1), (13, .iload_n 3, 1), (14, .aload_n 1, 1), (15, .iload_n 3, 1), (16, .invokevirtual 25, 3), (19, .aload_n 2, 1), (20, .iload_n 3, 1), (21, .invokevirtual 25, 3), (24, .invokestatic 29, 3), (27, .aload_n 1, 1), (28, .iload_n 3, 1), (29, .invokevirtual 35, 3), (32, .aload_n 2, 1), (33, .iload_n 3, 1), (34, .invokevirtual 35, 3), (37, .invokestatic 38, 3), (40, .invokevirtual 41, 3), (43, .iinc 3 1, 3), (46, .goto (-39), 3), (49, .return_, 1)]
set_option maxRecDepth 20000 in
theorem D_Par_widen : (T_Par_widen.all fun q => decide (decode M_Par_widen.2.1 q.1 = .ok q.2)) = true := by decide +kernel
def Par_widen_L7 : Nat → Nat → Nat → Nat → Int → AH → Option (Unit × AH)
  | 0, _, _, _, _, _ => none
  | n + 1, v0, v1, v2, v3, h => if (5 : Int) ≤ v3 then (some ((), h)) else (rc h 4 v1 <| bnd (Par_least v1 v3 h) fun x2 h1 => rc h1 4 v2 <| bnd (Par_least v2 v3 h1) fun x5 h4 => rc h4 4 v1 <| bnd (Par_greatest v1 v3 h4) fun x8 h7 => rc h7 4 v2 <| bnd (Par_greatest v2 v3 h7) fun x11 h10 => rc h10 4 v0 <| bnd (Par_limit v0 v3 (mMin x2 x5) (mMax x8 x11) h10) fun _ h13 => Par_widen_L7 n v0 v1 v2 ((wr (v3 + 1))) h13)
set_option maxHeartbeats 4000000 in
set_option maxRecDepth 20000 in
theorem s_Par_widen_L7 : ∀ (n : Nat) (v0 : Nat) (v1 : Nat) (v2 : Nat) (v3 : Int) (h : AH), Sd M_Par_widen 2 47 emV 7 [(0, vr v0), (1, vr v1), (2, vr v2), (3, vi v3)] [] h (Par_widen_L7 n v0 v1 v2 v3 h)
  | 0, _, _, _, _, _ => Sd.none
  | n + 1, v0, v1, v2, v3, h => by
    rw [Par_widen_L7]
    refine Sd_iload_n (pc' := 8) (dc D_Par_widen 5 rfl) rfl 3 rfl rfl ?_
    refine Sd_iconst (pc' := 9) (dc D_Par_widen 6 rfl) rfl ⟨by decide, by decide⟩ ?_
    refine Sd_icmp_ge (tgt := 49) (pc' := 12) (dc D_Par_widen 7 rfl) (by decide) rfl (fun _ => ?_) (fun _ => ?_)
    · exact Sd_vret (dc D_Par_widen 27 rfl) rfl
    · refine Sd_aload_n (pc' := 13) (dc D_Par_widen 8 rfl) rfl 0 rfl rfl ?_
      refine Sd_iload_n (pc' := 14) (dc D_Par_widen 9 rfl) rfl 3 rfl rfl ?_
      refine Sd_aload_n (pc' := 15) (dc D_Par_widen 10 rfl) rfl 1 rfl rfl ?_
      refine Sd_iload_n (pc' := 16) (dc D_Par_widen 11 rfl) rfl 3 rfl rfl ?_
      refine Sd.callVI (ci := 3) (t := 4) (as := [_]) RX3 (pc' := 19) (dc D_Par_widen 12 rfl) rfl rfl rfl rfl K_Par_least L_Par_25 Ks_Par_least Kv_Par_least ⟨by decide, by decide⟩ rfl rfl (Nat.le_of_ble_eq_true rfl) (s_Par_least _ _ _) (fun x2 h1 => ?_)
      refine Sd_aload_n (pc' := 20) (dc D_Par_widen 13 rfl) rfl 2 rfl rfl ?_
      refine Sd_iload_n (pc' := 21) (dc D_Par_widen 14 rfl) rfl 3 rfl rfl ?_
      refine Sd.callVI (ci := 3) (t := 4) (as := [_]) RX3 (pc' := 24) (dc D_Par_widen 15 rfl) rfl rfl rfl rfl K_Par_least L_Par_25 Ks_Par_least Kv_Par_least ⟨by decide, by decide⟩ rfl rfl (Nat.le_of_ble_eq_true rfl) (s_Par_least _ _ _) (fun x5 h4 => ?_)
      refine Sd_mmin (pc' := 27) (dc D_Par_widen 16 rfl) rfl L_Par_29 W_mmin1 W_m2 W_mmin3 (by decide) (Nat.le_of_ble_eq_true rfl) ?_
      refine Sd_aload_n (pc' := 28) (dc D_Par_widen 17 rfl) rfl 1 rfl rfl ?_
      refine Sd_iload_n (pc' := 29) (dc D_Par_widen 18 rfl) rfl 3 rfl rfl ?_
      refine Sd.callVI (ci := 3) (t := 4) (as := [_]) RX3 (pc' := 32) (dc D_Par_widen 19 rfl) rfl rfl rfl rfl K_Par_greatest L_Par_35 Ks_Par_greatest Kv_Par_greatest ⟨by decide, by decide⟩ rfl rfl (Nat.le_of_ble_eq_true rfl) (s_Par_greatest _ _ _) (fun x8 h7 => ?_)
      refine Sd_aload_n (pc' := 33) (dc D_Par_widen 20 rfl) rfl 2 rfl rfl ?_
      refine Sd_iload_n (pc' := 34) (dc D_Par_widen 21 rfl) rfl 3 rfl rfl ?_
      refine Sd.callVI (ci := 3) (t := 4) (as := [_]) RX3 (pc' := 37) (dc D_Par_widen 22 rfl) rfl rfl rfl rfl K_Par_greatest L_Par_35 Ks_Par_greatest Kv_Par_greatest ⟨by decide, by decide⟩ rfl rfl (Nat.le_of_ble_eq_true rfl) (s_Par_greatest _ _ _) (fun x11 h10 => ?_)
      refine Sd_mmax (pc' := 40) (dc D_Par_widen 23 rfl) rfl L_Par_38 W_mmax1 W_m2 W_mmax3 (by decide) (Nat.le_of_ble_eq_true rfl) ?_
      refine Sd.callVV (ci := 3) (t := 4) (as := [_, _, _]) RX3 (pc' := 43) (dc D_Par_widen 24 rfl) rfl rfl rfl rfl K_Par_limit L_Par_41 Ks_Par_limit Kv_Par_limit ⟨by decide, by decide⟩ rfl rfl (Nat.le_of_ble_eq_true rfl) (s_Par_limit _ _ _ _ _) (fun _ h13 => ?_)
      refine Sd_iinc (pc' := 46) (l' := [(3, _), (0, _), (1, _), (2, _)]) (dc D_Par_widen 25 rfl) rfl 3 rfl (by decide) rfl ?_
      refine Sd_goto (tgt := 7) (dc D_Par_widen 26 rfl) (by decide) ?_
      refine Sd.sub (l' := [(0, _), (1, _), (2, _), (3, _)]) [1, 2, 3, 0] rfl ?_
      exact s_Par_widen_L7 n _ _ _ _ _
def Par_widen (v0 : Nat) (v1 : Nat) (v2 : Nat) (h : AH) : Option (Unit × AH) := rc h 4 v0 <| bnd (Par_copy v0 v1 h) fun _ h1 => Par_widen_L7 FU v0 v1 v2 0 h1
set_option maxHeartbeats 4000000 in
set_option maxRecDepth 20000 in
theorem s_Par_widen (v0 : Nat) (v1 : Nat) (v2 : Nat) (h : AH) : CS M_Par_widen 2 47 emV [vr v0, vr v1, vr v2] h (Par_widen v0 v1 v2 h) := by
  refine CS.of (by decide) (Nat.le_of_ble_eq_true rfl) ?_
  show Sd M_Par_widen 2 47 emV 0 [(0, vr v0), (1, vr v1), (2, vr v2)] [] h _
  unfold Par_widen
  refine Sd_aload_n (pc' := 1) (dc D_Par_widen 0 rfl) rfl 0 rfl rfl ?_
  refine Sd_aload_n (pc' := 2) (dc D_Par_widen 1 rfl) rfl 1 rfl rfl ?_
  refine Sd.callVV (ci := 3) (t := 4) (as := [_]) RX3 (pc' := 5) (dc D_Par_widen 2 rfl) rfl rfl rfl rfl K_Par_copy L_Par_21 Ks_Par_copy Kv_Par_copy ⟨by decide, by decide⟩ rfl rfl (Nat.le_of_ble_eq_true rfl) (s_Par_copy _ _ _) (fun _ h1 => ?_)
  refine Sd_iconst (pc' := 6) (dc D_Par_widen 3 rfl) rfl ⟨by decide, by decide⟩ ?_
  refine Sd_istore_n (pc' := 7) (l' := [(3, _), (0, _), (1, _), (2, _)]) (dc D_Par_widen 4 rfl) rfl rfl (by decide) rfl ?_
  refine Sd.sub (l' := [(0, _), (1, _), (2, _), (3, _)]) [1, 2, 3, 0] rfl ?_
  exact s_Par_widen_L7 FU _ _ _ _ _
theorem K_Par_widen : MOk M_Par_widen 2 := ⟨Tb_at 127 (by decide +kernel) rfl, Tb_at 896 (by decide +kernel) rfl, by decide +kernel, by decide +kernel, by decide +kernel⟩
theorem Ks_Par_widen : Cond.instanceMethod yX3_widen ∈ Tb := Tb_at 894 (by decide +kernel) rfl
theorem Kv_Par_widen : Cond.selects RX3 yX3_widen yX3_widen ∈ Tb := Tb_at 895 (by decide +kernel) rfl
/-! ===== BatchShare$Part.makeIn(LBatchShare$State;)I ===== -/
abbrev M_Par_makeIn : AMt := (yX3_makeIn, cX3_makeIn, 4, (some .int))
def T_Par_makeIn : List (Nat × Instr × Nat) := [(0, .aload_n 1, 1), (1, .getfield 65, 3), (4, .iconst 0, 1), (5, .aaload, 1), (6, .astore_n 2, 1), (7, .aload_n 1, 1), (8, .getfield 65, 3), (11, .iconst 1, 1), (12, .aaload, 1), (13, .astore_n 3, 1), (14, .aload_n 0, 1), (15, .invokevirtual 45, 3), (18, .iconst 2, 1), (19, .if_icmp .ne 25, 3), (22, .aload_n 2, 1), (23, .getfield 78, 3), (26, .aload_n 3, 1), (27, .getfield 78, 3), (30, .iadd, 1), (31, .aload_n 0, 1), (32, .aload_n 2, 1), (33, .invokevirtual 81, 3), (36, .aload_n 0, 1), (37, .aload_n 3, 1), (38, .invokevirtual 81, 3), (41, .imul, 1), (42, .iadd, 1), (43, .ireturn, 1), (44, .aload_n 1, 1), (45, .getfield 65, 3), (48, .aload_n 0, 1), (49, .invokevirtual 45, 3), (52, .aaload, 1), (53, .getfield 78, 3), (56, .ireturn, 1)]
set_option maxRecDepth 20000 in
theorem D_Par_makeIn : (T_Par_makeIn.all fun q => decide (decode M_Par_makeIn.2.1 q.1 = .ok q.2)) = true := by decide +kernel
def Par_makeIn (v0 : Nat) (v1 : Nat) (h : AH) : Option (Int × AH) := gR h 9 v1 0 fun r1 => aR h 34 r1 0 fun r2 => if r2 = 0 then none else gR h 9 v1 0 fun r3 => aR h 34 r3 1 fun r4 => if r4 = 0 then none else rc h 4 v0 <| bnd (Par_kind v0 h) fun x6 h5 => if ¬ (x6 : Int) = 2 then (gR h5 9 v1 0 fun r8 => rc h5 4 v0 <| bnd (Par_kind v0 h5) fun x10 h9 => aR h9 34 r8 x10 fun r12 => gI h9 10 r12 3 fun x13 => some (x13, h9)) else (gI h5 10 r2 3 fun x14 => gI h5 10 r4 3 fun x15 => rc h5 4 v0 <| bnd (Par_rowsOf v0 r2 h5) fun x17 h16 => rc h16 4 v0 <| bnd (Par_rowsOf v0 r4 h16) fun x20 h19 => some ((wr ((wr (x14 + x15)) + (wr (x17 * x20)))), h19))
set_option maxHeartbeats 4000000 in
set_option maxRecDepth 20000 in
theorem s_Par_makeIn (v0 : Nat) (v1 : Nat) (h : AH) : CS M_Par_makeIn 4 70 emI [vr v0, vr v1] h (Par_makeIn v0 v1 h) := by
  refine CS.of (by decide) (Nat.le_of_ble_eq_true rfl) ?_
  show Sd M_Par_makeIn 4 70 emI 0 [(0, vr v0), (1, vr v1)] [] h _
  unfold Par_makeIn
  refine Sd_aload_n (pc' := 1) (dc D_Par_makeIn 0 rfl) rfl 1 rfl rfl ?_
  refine Sd_getR (pc' := 4) (dc D_Par_makeIn 1 rfl) rfl F_Par_65 rfl rfl ?_
  refine Sd_iconst (pc' := 5) (dc D_Par_makeIn 2 rfl) rfl ⟨by decide, by decide⟩ ?_
  refine Sd_aaload (t := 34) (j := 6) (C0 := RX9) (pc' := 6) (dc D_Par_makeIn 3 rfl) rfl rfl (by decide) ?_
  refine Sd_astore_n (pc' := 7) (l' := [(2, _), (0, _), (1, _)]) (dc D_Par_makeIn 4 rfl) rfl rfl (by decide) rfl (fun _ => ?_)
  refine Sd_aload_n (pc' := 8) (dc D_Par_makeIn 5 rfl) rfl 2 rfl rfl ?_
  refine Sd_getR (pc' := 11) (dc D_Par_makeIn 6 rfl) rfl F_Par_65 rfl rfl ?_
  refine Sd_iconst (pc' := 12) (dc D_Par_makeIn 7 rfl) rfl ⟨by decide, by decide⟩ ?_
  refine Sd_aaload (t := 34) (j := 6) (C0 := RX9) (pc' := 13) (dc D_Par_makeIn 8 rfl) rfl rfl (by decide) ?_
  refine Sd_astore_n (pc' := 14) (l' := [(3, _), (2, _), (0, _), (1, _)]) (dc D_Par_makeIn 9 rfl) rfl rfl (by decide) rfl (fun _ => ?_)
  refine Sd_aload_n (pc' := 15) (dc D_Par_makeIn 10 rfl) rfl 2 rfl rfl ?_
  refine Sd.callVI (ci := 3) (t := 4) (as := []) RX3 (pc' := 18) (dc D_Par_makeIn 11 rfl) rfl rfl rfl rfl K_Par_kind L_Par_45 Ks_Par_kind Kv_Par_kind ⟨by decide, by decide⟩ rfl rfl (Nat.le_of_ble_eq_true rfl) (s_Par_kind _ _) (fun x6 h5 => ?_)
  refine Sd_iconst (pc' := 19) (dc D_Par_makeIn 12 rfl) rfl ⟨by decide, by decide⟩ ?_
  refine Sd_icmp_ne (tgt := 44) (pc' := 22) (dc D_Par_makeIn 13 rfl) (by decide) rfl (fun _ => ?_) (fun _ => ?_)
  · refine Sd_aload_n (pc' := 45) (dc D_Par_makeIn 28 rfl) rfl 3 rfl rfl ?_
    refine Sd_getR (pc' := 48) (dc D_Par_makeIn 29 rfl) rfl F_Par_65 rfl rfl ?_
    refine Sd_aload_n (pc' := 49) (dc D_Par_makeIn 30 rfl) rfl 2 rfl rfl ?_
    refine Sd.callVI (ci := 3) (t := 4) (as := []) RX3 (pc' := 52) (dc D_Par_makeIn 31 rfl) rfl rfl rfl rfl K_Par_kind L_Par_45 Ks_Par_kind Kv_Par_kind ⟨by decide, by decide⟩ rfl rfl (Nat.le_of_ble_eq_true rfl) (s_Par_kind _ _) (fun x10 h9 => ?_)
    refine Sd_aaload (t := 34) (j := 6) (C0 := RX9) (pc' := 53) (dc D_Par_makeIn 32 rfl) rfl rfl (by decide) ?_
    refine Sd_getI (pc' := 56) (dc D_Par_makeIn 33 rfl) rfl F_Par_78 rfl rfl ?_
    exact Sd_iret (dc D_Par_makeIn 34 rfl) rfl
  · refine Sd_aload_n (pc' := 23) (dc D_Par_makeIn 14 rfl) rfl 1 rfl rfl ?_
    refine Sd_getI (pc' := 26) (dc D_Par_makeIn 15 rfl) rfl F_Par_78 rfl rfl ?_
    refine Sd_aload_n (pc' := 27) (dc D_Par_makeIn 16 rfl) rfl 0 rfl rfl ?_
    refine Sd_getI (pc' := 30) (dc D_Par_makeIn 17 rfl) rfl F_Par_78 rfl rfl ?_
    refine Sd_iadd (pc' := 31) (dc D_Par_makeIn 18 rfl) rfl ?_
    refine Sd_aload_n (pc' := 32) (dc D_Par_makeIn 19 rfl) rfl 2 rfl rfl ?_
    refine Sd_aload_n (pc' := 33) (dc D_Par_makeIn 20 rfl) rfl 1 rfl rfl ?_
    refine Sd.callVI (ci := 3) (t := 4) (as := [_]) RX3 (pc' := 36) (dc D_Par_makeIn 21 rfl) rfl rfl rfl rfl K_Par_rowsOf L_Par_81 Ks_Par_rowsOf Kv_Par_rowsOf ⟨by decide, by decide⟩ rfl rfl (Nat.le_of_ble_eq_true rfl) (s_Par_rowsOf _ _ _) (fun x17 h16 => ?_)
    refine Sd_aload_n (pc' := 37) (dc D_Par_makeIn 22 rfl) rfl 2 rfl rfl ?_
    refine Sd_aload_n (pc' := 38) (dc D_Par_makeIn 23 rfl) rfl 0 rfl rfl ?_
    refine Sd.callVI (ci := 3) (t := 4) (as := [_]) RX3 (pc' := 41) (dc D_Par_makeIn 24 rfl) rfl rfl rfl rfl K_Par_rowsOf L_Par_81 Ks_Par_rowsOf Kv_Par_rowsOf ⟨by decide, by decide⟩ rfl rfl (Nat.le_of_ble_eq_true rfl) (s_Par_rowsOf _ _ _) (fun x20 h19 => ?_)
    refine Sd_imul (pc' := 42) (dc D_Par_makeIn 25 rfl) rfl ?_
    refine Sd_iadd (pc' := 43) (dc D_Par_makeIn 26 rfl) rfl ?_
    exact Sd_iret (dc D_Par_makeIn 27 rfl) rfl
theorem K_Par_makeIn : MOk M_Par_makeIn 1 := ⟨Tb_at 127 (by decide +kernel) rfl, Tb_at 920 (by decide +kernel) rfl, by decide +kernel, by decide +kernel, by decide +kernel⟩
theorem Ks_Par_makeIn : Cond.instanceMethod yX3_makeIn ∈ Tb := Tb_at 918 (by decide +kernel) rfl
theorem Kv_Par_makeIn : Cond.selects RX3 yX3_makeIn yX3_makeIn ∈ Tb := Tb_at 919 (by decide +kernel) rfl
/-! ===== BatchShare$Part.isOver(I)Z ===== -/
abbrev M_Par_isOver : AMt := (yX3_isOver, cX3_isOver, 2, (some .boolean))
def T_Par_isOver : List (Nat × Instr × Nat) := [(0, .aload_n 0, 1), (1, .invokevirtual 45, 3), (4, .iconst 2, 1), (5, .if_icmp .eq 11, 3), (8, .aload_n 0, 1), (9, .invokevirtual 45, 3), (12, .iload_n 1, 1), (13, .if_icmp .ne 7, 3), (16, .iconst 1, 1), (17, .goto 4, 3), (20, .iconst 0, 1), (21, .ireturn, 1)]
set_option maxRecDepth 20000 in
theorem D_Par_isOver : (T_Par_isOver.all fun q => decide (decode M_Par_isOver.2.1 q.1 = .ok q.2)) = true := by decide +kernel
def Par_isOver (v0 : Nat) (v1 : Int) (h : AH) : Option (Int × AH) := rc h 4 v0 <| bnd (Par_kind v0 h) fun x2 h1 => if (x2 : Int) = 2 then (some (1, h1)) else (rc h1 4 v0 <| bnd (Par_kind v0 h1) fun x5 h4 => if ¬ (x5 : Int) = v1 then (some (0, h4)) else (some (1, h4)))
set_option maxHeartbeats 4000000 in
set_option maxRecDepth 20000 in
theorem s_Par_isOver (v0 : Nat) (v1 : Int) (h : AH) : CS M_Par_isOver 2 20 emI [vr v0, vi v1] h (Par_isOver v0 v1 h) := by
  refine CS.of (by decide) (Nat.le_of_ble_eq_true rfl) ?_
  show Sd M_Par_isOver 2 20 emI 0 [(0, vr v0), (1, vi v1)] [] h _
  unfold Par_isOver
  refine Sd_aload_n (pc' := 1) (dc D_Par_isOver 0 rfl) rfl 0 rfl rfl ?_
  refine Sd.callVI (ci := 3) (t := 4) (as := []) RX3 (pc' := 4) (dc D_Par_isOver 1 rfl) rfl rfl rfl rfl K_Par_kind L_Par_45 Ks_Par_kind Kv_Par_kind ⟨by decide, by decide⟩ rfl rfl (Nat.le_of_ble_eq_true rfl) (s_Par_kind _ _) (fun x2 h1 => ?_)
  refine Sd_iconst (pc' := 5) (dc D_Par_isOver 2 rfl) rfl ⟨by decide, by decide⟩ ?_
  refine Sd_icmp_eq (tgt := 16) (pc' := 8) (dc D_Par_isOver 3 rfl) (by decide) rfl (fun _ => ?_) (fun _ => ?_)
  · refine Sd_iconst (pc' := 17) (dc D_Par_isOver 8 rfl) rfl ⟨by decide, by decide⟩ ?_
    refine Sd_goto (tgt := 21) (dc D_Par_isOver 9 rfl) (by decide) ?_
    exact Sd_zret (dc D_Par_isOver 11 rfl) rfl (Or.inr rfl)
  · refine Sd_aload_n (pc' := 9) (dc D_Par_isOver 4 rfl) rfl 0 rfl rfl ?_
    refine Sd.callVI (ci := 3) (t := 4) (as := []) RX3 (pc' := 12) (dc D_Par_isOver 5 rfl) rfl rfl rfl rfl K_Par_kind L_Par_45 Ks_Par_kind Kv_Par_kind ⟨by decide, by decide⟩ rfl rfl (Nat.le_of_ble_eq_true rfl) (s_Par_kind _ _) (fun x5 h4 => ?_)
    refine Sd_iload_n (pc' := 13) (dc D_Par_isOver 6 rfl) rfl 1 rfl rfl ?_
    refine Sd_icmp_ne (tgt := 20) (pc' := 16) (dc D_Par_isOver 7 rfl) (by decide) rfl (fun _ => ?_) (fun _ => ?_)
    · refine Sd_iconst (pc' := 21) (dc D_Par_isOver 10 rfl) rfl ⟨by decide, by decide⟩ ?_
      exact Sd_zret (dc D_Par_isOver 11 rfl) rfl (Or.inl rfl)
    · refine Sd_iconst (pc' := 17) (dc D_Par_isOver 8 rfl) rfl ⟨by decide, by decide⟩ ?_
      refine Sd_goto (tgt := 21) (dc D_Par_isOver 9 rfl) (by decide) ?_
      exact Sd_zret (dc D_Par_isOver 11 rfl) rfl (Or.inr rfl)
theorem K_Par_isOver : MOk M_Par_isOver 1 := ⟨Tb_at 127 (by decide +kernel) rfl, Tb_at 1016 (by decide +kernel) rfl, by decide +kernel, by decide +kernel, by decide +kernel⟩
theorem Ks_Par_isOver : Cond.instanceMethod yX3_isOver ∈ Tb := Tb_at 1014 (by decide +kernel) rfl
theorem Kv_Par_isOver : Cond.selects RX3 yX3_isOver yX3_isOver ∈ Tb := Tb_at 1015 (by decide +kernel) rfl
