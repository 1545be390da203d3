/-! ===== BatchShare$Query.<init>()V ===== -/
abbrev M_Que_init : AMt := (yX5_init, cX5_init, 2, none)
def T_Que_init : List (Nat × Instr × Nat) := [(0, .aload_n 0, 1), (1, .invokespecial 3, 3), (4, .aload_n 0, 1), (5, .bipush 19, 2), (7, .newarray .int, 2), (9, .putfield 9, 3), (12, .aload_n 0, 1), (13, .iconst 3, 1), (14, .anewarray 15, 3), (17, .putfield 17, 3), (20, .iconst 0, 1), (21, .istore_n 1, 1), (22, .iload_n 1, 1), (23, .iconst 3, 1), (24, .if_icmp .ge 22, 3), (27, .aload_n 0, 1), (28, .getfield 17, 3), (31, .iload_n 1, 1), (32, .new 15, 3), (35, .dup, 1), (36, .invokespecial 21, 3), (39, .aastore, 1), (40, .iinc 1 1, 3), (43, .goto (-21), 3), (46, .return_, 1)]
set_option maxRecDepth 20000 in
theorem D_Que_init : (T_Que_init.all fun q => decide (decode M_Que_init.2.1 q.1 = .ok q.2)) = true := by decide +kernel
def Que_init_L22 : Nat → Nat → Int → AH → Option (Unit × AH)
  | 0, _, _, _ => none
  | n + 1, v0, v1, h => if (3 : Int) ≤ v1 then (some ((), h)) else (gR h 6 v0 1 fun r1 => nO h 4 1 fun r2 h3 => bnd (Par_init r2 h3) fun _ h4 => wR h4 36 r1 v1 4 r2 fun h7 => Que_init_L22 n v0 ((wr (v1 + 1))) h7)
set_option maxHeartbeats 4000000 in
set_option maxRecDepth 20000 in
theorem s_Que_init_L22 : ∀ (n : Nat) (v0 : Nat) (v1 : Int) (h : AH), Sd M_Que_init 2 40 emV 22 [(0, vr v0), (1, vi v1)] [] h (Que_init_L22 n v0 v1 h)
  | 0, _, _, _ => Sd.none
  | n + 1, v0, v1, h => by
    rw [Que_init_L22]
    refine Sd_iload_n (pc' := 23) (dc D_Que_init 12 rfl) rfl 1 rfl rfl ?_
    refine Sd_iconst (pc' := 24) (dc D_Que_init 13 rfl) rfl ⟨by decide, by decide⟩ ?_
    refine Sd_icmp_ge (tgt := 46) (pc' := 27) (dc D_Que_init 14 rfl) (by decide) rfl (fun _ => ?_) (fun _ => ?_)
    · exact Sd_vret (dc D_Que_init 24 rfl) rfl
    · refine Sd_aload_n (pc' := 28) (dc D_Que_init 15 rfl) rfl 0 rfl rfl ?_
      refine Sd_getR (pc' := 31) (dc D_Que_init 16 rfl) rfl F_Que_17 rfl rfl ?_
      refine Sd_iload_n (pc' := 32) (dc D_Que_init 17 rfl) rfl 1 rfl rfl ?_
      refine Sd_new (ci := 3) (t := 4) (sl := 1) RX3 (pc' := 35) (dc D_Que_init 18 rfl) rfl rfl rfl C_Que_15 Ni_Par Nz_Par ?_
      refine Sd_dup (pc' := 36) (dc D_Que_init 19 rfl) rfl (cat_r _) ?_
      refine Sd.callNV (as := []) (pc' := 39) (dc D_Que_init 20 rfl) rfl (Nat.le_add_right 16 _) K_Par_init (List.mem_of_getElem? (i := 4) rfl) Ks_Par_init rfl rfl ⟨by decide, by decide⟩ rfl rfl (Nat.le_of_ble_eq_true rfl) (s_Par_init _ _) (fun _ h4 => ?_)
      refine Sd_aastore (t := 36) (j := 8) (ci := 3) (tv := 4) (C0 := RX3) (pc' := 40) (dc D_Que_init 21 rfl) rfl (by decide) rfl rfl rfl (by decide) ?_
      refine Sd_iinc (pc' := 43) (l' := [(1, _), (0, _)]) (dc D_Que_init 22 rfl) rfl 1 rfl (by decide) rfl ?_
      refine Sd_goto (tgt := 22) (dc D_Que_init 23 rfl) (by decide) ?_
      refine Sd.sub (l' := [(0, _), (1, _)]) [1, 0] rfl ?_
      exact s_Que_init_L22 n _ _ _
def Que_init (v0 : Nat) (h : AH) : Option (Unit × AH) := oi v0 <| nA h 21 19 fun r1 h2 => pR h2 6 v0 0 r1 fun h3 => nA h3 36 3 fun r4 h5 => pR h5 6 v0 1 r4 fun h6 => Que_init_L22 FU v0 0 h6
set_option maxHeartbeats 4000000 in
set_option maxRecDepth 20000 in
theorem s_Que_init (v0 : Nat) (h : AH) : CS M_Que_init 2 40 emV [vr v0] h (Que_init v0 h) := by
  refine CS.of (by decide) (Nat.le_of_ble_eq_true rfl) ?_
  show Sd M_Que_init 2 40 emV 0 [(0, vr v0)] [] h _
  unfold Que_init
  refine Sd_aload_n (pc' := 1) (dc D_Que_init 0 rfl) rfl 0 rfl rfl ?_
  refine Sd_oi (pc' := 4) (dc D_Que_init 1 rfl) rfl L_Que_3 W_obj2 W_obj3 (by decide) (Nat.le_of_ble_eq_true rfl) ?_
  refine Sd_aload_n (pc' := 5) (dc D_Que_init 2 rfl) rfl 0 rfl rfl ?_
  refine Sd_bipush (pc' := 7) (dc D_Que_init 3 rfl) rfl ⟨by decide, by decide⟩ (by decide) ?_
  refine Sd_newarray (t := 21) (j := 0) (ty := .int) (pc' := 9) (dc D_Que_init 4 rfl) rfl rfl (by decide) rfl W_aI (by decide) rfl (fun _ _ h => h) ?_
  refine Sd_putR (pc' := 12) (dc D_Que_init 5 rfl) rfl F_Que_9 rfl rfl rfl (finOk.yes rfl rfl) (by decide) ?_
  refine Sd_aload_n (pc' := 13) (dc D_Que_init 6 rfl) rfl 0 rfl rfl ?_
  refine Sd_iconst (pc' := 14) (dc D_Que_init 7 rfl) rfl ⟨by decide, by decide⟩ ?_
  refine Sd_anewarray (t := 36) (j := 8) (C0 := RX3) (pc' := 17) (dc D_Que_init 8 rfl) rfl (by decide) rfl C_Que_15 (List.mem_of_getElem? (i := 5) rfl) ?_
  refine Sd_putR (pc' := 20) (dc D_Que_init 9 rfl) rfl F_Que_17 rfl rfl rfl (finOk.yes rfl rfl) (by decide) ?_
  refine Sd_iconst (pc' := 21) (dc D_Que_init 10 rfl) rfl ⟨by decide, by decide⟩ ?_
  refine Sd_istore_n (pc' := 22) (l' := [(1, _), (0, _)]) (dc D_Que_init 11 rfl) rfl rfl (by decide) rfl ?_
  refine Sd.sub (l' := [(0, _), (1, _)]) [1, 0] rfl ?_
  exact s_Que_init_L22 FU _ _ _
theorem K_Que_init : MOk M_Que_init 0 := ⟨Tb_at 132 (by decide +kernel) rfl, Tb_at 433 (by decide +kernel) rfl, by decide +kernel, by decide +kernel, by decide +kernel⟩
theorem Ks_Que_init : Cond.instanceMethod yX5_init ∈ Tb := Tb_at 432 (by decide +kernel) rfl
/-! ===== BatchShare$Query.showNothing()V ===== -/
abbrev M_Que_showNothing : AMt := (yX5_showNothing, cX5_showNothing, 2, none)
def T_Que_showNothing : List (Nat × Instr × Nat) := [(0, .aload_n 0, 1), (1, .getfield 9, 3), (4, .bipush 13, 2), (6, .iconst 0, 1), (7, .iastore, 1), (8, .iconst 0, 1), (9, .istore_n 1, 1), (10, .iload_n 1, 1), (11, .iconst 5, 1), (12, .if_icmp .ge 19, 3), (15, .aload_n 0, 1), (16, .getfield 9, 3), (19, .bipush 14, 2), (21, .iload_n 1, 1), (22, .iadd, 1), (23, .iconst (-1), 1), (24, .iastore, 1), (25, .iinc 1 1, 3), (28, .goto (-18), 3), (31, .return_, 1)]
set_option maxRecDepth 20000 in
theorem D_Que_showNothing : (T_Que_showNothing.all fun q => decide (decode M_Que_showNothing.2.1 q.1 = .ok q.2)) = true := by decide +kernel
def Que_showNothing_L10 : Nat → Nat → Int → AH → Option (Unit × AH)
  | 0, _, _, _ => none
  | n + 1, v0, v1, h => if (5 : Int) ≤ v1 then (some ((), h)) else (gR h 6 v0 0 fun r1 => wI h 21 r1 (wr (14 + v1)) (-1) fun h2 => Que_showNothing_L10 n v0 ((wr (v1 + 1))) h2)
set_option maxHeartbeats 4000000 in
set_option maxRecDepth 20000 in
theorem s_Que_showNothing_L10 : ∀ (n : Nat) (v0 : Nat) (v1 : Int) (h : AH), Sd M_Que_showNothing 1 0 emV 10 [(0, vr v0), (1, vi v1)] [] h (Que_showNothing_L10 n v0 v1 h)
  | 0, _, _, _ => Sd.none
  | n + 1, v0, v1, h => by
    rw [Que_showNothing_L10]
    refine Sd_iload_n (pc' := 11) (dc D_Que_showNothing 7 rfl) rfl 1 rfl rfl ?_
    refine Sd_iconst (pc' := 12) (dc D_Que_showNothing 8 rfl) rfl ⟨by decide, by decide⟩ ?_
    refine Sd_icmp_ge (tgt := 31) (pc' := 15) (dc D_Que_showNothing 9 rfl) (by decide) rfl (fun _ => ?_) (fun _ => ?_)
    · exact Sd_vret (dc D_Que_showNothing 19 rfl) rfl
    · refine Sd_aload_n (pc' := 16) (dc D_Que_showNothing 10 rfl) rfl 0 rfl rfl ?_
      refine Sd_getR (pc' := 19) (dc D_Que_showNothing 11 rfl) rfl F_Que_9 rfl rfl ?_
      refine Sd_bipush (pc' := 21) (dc D_Que_showNothing 12 rfl) rfl ⟨by decide, by decide⟩ (by decide) ?_
      refine Sd_iload_n (pc' := 22) (dc D_Que_showNothing 13 rfl) rfl 1 rfl rfl ?_
      refine Sd_iadd (pc' := 23) (dc D_Que_showNothing 14 rfl) rfl ?_
      refine Sd_iconst (pc' := 24) (dc D_Que_showNothing 15 rfl) rfl ⟨by decide, by decide⟩ ?_
      refine Sd_iastore (pc' := 25) (dc D_Que_showNothing 16 rfl) rfl (by decide) ?_
      refine Sd_iinc (pc' := 28) (l' := [(1, _), (0, _)]) (dc D_Que_showNothing 17 rfl) rfl 1 rfl (by decide) rfl ?_
      refine Sd_goto (tgt := 10) (dc D_Que_showNothing 18 rfl) (by decide) ?_
      refine Sd.sub (l' := [(0, _), (1, _)]) [1, 0] rfl ?_
      exact s_Que_showNothing_L10 n _ _ _
def Que_showNothing (v0 : Nat) (h : AH) : Option (Unit × AH) := gR h 6 v0 0 fun r1 => wI h 21 r1 13 0 fun h2 => Que_showNothing_L10 FU v0 0 h2
set_option maxHeartbeats 4000000 in
set_option maxRecDepth 20000 in
theorem s_Que_showNothing (v0 : Nat) (h : AH) : CS M_Que_showNothing 1 0 emV [vr v0] h (Que_showNothing v0 h) := by
  refine CS.of (by decide) (Nat.le_of_ble_eq_true rfl) ?_
  show Sd M_Que_showNothing 1 0 emV 0 [(0, vr v0)] [] h _
  unfold Que_showNothing
  refine Sd_aload_n (pc' := 1) (dc D_Que_showNothing 0 rfl) rfl 0 rfl rfl ?_
  refine Sd_getR (pc' := 4) (dc D_Que_showNothing 1 rfl) rfl F_Que_9 rfl rfl ?_
  refine Sd_bipush (pc' := 6) (dc D_Que_showNothing 2 rfl) rfl ⟨by decide, by decide⟩ (by decide) ?_
  refine Sd_iconst (pc' := 7) (dc D_Que_showNothing 3 rfl) rfl ⟨by decide, by decide⟩ ?_
  refine Sd_iastore (pc' := 8) (dc D_Que_showNothing 4 rfl) rfl (by decide) ?_
  refine Sd_iconst (pc' := 9) (dc D_Que_showNothing 5 rfl) rfl ⟨by decide, by decide⟩ ?_
  refine Sd_istore_n (pc' := 10) (l' := [(1, _), (0, _)]) (dc D_Que_showNothing 6 rfl) rfl rfl (by decide) rfl ?_
  refine Sd.sub (l' := [(0, _), (1, _)]) [1, 0] rfl ?_
  exact s_Que_showNothing_L10 FU _ _ _
theorem K_Que_showNothing : MOk M_Que_showNothing 0 := ⟨Tb_at 132 (by decide +kernel) rfl, Tb_at 682 (by decide +kernel) rfl, by decide +kernel, by decide +kernel, by decide +kernel⟩
theorem Ks_Que_showNothing : Cond.instanceMethod yX5_showNothing ∈ Tb := Tb_at 680 (by decide +kernel) rfl
theorem Kv_Que_showNothing : Cond.selects RX5 yX5_showNothing yX5_showNothing ∈ Tb := Tb_at 681 (by decide +kernel) rfl
/-! ===== BatchShare$Query.source()I ===== -/
abbrev M_Que_source : AMt := (yX5_source, cX5_source, 1, (some .int))
def T_Que_source : List (Nat × Instr × Nat) := [(0, .aload_n 0, 1), (1, .getfield 9, 3), (4, .iconst 0, 1), (5, .iaload, 1), (6, .ireturn, 1)]
set_option maxRecDepth 20000 in
theorem D_Que_source : (T_Que_source.all fun q => decide (decode M_Que_source.2.1 q.1 = .ok q.2)) = true := by decide +kernel
def Que_source (v0 : Nat) (h : AH) : Option (Int × AH) := gR h 6 v0 0 fun r1 => aI h 21 r1 0 fun x2 => some (x2, h)
set_option maxHeartbeats 4000000 in
set_option maxRecDepth 20000 in
theorem s_Que_source (v0 : Nat) (h : AH) : CS M_Que_source 1 0 emI [vr v0] h (Que_source v0 h) := by
  refine CS.of (by decide) (Nat.le_of_ble_eq_true rfl) ?_
  show Sd M_Que_source 1 0 emI 0 [(0, vr v0)] [] h _
  unfold Que_source
  refine Sd_aload_n (pc' := 1) (dc D_Que_source 0 rfl) rfl 0 rfl rfl ?_
  refine Sd_getR (pc' := 4) (dc D_Que_source 1 rfl) rfl F_Que_9 rfl rfl ?_
  refine Sd_iconst (pc' := 5) (dc D_Que_source 2 rfl) rfl ⟨by decide, by decide⟩ ?_
  refine Sd_iaload (pc' := 6) (dc D_Que_source 3 rfl) rfl ?_
  exact Sd_iret (dc D_Que_source 4 rfl) rfl
theorem K_Que_source : MOk M_Que_source 0 := ⟨Tb_at 132 (by decide +kernel) rfl, Tb_at 690 (by decide +kernel) rfl, by decide +kernel, by decide +kernel, by decide +kernel⟩
theorem Ks_Que_source : Cond.instanceMethod yX5_source ∈ Tb := Tb_at 688 (by decide +kernel) rfl
theorem Kv_Que_source : Cond.selects RX5 yX5_source yX5_source ∈ Tb := Tb_at 689 (by decide +kernel) rfl
/-! ===== BatchShare$Query.firstCol()I ===== -/
abbrev M_Que_firstCol : AMt := (yX5_firstCol, cX5_firstCol, 1, (some .int))
def T_Que_firstCol : List (Nat × Instr × Nat) := [(0, .aload_n 0, 1), (1, .invokevirtual 22, 3), (4, .iconst 1, 1), (5, .if_icmp .ne 7, 3), (8, .iconst 3, 1), (9, .goto 4, 3), (12, .iconst 0, 1), (13, .ireturn, 1)]
set_option maxRecDepth 20000 in
theorem D_Que_firstCol : (T_Que_firstCol.all fun q => decide (decode M_Que_firstCol.2.1 q.1 = .ok q.2)) = true := by decide +kernel
def Que_firstCol (v0 : Nat) (h : AH) : Option (Int × AH) := rc h 6 v0 <| bnd (Que_source v0 h) fun x2 h1 => if ¬ (x2 : Int) = 1 then (some (0, h1)) else (some (3, h1))
set_option maxHeartbeats 4000000 in
set_option maxRecDepth 20000 in
theorem s_Que_firstCol (v0 : Nat) (h : AH) : CS M_Que_firstCol 2 20 emI [vr v0] h (Que_firstCol v0 h) := by
  refine CS.of (by decide) (Nat.le_of_ble_eq_true rfl) ?_
  show Sd M_Que_firstCol 2 20 emI 0 [(0, vr v0)] [] h _
  unfold Que_firstCol
  refine Sd_aload_n (pc' := 1) (dc D_Que_firstCol 0 rfl) rfl 0 rfl rfl ?_
  refine Sd.callVI (ci := 5) (t := 6) (as := []) RX5 (pc' := 4) (dc D_Que_firstCol 1 rfl) rfl rfl rfl rfl K_Que_source L_Que_22 Ks_Que_source Kv_Que_source ⟨by decide, by decide⟩ rfl rfl (Nat.le_of_ble_eq_true rfl) (s_Que_source _ _) (fun x2 h1 => ?_)
  refine Sd_iconst (pc' := 5) (dc D_Que_firstCol 2 rfl) rfl ⟨by decide, by decide⟩ ?_
  refine Sd_icmp_ne (tgt := 12) (pc' := 8) (dc D_Que_firstCol 3 rfl) (by decide) rfl (fun _ => ?_) (fun _ => ?_)
  · refine Sd_iconst (pc' := 13) (dc D_Que_firstCol 6 rfl) rfl ⟨by decide, by decide⟩ ?_
    exact Sd_iret (dc D_Que_firstCol 7 rfl) rfl
  · refine Sd_iconst (pc' := 9) (dc D_Que_firstCol 4 rfl) rfl ⟨by decide, by decide⟩ ?_
    refine Sd_goto (tgt := 13) (dc D_Que_firstCol 5 rfl) (by decide) ?_
    exact Sd_iret (dc D_Que_firstCol 7 rfl) rfl
theorem K_Que_firstCol : MOk M_Que_firstCol 0 := ⟨Tb_at 132 (by decide +kernel) rfl, Tb_at 686 (by decide +kernel) rfl, by decide +kernel, by decide +kernel, by decide +kernel⟩
theorem Ks_Que_firstCol : Cond.instanceMethod yX5_firstCol ∈ Tb := Tb_at 684 (by decide +kernel) rfl
theorem Kv_Que_firstCol : Cond.selects RX5 yX5_firstCol yX5_firstCol ∈ Tb := Tb_at 685 (by decide +kernel) rfl
/-! ===== BatchShare$Query.lastCol()I ===== -/
abbrev M_Que_lastCol : AMt := (yX5_lastCol, cX5_lastCol, 1, (some .int))
def T_Que_lastCol : List (Nat × Instr × Nat) := [(0, .aload_n 0, 1), (1, .invokevirtual 22, 3), (4, .ifCond .ne 7, 3), (7, .iconst 2, 1), (8, .goto 4, 3), (11, .iconst 4, 1), (12, .ireturn, 1)]
set_option maxRecDepth 20000 in
theorem D_Que_lastCol : (T_Que_lastCol.all fun q => decide (decode M_Que_lastCol.2.1 q.1 = .ok q.2)) = true := by decide +kernel
def Que_lastCol (v0 : Nat) (h : AH) : Option (Int × AH) := rc h 6 v0 <| bnd (Que_source v0 h) fun x2 h1 => if ¬ (x2 : Int) = 0 then (some (4, h1)) else (some (2, h1))
set_option maxHeartbeats 4000000 in
set_option maxRecDepth 20000 in
theorem s_Que_lastCol (v0 : Nat) (h : AH) : CS M_Que_lastCol 2 20 emI [vr v0] h (Que_lastCol v0 h) := by
  refine CS.of (by decide) (Nat.le_of_ble_eq_true rfl) ?_
  show Sd M_Que_lastCol 2 20 emI 0 [(0, vr v0)] [] h _
  unfold Que_lastCol
  refine Sd_aload_n (pc' := 1) (dc D_Que_lastCol 0 rfl) rfl 0 rfl rfl ?_
  refine Sd.callVI (ci := 5) (t := 6) (as := []) RX5 (pc' := 4) (dc D_Que_lastCol 1 rfl) rfl rfl rfl rfl K_Que_source L_Que_22 Ks_Que_source Kv_Que_source ⟨by decide, by decide⟩ rfl rfl (Nat.le_of_ble_eq_true rfl) (s_Que_source _ _) (fun x2 h1 => ?_)
  refine Sd_if_ne (tgt := 11) (pc' := 7) (dc D_Que_lastCol 2 rfl) (by decide) rfl (fun _ => ?_) (fun _ => ?_)
  · refine Sd_iconst (pc' := 12) (dc D_Que_lastCol 5 rfl) rfl ⟨by decide, by decide⟩ ?_
    exact Sd_iret (dc D_Que_lastCol 6 rfl) rfl
  · refine Sd_iconst (pc' := 8) (dc D_Que_lastCol 3 rfl) rfl ⟨by decide, by decide⟩ ?_
    refine Sd_goto (tgt := 12) (dc D_Que_lastCol 4 rfl) (by decide) ?_
    exact Sd_iret (dc D_Que_lastCol 6 rfl) rfl
theorem K_Que_lastCol : MOk M_Que_lastCol 0 := ⟨Tb_at 132 (by decide +kernel) rfl, Tb_at 694 (by decide +kernel) rfl, by decide +kernel, by decide +kernel, by decide +kernel⟩
theorem Ks_Que_lastCol : Cond.instanceMethod yX5_lastCol ∈ Tb := Tb_at 692 (by decide +kernel) rfl
theorem Kv_Que_lastCol : Cond.selects RX5 yX5_lastCol yX5_lastCol ∈ Tb := Tb_at 693 (by decide +kernel) rfl
/-! ===== BatchShare$Query.showsAllItCan()Z ===== -/
abbrev M_Que_showsAllItCan : AMt := (yX5_showsAllItCan, cX5_showsAllItCan, 1, (some .boolean))
def T_Que_showsAllItCan : List (Nat × Instr × Nat) := [(0, .aload_n 0, 1), (1, .getfield 9, 3), (4, .bipush 13, 2), (6, .iaload, 1), (7, .iconst 5, 1), (8, .if_icmp .lt 7, 3), (11, .iconst 1, 1), (12, .goto 4, 3), (15, .iconst 0, 1), (16, .ireturn, 1)]
set_option maxRecDepth 20000 in
theorem D_Que_showsAllItCan : (T_Que_showsAllItCan.all fun q => decide (decode M_Que_showsAllItCan.2.1 q.1 = .ok q.2)) = true := by decide +kernel
def Que_showsAllItCan (v0 : Nat) (h : AH) : Option (Int × AH) := gR h 6 v0 0 fun r1 => aI h 21 r1 13 fun x2 => if (x2 : Int) < 5 then (some (0, h)) else (some (1, h))
set_option maxHeartbeats 4000000 in
set_option maxRecDepth 20000 in
theorem s_Que_showsAllItCan (v0 : Nat) (h : AH) : CS M_Que_showsAllItCan 1 0 emI [vr v0] h (Que_showsAllItCan v0 h) := by
  refine CS.of (by decide) (Nat.le_of_ble_eq_true rfl) ?_
  show Sd M_Que_showsAllItCan 1 0 emI 0 [(0, vr v0)] [] h _
  unfold Que_showsAllItCan
  refine Sd_aload_n (pc' := 1) (dc D_Que_showsAllItCan 0 rfl) rfl 0 rfl rfl ?_
  refine Sd_getR (pc' := 4) (dc D_Que_showsAllItCan 1 rfl) rfl F_Que_9 rfl rfl ?_
  refine Sd_bipush (pc' := 6) (dc D_Que_showsAllItCan 2 rfl) rfl ⟨by decide, by decide⟩ (by decide) ?_
  refine Sd_iaload (pc' := 7) (dc D_Que_showsAllItCan 3 rfl) rfl ?_
  refine Sd_iconst (pc' := 8) (dc D_Que_showsAllItCan 4 rfl) rfl ⟨by decide, by decide⟩ ?_
  refine Sd_icmp_lt (tgt := 15) (pc' := 11) (dc D_Que_showsAllItCan 5 rfl) (by decide) rfl (fun _ => ?_) (fun _ => ?_)
  · refine Sd_iconst (pc' := 16) (dc D_Que_showsAllItCan 8 rfl) rfl ⟨by decide, by decide⟩ ?_
    exact Sd_zret (dc D_Que_showsAllItCan 9 rfl) rfl (Or.inl rfl)
  · refine Sd_iconst (pc' := 12) (dc D_Que_showsAllItCan 6 rfl) rfl ⟨by decide, by decide⟩ ?_
    refine Sd_goto (tgt := 16) (dc D_Que_showsAllItCan 7 rfl) (by decide) ?_
    exact Sd_zret (dc D_Que_showsAllItCan 9 rfl) rfl (Or.inr rfl)
theorem K_Que_showsAllItCan : MOk M_Que_showsAllItCan 0 := ⟨Tb_at 132 (by decide +kernel) rfl, Tb_at 702 (by decide +kernel) rfl, by decide +kernel, by decide +kernel, by decide +kernel⟩
theorem Ks_Que_showsAllItCan : Cond.instanceMethod yX5_showsAllItCan ∈ Tb := Tb_at 700 (by decide +kernel) rfl
theorem Kv_Que_showsAllItCan : Cond.selects RX5 yX5_showsAllItCan yX5_showsAllItCan ∈ Tb := Tb_at 701 (by decide +kernel) rfl
/-! ===== BatchShare$Query.show(I)V ===== -/
abbrev M_Que_show : AMt := (yX5_show, cX5_show, 2, none)
def T_Que_show : List (Nat × Instr × Nat) := [(0, .aload_n 0, 1), (1, .invokevirtual 44, 3), (4, .ifCond .ne 30, 3), (7, .aload_n 0, 1), (8, .getfield 9, 3), (11, .bipush 14, 2), (13, .aload_n 0, 1), (14, .getfield 9, 3), (17, .bipush 13, 2), (19, .iaload, 1), (20, .iadd, 1), (21, .iload_n 1, 1), (22, .iastore, 1), (23, .aload_n 0, 1), (24, .getfield 9, 3), (27, .bipush 13, 2), (29, .dup2, 1), (30, .iaload, 1), (31, .iconst 1, 1), (32, .iadd, 1), (33, .iastore, 1), (34, .return_, 1)]
set_option maxRecDepth 20000 in
theorem D_Que_show : (T_Que_show.all fun q => decide (decode M_Que_show.2.1 q.1 = .ok q.2)) = true := by decide +kernel
def Que_show (v0 : Nat) (v1 : Int) (h : AH) : Option (Unit × AH) := rc h 6 v0 <| bnd (Que_showsAllItCan v0 h) fun x2 h1 => if ¬ (x2 : Int) = 0 then (some ((), h1)) else (gR h1 6 v0 0 fun r4 => gR h1 6 v0 0 fun r5 => aI h1 21 r5 13 fun x6 => wI h1 21 r4 (wr (14 + x6)) v1 fun h7 => gR h7 6 v0 0 fun r8 => aI h7 21 r8 13 fun x9 => wI h7 21 r8 13 (wr (x9 + 1)) fun h10 => some ((), h10))
set_option maxHeartbeats 4000000 in
set_option maxRecDepth 20000 in
theorem s_Que_show (v0 : Nat) (v1 : Int) (h : AH) : CS M_Que_show 2 20 emV [vr v0, vi v1] h (Que_show v0 v1 h) := by
  refine CS.of (by decide) (Nat.le_of_ble_eq_true rfl) ?_
  show Sd M_Que_show 2 20 emV 0 [(0, vr v0), (1, vi v1)] [] h _
  unfold Que_show
  refine Sd_aload_n (pc' := 1) (dc D_Que_show 0 rfl) rfl 0 rfl rfl ?_
  refine Sd.callVI (ci := 5) (t := 6) (as := []) RX5 (pc' := 4) (dc D_Que_show 1 rfl) rfl rfl rfl rfl K_Que_showsAllItCan L_Que_44 Ks_Que_showsAllItCan Kv_Que_showsAllItCan ⟨by decide, by decide⟩ rfl rfl (Nat.le_of_ble_eq_true rfl) (s_Que_showsAllItCan _ _) (fun x2 h1 => ?_)
  refine Sd_if_ne (tgt := 34) (pc' := 7) (dc D_Que_show 2 rfl) (by decide) rfl (fun _ => ?_) (fun _ => ?_)
  · exact Sd_vret (dc D_Que_show 21 rfl) rfl
  · refine Sd_aload_n (pc' := 8) (dc D_Que_show 3 rfl) rfl 0 rfl rfl ?_
    refine Sd_getR (pc' := 11) (dc D_Que_show 4 rfl) rfl F_Que_9 rfl rfl ?_
    refine Sd_bipush (pc' := 13) (dc D_Que_show 5 rfl) rfl ⟨by decide, by decide⟩ (by decide) ?_
    refine Sd_aload_n (pc' := 14) (dc D_Que_show 6 rfl) rfl 0 rfl rfl ?_
    refine Sd_getR (pc' := 17) (dc D_Que_show 7 rfl) rfl F_Que_9 rfl rfl ?_
    refine Sd_bipush (pc' := 19) (dc D_Que_show 8 rfl) rfl ⟨by decide, by decide⟩ (by decide) ?_
    refine Sd_iaload (pc' := 20) (dc D_Que_show 9 rfl) rfl ?_
    refine Sd_iadd (pc' := 21) (dc D_Que_show 10 rfl) rfl ?_
    refine Sd_iload_n (pc' := 22) (dc D_Que_show 11 rfl) rfl 1 rfl rfl ?_
    refine Sd_iastore (pc' := 23) (dc D_Que_show 12 rfl) rfl (by decide) ?_
    refine Sd_aload_n (pc' := 24) (dc D_Que_show 13 rfl) rfl 0 rfl rfl ?_
    refine Sd_getR (pc' := 27) (dc D_Que_show 14 rfl) rfl F_Que_9 rfl rfl ?_
    refine Sd_bipush (pc' := 29) (dc D_Que_show 15 rfl) rfl ⟨by decide, by decide⟩ (by decide) ?_
    refine Sd_dup2 (pc' := 30) (dc D_Que_show 16 rfl) rfl (cat_i _) (cat_r _) ?_
    refine Sd_iaload (pc' := 31) (dc D_Que_show 17 rfl) rfl ?_
    refine Sd_iconst (pc' := 32) (dc D_Que_show 18 rfl) rfl ⟨by decide, by decide⟩ ?_
    refine Sd_iadd (pc' := 33) (dc D_Que_show 19 rfl) rfl ?_
    refine Sd_iastore (pc' := 34) (dc D_Que_show 20 rfl) rfl (by decide) ?_
    exact Sd_vret (dc D_Que_show 21 rfl) rfl
theorem K_Que_show : MOk M_Que_show 1 := ⟨Tb_at 132 (by decide +kernel) rfl, Tb_at 698 (by decide +kernel) rfl, by decide +kernel, by decide +kernel, by decide +kernel⟩
theorem Ks_Que_show : Cond.instanceMethod yX5_show ∈ Tb := Tb_at 696 (by decide +kernel) rfl
theorem Kv_Que_show : Cond.selects RX5 yX5_show yX5_show ∈ Tb := Tb_at 697 (by decide +kernel) rfl
/-! ===== BatchShare$Query.begin(III)V ===== -/
abbrev M_Que_begin : AMt := (yX5_begin, cX5_begin, 5, none)
def T_Que_begin : List (Nat × Instr × Nat) := [(0, .aload_n 0, 1), (1, .getfield 9, 3), (4, .iconst 0, 1), (5, .iload_n 1, 1), (6, .iastore, 1), (7, .aload_n 0, 1), (8, .getfield 9, 3), (11, .iconst 1, 1), (12, .iload_n 2, 1), (13, .iastore, 1), (14, .aload_n 0, 1), (15, .getfield 9, 3), (18, .iconst 2, 1), (19, .iload_n 3, 1), (20, .iastore, 1), (21, .aload_n 0, 1), (22, .iconst 0, 1), (23, .putfield 26, 3), (26, .iconst 0, 1), (27, .istore 4, 2), (29, .iload 4, 2), (31, .iconst 5, 1), (32, .if_icmp .ge 34, 3), (35, .aload_n 0, 1), (36, .getfield 9, 3), (39, .iconst 3, 1), (40, .iconst 2, 1), (41, .iload 4, 2), (43, .imul, 1), (44, .iadd, 1), (45, .iconst 0, 1), (46, .iastore, 1), (47, .aload_n 0, 1), (48, .getfield 9, 3), (51, .iconst 4, 1), (52, .iconst 2, 1), (53, .iload 4, 2), (55, .imul, 1), (56, .iadd, 1), (57, .bipush 9, 2), (59, .iastore, 1), (60, .iinc 4 1, 3), (63, .goto (-34), 3), (66, .aload_n 0, 1), (67, .invokevirtual 31, 3), (70, .aload_n 0, 1), (71, .invokevirtual 34, 3), (74, .istore 4, 2), (76, .iload 4, 2), (78, .aload_n 0, 1), (79, .invokevirtual 37, 3), (82, .if_icmp .gt 15, 3), (85, .aload_n 0, 1), (86, .iload 4, 2), (88, .invokevirtual 40, 3), (91, .iinc 4 1, 3), (94, .goto (-18), 3), (97, .return_, 1)]
set_option maxRecDepth 20000 in
theorem D_Que_begin : (T_Que_begin.all fun q => decide (decode M_Que_begin.2.1 q.1 = .ok q.2)) = true := by decide +kernel
def Que_begin_L76 : Nat → Nat → Int → AH → Option (Unit × AH)
  | 0, _, _, _ => none
  | n + 1, v0, v4, h => rc h 6 v0 <| bnd (Que_lastCol v0 h) fun x2 h1 => if (x2 : Int) < v4 then (some ((), h1)) else (rc h1 6 v0 <| bnd (Que_show v0 v4 h1) fun _ h4 => Que_begin_L76 n v0 ((wr (v4 + 1))) h4)
set_option maxHeartbeats 4000000 in
set_option maxRecDepth 20000 in
theorem s_Que_begin_L76 : ∀ (n : Nat) (v0 : Nat) (v4 : Int) (h : AH), Sd M_Que_begin 3 41 emV 76 [(0, vr v0), (4, vi v4)] [] h (Que_begin_L76 n v0 v4 h)
  | 0, _, _, _ => Sd.none
  | n + 1, v0, v4, h => by
    rw [Que_begin_L76]
    refine Sd_iload (pc' := 78) (dc D_Que_begin 48 rfl) rfl 1 rfl ?_
    refine Sd_aload_n (pc' := 79) (dc D_Que_begin 49 rfl) rfl 0 rfl rfl ?_
    refine Sd.callVI (ci := 5) (t := 6) (as := []) RX5 (pc' := 82) (dc D_Que_begin 50 rfl) rfl rfl rfl rfl K_Que_lastCol L_Que_37 Ks_Que_lastCol Kv_Que_lastCol ⟨by decide, by decide⟩ rfl rfl (Nat.le_of_ble_eq_true rfl) (s_Que_lastCol _ _) (fun x2 h1 => ?_)
    refine Sd_icmp_gt (tgt := 97) (pc' := 85) (dc D_Que_begin 51 rfl) (by decide) rfl (fun _ => ?_) (fun _ => ?_)
    · exact Sd_vret (dc D_Que_begin 57 rfl) rfl
    · refine Sd_aload_n (pc' := 86) (dc D_Que_begin 52 rfl) rfl 0 rfl rfl ?_
      refine Sd_iload (pc' := 88) (dc D_Que_begin 53 rfl) rfl 1 rfl ?_
      refine Sd.callVV (ci := 5) (t := 6) (as := [_]) RX5 (pc' := 91) (dc D_Que_begin 54 rfl) rfl rfl rfl rfl K_Que_show L_Que_40 Ks_Que_show Kv_Que_show ⟨by decide, by decide⟩ rfl rfl (Nat.le_of_ble_eq_true rfl) (s_Que_show _ _ _) (fun _ h4 => ?_)
      refine Sd_iinc (pc' := 94) (l' := [(4, _), (0, _)]) (dc D_Que_begin 55 rfl) rfl 1 rfl (by decide) rfl ?_
      refine Sd_goto (tgt := 76) (dc D_Que_begin 56 rfl) (by decide) ?_
      refine Sd.sub (l' := [(0, _), (4, _)]) [1, 0] rfl ?_
      exact s_Que_begin_L76 n _ _ _
def Que_begin_L29 : Nat → Nat → Int → AH → Option (Unit × AH)
  | 0, _, _, _ => none
  | n + 1, v0, v4, h => if (5 : Int) ≤ v4 then (rc h 6 v0 <| bnd (Que_showNothing v0 h) fun _ h1 => rc h1 6 v0 <| bnd (Que_firstCol v0 h1) fun x5 h4 => Que_begin_L76 FU v0 x5 h4) else (gR h 6 v0 0 fun r7 => wI h 21 r7 (wr (3 + (wr (2 * v4)))) 0 fun h8 => gR h8 6 v0 0 fun r9 => wI h8 21 r9 (wr (4 + (wr (2 * v4)))) 9 fun h10 => Que_begin_L29 n v0 ((wr (v4 + 1))) h10)
set_option maxHeartbeats 4000000 in
set_option maxRecDepth 20000 in
theorem s_Que_begin_L29 : ∀ (n : Nat) (v0 : Nat) (v4 : Int) (h : AH), Sd M_Que_begin 3 41 emV 29 [(0, vr v0), (4, vi v4)] [] h (Que_begin_L29 n v0 v4 h)
  | 0, _, _, _ => Sd.none
  | n + 1, v0, v4, h => by
    rw [Que_begin_L29]
    refine Sd_iload (pc' := 31) (dc D_Que_begin 20 rfl) rfl 1 rfl ?_
    refine Sd_iconst (pc' := 32) (dc D_Que_begin 21 rfl) rfl ⟨by decide, by decide⟩ ?_
    refine Sd_icmp_ge (tgt := 66) (pc' := 35) (dc D_Que_begin 22 rfl) (by decide) rfl (fun _ => ?_) (fun _ => ?_)
    · refine Sd_aload_n (pc' := 67) (dc D_Que_begin 43 rfl) rfl 0 rfl rfl ?_
      refine Sd.callVV (ci := 5) (t := 6) (as := []) RX5 (pc' := 70) (dc D_Que_begin 44 rfl) rfl rfl rfl rfl K_Que_showNothing L_Que_31 Ks_Que_showNothing Kv_Que_showNothing ⟨by decide, by decide⟩ rfl rfl (Nat.le_of_ble_eq_true rfl) (s_Que_showNothing _ _) (fun _ h1 => ?_)
      refine Sd_aload_n (pc' := 71) (dc D_Que_begin 45 rfl) rfl 0 rfl rfl ?_
      refine Sd.callVI (ci := 5) (t := 6) (as := []) RX5 (pc' := 74) (dc D_Que_begin 46 rfl) rfl rfl rfl rfl K_Que_firstCol L_Que_34 Ks_Que_firstCol Kv_Que_firstCol ⟨by decide, by decide⟩ rfl rfl (Nat.le_of_ble_eq_true rfl) (s_Que_firstCol _ _) (fun x5 h4 => ?_)
      refine Sd_istore (pc' := 76) (l' := [(4, _), (0, _)]) (dc D_Que_begin 47 rfl) rfl (by decide) rfl ?_
      refine Sd.sub (l' := [(0, _), (4, _)]) [1, 0] rfl ?_
      exact s_Que_begin_L76 FU _ _ _
    · refine Sd_aload_n (pc' := 36) (dc D_Que_begin 23 rfl) rfl 0 rfl rfl ?_
      refine Sd_getR (pc' := 39) (dc D_Que_begin 24 rfl) rfl F_Que_9 rfl rfl ?_
      refine Sd_iconst (pc' := 40) (dc D_Que_begin 25 rfl) rfl ⟨by decide, by decide⟩ ?_
      refine Sd_iconst (pc' := 41) (dc D_Que_begin 26 rfl) rfl ⟨by decide, by decide⟩ ?_
      refine Sd_iload (pc' := 43) (dc D_Que_begin 27 rfl) rfl 1 rfl ?_
      refine Sd_imul (pc' := 44) (dc D_Que_begin 28 rfl) rfl ?_
      refine Sd_iadd (pc' := 45) (dc D_Que_begin 29 rfl) rfl ?_
      refine Sd_iconst (pc' := 46) (dc D_Que_begin 30 rfl) rfl ⟨by decide, by decide⟩ ?_
      refine Sd_iastore (pc' := 47) (dc D_Que_begin 31 rfl) rfl (by decide) ?_
      refine Sd_aload_n (pc' := 48) (dc D_Que_begin 32 rfl) rfl 0 rfl rfl ?_
      refine Sd_getR (pc' := 51) (dc D_Que_begin 33 rfl) rfl F_Que_9 rfl rfl ?_
      refine Sd_iconst (pc' := 52) (dc D_Que_begin 34 rfl) rfl ⟨by decide, by decide⟩ ?_
      refine Sd_iconst (pc' := 53) (dc D_Que_begin 35 rfl) rfl ⟨by decide, by decide⟩ ?_
      refine Sd_iload (pc' := 55) (dc D_Que_begin 36 rfl) rfl 1 rfl ?_
      refine Sd_imul (pc' := 56) (dc D_Que_begin 37 rfl) rfl ?_
      refine Sd_iadd (pc' := 57) (dc D_Que_begin 38 rfl) rfl ?_
      refine Sd_bipush (pc' := 59) (dc D_Que_begin 39 rfl) rfl ⟨by decide, by decide⟩ (by decide) ?_
      refine Sd_iastore (pc' := 60) (dc D_Que_begin 40 rfl) rfl (by decide) ?_
      refine Sd_iinc (pc' := 63) (l' := [(4, _), (0, _)]) (dc D_Que_begin 41 rfl) rfl 1 rfl (by decide) rfl ?_
      refine Sd_goto (tgt := 29) (dc D_Que_begin 42 rfl) (by decide) ?_
      refine Sd.sub (l' := [(0, _), (4, _)]) [1, 0] rfl ?_
      exact s_Que_begin_L29 n _ _ _
def Que_begin (v0 : Nat) (v1 : Int) (v2 : Int) (v3 : Int) (h : AH) : Option (Unit × AH) := gR h 6 v0 0 fun r1 => wI h 21 r1 0 v1 fun h2 => gR h2 6 v0 0 fun r3 => wI h2 21 r3 1 v2 fun h4 => gR h4 6 v0 0 fun r5 => wI h4 21 r5 2 v3 fun h6 => pZ h6 6 v0 2 0 fun h7 => Que_begin_L29 FU v0 0 h7
set_option maxHeartbeats 4000000 in
set_option maxRecDepth 20000 in
theorem s_Que_begin (v0 : Nat) (v1 : Int) (v2 : Int) (v3 : Int) (h : AH) : CS M_Que_begin 3 41 emV [vr v0, vi v1, vi v2, vi v3] h (Que_begin v0 v1 v2 v3 h) := by
  refine CS.of (by decide) (Nat.le_of_ble_eq_true rfl) ?_
  show Sd M_Que_begin 3 41 emV 0 [(0, vr v0), (1, vi v1), (2, vi v2), (3, vi v3)] [] h _
  unfold Que_begin
  refine Sd_aload_n (pc' := 1) (dc D_Que_begin 0 rfl) rfl 0 rfl rfl ?_
  refine Sd_getR (pc' := 4) (dc D_Que_begin 1 rfl) rfl F_Que_9 rfl rfl ?_
  refine Sd_iconst (pc' := 5) (dc D_Que_begin 2 rfl) rfl ⟨by decide, by decide⟩ ?_
  refine Sd_iload_n (pc' := 6) (dc D_Que_begin 3 rfl) rfl 1 rfl rfl ?_
  refine Sd_iastore (pc' := 7) (dc D_Que_begin 4 rfl) rfl (by decide) ?_
  refine Sd_aload_n (pc' := 8) (dc D_Que_begin 5 rfl) rfl 0 rfl rfl ?_
  refine Sd_getR (pc' := 11) (dc D_Que_begin 6 rfl) rfl F_Que_9 rfl rfl ?_
  refine Sd_iconst (pc' := 12) (dc D_Que_begin 7 rfl) rfl ⟨by decide, by decide⟩ ?_
  refine Sd_iload_n (pc' := 13) (dc D_Que_begin 8 rfl) rfl 2 rfl rfl ?_
  refine Sd_iastore (pc' := 14) (dc D_Que_begin 9 rfl) rfl (by decide) ?_
  refine Sd_aload_n (pc' := 15) (dc D_Que_begin 10 rfl) rfl 0 rfl rfl ?_
  refine Sd_getR (pc' := 18) (dc D_Que_begin 11 rfl) rfl F_Que_9 rfl rfl ?_
  refine Sd_iconst (pc' := 19) (dc D_Que_begin 12 rfl) rfl ⟨by decide, by decide⟩ ?_
  refine Sd_iload_n (pc' := 20) (dc D_Que_begin 13 rfl) rfl 3 rfl rfl ?_
  refine Sd_iastore (pc' := 21) (dc D_Que_begin 14 rfl) rfl (by decide) ?_
  refine Sd_aload_n (pc' := 22) (dc D_Que_begin 15 rfl) rfl 0 rfl rfl ?_
  refine Sd_iconst (pc' := 23) (dc D_Que_begin 16 rfl) rfl ⟨by decide, by decide⟩ ?_
  refine Sd_putZ (pc' := 26) (dc D_Que_begin 17 rfl) rfl F_Que_26 rfl rfl rfl (finOk.no rfl) (by decide) ?_
  refine Sd_iconst (pc' := 27) (dc D_Que_begin 18 rfl) rfl ⟨by decide, by decide⟩ ?_
  refine Sd_istore (pc' := 29) (l' := [(4, _), (0, _), (1, _), (2, _), (3, _)]) (dc D_Que_begin 19 rfl) rfl (by decide) rfl ?_
  refine Sd.sub (l' := [(0, _), (4, _)]) [1, 0] rfl ?_
  exact s_Que_begin_L29 FU _ _ _
theorem K_Que_begin : MOk M_Que_begin 3 := ⟨Tb_at 132 (by decide +kernel) rfl, Tb_at 678 (by decide +kernel) rfl, by decide +kernel, by decide +kernel, by decide +kernel⟩
theorem Ks_Que_begin : Cond.instanceMethod yX5_begin ∈ Tb := Tb_at 676 (by decide +kernel) rfl
theorem Kv_Que_begin : Cond.selects RX5 yX5_begin yX5_begin ∈ Tb := Tb_at 677 (by decide +kernel) rfl
/-! ===== BatchShare$Query.narrow(III)V ===== -/
abbrev M_Que_narrow : AMt := (yX5_narrow, cX5_narrow, 6, none)
def T_Que_narrow : List (Nat × Instr × Nat) := [(0, .iconst 3, 1), (1, .iconst 2, 1), (2, .iload_n 1, 1), (3, .imul, 1), (4, .iadd, 1), (5, .istore 4, 2), (7, .iconst 4, 1), (8, .iconst 2, 1), (9, .iload_n 1, 1), (10, .imul, 1), (11, .iadd, 1), (12, .istore 5, 2), (14, .iload_n 2, 1), (15, .iconst 1, 1), (16, .iand, 1), (17, .ifCond .ne 33, 3), (20, .aload_n 0, 1), (21, .getfield 9, 3), (24, .iload 4, 2), (26, .aload_n 0, 1), (27, .getfield 9, 3), (30, .iload 4, 2), (32, .iaload, 1), (33, .iload_n 2, 1), (34, .iconst 2, 1), (35, .iand, 1), (36, .ifCond .ne 9, 3), (39, .iload_n 3, 1), (40, .iconst 1, 1), (41, .iadd, 1), (42, .goto 4, 3), (45, .iload_n 3, 1), (46, .invokestatic 48, 3), (49, .iastore, 1), (50, .iload_n 2, 1), (51, .iconst 4, 1), (52, .iand, 1), (53, .ifCond .ne 33, 3), (56, .aload_n 0, 1), (57, .getfield 9, 3), (60, .iload 5, 2), (62, .aload_n 0, 1), (63, .getfield 9, 3), (66, .iload 5, 2), (68, .iaload, 1), (69, .iload_n 2, 1), (70, .iconst 2, 1), (71, .iand, 1), (72, .ifCond .ne 9, 3), (75, .iload_n 3, 1), (76, .iconst 1, 1), (77, .isub, 1), (78, .goto 4, 3), (81, .iload_n 3, 1), (82, .invokestatic 54, 3), (85, .iastore, 1), (86, .return_, 1)]
set_option maxRecDepth 20000 in
theorem D_Que_narrow : (T_Que_narrow.all fun q => decide (decode M_Que_narrow.2.1 q.1 = .ok q.2)) = true := by decide +kernel
def Que_narrow_L50 (v0 : Nat) (v2 : Int) (v3 : Int) (v5 : Int) (h : AH) : Option (Unit × AH) := if ¬ ((iAnd v2 4) : Int) = 0 then (some ((), h)) else (gR h 6 v0 0 fun r1 => gR h 6 v0 0 fun r2 => aI h 21 r2 v5 fun x3 => if ¬ ((iAnd v2 2) : Int) = 0 then (wI h 21 r1 v5 (mMin x3 v3) fun h4 => some ((), h4)) else (wI h 21 r1 v5 (mMin x3 (wr (v3 - 1))) fun h5 => some ((), h5)))
set_option maxHeartbeats 4000000 in
set_option maxRecDepth 20000 in
theorem s_Que_narrow_L50 (v0 : Nat) (v2 : Int) (v3 : Int) (v5 : Int) (h : AH) : Sd M_Que_narrow 1 26 emV 50 [(0, vr v0), (2, vi v2), (3, vi v3), (5, vi v5)] [] h (Que_narrow_L50 v0 v2 v3 v5 h) := by
  unfold Que_narrow_L50
  refine Sd_iload_n (pc' := 51) (dc D_Que_narrow 34 rfl) rfl 1 rfl rfl ?_
  refine Sd_iconst (pc' := 52) (dc D_Que_narrow 35 rfl) rfl ⟨by decide, by decide⟩ ?_
  refine Sd_iand (pc' := 53) (dc D_Que_narrow 36 rfl) rfl ?_
  refine Sd_if_ne (tgt := 86) (pc' := 56) (dc D_Que_narrow 37 rfl) (by decide) rfl (fun _ => ?_) (fun _ => ?_)
  · exact Sd_vret (dc D_Que_narrow 56 rfl) rfl
  · refine Sd_aload_n (pc' := 57) (dc D_Que_narrow 38 rfl) rfl 0 rfl rfl ?_
    refine Sd_getR (pc' := 60) (dc D_Que_narrow 39 rfl) rfl F_Que_9 rfl rfl ?_
    refine Sd_iload (pc' := 62) (dc D_Que_narrow 40 rfl) rfl 3 rfl ?_
    refine Sd_aload_n (pc' := 63) (dc D_Que_narrow 41 rfl) rfl 0 rfl rfl ?_
    refine Sd_getR (pc' := 66) (dc D_Que_narrow 42 rfl) rfl F_Que_9 rfl rfl ?_
    refine Sd_iload (pc' := 68) (dc D_Que_narrow 43 rfl) rfl 3 rfl ?_
    refine Sd_iaload (pc' := 69) (dc D_Que_narrow 44 rfl) rfl ?_
    refine Sd_iload_n (pc' := 70) (dc D_Que_narrow 45 rfl) rfl 1 rfl rfl ?_
    refine Sd_iconst (pc' := 71) (dc D_Que_narrow 46 rfl) rfl ⟨by decide, by decide⟩ ?_
    refine Sd_iand (pc' := 72) (dc D_Que_narrow 47 rfl) rfl ?_
    refine Sd_if_ne (tgt := 81) (pc' := 75) (dc D_Que_narrow 48 rfl) (by decide) rfl (fun _ => ?_) (fun _ => ?_)
    · refine Sd_iload_n (pc' := 82) (dc D_Que_narrow 53 rfl) rfl 2 rfl rfl ?_
      refine Sd_mmin (pc' := 85) (dc D_Que_narrow 54 rfl) rfl L_Que_54 W_mmin1 W_m2 W_mmin3 (by decide) (Nat.le_of_ble_eq_true rfl) ?_
      refine Sd_iastore (pc' := 86) (dc D_Que_narrow 55 rfl) rfl (by decide) ?_
      exact Sd_vret (dc D_Que_narrow 56 rfl) rfl
    · refine Sd_iload_n (pc' := 76) (dc D_Que_narrow 49 rfl) rfl 2 rfl rfl ?_
      refine Sd_iconst (pc' := 77) (dc D_Que_narrow 50 rfl) rfl ⟨by decide, by decide⟩ ?_
      refine Sd_isub (pc' := 78) (dc D_Que_narrow 51 rfl) rfl ?_
      refine Sd_goto (tgt := 82) (dc D_Que_narrow 52 rfl) (by decide) ?_
      refine Sd_mmin (pc' := 85) (dc D_Que_narrow 54 rfl) rfl L_Que_54 W_mmin1 W_m2 W_mmin3 (by decide) (Nat.le_of_ble_eq_true rfl) ?_
      refine Sd_iastore (pc' := 86) (dc D_Que_narrow 55 rfl) rfl (by decide) ?_
      exact Sd_vret (dc D_Que_narrow 56 rfl) rfl
def Que_narrow (v0 : Nat) (v1 : Int) (v2 : Int) (v3 : Int) (h : AH) : Option (Unit × AH) := if ¬ ((iAnd v2 1) : Int) = 0 then (Que_narrow_L50 v0 v2 v3 ((wr (4 + (wr (2 * v1))))) h) else (gR h 6 v0 0 fun r1 => gR h 6 v0 0 fun r2 => aI h 21 r2 (wr (3 + (wr (2 * v1)))) fun x3 => if ¬ ((iAnd v2 2) : Int) = 0 then (wI h 21 r1 (wr (3 + (wr (2 * v1)))) (mMax x3 v3) fun h4 => Que_narrow_L50 v0 v2 v3 ((wr (4 + (wr (2 * v1))))) h4) else (wI h 21 r1 (wr (3 + (wr (2 * v1)))) (mMax x3 (wr (v3 + 1))) fun h5 => Que_narrow_L50 v0 v2 v3 ((wr (4 + (wr (2 * v1))))) h5))
set_option maxHeartbeats 4000000 in
set_option maxRecDepth 20000 in
theorem s_Que_narrow (v0 : Nat) (v1 : Int) (v2 : Int) (v3 : Int) (h : AH) : CS M_Que_narrow 1 26 emV [vr v0, vi v1, vi v2, vi v3] h (Que_narrow v0 v1 v2 v3 h) := by
  refine CS.of (by decide) (Nat.le_of_ble_eq_true rfl) ?_
  show Sd M_Que_narrow 1 26 emV 0 [(0, vr v0), (1, vi v1), (2, vi v2), (3, vi v3)] [] h _
  unfold Que_narrow
  refine Sd_iconst (pc' := 1) (dc D_Que_narrow 0 rfl) rfl ⟨by decide, by decide⟩ ?_
  refine Sd_iconst (pc' := 2) (dc D_Que_narrow 1 rfl) rfl ⟨by decide, by decide⟩ ?_
  refine Sd_iload_n (pc' := 3) (dc D_Que_narrow 2 rfl) rfl 1 rfl rfl ?_
  refine Sd_imul (pc' := 4) (dc D_Que_narrow 3 rfl) rfl ?_
  refine Sd_iadd (pc' := 5) (dc D_Que_narrow 4 rfl) rfl ?_
  refine Sd_istore (pc' := 7) (l' := [(4, _), (0, _), (1, _), (2, _), (3, _)]) (dc D_Que_narrow 5 rfl) rfl (by decide) rfl ?_
  refine Sd_iconst (pc' := 8) (dc D_Que_narrow 6 rfl) rfl ⟨by decide, by decide⟩ ?_
  refine Sd_iconst (pc' := 9) (dc D_Que_narrow 7 rfl) rfl ⟨by decide, by decide⟩ ?_
  refine Sd_iload_n (pc' := 10) (dc D_Que_narrow 8 rfl) rfl 2 rfl rfl ?_
  refine Sd_imul (pc' := 11) (dc D_Que_narrow 9 rfl) rfl ?_
  refine Sd_iadd (pc' := 12) (dc D_Que_narrow 10 rfl) rfl ?_
  refine Sd_istore (pc' := 14) (l' := [(5, _), (4, _), (0, _), (1, _), (2, _), (3, _)]) (dc D_Que_narrow 11 rfl) rfl (by decide) rfl ?_
  refine Sd_iload_n (pc' := 15) (dc D_Que_narrow 12 rfl) rfl 4 rfl rfl ?_
  refine Sd_iconst (pc' := 16) (dc D_Que_narrow 13 rfl) rfl ⟨by decide, by decide⟩ ?_
  refine Sd_iand (pc' := 17) (dc D_Que_narrow 14 rfl) rfl ?_
  refine Sd_if_ne (tgt := 50) (pc' := 20) (dc D_Que_narrow 15 rfl) (by decide) rfl (fun _ => ?_) (fun _ => ?_)
  · refine Sd.sub (l' := [(0, _), (2, _), (3, _), (5, _)]) [2, 4, 5, 0] rfl ?_
    exact s_Que_narrow_L50 _ _ _ _ _
  · refine Sd_aload_n (pc' := 21) (dc D_Que_narrow 16 rfl) rfl 2 rfl rfl ?_
    refine Sd_getR (pc' := 24) (dc D_Que_narrow 17 rfl) rfl F_Que_9 rfl rfl ?_
    refine Sd_iload (pc' := 26) (dc D_Que_narrow 18 rfl) rfl 1 rfl ?_
    refine Sd_aload_n (pc' := 27) (dc D_Que_narrow 19 rfl) rfl 2 rfl rfl ?_
    refine Sd_getR (pc' := 30) (dc D_Que_narrow 20 rfl) rfl F_Que_9 rfl rfl ?_
    refine Sd_iload (pc' := 32) (dc D_Que_narrow 21 rfl) rfl 1 rfl ?_
    refine Sd_iaload (pc' := 33) (dc D_Que_narrow 22 rfl) rfl ?_
    refine Sd_iload_n (pc' := 34) (dc D_Que_narrow 23 rfl) rfl 4 rfl rfl ?_
    refine Sd_iconst (pc' := 35) (dc D_Que_narrow 24 rfl) rfl ⟨by decide, by decide⟩ ?_
    refine Sd_iand (pc' := 36) (dc D_Que_narrow 25 rfl) rfl ?_
    refine Sd_if_ne (tgt := 45) (pc' := 39) (dc D_Que_narrow 26 rfl) (by decide) rfl (fun _ => ?_) (fun _ => ?_)
    · refine Sd_iload_n (pc' := 46) (dc D_Que_narrow 31 rfl) rfl 5 rfl rfl ?_
      refine Sd_mmax (pc' := 49) (dc D_Que_narrow 32 rfl) rfl L_Que_48 W_mmax1 W_m2 W_mmax3 (by decide) (Nat.le_of_ble_eq_true rfl) ?_
      refine Sd_iastore (pc' := 50) (dc D_Que_narrow 33 rfl) rfl (by decide) ?_
      refine Sd.sub (l' := [(0, _), (2, _), (3, _), (5, _)]) [2, 4, 5, 0] rfl ?_
      exact s_Que_narrow_L50 _ _ _ _ _
    · refine Sd_iload_n (pc' := 40) (dc D_Que_narrow 27 rfl) rfl 5 rfl rfl ?_
      refine Sd_iconst (pc' := 41) (dc D_Que_narrow 28 rfl) rfl ⟨by decide, by decide⟩ ?_
      refine Sd_iadd (pc' := 42) (dc D_Que_narrow 29 rfl) rfl ?_
      refine Sd_goto (tgt := 46) (dc D_Que_narrow 30 rfl) (by decide) ?_
      refine Sd_mmax (pc' := 49) (dc D_Que_narrow 32 rfl) rfl L_Que_48 W_mmax1 W_m2 W_mmax3 (by decide) (Nat.le_of_ble_eq_true rfl) ?_
      refine Sd_iastore (pc' := 50) (dc D_Que_narrow 33 rfl) rfl (by decide) ?_
      refine Sd.sub (l' := [(0, _), (2, _), (3, _), (5, _)]) [2, 4, 5, 0] rfl ?_
      exact s_Que_narrow_L50 _ _ _ _ _
theorem K_Que_narrow : MOk M_Que_narrow 3 := ⟨Tb_at 132 (by decide +kernel) rfl, Tb_at 726 (by decide +kernel) rfl, by decide +kernel, by decide +kernel, by decide +kernel⟩
theorem Ks_Que_narrow : Cond.instanceMethod yX5_narrow ∈ Tb := Tb_at 724 (by decide +kernel) rfl
theorem Kv_Que_narrow : Cond.selects RX5 yX5_narrow yX5_narrow ∈ Tb := Tb_at 725 (by decide +kernel) rfl
/-! ===== BatchShare$Query.shapePart(LBatchShare$Part;I)V ===== -/
abbrev M_Que_shapePart : AMt := (yX5_shapePart, cX5_shapePart, 4, none)
def T_Que_shapePart : List (Nat × Instr × Nat) := [(0, .aload_n 1, 1), (1, .getfield 61, 3), (4, .iconst 0, 1), (5, .iload_n 2, 1), (6, .iastore, 1), (7, .aload_n 1, 1), (8, .getfield 61, 3), (11, .iconst 1, 1), (12, .iload_n 2, 1), (13, .iconst 2, 1), (14, .if_icmp .ne 12, 3), (17, .aload_n 0, 1), (18, .getfield 9, 3), (21, .iconst 1, 1), (22, .iaload, 1), (23, .goto 4, 3), (26, .iconst (-1), 1), (27, .iastore, 1), (28, .aload_n 1, 1), (29, .getfield 61, 3), (32, .iconst 2, 1), (33, .iload_n 2, 1), (34, .iconst 2, 1), (35, .if_icmp .ne 12, 3), (38, .aload_n 0, 1), (39, .getfield 9, 3), (42, .iconst 2, 1), (43, .iaload, 1), (44, .goto 4, 3), (47, .iconst (-1), 1), (48, .iastore, 1), (49, .iconst 0, 1), (50, .istore_n 3, 1), (51, .iload_n 3, 1), (52, .iconst 5, 1), (53, .if_icmp .ge 64, 3), (56, .iload_n 2, 1), (57, .iconst 2, 1), (58, .if_icmp .eq 17, 3), (61, .iload_n 2, 1), (62, .iload_n 3, 1), (63, .iconst 3, 1), (64, .if_icmp .ge 7, 3), (67, .iconst 0, 1), (68, .goto 4, 3), (71, .iconst 1, 1), (72, .if_icmp .ne 31, 3), (75, .aload_n 1, 1), (76, .iload_n 3, 1), (77, .aload_n 0, 1), (78, .getfield 9, 3), (81, .iconst 3, 1), (82, .iconst 2, 1), (83, .iload_n 3, 1), (84, .imul, 1), (85, .iadd, 1), (86, .iaload, 1), (87, .aload_n 0, 1), (88, .getfield 9, 3), (91, .iconst 4, 1), (92, .iconst 2, 1), (93, .iload_n 3, 1), (94, .imul, 1), (95, .iadd, 1), (96, .iaload, 1), (97, .invokevirtual 62, 3), (100, .goto 11, 3), (103, .aload_n 1, 1), (104, .iload_n 3, 1), (105, .iconst 0, 1), (106, .bipush 9, 2), (108, .invokevirtual 62, 3), (111, .iinc 3 1, 3), (114, .goto (-63), 3), (117, .return_, 1)]
set_option maxRecDepth 20000 in
theorem D_Que_shapePart : (T_Que_shapePart.all fun q => decide (decode M_Que_shapePart.2.1 q.1 = .ok q.2)) = true := by decide +kernel
def Que_shapePart_L75 (k51 : Nat → Nat → Int → Int → AH → Option (Unit × AH)) (v0 : Nat) (v1 : Nat) (v2 : Int) (v3 : Int) (h : AH) : Option (Unit × AH) := gR h 6 v0 0 fun r1 => aI h 21 r1 (wr (3 + (wr (2 * v3)))) fun x2 => gR h 6 v0 0 fun r3 => aI h 21 r3 (wr (4 + (wr (2 * v3)))) fun x4 => rc h 4 v1 <| bnd (Par_limit v1 v3 x2 x4 h) fun _ h5 => k51 v0 v1 v2 ((wr (v3 + 1))) h5
set_option maxHeartbeats 4000000 in
set_option maxRecDepth 20000 in
theorem s_Que_shapePart_L75 (k51 : Nat → Nat → Int → Int → AH → Option (Unit × AH)) (hk51 : ∀ v0 v1 v2 v3 h, Sd M_Que_shapePart 2 23 emV 51 [(0, vr v0), (1, vr v1), (2, vi v2), (3, vi v3)] [] h (k51 v0 v1 v2 v3 h)) (v0 : Nat) (v1 : Nat) (v2 : Int) (v3 : Int) (h : AH) : Sd M_Que_shapePart 2 23 emV 75 [(0, vr v0), (1, vr v1), (2, vi v2), (3, vi v3)] [] h (Que_shapePart_L75 k51 v0 v1 v2 v3 h) := by
  unfold Que_shapePart_L75
  refine Sd_aload_n (pc' := 76) (dc D_Que_shapePart 47 rfl) rfl 1 rfl rfl ?_
  refine Sd_iload_n (pc' := 77) (dc D_Que_shapePart 48 rfl) rfl 3 rfl rfl ?_
  refine Sd_aload_n (pc' := 78) (dc D_Que_shapePart 49 rfl) rfl 0 rfl rfl ?_
  refine Sd_getR (pc' := 81) (dc D_Que_shapePart 50 rfl) rfl F_Que_9 rfl rfl ?_
  refine Sd_iconst (pc' := 82) (dc D_Que_shapePart 51 rfl) rfl ⟨by decide, by decide⟩ ?_
  refine Sd_iconst (pc' := 83) (dc D_Que_shapePart 52 rfl) rfl ⟨by decide, by decide⟩ ?_
  refine Sd_iload_n (pc' := 84) (dc D_Que_shapePart 53 rfl) rfl 3 rfl rfl ?_
  refine Sd_imul (pc' := 85) (dc D_Que_shapePart 54 rfl) rfl ?_
  refine Sd_iadd (pc' := 86) (dc D_Que_shapePart 55 rfl) rfl ?_
  refine Sd_iaload (pc' := 87) (dc D_Que_shapePart 56 rfl) rfl ?_
  refine Sd_aload_n (pc' := 88) (dc D_Que_shapePart 57 rfl) rfl 0 rfl rfl ?_
  refine Sd_getR (pc' := 91) (dc D_Que_shapePart 58 rfl) rfl F_Que_9 rfl rfl ?_
  refine Sd_iconst (pc' := 92) (dc D_Que_shapePart 59 rfl) rfl ⟨by decide, by decide⟩ ?_
  refine Sd_iconst (pc' := 93) (dc D_Que_shapePart 60 rfl) rfl ⟨by decide, by decide⟩ ?_
  refine Sd_iload_n (pc' := 94) (dc D_Que_shapePart 61 rfl) rfl 3 rfl rfl ?_
  refine Sd_imul (pc' := 95) (dc D_Que_shapePart 62 rfl) rfl ?_
  refine Sd_iadd (pc' := 96) (dc D_Que_shapePart 63 rfl) rfl ?_
  refine Sd_iaload (pc' := 97) (dc D_Que_shapePart 64 rfl) rfl ?_
  refine Sd.callVV (ci := 3) (t := 4) (as := [_, _, _]) RX3 (pc' := 100) (dc D_Que_shapePart 65 rfl) rfl rfl rfl rfl K_Par_limit L_Que_62 Ks_Par_limit Kv_Par_limit ⟨by decide, by decide⟩ rfl rfl (Nat.le_of_ble_eq_true rfl) (s_Par_limit _ _ _ _ _) (fun _ h5 => ?_)
  refine Sd_goto (tgt := 111) (dc D_Que_shapePart 66 rfl) (by decide) ?_
  refine Sd_iinc (pc' := 114) (l' := [(3, _), (0, _), (1, _), (2, _)]) (dc D_Que_shapePart 72 rfl) rfl 3 rfl (by decide) rfl ?_
  refine Sd_goto (tgt := 51) (dc D_Que_shapePart 73 rfl) (by decide) ?_
  refine Sd.sub (l' := [(0, _), (1, _), (2, _), (3, _)]) [1, 2, 3, 0] rfl ?_
  exact hk51 _ _ _ _ _
def Que_shapePart_L72 (k51 : Nat → Nat → Int → Int → AH → Option (Unit × AH)) (v0 : Nat) (v1 : Nat) (v2 : Int) (v3 : Int) (s0 : Int) (s1 : Int) (h : AH) : Option (Unit × AH) := if ¬ (s1 : Int) = s0 then (rc h 4 v1 <| bnd (Par_limit v1 v3 0 9 h) fun _ h1 => k51 v0 v1 v2 ((wr (v3 + 1))) h1) else (Que_shapePart_L75 k51 v0 v1 v2 v3 h)
set_option maxHeartbeats 4000000 in
set_option maxRecDepth 20000 in
theorem s_Que_shapePart_L72 (k51 : Nat → Nat → Int → Int → AH → Option (Unit × AH)) (hk51 : ∀ v0 v1 v2 v3 h, Sd M_Que_shapePart 2 23 emV 51 [(0, vr v0), (1, vr v1), (2, vi v2), (3, vi v3)] [] h (k51 v0 v1 v2 v3 h)) (v0 : Nat) (v1 : Nat) (v2 : Int) (v3 : Int) (s0 : Int) (s1 : Int) (h : AH) : Sd M_Que_shapePart 2 23 emV 72 [(0, vr v0), (1, vr v1), (2, vi v2), (3, vi v3)] [vi s0, vi s1] h (Que_shapePart_L72 k51 v0 v1 v2 v3 s0 s1 h) := by
  unfold Que_shapePart_L72
  refine Sd_icmp_ne (tgt := 103) (pc' := 75) (dc D_Que_shapePart 46 rfl) (by decide) rfl (fun _ => ?_) (fun _ => ?_)
  · refine Sd_aload_n (pc' := 104) (dc D_Que_shapePart 67 rfl) rfl 1 rfl rfl ?_
    refine Sd_iload_n (pc' := 105) (dc D_Que_shapePart 68 rfl) rfl 3 rfl rfl ?_
    refine Sd_iconst (pc' := 106) (dc D_Que_shapePart 69 rfl) rfl ⟨by decide, by decide⟩ ?_
    refine Sd_bipush (pc' := 108) (dc D_Que_shapePart 70 rfl) rfl ⟨by decide, by decide⟩ (by decide) ?_
    refine Sd.callVV (ci := 3) (t := 4) (as := [_, _, _]) RX3 (pc' := 111) (dc D_Que_shapePart 71 rfl) rfl rfl rfl rfl K_Par_limit L_Que_62 Ks_Par_limit Kv_Par_limit ⟨by decide, by decide⟩ rfl rfl (Nat.le_of_ble_eq_true rfl) (s_Par_limit _ _ _ _ _) (fun _ h1 => ?_)
    refine Sd_iinc (pc' := 114) (l' := [(3, _), (0, _), (1, _), (2, _)]) (dc D_Que_shapePart 72 rfl) rfl 3 rfl (by decide) rfl ?_
    refine Sd_goto (tgt := 51) (dc D_Que_shapePart 73 rfl) (by decide) ?_
    refine Sd.sub (l' := [(0, _), (1, _), (2, _), (3, _)]) [1, 2, 3, 0] rfl ?_
    exact hk51 _ _ _ _ _
  · exact s_Que_shapePart_L75 k51 hk51 _ _ _ _ _
def Que_shapePart_L51 : Nat → Nat → Nat → Int → Int → AH → Option (Unit × AH)
  | 0, _, _, _, _, _ => none
  | n + 1, v0, v1, v2, v3, h => if (5 : Int) ≤ v3 then (some ((), h)) else (if (v2 : Int) = 2 then (Que_shapePart_L75 (Que_shapePart_L51 n) v0 v1 v2 v3 h) else (if (3 : Int) ≤ v3 then (Que_shapePart_L72 (Que_shapePart_L51 n) v0 v1 v2 v3 1 v2 h) else (Que_shapePart_L72 (Que_shapePart_L51 n) v0 v1 v2 v3 0 v2 h)))
set_option maxHeartbeats 4000000 in
set_option maxRecDepth 20000 in
theorem s_Que_shapePart_L51 : ∀ (n : Nat) (v0 : Nat) (v1 : Nat) (v2 : Int) (v3 : Int) (h : AH), Sd M_Que_shapePart 2 23 emV 51 [(0, vr v0), (1, vr v1), (2, vi v2), (3, vi v3)] [] h (Que_shapePart_L51 n v0 v1 v2 v3 h)
  | 0, _, _, _, _, _ => Sd.none
  | n + 1, v0, v1, v2, v3, h => by
    rw [Que_shapePart_L51]
    refine Sd_iload_n (pc' := 52) (dc D_Que_shapePart 33 rfl) rfl 3 rfl rfl ?_
    refine Sd_iconst (pc' := 53) (dc D_Que_shapePart 34 rfl) rfl ⟨by decide, by decide⟩ ?_
    refine Sd_icmp_ge (tgt := 117) (pc' := 56) (dc D_Que_shapePart 35 rfl) (by decide) rfl (fun _ => ?_) (fun _ => ?_)
    · exact Sd_vret (dc D_Que_shapePart 74 rfl) rfl
    · refine Sd_iload_n (pc' := 57) (dc D_Que_shapePart 36 rfl) rfl 2 rfl rfl ?_
      refine Sd_iconst (pc' := 58) (dc D_Que_shapePart 37 rfl) rfl ⟨by decide, by decide⟩ ?_
      refine Sd_icmp_eq (tgt := 75) (pc' := 61) (dc D_Que_shapePart 38 rfl) (by decide) rfl (fun _ => ?_) (fun _ => ?_)
      · exact s_Que_shapePart_L75 (Que_shapePart_L51 n) (s_Que_shapePart_L51 n) _ _ _ _ _
      · refine Sd_iload_n (pc' := 62) (dc D_Que_shapePart 39 rfl) rfl 2 rfl rfl ?_
        refine Sd_iload_n (pc' := 63) (dc D_Que_shapePart 40 rfl) rfl 3 rfl rfl ?_
        refine Sd_iconst (pc' := 64) (dc D_Que_shapePart 41 rfl) rfl ⟨by decide, by decide⟩ ?_
        refine Sd_icmp_ge (tgt := 71) (pc' := 67) (dc D_Que_shapePart 42 rfl) (by decide) rfl (fun _ => ?_) (fun _ => ?_)
        · refine Sd_iconst (pc' := 72) (dc D_Que_shapePart 45 rfl) rfl ⟨by decide, by decide⟩ ?_
          exact s_Que_shapePart_L72 (Que_shapePart_L51 n) (s_Que_shapePart_L51 n) _ _ _ _ _ _ _
        · refine Sd_iconst (pc' := 68) (dc D_Que_shapePart 43 rfl) rfl ⟨by decide, by decide⟩ ?_
          refine Sd_goto (tgt := 72) (dc D_Que_shapePart 44 rfl) (by decide) ?_
          exact s_Que_shapePart_L72 (Que_shapePart_L51 n) (s_Que_shapePart_L51 n) _ _ _ _ _ _ _
def Que_shapePart_L27 (v0 : Nat) (v1 : Nat) (v2 : Int) (s0 : Int) (s1 : Int) (s2 : Nat) (h : AH) : Option (Unit × AH) := wI h 21 s2 s1 s0 fun h1 => gR h1 4 v1 0 fun r2 => if ¬ (v2 : Int) = 2 then (wI h1 21 r2 2 (-1) fun h3 => Que_shapePart_L51 FU v0 v1 v2 0 h3) else (gR h1 6 v0 0 fun r4 => aI h1 21 r4 2 fun x5 => wI h1 21 r2 2 x5 fun h6 => Que_shapePart_L51 FU v0 v1 v2 0 h6)
set_option maxHeartbeats 4000000 in
set_option maxRecDepth 20000 in
theorem s_Que_shapePart_L27 (v0 : Nat) (v1 : Nat) (v2 : Int) (s0 : Int) (s1 : Int) (s2 : Nat) (h : AH) : Sd M_Que_shapePart 2 23 emV 27 [(0, vr v0), (1, vr v1), (2, vi v2)] [vi s0, vi s1, vr s2] h (Que_shapePart_L27 v0 v1 v2 s0 s1 s2 h) := by
  unfold Que_shapePart_L27
  refine Sd_iastore (pc' := 28) (dc D_Que_shapePart 17 rfl) rfl (by decide) ?_
  refine Sd_aload_n (pc' := 29) (dc D_Que_shapePart 18 rfl) rfl 1 rfl rfl ?_
  refine Sd_getR (pc' := 32) (dc D_Que_shapePart 19 rfl) rfl F_Que_61 rfl rfl ?_
  refine Sd_iconst (pc' := 33) (dc D_Que_shapePart 20 rfl) rfl ⟨by decide, by decide⟩ ?_
  refine Sd_iload_n (pc' := 34) (dc D_Que_shapePart 21 rfl) rfl 2 rfl rfl ?_
  refine Sd_iconst (pc' := 35) (dc D_Que_shapePart 22 rfl) rfl ⟨by decide, by decide⟩ ?_
  refine Sd_icmp_ne (tgt := 47) (pc' := 38) (dc D_Que_shapePart 23 rfl) (by decide) rfl (fun _ => ?_) (fun _ => ?_)
  · refine Sd_iconst (pc' := 48) (dc D_Que_shapePart 29 rfl) rfl ⟨by decide, by decide⟩ ?_
    refine Sd_iastore (pc' := 49) (dc D_Que_shapePart 30 rfl) rfl (by decide) ?_
    refine Sd_iconst (pc' := 50) (dc D_Que_shapePart 31 rfl) rfl ⟨by decide, by decide⟩ ?_
    refine Sd_istore_n (pc' := 51) (l' := [(3, _), (0, _), (1, _), (2, _)]) (dc D_Que_shapePart 32 rfl) rfl rfl (by decide) rfl ?_
    refine Sd.sub (l' := [(0, _), (1, _), (2, _), (3, _)]) [1, 2, 3, 0] rfl ?_
    exact s_Que_shapePart_L51 FU _ _ _ _ _
  · refine Sd_aload_n (pc' := 39) (dc D_Que_shapePart 24 rfl) rfl 0 rfl rfl ?_
    refine Sd_getR (pc' := 42) (dc D_Que_shapePart 25 rfl) rfl F_Que_9 rfl rfl ?_
    refine Sd_iconst (pc' := 43) (dc D_Que_shapePart 26 rfl) rfl ⟨by decide, by decide⟩ ?_
    refine Sd_iaload (pc' := 44) (dc D_Que_shapePart 27 rfl) rfl ?_
    refine Sd_goto (tgt := 48) (dc D_Que_shapePart 28 rfl) (by decide) ?_
    refine Sd_iastore (pc' := 49) (dc D_Que_shapePart 30 rfl) rfl (by decide) ?_
    refine Sd_iconst (pc' := 50) (dc D_Que_shapePart 31 rfl) rfl ⟨by decide, by decide⟩ ?_
    refine Sd_istore_n (pc' := 51) (l' := [(3, _), (0, _), (1, _), (2, _)]) (dc D_Que_shapePart 32 rfl) rfl rfl (by decide) rfl ?_
    refine Sd.sub (l' := [(0, _), (1, _), (2, _), (3, _)]) [1, 2, 3, 0] rfl ?_
    exact s_Que_shapePart_L51 FU _ _ _ _ _
def Que_shapePart (v0 : Nat) (v1 : Nat) (v2 : Int) (h : AH) : Option (Unit × AH) := gR h 4 v1 0 fun r1 => wI h 21 r1 0 v2 fun h2 => gR h2 4 v1 0 fun r3 => if ¬ (v2 : Int) = 2 then (Que_shapePart_L27 v0 v1 v2 (-1) 1 r3 h2) else (gR h2 6 v0 0 fun r4 => aI h2 21 r4 1 fun x5 => Que_shapePart_L27 v0 v1 v2 x5 1 r3 h2)
set_option maxHeartbeats 4000000 in
set_option maxRecDepth 20000 in
theorem s_Que_shapePart (v0 : Nat) (v1 : Nat) (v2 : Int) (h : AH) : CS M_Que_shapePart 2 23 emV [vr v0, vr v1, vi v2] h (Que_shapePart v0 v1 v2 h) := by
  refine CS.of (by decide) (Nat.le_of_ble_eq_true rfl) ?_
  show Sd M_Que_shapePart 2 23 emV 0 [(0, vr v0), (1, vr v1), (2, vi v2)] [] h _
  unfold Que_shapePart
  refine Sd_aload_n (pc' := 1) (dc D_Que_shapePart 0 rfl) rfl 1 rfl rfl ?_
  refine Sd_getR (pc' := 4) (dc D_Que_shapePart 1 rfl) rfl F_Que_61 rfl rfl ?_
  refine Sd_iconst (pc' := 5) (dc D_Que_shapePart 2 rfl) rfl ⟨by decide, by decide⟩ ?_
  refine Sd_iload_n (pc' := 6) (dc D_Que_shapePart 3 rfl) rfl 2 rfl rfl ?_
  refine Sd_iastore (pc' := 7) (dc D_Que_shapePart 4 rfl) rfl (by decide) ?_
  refine Sd_aload_n (pc' := 8) (dc D_Que_shapePart 5 rfl) rfl 1 rfl rfl ?_
  refine Sd_getR (pc' := 11) (dc D_Que_shapePart 6 rfl) rfl F_Que_61 rfl rfl ?_
  refine Sd_iconst (pc' := 12) (dc D_Que_shapePart 7 rfl) rfl ⟨by decide, by decide⟩ ?_
  refine Sd_iload_n (pc' := 13) (dc D_Que_shapePart 8 rfl) rfl 2 rfl rfl ?_
  refine Sd_iconst (pc' := 14) (dc D_Que_shapePart 9 rfl) rfl ⟨by decide, by decide⟩ ?_
  refine Sd_icmp_ne (tgt := 26) (pc' := 17) (dc D_Que_shapePart 10 rfl) (by decide) rfl (fun _ => ?_) (fun _ => ?_)
  · refine Sd_iconst (pc' := 27) (dc D_Que_shapePart 16 rfl) rfl ⟨by decide, by decide⟩ ?_
    exact s_Que_shapePart_L27 _ _ _ _ _ _ _
  · refine Sd_aload_n (pc' := 18) (dc D_Que_shapePart 11 rfl) rfl 0 rfl rfl ?_
    refine Sd_getR (pc' := 21) (dc D_Que_shapePart 12 rfl) rfl F_Que_9 rfl rfl ?_
    refine Sd_iconst (pc' := 22) (dc D_Que_shapePart 13 rfl) rfl ⟨by decide, by decide⟩ ?_
    refine Sd_iaload (pc' := 23) (dc D_Que_shapePart 14 rfl) rfl ?_
    refine Sd_goto (tgt := 27) (dc D_Que_shapePart 15 rfl) (by decide) ?_
    exact s_Que_shapePart_L27 _ _ _ _ _ _ _
theorem K_Que_shapePart : MOk M_Que_shapePart 2 := ⟨Tb_at 132 (by decide +kernel) rfl, Tb_at 747 (by decide +kernel) rfl, by decide +kernel, by decide +kernel, by decide +kernel⟩
theorem Ks_Que_shapePart : Cond.instanceMethod yX5_shapePart ∈ Tb := Tb_at 746 (by decide +kernel) rfl
theorem Kv_Que_shapePart : Cond.selects RX5 yX5_shapePart yX5_shapePart ∈ Tb := Tb_at 17 (by decide +kernel) rfl
/-! ===== BatchShare$Query.finish()V ===== -/
abbrev M_Que_finish : AMt := (yX5_finish, cX5_finish, 2, none)
def T_Que_finish : List (Nat × Instr × Nat) := [(0, .iconst 0, 1), (1, .istore_n 1, 1), (2, .iload_n 1, 1), (3, .iconst 5, 1), (4, .if_icmp .ge 48, 3), (7, .aload_n 0, 1), (8, .aload_n 0, 1), (9, .getfield 26, 3), (12, .ifCond .ne 26, 3), (15, .aload_n 0, 1), (16, .getfield 9, 3), (19, .iconst 3, 1), (20, .iconst 2, 1), (21, .iload_n 1, 1), (22, .imul, 1), (23, .iadd, 1), (24, .iaload, 1), (25, .aload_n 0, 1), (26, .getfield 9, 3), (29, .iconst 4, 1), (30, .iconst 2, 1), (31, .iload_n 1, 1), (32, .imul, 1), (33, .iadd, 1), (34, .iaload, 1), (35, .if_icmp .le 7, 3), (38, .iconst 1, 1), (39, .goto 4, 3), (42, .iconst 0, 1), (43, .putfield 26, 3), (46, .iinc 1 1, 3), (49, .goto (-47), 3), (52, .iconst 0, 1), (53, .istore_n 1, 1), (54, .iload_n 1, 1), (55, .iconst 5, 1), (56, .if_icmp .ge 38, 3), (59, .aload_n 0, 1), (60, .getfield 26, 3), (63, .ifCond .eq 31, 3), (66, .aload_n 0, 1), (67, .getfield 9, 3), (70, .iconst 3, 1), (71, .iconst 2, 1), (72, .iload_n 1, 1), (73, .imul, 1), (74, .iadd, 1), (75, .iconst 1, 1), (76, .iastore, 1), (77, .aload_n 0, 1), (78, .getfield 9, 3), (81, .iconst 4, 1), (82, .iconst 2, 1), (83, .iload_n 1, 1), (84, .imul, 1), (85, .iadd, 1), (86, .iconst 0, 1), (87, .iastore, 1), (88, .iinc 1 1, 3), (91, .goto (-37), 3), (94, .iconst 0, 1), (95, .istore_n 1, 1), (96, .iload_n 1, 1), (97, .iconst 3, 1), (98, .if_icmp .ge 20, 3), (101, .aload_n 0, 1), (102, .aload_n 0, 1), (103, .getfield 17, 3), (106, .iload_n 1, 1), (107, .aaload, 1), (108, .iload_n 1, 1), (109, .invokevirtual 57, 3), (112, .iinc 1 1, 3), (115, .goto (-19), 3), (118, .return_, 1)]
set_option maxRecDepth 20000 in
theorem D_Que_finish : (T_Que_finish.all fun q => decide (decode M_Que_finish.2.1 q.1 = .ok q.2)) = true := by decide +kernel
def Que_finish_L96 : Nat → Nat → Int → AH → Option (Unit × AH)
  | 0, _, _, _ => none
  | n + 1, v0, v1, h => if (3 : Int) ≤ v1 then (some ((), h)) else (gR h 6 v0 1 fun r1 => aR h 36 r1 v1 fun r2 => rc h 6 v0 <| bnd (Que_shapePart v0 r2 v1 h) fun _ h3 => Que_finish_L96 n v0 ((wr (v1 + 1))) h3)
set_option maxHeartbeats 4000000 in
set_option maxRecDepth 20000 in
theorem s_Que_finish_L96 : ∀ (n : Nat) (v0 : Nat) (v1 : Int) (h : AH), Sd M_Que_finish 3 46 emV 96 [(0, vr v0), (1, vi v1)] [] h (Que_finish_L96 n v0 v1 h)
  | 0, _, _, _ => Sd.none
  | n + 1, v0, v1, h => by
    rw [Que_finish_L96]
    refine Sd_iload_n (pc' := 97) (dc D_Que_finish 62 rfl) rfl 1 rfl rfl ?_
    refine Sd_iconst (pc' := 98) (dc D_Que_finish 63 rfl) rfl ⟨by decide, by decide⟩ ?_
    refine Sd_icmp_ge (tgt := 118) (pc' := 101) (dc D_Que_finish 64 rfl) (by decide) rfl (fun _ => ?_) (fun _ => ?_)
    · exact Sd_vret (dc D_Que_finish 74 rfl) rfl
    · refine Sd_aload_n (pc' := 102) (dc D_Que_finish 65 rfl) rfl 0 rfl rfl ?_
      refine Sd_aload_n (pc' := 103) (dc D_Que_finish 66 rfl) rfl 0 rfl rfl ?_
      refine Sd_getR (pc' := 106) (dc D_Que_finish 67 rfl) rfl F_Que_17 rfl rfl ?_
      refine Sd_iload_n (pc' := 107) (dc D_Que_finish 68 rfl) rfl 1 rfl rfl ?_
      refine Sd_aaload (t := 36) (j := 8) (C0 := RX3) (pc' := 108) (dc D_Que_finish 69 rfl) rfl rfl (by decide) ?_
      refine Sd_iload_n (pc' := 109) (dc D_Que_finish 70 rfl) rfl 1 rfl rfl ?_
      refine Sd.callVV (ci := 5) (t := 6) (as := [_, _]) RX5 (pc' := 112) (dc D_Que_finish 71 rfl) rfl rfl rfl rfl K_Que_shapePart L_Que_57 Ks_Que_shapePart Kv_Que_shapePart ⟨by decide, by decide⟩ rfl rfl (Nat.le_of_ble_eq_true rfl) (s_Que_shapePart _ _ _ _) (fun _ h3 => ?_)
      refine Sd_iinc (pc' := 115) (l' := [(1, _), (0, _)]) (dc D_Que_finish 72 rfl) rfl 1 rfl (by decide) rfl ?_
      refine Sd_goto (tgt := 96) (dc D_Que_finish 73 rfl) (by decide) ?_
      refine Sd.sub (l' := [(0, _), (1, _)]) [1, 0] rfl ?_
      exact s_Que_finish_L96 n _ _ _
def Que_finish_L54 : Nat → Nat → Int → AH → Option (Unit × AH)
  | 0, _, _, _ => none
  | n + 1, v0, v1, h => if (5 : Int) ≤ v1 then (Que_finish_L96 FU v0 0 h) else (gI h 6 v0 2 fun x1 => if (x1 : Int) = 0 then (Que_finish_L96 FU v0 0 h) else (gR h 6 v0 0 fun r2 => wI h 21 r2 (wr (3 + (wr (2 * v1)))) 1 fun h3 => gR h3 6 v0 0 fun r4 => wI h3 21 r4 (wr (4 + (wr (2 * v1)))) 0 fun h5 => Que_finish_L54 n v0 ((wr (v1 + 1))) h5))
set_option maxHeartbeats 4000000 in
set_option maxRecDepth 20000 in
theorem s_Que_finish_L54 : ∀ (n : Nat) (v0 : Nat) (v1 : Int) (h : AH), Sd M_Que_finish 3 46 emV 54 [(0, vr v0), (1, vi v1)] [] h (Que_finish_L54 n v0 v1 h)
  | 0, _, _, _ => Sd.none
  | n + 1, v0, v1, h => by
    rw [Que_finish_L54]
    refine Sd_iload_n (pc' := 55) (dc D_Que_finish 34 rfl) rfl 1 rfl rfl ?_
    refine Sd_iconst (pc' := 56) (dc D_Que_finish 35 rfl) rfl ⟨by decide, by decide⟩ ?_
    refine Sd_icmp_ge (tgt := 94) (pc' := 59) (dc D_Que_finish 36 rfl) (by decide) rfl (fun _ => ?_) (fun _ => ?_)
    · refine Sd_iconst (pc' := 95) (dc D_Que_finish 60 rfl) rfl ⟨by decide, by decide⟩ ?_
      refine Sd_istore_n (pc' := 96) (l' := [(1, _), (0, _)]) (dc D_Que_finish 61 rfl) rfl rfl (by decide) rfl ?_
      refine Sd.sub (l' := [(0, _), (1, _)]) [1, 0] rfl ?_
      exact s_Que_finish_L96 FU _ _ _
    · refine Sd_aload_n (pc' := 60) (dc D_Que_finish 37 rfl) rfl 0 rfl rfl ?_
      refine Sd_getI (pc' := 63) (dc D_Que_finish 38 rfl) rfl F_Que_26 rfl rfl ?_
      refine Sd_if_eq (tgt := 94) (pc' := 66) (dc D_Que_finish 39 rfl) (by decide) rfl (fun _ => ?_) (fun _ => ?_)
      · refine Sd_iconst (pc' := 95) (dc D_Que_finish 60 rfl) rfl ⟨by decide, by decide⟩ ?_
        refine Sd_istore_n (pc' := 96) (l' := [(1, _), (0, _)]) (dc D_Que_finish 61 rfl) rfl rfl (by decide) rfl ?_
        refine Sd.sub (l' := [(0, _), (1, _)]) [1, 0] rfl ?_
        exact s_Que_finish_L96 FU _ _ _
      · refine Sd_aload_n (pc' := 67) (dc D_Que_finish 40 rfl) rfl 0 rfl rfl ?_
        refine Sd_getR (pc' := 70) (dc D_Que_finish 41 rfl) rfl F_Que_9 rfl rfl ?_
        refine Sd_iconst (pc' := 71) (dc D_Que_finish 42 rfl) rfl ⟨by decide, by decide⟩ ?_
        refine Sd_iconst (pc' := 72) (dc D_Que_finish 43 rfl) rfl ⟨by decide, by decide⟩ ?_
        refine Sd_iload_n (pc' := 73) (dc D_Que_finish 44 rfl) rfl 1 rfl rfl ?_
        refine Sd_imul (pc' := 74) (dc D_Que_finish 45 rfl) rfl ?_
        refine Sd_iadd (pc' := 75) (dc D_Que_finish 46 rfl) rfl ?_
        refine Sd_iconst (pc' := 76) (dc D_Que_finish 47 rfl) rfl ⟨by decide, by decide⟩ ?_
        refine Sd_iastore (pc' := 77) (dc D_Que_finish 48 rfl) rfl (by decide) ?_
        refine Sd_aload_n (pc' := 78) (dc D_Que_finish 49 rfl) rfl 0 rfl rfl ?_
        refine Sd_getR (pc' := 81) (dc D_Que_finish 50 rfl) rfl F_Que_9 rfl rfl ?_
        refine Sd_iconst (pc' := 82) (dc D_Que_finish 51 rfl) rfl ⟨by decide, by decide⟩ ?_
        refine Sd_iconst (pc' := 83) (dc D_Que_finish 52 rfl) rfl ⟨by decide, by decide⟩ ?_
        refine Sd_iload_n (pc' := 84) (dc D_Que_finish 53 rfl) rfl 1 rfl rfl ?_
        refine Sd_imul (pc' := 85) (dc D_Que_finish 54 rfl) rfl ?_
        refine Sd_iadd (pc' := 86) (dc D_Que_finish 55 rfl) rfl ?_
        refine Sd_iconst (pc' := 87) (dc D_Que_finish 56 rfl) rfl ⟨by decide, by decide⟩ ?_
        refine Sd_iastore (pc' := 88) (dc D_Que_finish 57 rfl) rfl (by decide) ?_
        refine Sd_iinc (pc' := 91) (l' := [(1, _), (0, _)]) (dc D_Que_finish 58 rfl) rfl 1 rfl (by decide) rfl ?_
        refine Sd_goto (tgt := 54) (dc D_Que_finish 59 rfl) (by decide) ?_
        refine Sd.sub (l' := [(0, _), (1, _)]) [1, 0] rfl ?_
        exact s_Que_finish_L54 n _ _ _
def Que_finish_L2 : Nat → Nat → Int → AH → Option (Unit × AH)
  | 0, _, _, _ => none
  | n + 1, v0, v1, h => if (5 : Int) ≤ v1 then (Que_finish_L54 FU v0 0 h) else (gI h 6 v0 2 fun x1 => if ¬ (x1 : Int) = 0 then (pZ h 6 v0 2 1 fun h2 => Que_finish_L2 n v0 ((wr (v1 + 1))) h2) else (gR h 6 v0 0 fun r3 => aI h 21 r3 (wr (3 + (wr (2 * v1)))) fun x4 => gR h 6 v0 0 fun r5 => aI h 21 r5 (wr (4 + (wr (2 * v1)))) fun x6 => if (x4 : Int) ≤ x6 then (pZ h 6 v0 2 0 fun h7 => Que_finish_L2 n v0 ((wr (v1 + 1))) h7) else (pZ h 6 v0 2 1 fun h8 => Que_finish_L2 n v0 ((wr (v1 + 1))) h8)))
set_option maxHeartbeats 4000000 in
set_option maxRecDepth 20000 in
theorem s_Que_finish_L2 : ∀ (n : Nat) (v0 : Nat) (v1 : Int) (h : AH), Sd M_Que_finish 3 46 emV 2 [(0, vr v0), (1, vi v1)] [] h (Que_finish_L2 n v0 v1 h)
  | 0, _, _, _ => Sd.none
  | n + 1, v0, v1, h => by
    rw [Que_finish_L2]
    refine Sd_iload_n (pc' := 3) (dc D_Que_finish 2 rfl) rfl 1 rfl rfl ?_
    refine Sd_iconst (pc' := 4) (dc D_Que_finish 3 rfl) rfl ⟨by decide, by decide⟩ ?_
    refine Sd_icmp_ge (tgt := 52) (pc' := 7) (dc D_Que_finish 4 rfl) (by decide) rfl (fun _ => ?_) (fun _ => ?_)
    · refine Sd_iconst (pc' := 53) (dc D_Que_finish 32 rfl) rfl ⟨by decide, by decide⟩ ?_
      refine Sd_istore_n (pc' := 54) (l' := [(1, _), (0, _)]) (dc D_Que_finish 33 rfl) rfl rfl (by decide) rfl ?_
      refine Sd.sub (l' := [(0, _), (1, _)]) [1, 0] rfl ?_
      exact s_Que_finish_L54 FU _ _ _
    · refine Sd_aload_n (pc' := 8) (dc D_Que_finish 5 rfl) rfl 0 rfl rfl ?_
      refine Sd_aload_n (pc' := 9) (dc D_Que_finish 6 rfl) rfl 0 rfl rfl ?_
      refine Sd_getI (pc' := 12) (dc D_Que_finish 7 rfl) rfl F_Que_26 rfl rfl ?_
      refine Sd_if_ne (tgt := 38) (pc' := 15) (dc D_Que_finish 8 rfl) (by decide) rfl (fun _ => ?_) (fun _ => ?_)
      · refine Sd_iconst (pc' := 39) (dc D_Que_finish 26 rfl) rfl ⟨by decide, by decide⟩ ?_
        refine Sd_goto (tgt := 43) (dc D_Que_finish 27 rfl) (by decide) ?_
        refine Sd_putZ (pc' := 46) (dc D_Que_finish 29 rfl) rfl F_Que_26 rfl rfl rfl (finOk.no rfl) (by decide) ?_
        refine Sd_iinc (pc' := 49) (l' := [(1, _), (0, _)]) (dc D_Que_finish 30 rfl) rfl 1 rfl (by decide) rfl ?_
        refine Sd_goto (tgt := 2) (dc D_Que_finish 31 rfl) (by decide) ?_
        refine Sd.sub (l' := [(0, _), (1, _)]) [1, 0] rfl ?_
        exact s_Que_finish_L2 n _ _ _
      · refine Sd_aload_n (pc' := 16) (dc D_Que_finish 9 rfl) rfl 0 rfl rfl ?_
        refine Sd_getR (pc' := 19) (dc D_Que_finish 10 rfl) rfl F_Que_9 rfl rfl ?_
        refine Sd_iconst (pc' := 20) (dc D_Que_finish 11 rfl) rfl ⟨by decide, by decide⟩ ?_
        refine Sd_iconst (pc' := 21) (dc D_Que_finish 12 rfl) rfl ⟨by decide, by decide⟩ ?_
        refine Sd_iload_n (pc' := 22) (dc D_Que_finish 13 rfl) rfl 1 rfl rfl ?_
        refine Sd_imul (pc' := 23) (dc D_Que_finish 14 rfl) rfl ?_
        refine Sd_iadd (pc' := 24) (dc D_Que_finish 15 rfl) rfl ?_
        refine Sd_iaload (pc' := 25) (dc D_Que_finish 16 rfl) rfl ?_
        refine Sd_aload_n (pc' := 26) (dc D_Que_finish 17 rfl) rfl 0 rfl rfl ?_
        refine Sd_getR (pc' := 29) (dc D_Que_finish 18 rfl) rfl F_Que_9 rfl rfl ?_
        refine Sd_iconst (pc' := 30) (dc D_Que_finish 19 rfl) rfl ⟨by decide, by decide⟩ ?_
        refine Sd_iconst (pc' := 31) (dc D_Que_finish 20 rfl) rfl ⟨by decide, by decide⟩ ?_
        refine Sd_iload_n (pc' := 32) (dc D_Que_finish 21 rfl) rfl 1 rfl rfl ?_
        refine Sd_imul (pc' := 33) (dc D_Que_finish 22 rfl) rfl ?_
        refine Sd_iadd (pc' := 34) (dc D_Que_finish 23 rfl) rfl ?_
        refine Sd_iaload (pc' := 35) (dc D_Que_finish 24 rfl) rfl ?_
        refine Sd_icmp_le (tgt := 42) (pc' := 38) (dc D_Que_finish 25 rfl) (by decide) rfl (fun _ => ?_) (fun _ => ?_)
        · refine Sd_iconst (pc' := 43) (dc D_Que_finish 28 rfl) rfl ⟨by decide, by decide⟩ ?_
          refine Sd_putZ (pc' := 46) (dc D_Que_finish 29 rfl) rfl F_Que_26 rfl rfl rfl (finOk.no rfl) (by decide) ?_
          refine Sd_iinc (pc' := 49) (l' := [(1, _), (0, _)]) (dc D_Que_finish 30 rfl) rfl 1 rfl (by decide) rfl ?_
          refine Sd_goto (tgt := 2) (dc D_Que_finish 31 rfl) (by decide) ?_
          refine Sd.sub (l' := [(0, _), (1, _)]) [1, 0] rfl ?_
          exact s_Que_finish_L2 n _ _ _
        · refine Sd_iconst (pc' := 39) (dc D_Que_finish 26 rfl) rfl ⟨by decide, by decide⟩ ?_
          refine Sd_goto (tgt := 43) (dc D_Que_finish 27 rfl) (by decide) ?_
          refine Sd_putZ (pc' := 46) (dc D_Que_finish 29 rfl) rfl F_Que_26 rfl rfl rfl (finOk.no rfl) (by decide) ?_
          refine Sd_iinc (pc' := 49) (l' := [(1, _), (0, _)]) (dc D_Que_finish 30 rfl) rfl 1 rfl (by decide) rfl ?_
          refine Sd_goto (tgt := 2) (dc D_Que_finish 31 rfl) (by decide) ?_
          refine Sd.sub (l' := [(0, _), (1, _)]) [1, 0] rfl ?_
          exact s_Que_finish_L2 n _ _ _
def Que_finish (v0 : Nat) (h : AH) : Option (Unit × AH) := Que_finish_L2 FU v0 0 h
set_option maxHeartbeats 4000000 in
set_option maxRecDepth 20000 in
theorem s_Que_finish (v0 : Nat) (h : AH) : CS M_Que_finish 3 46 emV [vr v0] h (Que_finish v0 h) := by
  refine CS.of (by decide) (Nat.le_of_ble_eq_true rfl) ?_
  show Sd M_Que_finish 3 46 emV 0 [(0, vr v0)] [] h _
  unfold Que_finish
  refine Sd_iconst (pc' := 1) (dc D_Que_finish 0 rfl) rfl ⟨by decide, by decide⟩ ?_
  refine Sd_istore_n (pc' := 2) (l' := [(1, _), (0, _)]) (dc D_Que_finish 1 rfl) rfl rfl (by decide) rfl ?_
  refine Sd.sub (l' := [(0, _), (1, _)]) [1, 0] rfl ?_
  exact s_Que_finish_L2 FU _ _ _
theorem K_Que_finish : MOk M_Que_finish 0 := ⟨Tb_at 132 (by decide +kernel) rfl, Tb_at 743 (by decide +kernel) rfl, by decide +kernel, by decide +kernel, by decide +kernel⟩
theorem Ks_Que_finish : Cond.instanceMethod yX5_finish ∈ Tb := Tb_at 741 (by decide +kernel) rfl
theorem Kv_Que_finish : Cond.selects RX5 yX5_finish yX5_finish ∈ Tb := Tb_at 742 (by decide +kernel) rfl
/-! ===== BatchShare$Query.digestOfForm()I ===== -/
abbrev M_Que_digestOfForm : AMt := (yX5_digestOfForm, cX5_digestOfForm, 4, (some .int))
def T_Que_digestOfForm : List (Nat × Instr × Nat) := [(0, .bipush 7, 2), (2, .istore_n 1, 1), (3, .iconst 0, 1), (4, .istore_n 2, 1), (5, .iload_n 2, 1), (6, .bipush 14, 2), (8, .aload_n 0, 1), (9, .getfield 9, 3), (12, .bipush 13, 2), (14, .iaload, 1), (15, .iadd, 1), (16, .if_icmp .ge 41, 3), (19, .aload_n 0, 1), (20, .getfield 9, 3), (23, .iload_n 2, 1), (24, .iaload, 1), (25, .iconst (-1), 1), (26, .if_icmp .ne 8, 3), (29, .bipush 9, 2), (31, .goto 9, 3), (34, .aload_n 0, 1), (35, .getfield 9, 3), (38, .iload_n 2, 1), (39, .iaload, 1), (40, .istore_n 3, 1), (41, .bipush 31, 2), (43, .iload_n 1, 1), (44, .imul, 1), (45, .iload_n 3, 1), (46, .iadd, 1), (47, .ldc 30, 2), (49, .irem, 1), (50, .istore_n 1, 1), (51, .iinc 2 1, 3), (54, .goto (-49), 3), (57, .iload_n 1, 1), (58, .ireturn, 1)]
set_option maxRecDepth 20000 in
theorem D_Que_digestOfForm : (T_Que_digestOfForm.all fun q => decide (decode M_Que_digestOfForm.2.1 q.1 = .ok q.2)) = true := by decide +kernel
def Que_digestOfForm_L5 : Nat → Nat → Int → Int → AH → Option (Int × AH)
  | 0, _, _, _, _ => none
  | n + 1, v0, v1, v2, h => gR h 6 v0 0 fun r1 => aI h 21 r1 13 fun x2 => if ((wr (14 + x2)) : Int) ≤ v2 then (some (v1, h)) else (gR h 6 v0 0 fun r3 => aI h 21 r3 v2 fun x4 => if ¬ (x4 : Int) = (-1) then (gR h 6 v0 0 fun r5 => aI h 21 r5 v2 fun x6 => if (1000003 : Int) = 0 then none else Que_digestOfForm_L5 n v0 ((iRem (wr ((wr (31 * v1)) + x6)) 1000003)) ((wr (v2 + 1))) h) else (if (1000003 : Int) = 0 then none else Que_digestOfForm_L5 n v0 ((iRem (wr ((wr (31 * v1)) + 9)) 1000003)) ((wr (v2 + 1))) h))
set_option maxHeartbeats 4000000 in
set_option maxRecDepth 20000 in
theorem s_Que_digestOfForm_L5 : ∀ (n : Nat) (v0 : Nat) (v1 : Int) (v2 : Int) (h : AH), Sd M_Que_digestOfForm 1 0 emI 5 [(0, vr v0), (1, vi v1), (2, vi v2)] [] h (Que_digestOfForm_L5 n v0 v1 v2 h)
  | 0, _, _, _, _ => Sd.none
  | n + 1, v0, v1, v2, h => by
    rw [Que_digestOfForm_L5]
    refine Sd_iload_n (pc' := 6) (dc D_Que_digestOfForm 4 rfl) rfl 2 rfl rfl ?_
    refine Sd_bipush (pc' := 8) (dc D_Que_digestOfForm 5 rfl) rfl ⟨by decide, by decide⟩ (by decide) ?_
    refine Sd_aload_n (pc' := 9) (dc D_Que_digestOfForm 6 rfl) rfl 0 rfl rfl ?_
    refine Sd_getR (pc' := 12) (dc D_Que_digestOfForm 7 rfl) rfl F_Que_9 rfl rfl ?_
    refine Sd_bipush (pc' := 14) (dc D_Que_digestOfForm 8 rfl) rfl ⟨by decide, by decide⟩ (by decide) ?_
    refine Sd_iaload (pc' := 15) (dc D_Que_digestOfForm 9 rfl) rfl ?_
    refine Sd_iadd (pc' := 16) (dc D_Que_digestOfForm 10 rfl) rfl ?_
    refine Sd_icmp_ge (tgt := 57) (pc' := 19) (dc D_Que_digestOfForm 11 rfl) (by decide) rfl (fun _ => ?_) (fun _ => ?_)
    · refine Sd_iload_n (pc' := 58) (dc D_Que_digestOfForm 35 rfl) rfl 1 rfl rfl ?_
      exact Sd_iret (dc D_Que_digestOfForm 36 rfl) rfl
    · refine Sd_aload_n (pc' := 20) (dc D_Que_digestOfForm 12 rfl) rfl 0 rfl rfl ?_
      refine Sd_getR (pc' := 23) (dc D_Que_digestOfForm 13 rfl) rfl F_Que_9 rfl rfl ?_
      refine Sd_iload_n (pc' := 24) (dc D_Que_digestOfForm 14 rfl) rfl 2 rfl rfl ?_
      refine Sd_iaload (pc' := 25) (dc D_Que_digestOfForm 15 rfl) rfl ?_
      refine Sd_iconst (pc' := 26) (dc D_Que_digestOfForm 16 rfl) rfl ⟨by decide, by decide⟩ ?_
      refine Sd_icmp_ne (tgt := 34) (pc' := 29) (dc D_Que_digestOfForm 17 rfl) (by decide) rfl (fun _ => ?_) (fun _ => ?_)
      · refine Sd_aload_n (pc' := 35) (dc D_Que_digestOfForm 20 rfl) rfl 0 rfl rfl ?_
        refine Sd_getR (pc' := 38) (dc D_Que_digestOfForm 21 rfl) rfl F_Que_9 rfl rfl ?_
        refine Sd_iload_n (pc' := 39) (dc D_Que_digestOfForm 22 rfl) rfl 2 rfl rfl ?_
        refine Sd_iaload (pc' := 40) (dc D_Que_digestOfForm 23 rfl) rfl ?_
        refine Sd_istore_n (pc' := 41) (l' := [(3, _), (0, _), (1, _), (2, _)]) (dc D_Que_digestOfForm 24 rfl) rfl rfl (by decide) rfl ?_
        refine Sd_bipush (pc' := 43) (dc D_Que_digestOfForm 25 rfl) rfl ⟨by decide, by decide⟩ (by decide) ?_
        refine Sd_iload_n (pc' := 44) (dc D_Que_digestOfForm 26 rfl) rfl 2 rfl rfl ?_
        refine Sd_imul (pc' := 45) (dc D_Que_digestOfForm 27 rfl) rfl ?_
        refine Sd_iload_n (pc' := 46) (dc D_Que_digestOfForm 28 rfl) rfl 0 rfl rfl ?_
        refine Sd_iadd (pc' := 47) (dc D_Que_digestOfForm 29 rfl) rfl ?_
        refine Sd_ldc (n := 1000003) (pc' := 49) (dc D_Que_digestOfForm 30 rfl) rfl ⟨by decide, by decide⟩ Q_Que_30 ?_
        refine Sd_irem (pc' := 50) (dc D_Que_digestOfForm 31 rfl) rfl ?_
        refine Sd_istore_n (pc' := 51) (l' := [(1, _), (3, _), (0, _), (2, _)]) (dc D_Que_digestOfForm 32 rfl) rfl rfl (by decide) rfl ?_
        refine Sd_iinc (pc' := 54) (l' := [(2, _), (1, _), (3, _), (0, _)]) (dc D_Que_digestOfForm 33 rfl) rfl 3 rfl (by decide) rfl ?_
        refine Sd_goto (tgt := 5) (dc D_Que_digestOfForm 34 rfl) (by decide) ?_
        refine Sd.sub (l' := [(0, _), (1, _), (2, _)]) [3, 1, 0] rfl ?_
        exact s_Que_digestOfForm_L5 n _ _ _ _
      · refine Sd_bipush (pc' := 31) (dc D_Que_digestOfForm 18 rfl) rfl ⟨by decide, by decide⟩ (by decide) ?_
        refine Sd_goto (tgt := 40) (dc D_Que_digestOfForm 19 rfl) (by decide) ?_
        refine Sd_istore_n (pc' := 41) (l' := [(3, _), (0, _), (1, _), (2, _)]) (dc D_Que_digestOfForm 24 rfl) rfl rfl (by decide) rfl ?_
        refine Sd_bipush (pc' := 43) (dc D_Que_digestOfForm 25 rfl) rfl ⟨by decide, by decide⟩ (by decide) ?_
        refine Sd_iload_n (pc' := 44) (dc D_Que_digestOfForm 26 rfl) rfl 2 rfl rfl ?_
        refine Sd_imul (pc' := 45) (dc D_Que_digestOfForm 27 rfl) rfl ?_
        refine Sd_iload_n (pc' := 46) (dc D_Que_digestOfForm 28 rfl) rfl 0 rfl rfl ?_
        refine Sd_iadd (pc' := 47) (dc D_Que_digestOfForm 29 rfl) rfl ?_
        refine Sd_ldc (n := 1000003) (pc' := 49) (dc D_Que_digestOfForm 30 rfl) rfl ⟨by decide, by decide⟩ Q_Que_30 ?_
        refine Sd_irem (pc' := 50) (dc D_Que_digestOfForm 31 rfl) rfl ?_
        refine Sd_istore_n (pc' := 51) (l' := [(1, _), (3, _), (0, _), (2, _)]) (dc D_Que_digestOfForm 32 rfl) rfl rfl (by decide) rfl ?_
        refine Sd_iinc (pc' := 54) (l' := [(2, _), (1, _), (3, _), (0, _)]) (dc D_Que_digestOfForm 33 rfl) rfl 3 rfl (by decide) rfl ?_
        refine Sd_goto (tgt := 5) (dc D_Que_digestOfForm 34 rfl) (by decide) ?_
        refine Sd.sub (l' := [(0, _), (1, _), (2, _)]) [3, 1, 0] rfl ?_
        exact s_Que_digestOfForm_L5 n _ _ _ _
def Que_digestOfForm (v0 : Nat) (h : AH) : Option (Int × AH) := Que_digestOfForm_L5 FU v0 7 0 h
set_option maxHeartbeats 4000000 in
set_option maxRecDepth 20000 in
theorem s_Que_digestOfForm (v0 : Nat) (h : AH) : CS M_Que_digestOfForm 1 0 emI [vr v0] h (Que_digestOfForm v0 h) := by
  refine CS.of (by decide) (Nat.le_of_ble_eq_true rfl) ?_
  show Sd M_Que_digestOfForm 1 0 emI 0 [(0, vr v0)] [] h _
  unfold Que_digestOfForm
  refine Sd_bipush (pc' := 2) (dc D_Que_digestOfForm 0 rfl) rfl ⟨by decide, by decide⟩ (by decide) ?_
  refine Sd_istore_n (pc' := 3) (l' := [(1, _), (0, _)]) (dc D_Que_digestOfForm 1 rfl) rfl rfl (by decide) rfl ?_
  refine Sd_iconst (pc' := 4) (dc D_Que_digestOfForm 2 rfl) rfl ⟨by decide, by decide⟩ ?_
  refine Sd_istore_n (pc' := 5) (l' := [(2, _), (1, _), (0, _)]) (dc D_Que_digestOfForm 3 rfl) rfl rfl (by decide) rfl ?_
  refine Sd.sub (l' := [(0, _), (1, _), (2, _)]) [2, 1, 0] rfl ?_
  exact s_Que_digestOfForm_L5 FU _ _ _ _
theorem K_Que_digestOfForm : MOk M_Que_digestOfForm 0 := ⟨Tb_at 132 (by decide +kernel) rfl, Tb_at 792 (by decide +kernel) rfl, by decide +kernel, by decide +kernel, by decide +kernel⟩
theorem Ks_Que_digestOfForm : Cond.instanceMethod yX5_digestOfForm ∈ Tb := Tb_at 790 (by decide +kernel) rfl
theorem Kv_Que_digestOfForm : Cond.selects RX5 yX5_digestOfForm yX5_digestOfForm ∈ Tb := Tb_at 791 (by decide +kernel) rfl
/-! ===== BatchShare$Query.isLike(LBatchShare$Query;)Z ===== -/
abbrev M_Que_isLike : AMt := (yX5_isLike, cX5_isLike, 3, (some .boolean))
def T_Que_isLike : List (Nat × Instr × Nat) := [(0, .iconst 0, 1), (1, .istore_n 2, 1), (2, .iload_n 2, 1), (3, .bipush 19, 2), (5, .if_icmp .ge 26, 3), (8, .aload_n 0, 1), (9, .getfield 9, 3), (12, .iload_n 2, 1), (13, .iaload, 1), (14, .aload_n 1, 1), (15, .getfield 9, 3), (18, .iload_n 2, 1), (19, .iaload, 1), (20, .if_icmp .eq 5, 3), (23, .iconst 0, 1), (24, .ireturn, 1), (25, .iinc 2 1, 3), (28, .goto (-26), 3), (31, .iconst 1, 1), (32, .ireturn, 1)]
set_option maxRecDepth 20000 in
theorem D_Que_isLike : (T_Que_isLike.all fun q => decide (decode M_Que_isLike.2.1 q.1 = .ok q.2)) = true := by decide +kernel
def Que_isLike_L2 : Nat → Nat → Nat → Int → AH → Option (Int × AH)
  | 0, _, _, _, _ => none
  | n + 1, v0, v1, v2, h => if (19 : Int) ≤ v2 then (some (1, h)) else (gR h 6 v0 0 fun r1 => aI h 21 r1 v2 fun x2 => gR h 6 v1 0 fun r3 => aI h 21 r3 v2 fun x4 => if (x2 : Int) = x4 then (Que_isLike_L2 n v0 v1 ((wr (v2 + 1))) h) else (some (0, h)))
set_option maxHeartbeats 4000000 in
set_option maxRecDepth 20000 in
theorem s_Que_isLike_L2 : ∀ (n : Nat) (v0 : Nat) (v1 : Nat) (v2 : Int) (h : AH), Sd M_Que_isLike 1 0 emI 2 [(0, vr v0), (1, vr v1), (2, vi v2)] [] h (Que_isLike_L2 n v0 v1 v2 h)
  | 0, _, _, _, _ => Sd.none
  | n + 1, v0, v1, v2, h => by
    rw [Que_isLike_L2]
    refine Sd_iload_n (pc' := 3) (dc D_Que_isLike 2 rfl) rfl 2 rfl rfl ?_
    refine Sd_bipush (pc' := 5) (dc D_Que_isLike 3 rfl) rfl ⟨by decide, by decide⟩ (by decide) ?_
    refine Sd_icmp_ge (tgt := 31) (pc' := 8) (dc D_Que_isLike 4 rfl) (by decide) rfl (fun _ => ?_) (fun _ => ?_)
    · refine Sd_iconst (pc' := 32) (dc D_Que_isLike 18 rfl) rfl ⟨by decide, by decide⟩ ?_
      exact Sd_zret (dc D_Que_isLike 19 rfl) rfl (Or.inr rfl)
    · refine Sd_aload_n (pc' := 9) (dc D_Que_isLike 5 rfl) rfl 0 rfl rfl ?_
      refine Sd_getR (pc' := 12) (dc D_Que_isLike 6 rfl) rfl F_Que_9 rfl rfl ?_
      refine Sd_iload_n (pc' := 13) (dc D_Que_isLike 7 rfl) rfl 2 rfl rfl ?_
      refine Sd_iaload (pc' := 14) (dc D_Que_isLike 8 rfl) rfl ?_
      refine Sd_aload_n (pc' := 15) (dc D_Que_isLike 9 rfl) rfl 1 rfl rfl ?_
      refine Sd_getR (pc' := 18) (dc D_Que_isLike 10 rfl) rfl F_Que_9 rfl rfl ?_
      refine Sd_iload_n (pc' := 19) (dc D_Que_isLike 11 rfl) rfl 2 rfl rfl ?_
      refine Sd_iaload (pc' := 20) (dc D_Que_isLike 12 rfl) rfl ?_
      refine Sd_icmp_eq (tgt := 25) (pc' := 23) (dc D_Que_isLike 13 rfl) (by decide) rfl (fun _ => ?_) (fun _ => ?_)
      · refine Sd_iinc (pc' := 28) (l' := [(2, _), (0, _), (1, _)]) (dc D_Que_isLike 16 rfl) rfl 2 rfl (by decide) rfl ?_
        refine Sd_goto (tgt := 2) (dc D_Que_isLike 17 rfl) (by decide) ?_
        refine Sd.sub (l' := [(0, _), (1, _), (2, _)]) [1, 2, 0] rfl ?_
        exact s_Que_isLike_L2 n _ _ _ _
      · refine Sd_iconst (pc' := 24) (dc D_Que_isLike 14 rfl) rfl ⟨by decide, by decide⟩ ?_
        exact Sd_zret (dc D_Que_isLike 15 rfl) rfl (Or.inl rfl)
def Que_isLike (v0 : Nat) (v1 : Nat) (h : AH) : Option (Int × AH) := Que_isLike_L2 FU v0 v1 0 h
set_option maxHeartbeats 4000000 in
set_option maxRecDepth 20000 in
theorem s_Que_isLike (v0 : Nat) (v1 : Nat) (h : AH) : CS M_Que_isLike 1 0 emI [vr v0, vr v1] h (Que_isLike v0 v1 h) := by
  refine CS.of (by decide) (Nat.le_of_ble_eq_true rfl) ?_
  show Sd M_Que_isLike 1 0 emI 0 [(0, vr v0), (1, vr v1)] [] h _
  unfold Que_isLike
  refine Sd_iconst (pc' := 1) (dc D_Que_isLike 0 rfl) rfl ⟨by decide, by decide⟩ ?_
  refine Sd_istore_n (pc' := 2) (l' := [(2, _), (0, _), (1, _)]) (dc D_Que_isLike 1 rfl) rfl rfl (by decide) rfl ?_
  refine Sd.sub (l' := [(0, _), (1, _), (2, _)]) [1, 2, 0] rfl ?_
  exact s_Que_isLike_L2 FU _ _ _ _
theorem K_Que_isLike : MOk M_Que_isLike 1 := ⟨Tb_at 132 (by decide +kernel) rfl, Tb_at 801 (by decide +kernel) rfl, by decide +kernel, by decide +kernel, by decide +kernel⟩
theorem Ks_Que_isLike : Cond.instanceMethod yX5_isLike ∈ Tb := Tb_at 799 (by decide +kernel) rfl
theorem Kv_Que_isLike : Cond.selects RX5 yX5_isLike yX5_isLike ∈ Tb := Tb_at 800 (by decide +kernel) rfl
/-! ===== BatchShare$Query.whole()LBatchShare$Part; ===== -/
abbrev M_Que_whole : AMt := (yX5_whole, cX5_whole, 1, (some (.object RX3)))
def T_Que_whole : List (Nat × Instr × Nat) := [(0, .aload_n 0, 1), (1, .getfield 17, 3), (4, .aload_n 0, 1), (5, .invokevirtual 22, 3), (8, .aaload, 1), (9, .areturn, 1)]
set_option maxRecDepth 20000 in
theorem D_Que_whole : (T_Que_whole.all fun q => decide (decode M_Que_whole.2.1 q.1 = .ok q.2)) = true := by decide +kernel
def Que_whole (v0 : Nat) (h : AH) : Option (Nat × AH) := gR h 6 v0 1 fun r1 => rc h 6 v0 <| bnd (Que_source v0 h) fun x3 h2 => aR h2 36 r1 x3 fun r5 => some (r5, h2)
set_option maxHeartbeats 4000000 in
set_option maxRecDepth 20000 in
theorem s_Que_whole (v0 : Nat) (h : AH) : CS M_Que_whole 2 20 emR [vr v0] h (Que_whole v0 h) := by
  refine CS.of (by decide) (Nat.le_of_ble_eq_true rfl) ?_
  show Sd M_Que_whole 2 20 emR 0 [(0, vr v0)] [] h _
  unfold Que_whole
  refine Sd_aload_n (pc' := 1) (dc D_Que_whole 0 rfl) rfl 0 rfl rfl ?_
  refine Sd_getR (pc' := 4) (dc D_Que_whole 1 rfl) rfl F_Que_17 rfl rfl ?_
  refine Sd_aload_n (pc' := 5) (dc D_Que_whole 2 rfl) rfl 0 rfl rfl ?_
  refine Sd.callVI (ci := 5) (t := 6) (as := []) RX5 (pc' := 8) (dc D_Que_whole 3 rfl) rfl rfl rfl rfl K_Que_source L_Que_22 Ks_Que_source Kv_Que_source ⟨by decide, by decide⟩ rfl rfl (Nat.le_of_ble_eq_true rfl) (s_Que_source _ _) (fun x3 h2 => ?_)
  refine Sd_aaload (t := 36) (j := 8) (C0 := RX3) (pc' := 9) (dc D_Que_whole 4 rfl) rfl rfl (by decide) ?_
  exact Sd_aret (dc D_Que_whole 5 rfl) rfl
theorem K_Que_whole : MOk M_Que_whole 0 := ⟨Tb_at 132 (by decide +kernel) rfl, Tb_at 809 (by decide +kernel) rfl, by decide +kernel, by decide +kernel, by decide +kernel⟩
theorem Ks_Que_whole : Cond.instanceMethod yX5_whole ∈ Tb := Tb_at 807 (by decide +kernel) rfl
theorem Kv_Que_whole : Cond.selects RX5 yX5_whole yX5_whole ∈ Tb := Tb_at 808 (by decide +kernel) rfl
/-! ===== BatchShare$Query.hasPart(I)Z ===== -/
abbrev M_Que_hasPart : AMt := (yX5_hasPart, cX5_hasPart, 2, (some .boolean))
def T_Que_hasPart : List (Nat × Instr × Nat) := [(0, .aload_n 0, 1), (1, .getfield 26, 3), (4, .ifCond .ne 23, 3), (7, .aload_n 0, 1), (8, .invokevirtual 22, 3), (11, .iconst 2, 1), (12, .if_icmp .eq 11, 3), (15, .aload_n 0, 1), (16, .invokevirtual 22, 3), (19, .iload_n 1, 1), (20, .if_icmp .ne 7, 3), (23, .iconst 1, 1), (24, .goto 4, 3), (27, .iconst 0, 1), (28, .ireturn, 1)]
set_option maxRecDepth 20000 in
theorem D_Que_hasPart : (T_Que_hasPart.all fun q => decide (decode M_Que_hasPart.2.1 q.1 = .ok q.2)) = true := by decide +kernel
def Que_hasPart (v0 : Nat) (v1 : Int) (h : AH) : Option (Int × AH) := gI h 6 v0 2 fun x1 => if ¬ (x1 : Int) = 0 then (some (0, h)) else (rc h 6 v0 <| bnd (Que_source v0 h) fun x3 h2 => if (x3 : Int) = 2 then (some (1, h2)) else (rc h2 6 v0 <| bnd (Que_source v0 h2) fun x6 h5 => if ¬ (x6 : Int) = v1 then (some (0, h5)) else (some (1, h5))))
set_option maxHeartbeats 4000000 in
set_option maxRecDepth 20000 in
theorem s_Que_hasPart (v0 : Nat) (v1 : Int) (h : AH) : CS M_Que_hasPart 2 20 emI [vr v0, vi v1] h (Que_hasPart v0 v1 h) := by
  refine CS.of (by decide) (Nat.le_of_ble_eq_true rfl) ?_
  show Sd M_Que_hasPart 2 20 emI 0 [(0, vr v0), (1, vi v1)] [] h _
  unfold Que_hasPart
  refine Sd_aload_n (pc' := 1) (dc D_Que_hasPart 0 rfl) rfl 0 rfl rfl ?_
  refine Sd_getI (pc' := 4) (dc D_Que_hasPart 1 rfl) rfl F_Que_26 rfl rfl ?_
  refine Sd_if_ne (tgt := 27) (pc' := 7) (dc D_Que_hasPart 2 rfl) (by decide) rfl (fun _ => ?_) (fun _ => ?_)
  · refine Sd_iconst (pc' := 28) (dc D_Que_hasPart 13 rfl) rfl ⟨by decide, by decide⟩ ?_
    exact Sd_zret (dc D_Que_hasPart 14 rfl) rfl (Or.inl rfl)
  · refine Sd_aload_n (pc' := 8) (dc D_Que_hasPart 3 rfl) rfl 0 rfl rfl ?_
    refine Sd.callVI (ci := 5) (t := 6) (as := []) RX5 (pc' := 11) (dc D_Que_hasPart 4 rfl) rfl rfl rfl rfl K_Que_source L_Que_22 Ks_Que_source Kv_Que_source ⟨by decide, by decide⟩ rfl rfl (Nat.le_of_ble_eq_true rfl) (s_Que_source _ _) (fun x3 h2 => ?_)
    refine Sd_iconst (pc' := 12) (dc D_Que_hasPart 5 rfl) rfl ⟨by decide, by decide⟩ ?_
    refine Sd_icmp_eq (tgt := 23) (pc' := 15) (dc D_Que_hasPart 6 rfl) (by decide) rfl (fun _ => ?_) (fun _ => ?_)
    · refine Sd_iconst (pc' := 24) (dc D_Que_hasPart 11 rfl) rfl ⟨by decide, by decide⟩ ?_
      refine Sd_goto (tgt := 28) (dc D_Que_hasPart 12 rfl) (by decide) ?_
      exact Sd_zret (dc D_Que_hasPart 14 rfl) rfl (Or.inr rfl)
    · refine Sd_aload_n (pc' := 16) (dc D_Que_hasPart 7 rfl) rfl 0 rfl rfl ?_
      refine Sd.callVI (ci := 5) (t := 6) (as := []) RX5 (pc' := 19) (dc D_Que_hasPart 8 rfl) rfl rfl rfl rfl K_Que_source L_Que_22 Ks_Que_source Kv_Que_source ⟨by decide, by decide⟩ rfl rfl (Nat.le_of_ble_eq_true rfl) (s_Que_source _ _) (fun x6 h5 => ?_)
      refine Sd_iload_n (pc' := 20) (dc D_Que_hasPart 9 rfl) rfl 1 rfl rfl ?_
      refine Sd_icmp_ne (tgt := 27) (pc' := 23) (dc D_Que_hasPart 10 rfl) (by decide) rfl (fun _ => ?_) (fun _ => ?_)
      · refine Sd_iconst (pc' := 28) (dc D_Que_hasPart 13 rfl) rfl ⟨by decide, by decide⟩ ?_
        exact Sd_zret (dc D_Que_hasPart 14 rfl) rfl (Or.inl rfl)
      · refine Sd_iconst (pc' := 24) (dc D_Que_hasPart 11 rfl) rfl ⟨by decide, by decide⟩ ?_
        refine Sd_goto (tgt := 28) (dc D_Que_hasPart 12 rfl) (by decide) ?_
        exact Sd_zret (dc D_Que_hasPart 14 rfl) rfl (Or.inr rfl)
theorem K_Que_hasPart : MOk M_Que_hasPart 1 := ⟨Tb_at 132 (by decide +kernel) rfl, Tb_at 848 (by decide +kernel) rfl, by decide +kernel, by decide +kernel, by decide +kernel⟩
theorem Ks_Que_hasPart : Cond.instanceMethod yX5_hasPart ∈ Tb := Tb_at 846 (by decide +kernel) rfl
theorem Kv_Que_hasPart : Cond.selects RX5 yX5_hasPart yX5_hasPart ∈ Tb := Tb_at 847 (by decide +kernel) rfl
/-! ===== BatchShare$Query.joins(II)Z ===== -/
abbrev M_Que_joins : AMt := (yX5_joins, cX5_joins, 3, (some .boolean))
def T_Que_joins : List (Nat × Instr × Nat) := [(0, .aload_n 0, 1), (1, .invokevirtual 22, 3), (4, .iconst 2, 1), (5, .if_icmp .ne 27, 3), (8, .aload_n 0, 1), (9, .getfield 9, 3), (12, .iconst 1, 1), (13, .iaload, 1), (14, .iload_n 1, 1), (15, .if_icmp .ne 17, 3), (18, .aload_n 0, 1), (19, .getfield 9, 3), (22, .iconst 2, 1), (23, .iaload, 1), (24, .iload_n 2, 1), (25, .if_icmp .ne 7, 3), (28, .iconst 1, 1), (29, .goto 4, 3), (32, .iconst 0, 1), (33, .ireturn, 1)]
set_option maxRecDepth 20000 in
theorem D_Que_joins : (T_Que_joins.all fun q => decide (decode M_Que_joins.2.1 q.1 = .ok q.2)) = true := by decide +kernel
def Que_joins (v0 : Nat) (v1 : Int) (v2 : Int) (h : AH) : Option (Int × AH) := rc h 6 v0 <| bnd (Que_source v0 h) fun x2 h1 => if ¬ (x2 : Int) = 2 then (some (0, h1)) else (gR h1 6 v0 0 fun r4 => aI h1 21 r4 1 fun x5 => if ¬ (x5 : Int) = v1 then (some (0, h1)) else (gR h1 6 v0 0 fun r6 => aI h1 21 r6 2 fun x7 => if ¬ (x7 : Int) = v2 then (some (0, h1)) else (some (1, h1))))
set_option maxHeartbeats 4000000 in
set_option maxRecDepth 20000 in
theorem s_Que_joins (v0 : Nat) (v1 : Int) (v2 : Int) (h : AH) : CS M_Que_joins 2 20 emI [vr v0, vi v1, vi v2] h (Que_joins v0 v1 v2 h) := by
  refine CS.of (by decide) (Nat.le_of_ble_eq_true rfl) ?_
  show Sd M_Que_joins 2 20 emI 0 [(0, vr v0), (1, vi v1), (2, vi v2)] [] h _
  unfold Que_joins
  refine Sd_aload_n (pc' := 1) (dc D_Que_joins 0 rfl) rfl 0 rfl rfl ?_
  refine Sd.callVI (ci := 5) (t := 6) (as := []) RX5 (pc' := 4) (dc D_Que_joins 1 rfl) rfl rfl rfl rfl K_Que_source L_Que_22 Ks_Que_source Kv_Que_source ⟨by decide, by decide⟩ rfl rfl (Nat.le_of_ble_eq_true rfl) (s_Que_source _ _) (fun x2 h1 => ?_)
  refine Sd_iconst (pc' := 5) (dc D_Que_joins 2 rfl) rfl ⟨by decide, by decide⟩ ?_
  refine Sd_icmp_ne (tgt := 32) (pc' := 8) (dc D_Que_joins 3 rfl) (by decide) rfl (fun _ => ?_) (fun _ => ?_)
  · refine Sd_iconst (pc' := 33) (dc D_Que_joins 18 rfl) rfl ⟨by decide, by decide⟩ ?_
    exact Sd_zret (dc D_Que_joins 19 rfl) rfl (Or.inl rfl)
  · refine Sd_aload_n (pc' := 9) (dc D_Que_joins 4 rfl) rfl 0 rfl rfl ?_
    refine Sd_getR (pc' := 12) (dc D_Que_joins 5 rfl) rfl F_Que_9 rfl rfl ?_
    refine Sd_iconst (pc' := 13) (dc D_Que_joins 6 rfl) rfl ⟨by decide, by decide⟩ ?_
    refine Sd_iaload (pc' := 14) (dc D_Que_joins 7 rfl) rfl ?_
    refine Sd_iload_n (pc' := 15) (dc D_Que_joins 8 rfl) rfl 1 rfl rfl ?_
    refine Sd_icmp_ne (tgt := 32) (pc' := 18) (dc D_Que_joins 9 rfl) (by decide) rfl (fun _ => ?_) (fun _ => ?_)
    · refine Sd_iconst (pc' := 33) (dc D_Que_joins 18 rfl) rfl ⟨by decide, by decide⟩ ?_
      exact Sd_zret (dc D_Que_joins 19 rfl) rfl (Or.inl rfl)
    · refine Sd_aload_n (pc' := 19) (dc D_Que_joins 10 rfl) rfl 0 rfl rfl ?_
      refine Sd_getR (pc' := 22) (dc D_Que_joins 11 rfl) rfl F_Que_9 rfl rfl ?_
      refine Sd_iconst (pc' := 23) (dc D_Que_joins 12 rfl) rfl ⟨by decide, by decide⟩ ?_
      refine Sd_iaload (pc' := 24) (dc D_Que_joins 13 rfl) rfl ?_
      refine Sd_iload_n (pc' := 25) (dc D_Que_joins 14 rfl) rfl 2 rfl rfl ?_
      refine Sd_icmp_ne (tgt := 32) (pc' := 28) (dc D_Que_joins 15 rfl) (by decide) rfl (fun _ => ?_) (fun _ => ?_)
      · refine Sd_iconst (pc' := 33) (dc D_Que_joins 18 rfl) rfl ⟨by decide, by decide⟩ ?_
        exact Sd_zret (dc D_Que_joins 19 rfl) rfl (Or.inl rfl)
      · refine Sd_iconst (pc' := 29) (dc D_Que_joins 16 rfl) rfl ⟨by decide, by decide⟩ ?_
        refine Sd_goto (tgt := 33) (dc D_Que_joins 17 rfl) (by decide) ?_
        exact Sd_zret (dc D_Que_joins 19 rfl) rfl (Or.inr rfl)
theorem K_Que_joins : MOk M_Que_joins 2 := ⟨Tb_at 132 (by decide +kernel) rfl, Tb_at 1158 (by decide +kernel) rfl, by decide +kernel, by decide +kernel, by decide +kernel⟩
theorem Ks_Que_joins : Cond.instanceMethod yX5_joins ∈ Tb := Tb_at 1156 (by decide +kernel) rfl
theorem Kv_Que_joins : Cond.selects RX5 yX5_joins yX5_joins ∈ Tb := Tb_at 1157 (by decide +kernel) rfl
