/-! ===== BatchShareModel.keepsAct()V ===== -/
abbrev M_Mod_keepsAct : AMt := (yX12_keepsAct, cX12_keepsAct, 2, none)
def T_Mod_keepsAct : List (Nat × Instr × Nat) := [(0, .aload_n 0, 1), (1, .getfield 186, 3), (4, .bipush 20, 2), (6, .if_icmp .ne 46, 3), (9, .sipush 156, 3), (12, .istore_n 1, 1), (13, .iload_n 1, 1), (14, .sipush 3120, 3), (17, .if_icmp .ge 25, 3), (20, .aload_n 0, 1), (21, .getfield 74, 3), (24, .iload_n 1, 1), (25, .sipush 156, 3), (28, .isub, 1), (29, .aload_n 0, 1), (30, .getfield 74, 3), (33, .iload_n 1, 1), (34, .iaload, 1), (35, .iastore, 1), (36, .iinc 1 1, 3), (39, .goto (-26), 3), (42, .aload_n 0, 1), (43, .dup, 1), (44, .getfield 186, 3), (47, .iconst 1, 1), (48, .isub, 1), (49, .putfield 186, 3), (52, .aload_n 0, 1), (53, .aload_n 0, 1), (54, .getfield 186, 3), (57, .iconst 0, 1), (58, .invokevirtual 441, 3), (61, .aload_n 0, 1), (62, .dup, 1), (63, .getfield 186, 3), (66, .iconst 1, 1), (67, .iadd, 1), (68, .putfield 186, 3), (71, .return_, 1)]
set_option maxRecDepth 20000 in
theorem D_Mod_keepsAct : (T_Mod_keepsAct.all fun q => decide (decode M_Mod_keepsAct.2.1 q.1 = .ok q.2)) = true := by decide +kernel
def Mod_keepsAct_L52 (v0 : Nat) (h : AH) : Option (Unit × AH) := gI h 13 v0 43 fun x1 => rc h 13 v0 <| bnd (Mod_movesAll v0 x1 0 h) fun _ h2 => gI h2 13 v0 43 fun x5 => pI h2 13 v0 43 (wr (x5 + 1)) fun h6 => some ((), h6)
set_option maxHeartbeats 4000000 in
set_option maxRecDepth 20000 in
theorem s_Mod_keepsAct_L52 (v0 : Nat) (h : AH) : Sd M_Mod_keepsAct 4 67 emV 52 [(0, vr v0)] [] h (Mod_keepsAct_L52 v0 h) := by
  unfold Mod_keepsAct_L52
  refine Sd_aload_n (pc' := 53) (dc D_Mod_keepsAct 27 rfl) rfl 0 rfl rfl ?_
  refine Sd_aload_n (pc' := 54) (dc D_Mod_keepsAct 28 rfl) rfl 0 rfl rfl ?_
  refine Sd_getI (pc' := 57) (dc D_Mod_keepsAct 29 rfl) rfl F_Mod_186 rfl rfl ?_
  refine Sd_iconst (pc' := 58) (dc D_Mod_keepsAct 30 rfl) rfl ⟨by decide, by decide⟩ ?_
  refine Sd.callVV (ci := 12) (t := 13) (as := [_, _]) RX12 (pc' := 61) (dc D_Mod_keepsAct 31 rfl) rfl rfl rfl rfl K_Mod_movesAll L_Mod_441 Ks_Mod_movesAll Kv_Mod_movesAll ⟨by decide, by decide⟩ rfl rfl (Nat.le_of_ble_eq_true rfl) (s_Mod_movesAll _ _ _ _) (fun _ h2 => ?_)
  refine Sd_aload_n (pc' := 62) (dc D_Mod_keepsAct 32 rfl) rfl 0 rfl rfl ?_
  refine Sd_dup (pc' := 63) (dc D_Mod_keepsAct 33 rfl) rfl (cat_r _) ?_
  refine Sd_getI (pc' := 66) (dc D_Mod_keepsAct 34 rfl) rfl F_Mod_186 rfl rfl ?_
  refine Sd_iconst (pc' := 67) (dc D_Mod_keepsAct 35 rfl) rfl ⟨by decide, by decide⟩ ?_
  refine Sd_iadd (pc' := 68) (dc D_Mod_keepsAct 36 rfl) rfl ?_
  refine Sd_putI (pc' := 71) (dc D_Mod_keepsAct 37 rfl) rfl F_Mod_186 rfl rfl rfl (finOk.no rfl) (by decide) ?_
  exact Sd_vret (dc D_Mod_keepsAct 38 rfl) rfl
def Mod_keepsAct_L13 : Nat → Nat → Int → AH → Option (Unit × AH)
  | 0, _, _, _ => none
  | n + 1, v0, v1, h => if (3120 : Int) ≤ v1 then (gI h 13 v0 43 fun x1 => pI h 13 v0 43 (wr (x1 - 1)) fun h2 => Mod_keepsAct_L52 v0 h2) else (gR h 13 v0 42 fun r3 => gR h 13 v0 42 fun r4 => aI h 21 r4 v1 fun x5 => wI h 21 r3 (wr (v1 - 156)) x5 fun h6 => Mod_keepsAct_L13 n v0 ((wr (v1 + 1))) h6)
set_option maxHeartbeats 4000000 in
set_option maxRecDepth 20000 in
theorem s_Mod_keepsAct_L13 : ∀ (n : Nat) (v0 : Nat) (v1 : Int) (h : AH), Sd M_Mod_keepsAct 4 67 emV 13 [(0, vr v0), (1, vi v1)] [] h (Mod_keepsAct_L13 n v0 v1 h)
  | 0, _, _, _ => Sd.none
  | n + 1, v0, v1, h => by
    rw [Mod_keepsAct_L13]
    refine Sd_iload_n (pc' := 14) (dc D_Mod_keepsAct 6 rfl) rfl 1 rfl rfl ?_
    refine Sd_sipush (pc' := 17) (dc D_Mod_keepsAct 7 rfl) rfl ⟨by decide, by decide⟩ (by decide) ?_
    refine Sd_icmp_ge (tgt := 42) (pc' := 20) (dc D_Mod_keepsAct 8 rfl) (by decide) rfl (fun _ => ?_) (fun _ => ?_)
    · refine Sd_aload_n (pc' := 43) (dc D_Mod_keepsAct 21 rfl) rfl 0 rfl rfl ?_
      refine Sd_dup (pc' := 44) (dc D_Mod_keepsAct 22 rfl) rfl (cat_r _) ?_
      refine Sd_getI (pc' := 47) (dc D_Mod_keepsAct 23 rfl) rfl F_Mod_186 rfl rfl ?_
      refine Sd_iconst (pc' := 48) (dc D_Mod_keepsAct 24 rfl) rfl ⟨by decide, by decide⟩ ?_
      refine Sd_isub (pc' := 49) (dc D_Mod_keepsAct 25 rfl) rfl ?_
      refine Sd_putI (pc' := 52) (dc D_Mod_keepsAct 26 rfl) rfl F_Mod_186 rfl rfl rfl (finOk.no rfl) (by decide) ?_
      refine Sd.sub (l' := [(0, _)]) [0] rfl ?_
      exact s_Mod_keepsAct_L52 _ _
    · refine Sd_aload_n (pc' := 21) (dc D_Mod_keepsAct 9 rfl) rfl 0 rfl rfl ?_
      refine Sd_getR (pc' := 24) (dc D_Mod_keepsAct 10 rfl) rfl F_Mod_74 rfl rfl ?_
      refine Sd_iload_n (pc' := 25) (dc D_Mod_keepsAct 11 rfl) rfl 1 rfl rfl ?_
      refine Sd_sipush (pc' := 28) (dc D_Mod_keepsAct 12 rfl) rfl ⟨by decide, by decide⟩ (by decide) ?_
      refine Sd_isub (pc' := 29) (dc D_Mod_keepsAct 13 rfl) rfl ?_
      refine Sd_aload_n (pc' := 30) (dc D_Mod_keepsAct 14 rfl) rfl 0 rfl rfl ?_
      refine Sd_getR (pc' := 33) (dc D_Mod_keepsAct 15 rfl) rfl F_Mod_74 rfl rfl ?_
      refine Sd_iload_n (pc' := 34) (dc D_Mod_keepsAct 16 rfl) rfl 1 rfl rfl ?_
      refine Sd_iaload (pc' := 35) (dc D_Mod_keepsAct 17 rfl) rfl ?_
      refine Sd_iastore (pc' := 36) (dc D_Mod_keepsAct 18 rfl) rfl (by decide) ?_
      refine Sd_iinc (pc' := 39) (l' := [(1, _), (0, _)]) (dc D_Mod_keepsAct 19 rfl) rfl 1 rfl (by decide) rfl ?_
      refine Sd_goto (tgt := 13) (dc D_Mod_keepsAct 20 rfl) (by decide) ?_
      refine Sd.sub (l' := [(0, _), (1, _)]) [1, 0] rfl ?_
      exact s_Mod_keepsAct_L13 n _ _ _
def Mod_keepsAct (v0 : Nat) (h : AH) : Option (Unit × AH) := gI h 13 v0 43 fun x1 => if ¬ (x1 : Int) = 20 then (Mod_keepsAct_L52 v0 h) else (Mod_keepsAct_L13 FU v0 156 h)
set_option maxHeartbeats 4000000 in
set_option maxRecDepth 20000 in
theorem s_Mod_keepsAct (v0 : Nat) (h : AH) : CS M_Mod_keepsAct 4 67 emV [vr v0] h (Mod_keepsAct v0 h) := by
  refine CS.of (by decide) (Nat.le_of_ble_eq_true rfl) ?_
  show Sd M_Mod_keepsAct 4 67 emV 0 [(0, vr v0)] [] h _
  unfold Mod_keepsAct
  refine Sd_aload_n (pc' := 1) (dc D_Mod_keepsAct 0 rfl) rfl 0 rfl rfl ?_
  refine Sd_getI (pc' := 4) (dc D_Mod_keepsAct 1 rfl) rfl F_Mod_186 rfl rfl ?_
  refine Sd_bipush (pc' := 6) (dc D_Mod_keepsAct 2 rfl) rfl ⟨by decide, by decide⟩ (by decide) ?_
  refine Sd_icmp_ne (tgt := 52) (pc' := 9) (dc D_Mod_keepsAct 3 rfl) (by decide) rfl (fun _ => ?_) (fun _ => ?_)
  · exact s_Mod_keepsAct_L52 _ _
  · refine Sd_sipush (pc' := 12) (dc D_Mod_keepsAct 4 rfl) rfl ⟨by decide, by decide⟩ (by decide) ?_
    refine Sd_istore_n (pc' := 13) (l' := [(1, _), (0, _)]) (dc D_Mod_keepsAct 5 rfl) rfl rfl (by decide) rfl ?_
    refine Sd.sub (l' := [(0, _), (1, _)]) [1, 0] rfl ?_
    exact s_Mod_keepsAct_L13 FU _ _ _
theorem K_Mod_keepsAct : MOk M_Mod_keepsAct 0 := ⟨Tb_at 133 (by decide +kernel) rfl, Tb_at 1754 (by decide +kernel) rfl, by decide +kernel, by decide +kernel, by decide +kernel⟩
theorem Ks_Mod_keepsAct : Cond.instanceMethod yX12_keepsAct ∈ Tb := Tb_at 1753 (by decide +kernel) rfl
theorem Kv_Mod_keepsAct : Cond.selects RX12 yX12_keepsAct yX12_keepsAct ∈ Tb := Tb_at 102 (by decide +kernel) rfl
/-! ===== BatchShareModel.putsCell(IIII)V ===== -/
abbrev M_Mod_putsCell : AMt := (yX12_putsCell, cX12_putsCell, 5, none)
def T_Mod_putsCell : List (Nat × Instr × Nat) := [(0, .iload_n 1, 1), (1, .ifCond .ne 18, 3), (4, .aload_n 0, 1), (5, .getfield 13, 3), (8, .iconst 3, 1), (9, .iload_n 2, 1), (10, .imul, 1), (11, .iload_n 3, 1), (12, .iadd, 1), (13, .iload 4, 2), (15, .iastore, 1), (16, .goto 17, 3), (19, .aload_n 0, 1), (20, .getfield 16, 3), (23, .iconst 2, 1), (24, .iload_n 2, 1), (25, .imul, 1), (26, .iload_n 3, 1), (27, .iadd, 1), (28, .iconst 3, 1), (29, .isub, 1), (30, .iload 4, 2), (32, .iastore, 1), (33, .return_, 1)]
set_option maxRecDepth 20000 in
theorem D_Mod_putsCell : (T_Mod_putsCell.all fun q => decide (decode M_Mod_putsCell.2.1 q.1 = .ok q.2)) = true := by decide +kernel
def Mod_putsCell (v0 : Nat) (v1 : Int) (v2 : Int) (v3 : Int) (v4 : Int) (h : AH) : Option (Unit × AH) := if ¬ (v1 : Int) = 0 then (gR h 13 v0 3 fun r1 => wI h 21 r1 (wr ((wr ((wr (2 * v2)) + v3)) - 3)) v4 fun h2 => some ((), h2)) else (gR h 13 v0 2 fun r3 => wI h 21 r3 (wr ((wr (3 * v2)) + v3)) v4 fun h4 => some ((), h4))
set_option maxHeartbeats 4000000 in
set_option maxRecDepth 20000 in
theorem s_Mod_putsCell (v0 : Nat) (v1 : Int) (v2 : Int) (v3 : Int) (v4 : Int) (h : AH) : CS M_Mod_putsCell 1 0 emV [vr v0, vi v1, vi v2, vi v3, vi v4] h (Mod_putsCell v0 v1 v2 v3 v4 h) := by
  refine CS.of (by decide) (Nat.le_of_ble_eq_true rfl) ?_
  show Sd M_Mod_putsCell 1 0 emV 0 [(0, vr v0), (1, vi v1), (2, vi v2), (3, vi v3), (4, vi v4)] [] h _
  unfold Mod_putsCell
  refine Sd_iload_n (pc' := 1) (dc D_Mod_putsCell 0 rfl) rfl 1 rfl rfl ?_
  refine Sd_if_ne (tgt := 19) (pc' := 4) (dc D_Mod_putsCell 1 rfl) (by decide) rfl (fun _ => ?_) (fun _ => ?_)
  · refine Sd_aload_n (pc' := 20) (dc D_Mod_putsCell 12 rfl) rfl 0 rfl rfl ?_
    refine Sd_getR (pc' := 23) (dc D_Mod_putsCell 13 rfl) rfl F_Mod_16 rfl rfl ?_
    refine Sd_iconst (pc' := 24) (dc D_Mod_putsCell 14 rfl) rfl ⟨by decide, by decide⟩ ?_
    refine Sd_iload_n (pc' := 25) (dc D_Mod_putsCell 15 rfl) rfl 2 rfl rfl ?_
    refine Sd_imul (pc' := 26) (dc D_Mod_putsCell 16 rfl) rfl ?_
    refine Sd_iload_n (pc' := 27) (dc D_Mod_putsCell 17 rfl) rfl 3 rfl rfl ?_
    refine Sd_iadd (pc' := 28) (dc D_Mod_putsCell 18 rfl) rfl ?_
    refine Sd_iconst (pc' := 29) (dc D_Mod_putsCell 19 rfl) rfl ⟨by decide, by decide⟩ ?_
    refine Sd_isub (pc' := 30) (dc D_Mod_putsCell 20 rfl) rfl ?_
    refine Sd_iload (pc' := 32) (dc D_Mod_putsCell 21 rfl) rfl 4 rfl ?_
    refine Sd_iastore (pc' := 33) (dc D_Mod_putsCell 22 rfl) rfl (by decide) ?_
    exact Sd_vret (dc D_Mod_putsCell 23 rfl) rfl
  · refine Sd_aload_n (pc' := 5) (dc D_Mod_putsCell 2 rfl) rfl 0 rfl rfl ?_
    refine Sd_getR (pc' := 8) (dc D_Mod_putsCell 3 rfl) rfl F_Mod_13 rfl rfl ?_
    refine Sd_iconst (pc' := 9) (dc D_Mod_putsCell 4 rfl) rfl ⟨by decide, by decide⟩ ?_
    refine Sd_iload_n (pc' := 10) (dc D_Mod_putsCell 5 rfl) rfl 2 rfl rfl ?_
    refine Sd_imul (pc' := 11) (dc D_Mod_putsCell 6 rfl) rfl ?_
    refine Sd_iload_n (pc' := 12) (dc D_Mod_putsCell 7 rfl) rfl 3 rfl rfl ?_
    refine Sd_iadd (pc' := 13) (dc D_Mod_putsCell 8 rfl) rfl ?_
    refine Sd_iload (pc' := 15) (dc D_Mod_putsCell 9 rfl) rfl 4 rfl ?_
    refine Sd_iastore (pc' := 16) (dc D_Mod_putsCell 10 rfl) rfl (by decide) ?_
    refine Sd_goto (tgt := 33) (dc D_Mod_putsCell 11 rfl) (by decide) ?_
    exact Sd_vret (dc D_Mod_putsCell 23 rfl) rfl
theorem K_Mod_putsCell : MOk M_Mod_putsCell 4 := ⟨Tb_at 133 (by decide +kernel) rfl, Tb_at 1758 (by decide +kernel) rfl, by decide +kernel, by decide +kernel, by decide +kernel⟩
theorem Ks_Mod_putsCell : Cond.instanceMethod yX12_putsCell ∈ Tb := Tb_at 1757 (by decide +kernel) rfl
theorem Kv_Mod_putsCell : Cond.selects RX12 yX12_putsCell yX12_putsCell ∈ Tb := Tb_at 103 (by decide +kernel) rfl
/-! ===== BatchShareModel.turnsStale(II)V ===== -/
abbrev M_Mod_turnsStale : AMt := (yX12_turnsStale, cX12_turnsStale, 6, none)
def T_Mod_turnsStale : List (Nat × Instr × Nat) := [(0, .iconst 0, 1), (1, .istore_n 3, 1), (2, .iload_n 3, 1), (3, .aload_n 0, 1), (4, .getfield 9, 3), (7, .iconst 5, 1), (8, .iaload, 1), (9, .if_icmp .ge 82, 3), (12, .bipush 16, 2), (14, .iload_n 3, 1), (15, .imul, 1), (16, .istore 4, 2), (18, .aload_n 0, 1), (19, .getfield 25, 3), (22, .iload 4, 2), (24, .iaload, 1), (25, .iconst 2, 1), (26, .if_icmp .eq 14, 3), (29, .aload_n 0, 1), (30, .getfield 25, 3), (33, .iload 4, 2), (35, .iaload, 1), (36, .iload_n 1, 1), (37, .if_icmp .ne 7, 3), (40, .iconst 1, 1), (41, .goto 4, 3), (44, .iconst 0, 1), (45, .istore 5, 2), (47, .aload_n 0, 1), (48, .getfield 25, 3), (51, .iload 4, 2), (53, .bipush 15, 2), (55, .iadd, 1), (56, .dup2, 1), (57, .iaload, 1), (58, .iload 5, 2), (60, .ifCond .eq 22, 3), (63, .aload_n 0, 1), (64, .aload_n 0, 1), (65, .getfield 25, 3), (68, .iload 4, 2), (70, .iload_n 1, 1), (71, .iload_n 2, 1), (72, .invokevirtual 292, 3), (75, .ifCond .eq 7, 3), (78, .iconst 1, 1), (79, .goto 4, 3), (82, .iconst 0, 1), (83, .ior, 1), (84, .iastore, 1), (85, .iinc 3 1, 3), (88, .goto (-86), 3), (91, .return_, 1)]
set_option maxRecDepth 20000 in
theorem D_Mod_turnsStale : (T_Mod_turnsStale.all fun q => decide (decode M_Mod_turnsStale.2.1 q.1 = .ok q.2)) = true := by decide +kernel
def Mod_turnsStale_L45 (k2 : Nat → Int → Int → Int → AH → Option (Unit × AH)) (v0 : Nat) (v1 : Int) (v2 : Int) (v3 : Int) (v4 : Int) (s0 : Int) (h : AH) : Option (Unit × AH) := gR h 13 v0 9 fun r1 => aI h 21 r1 (wr (v4 + 15)) fun x2 => if (s0 : Int) = 0 then (wI h 21 r1 (wr (v4 + 15)) (iOr x2 0) fun h3 => k2 v0 v1 v2 ((wr (v3 + 1))) h3) else (gR h 13 v0 9 fun r4 => rc h 13 v0 <| bnd (Mod_isInPart v0 r4 v4 v1 v2 h) fun x6 h5 => if (x6 : Int) = 0 then (wI h5 21 r1 (wr (v4 + 15)) (iOr x2 0) fun h8 => k2 v0 v1 v2 ((wr (v3 + 1))) h8) else (wI h5 21 r1 (wr (v4 + 15)) (iOr x2 1) fun h9 => k2 v0 v1 v2 ((wr (v3 + 1))) h9))
set_option maxHeartbeats 4000000 in
set_option maxRecDepth 20000 in
theorem s_Mod_turnsStale_L45 (k2 : Nat → Int → Int → Int → AH → Option (Unit × AH)) (hk2 : ∀ v0 v1 v2 v3 h, Sd M_Mod_turnsStale 3 52 emV 2 [(0, vr v0), (1, vi v1), (2, vi v2), (3, vi v3)] [] h (k2 v0 v1 v2 v3 h)) (v0 : Nat) (v1 : Int) (v2 : Int) (v3 : Int) (v4 : Int) (s0 : Int) (h : AH) : Sd M_Mod_turnsStale 3 52 emV 45 [(0, vr v0), (1, vi v1), (2, vi v2), (3, vi v3), (4, vi v4)] [vi s0] h (Mod_turnsStale_L45 k2 v0 v1 v2 v3 v4 s0 h) := by
  unfold Mod_turnsStale_L45
  refine Sd_istore (pc' := 47) (l' := [(5, _), (0, _), (1, _), (2, _), (3, _), (4, _)]) (dc D_Mod_turnsStale 27 rfl) rfl (by decide) rfl ?_
  refine Sd_aload_n (pc' := 48) (dc D_Mod_turnsStale 28 rfl) rfl 1 rfl rfl ?_
  refine Sd_getR (pc' := 51) (dc D_Mod_turnsStale 29 rfl) rfl F_Mod_25 rfl rfl ?_
  refine Sd_iload (pc' := 53) (dc D_Mod_turnsStale 30 rfl) rfl 5 rfl ?_
  refine Sd_bipush (pc' := 55) (dc D_Mod_turnsStale 31 rfl) rfl ⟨by decide, by decide⟩ (by decide) ?_
  refine Sd_iadd (pc' := 56) (dc D_Mod_turnsStale 32 rfl) rfl ?_
  refine Sd_dup2 (pc' := 57) (dc D_Mod_turnsStale 33 rfl) rfl (cat_i _) (cat_r _) ?_
  refine Sd_iaload (pc' := 58) (dc D_Mod_turnsStale 34 rfl) rfl ?_
  refine Sd_iload (pc' := 60) (dc D_Mod_turnsStale 35 rfl) rfl 0 rfl ?_
  refine Sd_if_eq (tgt := 82) (pc' := 63) (dc D_Mod_turnsStale 36 rfl) (by decide) rfl (fun _ => ?_) (fun _ => ?_)
  · refine Sd_iconst (pc' := 83) (dc D_Mod_turnsStale 47 rfl) rfl ⟨by decide, by decide⟩ ?_
    refine Sd_ior (pc' := 84) (dc D_Mod_turnsStale 48 rfl) rfl ?_
    refine Sd_iastore (pc' := 85) (dc D_Mod_turnsStale 49 rfl) rfl (by decide) ?_
    refine Sd_iinc (pc' := 88) (l' := [(3, _), (5, _), (0, _), (1, _), (2, _), (4, _)]) (dc D_Mod_turnsStale 50 rfl) rfl 4 rfl (by decide) rfl ?_
    refine Sd_goto (tgt := 2) (dc D_Mod_turnsStale 51 rfl) (by decide) ?_
    refine Sd.sub (l' := [(0, _), (1, _), (2, _), (3, _)]) [2, 3, 4, 0] rfl ?_
    exact hk2 _ _ _ _ _
  · refine Sd_aload_n (pc' := 64) (dc D_Mod_turnsStale 37 rfl) rfl 1 rfl rfl ?_
    refine Sd_aload_n (pc' := 65) (dc D_Mod_turnsStale 38 rfl) rfl 1 rfl rfl ?_
    refine Sd_getR (pc' := 68) (dc D_Mod_turnsStale 39 rfl) rfl F_Mod_25 rfl rfl ?_
    refine Sd_iload (pc' := 70) (dc D_Mod_turnsStale 40 rfl) rfl 5 rfl ?_
    refine Sd_iload_n (pc' := 71) (dc D_Mod_turnsStale 41 rfl) rfl 2 rfl rfl ?_
    refine Sd_iload_n (pc' := 72) (dc D_Mod_turnsStale 42 rfl) rfl 3 rfl rfl ?_
    refine Sd.callVI (ci := 12) (t := 13) (as := [_, _, _, _]) RX12 (pc' := 75) (dc D_Mod_turnsStale 43 rfl) rfl rfl rfl rfl K_Mod_isInPart L_Mod_292 Ks_Mod_isInPart Kv_Mod_isInPart ⟨by decide, by decide⟩ rfl rfl (Nat.le_of_ble_eq_true rfl) (s_Mod_isInPart _ _ _ _ _ _) (fun x6 h5 => ?_)
    refine Sd_if_eq (tgt := 82) (pc' := 78) (dc D_Mod_turnsStale 44 rfl) (by decide) rfl (fun _ => ?_) (fun _ => ?_)
    · refine Sd_iconst (pc' := 83) (dc D_Mod_turnsStale 47 rfl) rfl ⟨by decide, by decide⟩ ?_
      refine Sd_ior (pc' := 84) (dc D_Mod_turnsStale 48 rfl) rfl ?_
      refine Sd_iastore (pc' := 85) (dc D_Mod_turnsStale 49 rfl) rfl (by decide) ?_
      refine Sd_iinc (pc' := 88) (l' := [(3, _), (5, _), (0, _), (1, _), (2, _), (4, _)]) (dc D_Mod_turnsStale 50 rfl) rfl 4 rfl (by decide) rfl ?_
      refine Sd_goto (tgt := 2) (dc D_Mod_turnsStale 51 rfl) (by decide) ?_
      refine Sd.sub (l' := [(0, _), (1, _), (2, _), (3, _)]) [2, 3, 4, 0] rfl ?_
      exact hk2 _ _ _ _ _
    · refine Sd_iconst (pc' := 79) (dc D_Mod_turnsStale 45 rfl) rfl ⟨by decide, by decide⟩ ?_
      refine Sd_goto (tgt := 83) (dc D_Mod_turnsStale 46 rfl) (by decide) ?_
      refine Sd_ior (pc' := 84) (dc D_Mod_turnsStale 48 rfl) rfl ?_
      refine Sd_iastore (pc' := 85) (dc D_Mod_turnsStale 49 rfl) rfl (by decide) ?_
      refine Sd_iinc (pc' := 88) (l' := [(3, _), (5, _), (0, _), (1, _), (2, _), (4, _)]) (dc D_Mod_turnsStale 50 rfl) rfl 4 rfl (by decide) rfl ?_
      refine Sd_goto (tgt := 2) (dc D_Mod_turnsStale 51 rfl) (by decide) ?_
      refine Sd.sub (l' := [(0, _), (1, _), (2, _), (3, _)]) [2, 3, 4, 0] rfl ?_
      exact hk2 _ _ _ _ _
def Mod_turnsStale_L2 : Nat → Nat → Int → Int → Int → AH → Option (Unit × AH)
  | 0, _, _, _, _, _ => none
  | n + 1, v0, v1, v2, v3, h => gR h 13 v0 1 fun r1 => aI h 21 r1 5 fun x2 => if (x2 : Int) ≤ v3 then (some ((), h)) else (gR h 13 v0 9 fun r3 => aI h 21 r3 (wr (16 * v3)) fun x4 => if (x4 : Int) = 2 then (Mod_turnsStale_L45 (Mod_turnsStale_L2 n) v0 v1 v2 v3 ((wr (16 * v3))) 1 h) else (gR h 13 v0 9 fun r5 => aI h 21 r5 (wr (16 * v3)) fun x6 => if ¬ (x6 : Int) = v1 then (Mod_turnsStale_L45 (Mod_turnsStale_L2 n) v0 v1 v2 v3 ((wr (16 * v3))) 0 h) else (Mod_turnsStale_L45 (Mod_turnsStale_L2 n) v0 v1 v2 v3 ((wr (16 * v3))) 1 h)))
set_option maxHeartbeats 4000000 in
set_option maxRecDepth 20000 in
theorem s_Mod_turnsStale_L2 : ∀ (n : Nat) (v0 : Nat) (v1 : Int) (v2 : Int) (v3 : Int) (h : AH), Sd M_Mod_turnsStale 3 52 emV 2 [(0, vr v0), (1, vi v1), (2, vi v2), (3, vi v3)] [] h (Mod_turnsStale_L2 n v0 v1 v2 v3 h)
  | 0, _, _, _, _, _ => Sd.none
  | n + 1, v0, v1, v2, v3, h => by
    rw [Mod_turnsStale_L2]
    refine Sd_iload_n (pc' := 3) (dc D_Mod_turnsStale 2 rfl) rfl 3 rfl rfl ?_
    refine Sd_aload_n (pc' := 4) (dc D_Mod_turnsStale 3 rfl) rfl 0 rfl rfl ?_
    refine Sd_getR (pc' := 7) (dc D_Mod_turnsStale 4 rfl) rfl F_Mod_9 rfl rfl ?_
    refine Sd_iconst (pc' := 8) (dc D_Mod_turnsStale 5 rfl) rfl ⟨by decide, by decide⟩ ?_
    refine Sd_iaload (pc' := 9) (dc D_Mod_turnsStale 6 rfl) rfl ?_
    refine Sd_icmp_ge (tgt := 91) (pc' := 12) (dc D_Mod_turnsStale 7 rfl) (by decide) rfl (fun _ => ?_) (fun _ => ?_)
    · exact Sd_vret (dc D_Mod_turnsStale 52 rfl) rfl
    · refine Sd_bipush (pc' := 14) (dc D_Mod_turnsStale 8 rfl) rfl ⟨by decide, by decide⟩ (by decide) ?_
      refine Sd_iload_n (pc' := 15) (dc D_Mod_turnsStale 9 rfl) rfl 3 rfl rfl ?_
      refine Sd_imul (pc' := 16) (dc D_Mod_turnsStale 10 rfl) rfl ?_
      refine Sd_istore (pc' := 18) (l' := [(4, _), (0, _), (1, _), (2, _), (3, _)]) (dc D_Mod_turnsStale 11 rfl) rfl (by decide) rfl ?_
      refine Sd_aload_n (pc' := 19) (dc D_Mod_turnsStale 12 rfl) rfl 1 rfl rfl ?_
      refine Sd_getR (pc' := 22) (dc D_Mod_turnsStale 13 rfl) rfl F_Mod_25 rfl rfl ?_
      refine Sd_iload (pc' := 24) (dc D_Mod_turnsStale 14 rfl) rfl 0 rfl ?_
      refine Sd_iaload (pc' := 25) (dc D_Mod_turnsStale 15 rfl) rfl ?_
      refine Sd_iconst (pc' := 26) (dc D_Mod_turnsStale 16 rfl) rfl ⟨by decide, by decide⟩ ?_
      refine Sd_icmp_eq (tgt := 40) (pc' := 29) (dc D_Mod_turnsStale 17 rfl) (by decide) rfl (fun _ => ?_) (fun _ => ?_)
      · refine Sd_iconst (pc' := 41) (dc D_Mod_turnsStale 24 rfl) rfl ⟨by decide, by decide⟩ ?_
        refine Sd_goto (tgt := 45) (dc D_Mod_turnsStale 25 rfl) (by decide) ?_
        refine Sd.sub (l' := [(0, _), (1, _), (2, _), (3, _), (4, _)]) [1, 2, 3, 4, 0] rfl ?_
        exact s_Mod_turnsStale_L45 (Mod_turnsStale_L2 n) (s_Mod_turnsStale_L2 n) _ _ _ _ _ _ _
      · refine Sd_aload_n (pc' := 30) (dc D_Mod_turnsStale 18 rfl) rfl 1 rfl rfl ?_
        refine Sd_getR (pc' := 33) (dc D_Mod_turnsStale 19 rfl) rfl F_Mod_25 rfl rfl ?_
        refine Sd_iload (pc' := 35) (dc D_Mod_turnsStale 20 rfl) rfl 0 rfl ?_
        refine Sd_iaload (pc' := 36) (dc D_Mod_turnsStale 21 rfl) rfl ?_
        refine Sd_iload_n (pc' := 37) (dc D_Mod_turnsStale 22 rfl) rfl 2 rfl rfl ?_
        refine Sd_icmp_ne (tgt := 44) (pc' := 40) (dc D_Mod_turnsStale 23 rfl) (by decide) rfl (fun _ => ?_) (fun _ => ?_)
        · refine Sd_iconst (pc' := 45) (dc D_Mod_turnsStale 26 rfl) rfl ⟨by decide, by decide⟩ ?_
          refine Sd.sub (l' := [(0, _), (1, _), (2, _), (3, _), (4, _)]) [1, 2, 3, 4, 0] rfl ?_
          exact s_Mod_turnsStale_L45 (Mod_turnsStale_L2 n) (s_Mod_turnsStale_L2 n) _ _ _ _ _ _ _
        · refine Sd_iconst (pc' := 41) (dc D_Mod_turnsStale 24 rfl) rfl ⟨by decide, by decide⟩ ?_
          refine Sd_goto (tgt := 45) (dc D_Mod_turnsStale 25 rfl) (by decide) ?_
          refine Sd.sub (l' := [(0, _), (1, _), (2, _), (3, _), (4, _)]) [1, 2, 3, 4, 0] rfl ?_
          exact s_Mod_turnsStale_L45 (Mod_turnsStale_L2 n) (s_Mod_turnsStale_L2 n) _ _ _ _ _ _ _
def Mod_turnsStale (v0 : Nat) (v1 : Int) (v2 : Int) (h : AH) : Option (Unit × AH) := Mod_turnsStale_L2 FU v0 v1 v2 0 h
set_option maxHeartbeats 4000000 in
set_option maxRecDepth 20000 in
theorem s_Mod_turnsStale (v0 : Nat) (v1 : Int) (v2 : Int) (h : AH) : CS M_Mod_turnsStale 3 52 emV [vr v0, vi v1, vi v2] h (Mod_turnsStale v0 v1 v2 h) := by
  refine CS.of (by decide) (Nat.le_of_ble_eq_true rfl) ?_
  show Sd M_Mod_turnsStale 3 52 emV 0 [(0, vr v0), (1, vi v1), (2, vi v2)] [] h _
  unfold Mod_turnsStale
  refine Sd_iconst (pc' := 1) (dc D_Mod_turnsStale 0 rfl) rfl ⟨by decide, by decide⟩ ?_
  refine Sd_istore_n (pc' := 2) (l' := [(3, _), (0, _), (1, _), (2, _)]) (dc D_Mod_turnsStale 1 rfl) rfl rfl (by decide) rfl ?_
  refine Sd.sub (l' := [(0, _), (1, _), (2, _), (3, _)]) [1, 2, 3, 0] rfl ?_
  exact s_Mod_turnsStale_L2 FU _ _ _ _ _
theorem K_Mod_turnsStale : MOk M_Mod_turnsStale 2 := ⟨Tb_at 133 (by decide +kernel) rfl, Tb_at 1762 (by decide +kernel) rfl, by decide +kernel, by decide +kernel, by decide +kernel⟩
theorem Ks_Mod_turnsStale : Cond.instanceMethod yX12_turnsStale ∈ Tb := Tb_at 1761 (by decide +kernel) rfl
theorem Kv_Mod_turnsStale : Cond.selects RX12 yX12_turnsStale yX12_turnsStale ∈ Tb := Tb_at 104 (by decide +kernel) rfl
/-! ===== BatchShareModel.put(IIII)I ===== -/
abbrev M_Mod_put : AMt := (yX12_put, cX12_put, 8, (some .int))
def T_Mod_put : List (Nat × Instr × Nat) := [(0, .aload_n 0, 1), (1, .invokevirtual 445, 3), (4, .ifCond .eq 59, 3), (7, .iload_n 1, 1), (8, .i2l, 1), (9, .lconst 0, 1), (10, .lconst 1, 1), (11, .invokestatic 88, 3), (14, .ifCond .eq 49, 3), (17, .iload_n 2, 1), (18, .i2l, 1), (19, .lconst 0, 1), (20, .ldc2_w 448, 3), (23, .invokestatic 88, 3), (26, .ifCond .eq 37, 3), (29, .iload_n 3, 1), (30, .i2l, 1), (31, .lconst 0, 1), (32, .ldc2_w 448, 3), (35, .invokestatic 88, 3), (38, .ifCond .eq 25, 3), (41, .iload_n 1, 1), (42, .iconst 1, 1), (43, .if_icmp .eq 16, 3), (46, .iload 4, 2), (48, .i2l, 1), (49, .lconst 0, 1), (50, .ldc2_w 448, 3), (53, .invokestatic 88, 3), (56, .ifCond .eq 7, 3), (59, .iconst 1, 1), (60, .goto 4, 3), (63, .iconst 0, 1), (64, .istore 5, 2), (66, .iload 5, 2), (68, .ifCond .eq 22, 3), (71, .aload_n 0, 1), (72, .iload_n 1, 1), (73, .invokevirtual 92, 3), (76, .iload_n 1, 1), (77, .ifCond .ne 8, 3), (80, .bipush 12, 2), (82, .goto 5, 3), (85, .bipush 8, 2), (87, .if_icmp .ne 5, 3), (90, .iconst (-1), 1), (91, .ireturn, 1), (92, .aload_n 0, 1), (93, .invokevirtual 450, 3), (96, .aload_n 0, 1), (97, .iload_n 1, 1), (98, .invokevirtual 92, 3), (101, .istore 6, 2), (103, .iload_n 1, 1), (104, .ifCond .ne 7, 3), (107, .iconst 0, 1), (108, .goto 4, 3), (111, .iconst 3, 1), (112, .istore 7, 2), (114, .aload_n 0, 1), (115, .getfield 9, 3), (118, .iload_n 1, 1), (119, .ifCond .ne 7, 3), (122, .iconst 2, 1), (123, .goto 4, 3), (126, .iconst 3, 1), (127, .dup2, 1), (128, .iaload, 1), (129, .iconst 1, 1), (130, .iadd, 1), (131, .iastore, 1), (132, .aload_n 0, 1), (133, .iload_n 1, 1), (134, .iload 6, 2), (136, .iload 7, 2), (138, .iload_n 2, 1), (139, .invokevirtual 453, 3), (142, .aload_n 0, 1), (143, .iload_n 1, 1), (144, .iload 6, 2), (146, .iload 7, 2), (148, .iconst 1, 1), (149, .iadd, 1), (150, .iload_n 3, 1), (151, .invokevirtual 453, 3), (154, .iload_n 1, 1), (155, .ifCond .ne 13, 3), (158, .aload_n 0, 1), (159, .iload_n 1, 1), (160, .iload 6, 2), (162, .iconst 2, 1), (163, .iload 4, 2), (165, .invokevirtual 453, 3), (168, .aload_n 0, 1), (169, .iload_n 1, 1), (170, .iload 6, 2), (172, .invokevirtual 457, 3), (175, .iload 6, 2), (177, .iconst 1, 1), (178, .iadd, 1), (179, .ireturn, 1)]
set_option maxRecDepth 20000 in
theorem D_Mod_put : (T_Mod_put.all fun q => decide (decode M_Mod_put.2.1 q.1 = .ok q.2)) = true := by decide +kernel
def Mod_put_L127 (v0 : Nat) (v1 : Int) (v2 : Int) (v3 : Int) (v4 : Int) (v6 : Int) (v7 : Int) (s0 : Int) (s1 : Nat) (h : AH) : Option (Int × AH) := aI h 21 s1 s0 fun x1 => wI h 21 s1 s0 (wr (x1 + 1)) fun h2 => rc h2 13 v0 <| bnd (Mod_putsCell v0 v1 v6 v7 v2 h2) fun _ h3 => rc h3 13 v0 <| bnd (Mod_putsCell v0 v1 v6 (wr (v7 + 1)) v3 h3) fun _ h6 => if ¬ (v1 : Int) = 0 then (rc h6 13 v0 <| bnd (Mod_turnsStale v0 v1 v6 h6) fun _ h9 => some ((wr (v6 + 1)), h9)) else (rc h6 13 v0 <| bnd (Mod_putsCell v0 v1 v6 2 v4 h6) fun _ h12 => rc h12 13 v0 <| bnd (Mod_turnsStale v0 v1 v6 h12) fun _ h15 => some ((wr (v6 + 1)), h15))
set_option maxHeartbeats 4000000 in
set_option maxRecDepth 20000 in
theorem s_Mod_put_L127 (v0 : Nat) (v1 : Int) (v2 : Int) (v3 : Int) (v4 : Int) (v6 : Int) (v7 : Int) (s0 : Int) (s1 : Nat) (h : AH) : Sd M_Mod_put 5 88 emI 127 [(0, vr v0), (1, vi v1), (2, vi v2), (3, vi v3), (4, vi v4), (6, vi v6), (7, vi v7)] [vi s0, vr s1] h (Mod_put_L127 v0 v1 v2 v3 v4 v6 v7 s0 s1 h) := by
  unfold Mod_put_L127
  refine Sd_dup2 (pc' := 128) (dc D_Mod_put 66 rfl) rfl (cat_i _) (cat_r _) ?_
  refine Sd_iaload (pc' := 129) (dc D_Mod_put 67 rfl) rfl ?_
  refine Sd_iconst (pc' := 130) (dc D_Mod_put 68 rfl) rfl ⟨by decide, by decide⟩ ?_
  refine Sd_iadd (pc' := 131) (dc D_Mod_put 69 rfl) rfl ?_
  refine Sd_iastore (pc' := 132) (dc D_Mod_put 70 rfl) rfl (by decide) ?_
  refine Sd_aload_n (pc' := 133) (dc D_Mod_put 71 rfl) rfl 0 rfl rfl ?_
  refine Sd_iload_n (pc' := 134) (dc D_Mod_put 72 rfl) rfl 1 rfl rfl ?_
  refine Sd_iload (pc' := 136) (dc D_Mod_put 73 rfl) rfl 5 rfl ?_
  refine Sd_iload (pc' := 138) (dc D_Mod_put 74 rfl) rfl 6 rfl ?_
  refine Sd_iload_n (pc' := 139) (dc D_Mod_put 75 rfl) rfl 2 rfl rfl ?_
  refine Sd.callVV (ci := 12) (t := 13) (as := [_, _, _, _]) RX12 (pc' := 142) (dc D_Mod_put 76 rfl) rfl rfl rfl rfl K_Mod_putsCell L_Mod_453 Ks_Mod_putsCell Kv_Mod_putsCell ⟨by decide, by decide⟩ rfl rfl (Nat.le_of_ble_eq_true rfl) (s_Mod_putsCell _ _ _ _ _ _) (fun _ h3 => ?_)
  refine Sd_aload_n (pc' := 143) (dc D_Mod_put 77 rfl) rfl 0 rfl rfl ?_
  refine Sd_iload_n (pc' := 144) (dc D_Mod_put 78 rfl) rfl 1 rfl rfl ?_
  refine Sd_iload (pc' := 146) (dc D_Mod_put 79 rfl) rfl 5 rfl ?_
  refine Sd_iload (pc' := 148) (dc D_Mod_put 80 rfl) rfl 6 rfl ?_
  refine Sd_iconst (pc' := 149) (dc D_Mod_put 81 rfl) rfl ⟨by decide, by decide⟩ ?_
  refine Sd_iadd (pc' := 150) (dc D_Mod_put 82 rfl) rfl ?_
  refine Sd_iload_n (pc' := 151) (dc D_Mod_put 83 rfl) rfl 3 rfl rfl ?_
  refine Sd.callVV (ci := 12) (t := 13) (as := [_, _, _, _]) RX12 (pc' := 154) (dc D_Mod_put 84 rfl) rfl rfl rfl rfl K_Mod_putsCell L_Mod_453 Ks_Mod_putsCell Kv_Mod_putsCell ⟨by decide, by decide⟩ rfl rfl (Nat.le_of_ble_eq_true rfl) (s_Mod_putsCell _ _ _ _ _ _) (fun _ h6 => ?_)
  refine Sd_iload_n (pc' := 155) (dc D_Mod_put 85 rfl) rfl 1 rfl rfl ?_
  refine Sd_if_ne (tgt := 168) (pc' := 158) (dc D_Mod_put 86 rfl) (by decide) rfl (fun _ => ?_) (fun _ => ?_)
  · refine Sd_aload_n (pc' := 169) (dc D_Mod_put 93 rfl) rfl 0 rfl rfl ?_
    refine Sd_iload_n (pc' := 170) (dc D_Mod_put 94 rfl) rfl 1 rfl rfl ?_
    refine Sd_iload (pc' := 172) (dc D_Mod_put 95 rfl) rfl 5 rfl ?_
    refine Sd.callVV (ci := 12) (t := 13) (as := [_, _]) RX12 (pc' := 175) (dc D_Mod_put 96 rfl) rfl rfl rfl rfl K_Mod_turnsStale L_Mod_457 Ks_Mod_turnsStale Kv_Mod_turnsStale ⟨by decide, by decide⟩ rfl rfl (Nat.le_of_ble_eq_true rfl) (s_Mod_turnsStale _ _ _ _) (fun _ h9 => ?_)
    refine Sd_iload (pc' := 177) (dc D_Mod_put 97 rfl) rfl 5 rfl ?_
    refine Sd_iconst (pc' := 178) (dc D_Mod_put 98 rfl) rfl ⟨by decide, by decide⟩ ?_
    refine Sd_iadd (pc' := 179) (dc D_Mod_put 99 rfl) rfl ?_
    exact Sd_iret (dc D_Mod_put 100 rfl) rfl
  · refine Sd_aload_n (pc' := 159) (dc D_Mod_put 87 rfl) rfl 0 rfl rfl ?_
    refine Sd_iload_n (pc' := 160) (dc D_Mod_put 88 rfl) rfl 1 rfl rfl ?_
    refine Sd_iload (pc' := 162) (dc D_Mod_put 89 rfl) rfl 5 rfl ?_
    refine Sd_iconst (pc' := 163) (dc D_Mod_put 90 rfl) rfl ⟨by decide, by decide⟩ ?_
    refine Sd_iload (pc' := 165) (dc D_Mod_put 91 rfl) rfl 4 rfl ?_
    refine Sd.callVV (ci := 12) (t := 13) (as := [_, _, _, _]) RX12 (pc' := 168) (dc D_Mod_put 92 rfl) rfl rfl rfl rfl K_Mod_putsCell L_Mod_453 Ks_Mod_putsCell Kv_Mod_putsCell ⟨by decide, by decide⟩ rfl rfl (Nat.le_of_ble_eq_true rfl) (s_Mod_putsCell _ _ _ _ _ _) (fun _ h12 => ?_)
    refine Sd_aload_n (pc' := 169) (dc D_Mod_put 93 rfl) rfl 0 rfl rfl ?_
    refine Sd_iload_n (pc' := 170) (dc D_Mod_put 94 rfl) rfl 1 rfl rfl ?_
    refine Sd_iload (pc' := 172) (dc D_Mod_put 95 rfl) rfl 5 rfl ?_
    refine Sd.callVV (ci := 12) (t := 13) (as := [_, _]) RX12 (pc' := 175) (dc D_Mod_put 96 rfl) rfl rfl rfl rfl K_Mod_turnsStale L_Mod_457 Ks_Mod_turnsStale Kv_Mod_turnsStale ⟨by decide, by decide⟩ rfl rfl (Nat.le_of_ble_eq_true rfl) (s_Mod_turnsStale _ _ _ _) (fun _ h15 => ?_)
    refine Sd_iload (pc' := 177) (dc D_Mod_put 97 rfl) rfl 5 rfl ?_
    refine Sd_iconst (pc' := 178) (dc D_Mod_put 98 rfl) rfl ⟨by decide, by decide⟩ ?_
    refine Sd_iadd (pc' := 179) (dc D_Mod_put 99 rfl) rfl ?_
    exact Sd_iret (dc D_Mod_put 100 rfl) rfl
def Mod_put_L87 (v0 : Nat) (v1 : Int) (v2 : Int) (v3 : Int) (v4 : Int) (s0 : Int) (s1 : Int) (h : AH) : Option (Int × AH) := if ¬ (s1 : Int) = s0 then (rc h 13 v0 <| bnd (Mod_keepsAct v0 h) fun _ h1 => rc h1 13 v0 <| bnd (Mod_manyOf v0 v1 h1) fun x5 h4 => if ¬ (v1 : Int) = 0 then (gR h4 13 v0 1 fun r7 => if ¬ (v1 : Int) = 0 then (Mod_put_L127 v0 v1 v2 v3 v4 x5 3 3 r7 h4) else (Mod_put_L127 v0 v1 v2 v3 v4 x5 3 2 r7 h4)) else (gR h4 13 v0 1 fun r8 => if ¬ (v1 : Int) = 0 then (Mod_put_L127 v0 v1 v2 v3 v4 x5 0 3 r8 h4) else (Mod_put_L127 v0 v1 v2 v3 v4 x5 0 2 r8 h4))) else (some ((-1), h))
set_option maxHeartbeats 4000000 in
set_option maxRecDepth 20000 in
theorem s_Mod_put_L87 (v0 : Nat) (v1 : Int) (v2 : Int) (v3 : Int) (v4 : Int) (s0 : Int) (s1 : Int) (h : AH) : Sd M_Mod_put 5 88 emI 87 [(0, vr v0), (1, vi v1), (2, vi v2), (3, vi v3), (4, vi v4)] [vi s0, vi s1] h (Mod_put_L87 v0 v1 v2 v3 v4 s0 s1 h) := by
  unfold Mod_put_L87
  refine Sd_icmp_ne (tgt := 92) (pc' := 90) (dc D_Mod_put 44 rfl) (by decide) rfl (fun _ => ?_) (fun _ => ?_)
  · refine Sd_aload_n (pc' := 93) (dc D_Mod_put 47 rfl) rfl 0 rfl rfl ?_
    refine Sd.callVV (ci := 12) (t := 13) (as := []) RX12 (pc' := 96) (dc D_Mod_put 48 rfl) rfl rfl rfl rfl K_Mod_keepsAct L_Mod_450 Ks_Mod_keepsAct Kv_Mod_keepsAct ⟨by decide, by decide⟩ rfl rfl (Nat.le_of_ble_eq_true rfl) (s_Mod_keepsAct _ _) (fun _ h1 => ?_)
    refine Sd_aload_n (pc' := 97) (dc D_Mod_put 49 rfl) rfl 0 rfl rfl ?_
    refine Sd_iload_n (pc' := 98) (dc D_Mod_put 50 rfl) rfl 1 rfl rfl ?_
    refine Sd.callVI (ci := 12) (t := 13) (as := [_]) RX12 (pc' := 101) (dc D_Mod_put 51 rfl) rfl rfl rfl rfl K_Mod_manyOf L_Mod_92 Ks_Mod_manyOf Kv_Mod_manyOf ⟨by decide, by decide⟩ rfl rfl (Nat.le_of_ble_eq_true rfl) (s_Mod_manyOf _ _ _) (fun x5 h4 => ?_)
    refine Sd_istore (pc' := 103) (l' := [(6, _), (0, _), (1, _), (2, _), (3, _), (4, _)]) (dc D_Mod_put 52 rfl) rfl (by decide) rfl ?_
    refine Sd_iload_n (pc' := 104) (dc D_Mod_put 53 rfl) rfl 2 rfl rfl ?_
    refine Sd_if_ne (tgt := 111) (pc' := 107) (dc D_Mod_put 54 rfl) (by decide) rfl (fun _ => ?_) (fun _ => ?_)
    · refine Sd_iconst (pc' := 112) (dc D_Mod_put 57 rfl) rfl ⟨by decide, by decide⟩ ?_
      refine Sd_istore (pc' := 114) (l' := [(7, _), (6, _), (0, _), (1, _), (2, _), (3, _), (4, _)]) (dc D_Mod_put 58 rfl) rfl (by decide) rfl ?_
      refine Sd_aload_n (pc' := 115) (dc D_Mod_put 59 rfl) rfl 2 rfl rfl ?_
      refine Sd_getR (pc' := 118) (dc D_Mod_put 60 rfl) rfl F_Mod_9 rfl rfl ?_
      refine Sd_iload_n (pc' := 119) (dc D_Mod_put 61 rfl) rfl 3 rfl rfl ?_
      refine Sd_if_ne (tgt := 126) (pc' := 122) (dc D_Mod_put 62 rfl) (by decide) rfl (fun _ => ?_) (fun _ => ?_)
      · refine Sd_iconst (pc' := 127) (dc D_Mod_put 65 rfl) rfl ⟨by decide, by decide⟩ ?_
        refine Sd.sub (l' := [(0, _), (1, _), (2, _), (3, _), (4, _), (6, _), (7, _)]) [2, 3, 4, 5, 6, 1, 0] rfl ?_
        exact s_Mod_put_L127 _ _ _ _ _ _ _ _ _ _
      · refine Sd_iconst (pc' := 123) (dc D_Mod_put 63 rfl) rfl ⟨by decide, by decide⟩ ?_
        refine Sd_goto (tgt := 127) (dc D_Mod_put 64 rfl) (by decide) ?_
        refine Sd.sub (l' := [(0, _), (1, _), (2, _), (3, _), (4, _), (6, _), (7, _)]) [2, 3, 4, 5, 6, 1, 0] rfl ?_
        exact s_Mod_put_L127 _ _ _ _ _ _ _ _ _ _
    · refine Sd_iconst (pc' := 108) (dc D_Mod_put 55 rfl) rfl ⟨by decide, by decide⟩ ?_
      refine Sd_goto (tgt := 112) (dc D_Mod_put 56 rfl) (by decide) ?_
      refine Sd_istore (pc' := 114) (l' := [(7, _), (6, _), (0, _), (1, _), (2, _), (3, _), (4, _)]) (dc D_Mod_put 58 rfl) rfl (by decide) rfl ?_
      refine Sd_aload_n (pc' := 115) (dc D_Mod_put 59 rfl) rfl 2 rfl rfl ?_
      refine Sd_getR (pc' := 118) (dc D_Mod_put 60 rfl) rfl F_Mod_9 rfl rfl ?_
      refine Sd_iload_n (pc' := 119) (dc D_Mod_put 61 rfl) rfl 3 rfl rfl ?_
      refine Sd_if_ne (tgt := 126) (pc' := 122) (dc D_Mod_put 62 rfl) (by decide) rfl (fun _ => ?_) (fun _ => ?_)
      · refine Sd_iconst (pc' := 127) (dc D_Mod_put 65 rfl) rfl ⟨by decide, by decide⟩ ?_
        refine Sd.sub (l' := [(0, _), (1, _), (2, _), (3, _), (4, _), (6, _), (7, _)]) [2, 3, 4, 5, 6, 1, 0] rfl ?_
        exact s_Mod_put_L127 _ _ _ _ _ _ _ _ _ _
      · refine Sd_iconst (pc' := 123) (dc D_Mod_put 63 rfl) rfl ⟨by decide, by decide⟩ ?_
        refine Sd_goto (tgt := 127) (dc D_Mod_put 64 rfl) (by decide) ?_
        refine Sd.sub (l' := [(0, _), (1, _), (2, _), (3, _), (4, _), (6, _), (7, _)]) [2, 3, 4, 5, 6, 1, 0] rfl ?_
        exact s_Mod_put_L127 _ _ _ _ _ _ _ _ _ _
  · refine Sd_iconst (pc' := 91) (dc D_Mod_put 45 rfl) rfl ⟨by decide, by decide⟩ ?_
    exact Sd_iret (dc D_Mod_put 46 rfl) rfl
def Mod_put_L64 (v0 : Nat) (v1 : Int) (v2 : Int) (v3 : Int) (v4 : Int) (s0 : Int) (h : AH) : Option (Int × AH) := if (s0 : Int) = 0 then (some ((-1), h)) else (rc h 13 v0 <| bnd (Mod_manyOf v0 v1 h) fun x2 h1 => if ¬ (v1 : Int) = 0 then (Mod_put_L87 v0 v1 v2 v3 v4 8 x2 h1) else (Mod_put_L87 v0 v1 v2 v3 v4 12 x2 h1))
set_option maxHeartbeats 4000000 in
set_option maxRecDepth 20000 in
theorem s_Mod_put_L64 (v0 : Nat) (v1 : Int) (v2 : Int) (v3 : Int) (v4 : Int) (s0 : Int) (h : AH) : Sd M_Mod_put 5 88 emI 64 [(0, vr v0), (1, vi v1), (2, vi v2), (3, vi v3), (4, vi v4)] [vi s0] h (Mod_put_L64 v0 v1 v2 v3 v4 s0 h) := by
  unfold Mod_put_L64
  refine Sd_istore (pc' := 66) (l' := [(5, _), (0, _), (1, _), (2, _), (3, _), (4, _)]) (dc D_Mod_put 33 rfl) rfl (by decide) rfl ?_
  refine Sd_iload (pc' := 68) (dc D_Mod_put 34 rfl) rfl 0 rfl ?_
  refine Sd_if_eq (tgt := 90) (pc' := 71) (dc D_Mod_put 35 rfl) (by decide) rfl (fun _ => ?_) (fun _ => ?_)
  · refine Sd_iconst (pc' := 91) (dc D_Mod_put 45 rfl) rfl ⟨by decide, by decide⟩ ?_
    exact Sd_iret (dc D_Mod_put 46 rfl) rfl
  · refine Sd_aload_n (pc' := 72) (dc D_Mod_put 36 rfl) rfl 1 rfl rfl ?_
    refine Sd_iload_n (pc' := 73) (dc D_Mod_put 37 rfl) rfl 2 rfl rfl ?_
    refine Sd.callVI (ci := 12) (t := 13) (as := [_]) RX12 (pc' := 76) (dc D_Mod_put 38 rfl) rfl rfl rfl rfl K_Mod_manyOf L_Mod_92 Ks_Mod_manyOf Kv_Mod_manyOf ⟨by decide, by decide⟩ rfl rfl (Nat.le_of_ble_eq_true rfl) (s_Mod_manyOf _ _ _) (fun x2 h1 => ?_)
    refine Sd_iload_n (pc' := 77) (dc D_Mod_put 39 rfl) rfl 2 rfl rfl ?_
    refine Sd_if_ne (tgt := 85) (pc' := 80) (dc D_Mod_put 40 rfl) (by decide) rfl (fun _ => ?_) (fun _ => ?_)
    · refine Sd_bipush (pc' := 87) (dc D_Mod_put 43 rfl) rfl ⟨by decide, by decide⟩ (by decide) ?_
      refine Sd.sub (l' := [(0, _), (1, _), (2, _), (3, _), (4, _)]) [1, 2, 3, 4, 5] rfl ?_
      exact s_Mod_put_L87 _ _ _ _ _ _ _ _
    · refine Sd_bipush (pc' := 82) (dc D_Mod_put 41 rfl) rfl ⟨by decide, by decide⟩ (by decide) ?_
      refine Sd_goto (tgt := 87) (dc D_Mod_put 42 rfl) (by decide) ?_
      refine Sd.sub (l' := [(0, _), (1, _), (2, _), (3, _), (4, _)]) [1, 2, 3, 4, 5] rfl ?_
      exact s_Mod_put_L87 _ _ _ _ _ _ _ _
def Mod_put (v0 : Nat) (v1 : Int) (v2 : Int) (v3 : Int) (v4 : Int) (h : AH) : Option (Int × AH) := rc h 13 v0 <| bnd (Mod_isBase v0 h) fun x2 h1 => if (x2 : Int) = 0 then (Mod_put_L64 v0 v1 v2 v3 v4 0 h1) else (bnd (Mod_in v1 0 1 h1) fun x5 h4 => if (x5 : Int) = 0 then (Mod_put_L64 v0 v1 v2 v3 v4 0 h4) else (bnd (Mod_in v2 0 9 h4) fun x8 h7 => if (x8 : Int) = 0 then (Mod_put_L64 v0 v1 v2 v3 v4 0 h7) else (bnd (Mod_in v3 0 9 h7) fun x11 h10 => if (x11 : Int) = 0 then (Mod_put_L64 v0 v1 v2 v3 v4 0 h10) else (if (v1 : Int) = 1 then (Mod_put_L64 v0 v1 v2 v3 v4 1 h10) else (bnd (Mod_in v4 0 9 h10) fun x14 h13 => if (x14 : Int) = 0 then (Mod_put_L64 v0 v1 v2 v3 v4 0 h13) else (Mod_put_L64 v0 v1 v2 v3 v4 1 h13))))))
set_option maxHeartbeats 4000000 in
set_option maxRecDepth 20000 in
theorem s_Mod_put (v0 : Nat) (v1 : Int) (v2 : Int) (v3 : Int) (v4 : Int) (h : AH) : CS M_Mod_put 5 88 emI [vr v0, vi v1, vi v2, vi v3, vi v4] h (Mod_put v0 v1 v2 v3 v4 h) := by
  refine CS.of (by decide) (Nat.le_of_ble_eq_true rfl) ?_
  show Sd M_Mod_put 5 88 emI 0 [(0, vr v0), (1, vi v1), (2, vi v2), (3, vi v3), (4, vi v4)] [] h _
  unfold Mod_put
  refine Sd_aload_n (pc' := 1) (dc D_Mod_put 0 rfl) rfl 0 rfl rfl ?_
  refine Sd.callVI (ci := 12) (t := 13) (as := []) RX12 (pc' := 4) (dc D_Mod_put 1 rfl) rfl rfl rfl rfl K_Mod_isBase L_Mod_445 Ks_Mod_isBase Kv_Mod_isBase ⟨by decide, by decide⟩ rfl rfl (Nat.le_of_ble_eq_true rfl) (s_Mod_isBase _ _) (fun x2 h1 => ?_)
  refine Sd_if_eq (tgt := 63) (pc' := 7) (dc D_Mod_put 2 rfl) (by decide) rfl (fun _ => ?_) (fun _ => ?_)
  · refine Sd_iconst (pc' := 64) (dc D_Mod_put 32 rfl) rfl ⟨by decide, by decide⟩ ?_
    exact s_Mod_put_L64 _ _ _ _ _ _ _
  · refine Sd_iload_n (pc' := 8) (dc D_Mod_put 3 rfl) rfl 1 rfl rfl ?_
    refine Sd_i2l (pc' := 9) (dc D_Mod_put 4 rfl) rfl ?_
    refine Sd_lconst (z := 0) (pc' := 10) (dc D_Mod_put 5 rfl) rfl ⟨by decide, by decide⟩ (by decide) ?_
    refine Sd_lconst (z := 1) (pc' := 11) (dc D_Mod_put 6 rfl) rfl ⟨by decide, by decide⟩ (by decide) ?_
    refine Sd.callSI (as := [_, _, _]) (pc' := 14) (dc D_Mod_put 7 rfl) rfl K_Mod_in L_Mod_88 Ks_Mod_in ⟨by decide, by decide⟩ rfl rfl (Nat.le_of_ble_eq_true rfl) (s_Mod_in _ _ _ _) (fun x5 h4 => ?_)
    refine Sd_if_eq (tgt := 63) (pc' := 17) (dc D_Mod_put 8 rfl) (by decide) rfl (fun _ => ?_) (fun _ => ?_)
    · refine Sd_iconst (pc' := 64) (dc D_Mod_put 32 rfl) rfl ⟨by decide, by decide⟩ ?_
      exact s_Mod_put_L64 _ _ _ _ _ _ _
    · refine Sd_iload_n (pc' := 18) (dc D_Mod_put 9 rfl) rfl 2 rfl rfl ?_
      refine Sd_i2l (pc' := 19) (dc D_Mod_put 10 rfl) rfl ?_
      refine Sd_lconst (z := 0) (pc' := 20) (dc D_Mod_put 11 rfl) rfl ⟨by decide, by decide⟩ (by decide) ?_
      refine Sd_ldc2 (n := 9) (pc' := 23) (dc D_Mod_put 12 rfl) rfl ⟨by decide, by decide⟩ Q_Mod_448 ?_
      refine Sd.callSI (as := [_, _, _]) (pc' := 26) (dc D_Mod_put 13 rfl) rfl K_Mod_in L_Mod_88 Ks_Mod_in ⟨by decide, by decide⟩ rfl rfl (Nat.le_of_ble_eq_true rfl) (s_Mod_in _ _ _ _) (fun x8 h7 => ?_)
      refine Sd_if_eq (tgt := 63) (pc' := 29) (dc D_Mod_put 14 rfl) (by decide) rfl (fun _ => ?_) (fun _ => ?_)
      · refine Sd_iconst (pc' := 64) (dc D_Mod_put 32 rfl) rfl ⟨by decide, by decide⟩ ?_
        exact s_Mod_put_L64 _ _ _ _ _ _ _
      · refine Sd_iload_n (pc' := 30) (dc D_Mod_put 15 rfl) rfl 3 rfl rfl ?_
        refine Sd_i2l (pc' := 31) (dc D_Mod_put 16 rfl) rfl ?_
        refine Sd_lconst (z := 0) (pc' := 32) (dc D_Mod_put 17 rfl) rfl ⟨by decide, by decide⟩ (by decide) ?_
        refine Sd_ldc2 (n := 9) (pc' := 35) (dc D_Mod_put 18 rfl) rfl ⟨by decide, by decide⟩ Q_Mod_448 ?_
        refine Sd.callSI (as := [_, _, _]) (pc' := 38) (dc D_Mod_put 19 rfl) rfl K_Mod_in L_Mod_88 Ks_Mod_in ⟨by decide, by decide⟩ rfl rfl (Nat.le_of_ble_eq_true rfl) (s_Mod_in _ _ _ _) (fun x11 h10 => ?_)
        refine Sd_if_eq (tgt := 63) (pc' := 41) (dc D_Mod_put 20 rfl) (by decide) rfl (fun _ => ?_) (fun _ => ?_)
        · refine Sd_iconst (pc' := 64) (dc D_Mod_put 32 rfl) rfl ⟨by decide, by decide⟩ ?_
          exact s_Mod_put_L64 _ _ _ _ _ _ _
        · refine Sd_iload_n (pc' := 42) (dc D_Mod_put 21 rfl) rfl 1 rfl rfl ?_
          refine Sd_iconst (pc' := 43) (dc D_Mod_put 22 rfl) rfl ⟨by decide, by decide⟩ ?_
          refine Sd_icmp_eq (tgt := 59) (pc' := 46) (dc D_Mod_put 23 rfl) (by decide) rfl (fun _ => ?_) (fun _ => ?_)
          · refine Sd_iconst (pc' := 60) (dc D_Mod_put 30 rfl) rfl ⟨by decide, by decide⟩ ?_
            refine Sd_goto (tgt := 64) (dc D_Mod_put 31 rfl) (by decide) ?_
            exact s_Mod_put_L64 _ _ _ _ _ _ _
          · refine Sd_iload (pc' := 48) (dc D_Mod_put 24 rfl) rfl 4 rfl ?_
            refine Sd_i2l (pc' := 49) (dc D_Mod_put 25 rfl) rfl ?_
            refine Sd_lconst (z := 0) (pc' := 50) (dc D_Mod_put 26 rfl) rfl ⟨by decide, by decide⟩ (by decide) ?_
            refine Sd_ldc2 (n := 9) (pc' := 53) (dc D_Mod_put 27 rfl) rfl ⟨by decide, by decide⟩ Q_Mod_448 ?_
            refine Sd.callSI (as := [_, _, _]) (pc' := 56) (dc D_Mod_put 28 rfl) rfl K_Mod_in L_Mod_88 Ks_Mod_in ⟨by decide, by decide⟩ rfl rfl (Nat.le_of_ble_eq_true rfl) (s_Mod_in _ _ _ _) (fun x14 h13 => ?_)
            refine Sd_if_eq (tgt := 63) (pc' := 59) (dc D_Mod_put 29 rfl) (by decide) rfl (fun _ => ?_) (fun _ => ?_)
            · refine Sd_iconst (pc' := 64) (dc D_Mod_put 32 rfl) rfl ⟨by decide, by decide⟩ ?_
              exact s_Mod_put_L64 _ _ _ _ _ _ _
            · refine Sd_iconst (pc' := 60) (dc D_Mod_put 30 rfl) rfl ⟨by decide, by decide⟩ ?_
              refine Sd_goto (tgt := 64) (dc D_Mod_put 31 rfl) (by decide) ?_
              exact s_Mod_put_L64 _ _ _ _ _ _ _
theorem K_Mod_put : MOk M_Mod_put 4 := ⟨Tb_at 133 (by decide +kernel) rfl, Tb_at 1745 (by decide +kernel) rfl, by decide +kernel, by decide +kernel, by decide +kernel⟩
theorem Ks_Mod_put : Cond.instanceMethod yX12_put ∈ Tb := Tb_at 1743 (by decide +kernel) rfl
theorem Kv_Mod_put : Cond.selects RX12 yX12_put yX12_put ∈ Tb := Tb_at 1744 (by decide +kernel) rfl
/-! ===== BatchShareModel.remove(II)I ===== -/
abbrev M_Mod_remove : AMt := (yX12_remove, cX12_remove, 5, (some .int))
def T_Mod_remove : List (Nat × Instr × Nat) := [(0, .aload_n 0, 1), (1, .iload_n 1, 1), (2, .iload_n 2, 1), (3, .invokevirtual 243, 3), (6, .ifCond .ne 5, 3), (9, .iconst (-1), 1), (10, .ireturn, 1), (11, .aload_n 0, 1), (12, .invokevirtual 450, 3), (15, .aload_n 0, 1), (16, .iload_n 1, 1), (17, .iload_n 2, 1), (18, .invokevirtual 457, 3), (21, .aload_n 0, 1), (22, .getfield 9, 3), (25, .iload_n 1, 1), (26, .ifCond .ne 7, 3), (29, .iconst 2, 1), (30, .goto 4, 3), (33, .iconst 3, 1), (34, .dup2, 1), (35, .iaload, 1), (36, .iconst 1, 1), (37, .isub, 1), (38, .iastore, 1), (39, .iload_n 2, 1), (40, .istore_n 3, 1), (41, .iload_n 3, 1), (42, .aload_n 0, 1), (43, .iload_n 1, 1), (44, .invokevirtual 92, 3), (47, .if_icmp .ge 57, 3), (50, .iload_n 1, 1), (51, .ifCond .ne 7, 3), (54, .iconst 0, 1), (55, .goto 4, 3), (58, .iconst 3, 1), (59, .istore 4, 2), (61, .iload 4, 2), (63, .iload_n 1, 1), (64, .ifCond .ne 7, 3), (67, .iconst 3, 1), (68, .goto 4, 3), (71, .iconst 5, 1), (72, .if_icmp .ge 26, 3), (75, .aload_n 0, 1), (76, .iload_n 1, 1), (77, .iload_n 3, 1), (78, .iload 4, 2), (80, .aload_n 0, 1), (81, .iload_n 3, 1), (82, .iconst 1, 1), (83, .iadd, 1), (84, .iload 4, 2), (86, .invokevirtual 252, 3), (89, .invokevirtual 453, 3), (92, .iinc 4 1, 3), (95, .goto (-34), 3), (98, .iinc 3 1, 3), (101, .goto (-60), 3), (104, .aload_n 0, 1), (105, .iload_n 1, 1), (106, .invokevirtual 92, 3), (109, .ireturn, 1)]
set_option maxRecDepth 20000 in
theorem D_Mod_remove : (T_Mod_remove.all fun q => decide (decode M_Mod_remove.2.1 q.1 = .ok q.2)) = true := by decide +kernel
def Mod_remove_L72 (k41 : Nat → Int → Int → AH → Option (Int × AH)) (k61 : Nat → Int → Int → Int → AH → Option (Int × AH)) (v0 : Nat) (v1 : Int) (v3 : Int) (v4 : Int) (s0 : Int) (s1 : Int) (h : AH) : Option (Int × AH) := if (s0 : Int) ≤ s1 then (k41 v0 v1 ((wr (v3 + 1))) h) else (rc h 13 v0 <| bnd (Mod_numberAt v0 (wr (v3 + 1)) v4 h) fun x2 h1 => rc h1 13 v0 <| bnd (Mod_putsCell v0 v1 v3 v4 x2 h1) fun _ h4 => k61 v0 v1 v3 ((wr (v4 + 1))) h4)
set_option maxHeartbeats 4000000 in
set_option maxRecDepth 20000 in
theorem s_Mod_remove_L72 (k41 : Nat → Int → Int → AH → Option (Int × AH)) (hk41 : ∀ v0 v1 v3 h, Sd M_Mod_remove 5 88 emI 41 [(0, vr v0), (1, vi v1), (3, vi v3)] [] h (k41 v0 v1 v3 h)) (k61 : Nat → Int → Int → Int → AH → Option (Int × AH)) (hk61 : ∀ v0 v1 v3 v4 h, Sd M_Mod_remove 5 88 emI 61 [(0, vr v0), (1, vi v1), (3, vi v3), (4, vi v4)] [] h (k61 v0 v1 v3 v4 h)) (v0 : Nat) (v1 : Int) (v3 : Int) (v4 : Int) (s0 : Int) (s1 : Int) (h : AH) : Sd M_Mod_remove 5 88 emI 72 [(0, vr v0), (1, vi v1), (3, vi v3), (4, vi v4)] [vi s0, vi s1] h (Mod_remove_L72 k41 k61 v0 v1 v3 v4 s0 s1 h) := by
  unfold Mod_remove_L72
  refine Sd_icmp_ge (tgt := 98) (pc' := 75) (dc D_Mod_remove 44 rfl) (by decide) rfl (fun _ => ?_) (fun _ => ?_)
  · refine Sd_iinc (pc' := 101) (l' := [(3, _), (0, _), (1, _), (4, _)]) (dc D_Mod_remove 58 rfl) rfl 2 rfl (by decide) rfl ?_
    refine Sd_goto (tgt := 41) (dc D_Mod_remove 59 rfl) (by decide) ?_
    refine Sd.sub (l' := [(0, _), (1, _), (3, _)]) [1, 2, 0] rfl ?_
    exact hk41 _ _ _ _
  · refine Sd_aload_n (pc' := 76) (dc D_Mod_remove 45 rfl) rfl 0 rfl rfl ?_
    refine Sd_iload_n (pc' := 77) (dc D_Mod_remove 46 rfl) rfl 1 rfl rfl ?_
    refine Sd_iload_n (pc' := 78) (dc D_Mod_remove 47 rfl) rfl 2 rfl rfl ?_
    refine Sd_iload (pc' := 80) (dc D_Mod_remove 48 rfl) rfl 3 rfl ?_
    refine Sd_aload_n (pc' := 81) (dc D_Mod_remove 49 rfl) rfl 0 rfl rfl ?_
    refine Sd_iload_n (pc' := 82) (dc D_Mod_remove 50 rfl) rfl 2 rfl rfl ?_
    refine Sd_iconst (pc' := 83) (dc D_Mod_remove 51 rfl) rfl ⟨by decide, by decide⟩ ?_
    refine Sd_iadd (pc' := 84) (dc D_Mod_remove 52 rfl) rfl ?_
    refine Sd_iload (pc' := 86) (dc D_Mod_remove 53 rfl) rfl 3 rfl ?_
    refine Sd.callVI (ci := 12) (t := 13) (as := [_, _]) RX12 (pc' := 89) (dc D_Mod_remove 54 rfl) rfl rfl rfl rfl K_Mod_numberAt L_Mod_252 Ks_Mod_numberAt Kv_Mod_numberAt ⟨by decide, by decide⟩ rfl rfl (Nat.le_of_ble_eq_true rfl) (s_Mod_numberAt _ _ _ _) (fun x2 h1 => ?_)
    refine Sd.callVV (ci := 12) (t := 13) (as := [_, _, _, _]) RX12 (pc' := 92) (dc D_Mod_remove 55 rfl) rfl rfl rfl rfl K_Mod_putsCell L_Mod_453 Ks_Mod_putsCell Kv_Mod_putsCell ⟨by decide, by decide⟩ rfl rfl (Nat.le_of_ble_eq_true rfl) (s_Mod_putsCell _ _ _ _ _ _) (fun _ h4 => ?_)
    refine Sd_iinc (pc' := 95) (l' := [(4, _), (0, _), (1, _), (3, _)]) (dc D_Mod_remove 56 rfl) rfl 3 rfl (by decide) rfl ?_
    refine Sd_goto (tgt := 61) (dc D_Mod_remove 57 rfl) (by decide) ?_
    refine Sd.sub (l' := [(0, _), (1, _), (3, _), (4, _)]) [1, 2, 3, 0] rfl ?_
    exact hk61 _ _ _ _ _
def Mod_remove_L61 (k41 : Nat → Int → Int → AH → Option (Int × AH)) : Nat → Nat → Int → Int → Int → AH → Option (Int × AH)
  | 0, _, _, _, _, _ => none
  | n + 1, v0, v1, v3, v4, h => if ¬ (v1 : Int) = 0 then (Mod_remove_L72 k41 (Mod_remove_L61 k41 n) v0 v1 v3 v4 5 v4 h) else (Mod_remove_L72 k41 (Mod_remove_L61 k41 n) v0 v1 v3 v4 3 v4 h)
set_option maxHeartbeats 4000000 in
set_option maxRecDepth 20000 in
theorem s_Mod_remove_L61 (k41 : Nat → Int → Int → AH → Option (Int × AH)) (hk41 : ∀ v0 v1 v3 h, Sd M_Mod_remove 5 88 emI 41 [(0, vr v0), (1, vi v1), (3, vi v3)] [] h (k41 v0 v1 v3 h)) : ∀ (n : Nat) (v0 : Nat) (v1 : Int) (v3 : Int) (v4 : Int) (h : AH), Sd M_Mod_remove 5 88 emI 61 [(0, vr v0), (1, vi v1), (3, vi v3), (4, vi v4)] [] h (Mod_remove_L61 k41 n v0 v1 v3 v4 h)
  | 0, _, _, _, _, _ => Sd.none
  | n + 1, v0, v1, v3, v4, h => by
    rw [Mod_remove_L61]
    refine Sd_iload (pc' := 63) (dc D_Mod_remove 38 rfl) rfl 3 rfl ?_
    refine Sd_iload_n (pc' := 64) (dc D_Mod_remove 39 rfl) rfl 1 rfl rfl ?_
    refine Sd_if_ne (tgt := 71) (pc' := 67) (dc D_Mod_remove 40 rfl) (by decide) rfl (fun _ => ?_) (fun _ => ?_)
    · refine Sd_iconst (pc' := 72) (dc D_Mod_remove 43 rfl) rfl ⟨by decide, by decide⟩ ?_
      exact s_Mod_remove_L72 k41 hk41 (Mod_remove_L61 k41 n) (s_Mod_remove_L61 k41 hk41 n) _ _ _ _ _ _ _
    · refine Sd_iconst (pc' := 68) (dc D_Mod_remove 41 rfl) rfl ⟨by decide, by decide⟩ ?_
      refine Sd_goto (tgt := 72) (dc D_Mod_remove 42 rfl) (by decide) ?_
      exact s_Mod_remove_L72 k41 hk41 (Mod_remove_L61 k41 n) (s_Mod_remove_L61 k41 hk41 n) _ _ _ _ _ _ _
def Mod_remove_L41 : Nat → Nat → Int → Int → AH → Option (Int × AH)
  | 0, _, _, _, _ => none
  | n + 1, v0, v1, v3, h => rc h 13 v0 <| bnd (Mod_manyOf v0 v1 h) fun x2 h1 => if (x2 : Int) ≤ v3 then (rc h1 13 v0 <| bnd (Mod_manyOf v0 v1 h1) fun x5 h4 => some (x5, h4)) else (if ¬ (v1 : Int) = 0 then (Mod_remove_L61 (Mod_remove_L41 n) FU v0 v1 v3 3 h1) else (Mod_remove_L61 (Mod_remove_L41 n) FU v0 v1 v3 0 h1))
set_option maxHeartbeats 4000000 in
set_option maxRecDepth 20000 in
theorem s_Mod_remove_L41 : ∀ (n : Nat) (v0 : Nat) (v1 : Int) (v3 : Int) (h : AH), Sd M_Mod_remove 5 88 emI 41 [(0, vr v0), (1, vi v1), (3, vi v3)] [] h (Mod_remove_L41 n v0 v1 v3 h)
  | 0, _, _, _, _ => Sd.none
  | n + 1, v0, v1, v3, h => by
    rw [Mod_remove_L41]
    refine Sd_iload_n (pc' := 42) (dc D_Mod_remove 27 rfl) rfl 2 rfl rfl ?_
    refine Sd_aload_n (pc' := 43) (dc D_Mod_remove 28 rfl) rfl 0 rfl rfl ?_
    refine Sd_iload_n (pc' := 44) (dc D_Mod_remove 29 rfl) rfl 1 rfl rfl ?_
    refine Sd.callVI (ci := 12) (t := 13) (as := [_]) RX12 (pc' := 47) (dc D_Mod_remove 30 rfl) rfl rfl rfl rfl K_Mod_manyOf L_Mod_92 Ks_Mod_manyOf Kv_Mod_manyOf ⟨by decide, by decide⟩ rfl rfl (Nat.le_of_ble_eq_true rfl) (s_Mod_manyOf _ _ _) (fun x2 h1 => ?_)
    refine Sd_icmp_ge (tgt := 104) (pc' := 50) (dc D_Mod_remove 31 rfl) (by decide) rfl (fun _ => ?_) (fun _ => ?_)
    · refine Sd_aload_n (pc' := 105) (dc D_Mod_remove 60 rfl) rfl 0 rfl rfl ?_
      refine Sd_iload_n (pc' := 106) (dc D_Mod_remove 61 rfl) rfl 1 rfl rfl ?_
      refine Sd.callVI (ci := 12) (t := 13) (as := [_]) RX12 (pc' := 109) (dc D_Mod_remove 62 rfl) rfl rfl rfl rfl K_Mod_manyOf L_Mod_92 Ks_Mod_manyOf Kv_Mod_manyOf ⟨by decide, by decide⟩ rfl rfl (Nat.le_of_ble_eq_true rfl) (s_Mod_manyOf _ _ _) (fun x5 h4 => ?_)
      exact Sd_iret (dc D_Mod_remove 63 rfl) rfl
    · refine Sd_iload_n (pc' := 51) (dc D_Mod_remove 32 rfl) rfl 1 rfl rfl ?_
      refine Sd_if_ne (tgt := 58) (pc' := 54) (dc D_Mod_remove 33 rfl) (by decide) rfl (fun _ => ?_) (fun _ => ?_)
      · refine Sd_iconst (pc' := 59) (dc D_Mod_remove 36 rfl) rfl ⟨by decide, by decide⟩ ?_
        refine Sd_istore (pc' := 61) (l' := [(4, _), (0, _), (1, _), (3, _)]) (dc D_Mod_remove 37 rfl) rfl (by decide) rfl ?_
        refine Sd.sub (l' := [(0, _), (1, _), (3, _), (4, _)]) [1, 2, 3, 0] rfl ?_
        exact s_Mod_remove_L61 (Mod_remove_L41 n) (s_Mod_remove_L41 n) FU _ _ _ _ _
      · refine Sd_iconst (pc' := 55) (dc D_Mod_remove 34 rfl) rfl ⟨by decide, by decide⟩ ?_
        refine Sd_goto (tgt := 59) (dc D_Mod_remove 35 rfl) (by decide) ?_
        refine Sd_istore (pc' := 61) (l' := [(4, _), (0, _), (1, _), (3, _)]) (dc D_Mod_remove 37 rfl) rfl (by decide) rfl ?_
        refine Sd.sub (l' := [(0, _), (1, _), (3, _), (4, _)]) [1, 2, 3, 0] rfl ?_
        exact s_Mod_remove_L61 (Mod_remove_L41 n) (s_Mod_remove_L41 n) FU _ _ _ _ _
def Mod_remove (v0 : Nat) (v1 : Int) (v2 : Int) (h : AH) : Option (Int × AH) := rc h 13 v0 <| bnd (Mod_isRow v0 v1 v2 h) fun x2 h1 => if ¬ (x2 : Int) = 0 then (rc h1 13 v0 <| bnd (Mod_keepsAct v0 h1) fun _ h4 => rc h4 13 v0 <| bnd (Mod_turnsStale v0 v1 v2 h4) fun _ h7 => gR h7 13 v0 1 fun r10 => if ¬ (v1 : Int) = 0 then (aI h7 21 r10 3 fun x11 => wI h7 21 r10 3 (wr (x11 - 1)) fun h12 => Mod_remove_L41 FU v0 v1 v2 h12) else (aI h7 21 r10 2 fun x13 => wI h7 21 r10 2 (wr (x13 - 1)) fun h14 => Mod_remove_L41 FU v0 v1 v2 h14)) else (some ((-1), h1))
set_option maxHeartbeats 4000000 in
set_option maxRecDepth 20000 in
theorem s_Mod_remove (v0 : Nat) (v1 : Int) (v2 : Int) (h : AH) : CS M_Mod_remove 5 88 emI [vr v0, vi v1, vi v2] h (Mod_remove v0 v1 v2 h) := by
  refine CS.of (by decide) (Nat.le_of_ble_eq_true rfl) ?_
  show Sd M_Mod_remove 5 88 emI 0 [(0, vr v0), (1, vi v1), (2, vi v2)] [] h _
  unfold Mod_remove
  refine Sd_aload_n (pc' := 1) (dc D_Mod_remove 0 rfl) rfl 0 rfl rfl ?_
  refine Sd_iload_n (pc' := 2) (dc D_Mod_remove 1 rfl) rfl 1 rfl rfl ?_
  refine Sd_iload_n (pc' := 3) (dc D_Mod_remove 2 rfl) rfl 2 rfl rfl ?_
  refine Sd.callVI (ci := 12) (t := 13) (as := [_, _]) RX12 (pc' := 6) (dc D_Mod_remove 3 rfl) rfl rfl rfl rfl K_Mod_isRow L_Mod_243 Ks_Mod_isRow Kv_Mod_isRow ⟨by decide, by decide⟩ rfl rfl (Nat.le_of_ble_eq_true rfl) (s_Mod_isRow _ _ _ _) (fun x2 h1 => ?_)
  refine Sd_if_ne (tgt := 11) (pc' := 9) (dc D_Mod_remove 4 rfl) (by decide) rfl (fun _ => ?_) (fun _ => ?_)
  · refine Sd_aload_n (pc' := 12) (dc D_Mod_remove 7 rfl) rfl 0 rfl rfl ?_
    refine Sd.callVV (ci := 12) (t := 13) (as := []) RX12 (pc' := 15) (dc D_Mod_remove 8 rfl) rfl rfl rfl rfl K_Mod_keepsAct L_Mod_450 Ks_Mod_keepsAct Kv_Mod_keepsAct ⟨by decide, by decide⟩ rfl rfl (Nat.le_of_ble_eq_true rfl) (s_Mod_keepsAct _ _) (fun _ h4 => ?_)
    refine Sd_aload_n (pc' := 16) (dc D_Mod_remove 9 rfl) rfl 0 rfl rfl ?_
    refine Sd_iload_n (pc' := 17) (dc D_Mod_remove 10 rfl) rfl 1 rfl rfl ?_
    refine Sd_iload_n (pc' := 18) (dc D_Mod_remove 11 rfl) rfl 2 rfl rfl ?_
    refine Sd.callVV (ci := 12) (t := 13) (as := [_, _]) RX12 (pc' := 21) (dc D_Mod_remove 12 rfl) rfl rfl rfl rfl K_Mod_turnsStale L_Mod_457 Ks_Mod_turnsStale Kv_Mod_turnsStale ⟨by decide, by decide⟩ rfl rfl (Nat.le_of_ble_eq_true rfl) (s_Mod_turnsStale _ _ _ _) (fun _ h7 => ?_)
    refine Sd_aload_n (pc' := 22) (dc D_Mod_remove 13 rfl) rfl 0 rfl rfl ?_
    refine Sd_getR (pc' := 25) (dc D_Mod_remove 14 rfl) rfl F_Mod_9 rfl rfl ?_
    refine Sd_iload_n (pc' := 26) (dc D_Mod_remove 15 rfl) rfl 1 rfl rfl ?_
    refine Sd_if_ne (tgt := 33) (pc' := 29) (dc D_Mod_remove 16 rfl) (by decide) rfl (fun _ => ?_) (fun _ => ?_)
    · refine Sd_iconst (pc' := 34) (dc D_Mod_remove 19 rfl) rfl ⟨by decide, by decide⟩ ?_
      refine Sd_dup2 (pc' := 35) (dc D_Mod_remove 20 rfl) rfl (cat_i _) (cat_r _) ?_
      refine Sd_iaload (pc' := 36) (dc D_Mod_remove 21 rfl) rfl ?_
      refine Sd_iconst (pc' := 37) (dc D_Mod_remove 22 rfl) rfl ⟨by decide, by decide⟩ ?_
      refine Sd_isub (pc' := 38) (dc D_Mod_remove 23 rfl) rfl ?_
      refine Sd_iastore (pc' := 39) (dc D_Mod_remove 24 rfl) rfl (by decide) ?_
      refine Sd_iload_n (pc' := 40) (dc D_Mod_remove 25 rfl) rfl 2 rfl rfl ?_
      refine Sd_istore_n (pc' := 41) (l' := [(3, _), (0, _), (1, _), (2, _)]) (dc D_Mod_remove 26 rfl) rfl rfl (by decide) rfl ?_
      refine Sd.sub (l' := [(0, _), (1, _), (3, _)]) [1, 2, 0] rfl ?_
      exact s_Mod_remove_L41 FU _ _ _ _
    · refine Sd_iconst (pc' := 30) (dc D_Mod_remove 17 rfl) rfl ⟨by decide, by decide⟩ ?_
      refine Sd_goto (tgt := 34) (dc D_Mod_remove 18 rfl) (by decide) ?_
      refine Sd_dup2 (pc' := 35) (dc D_Mod_remove 20 rfl) rfl (cat_i _) (cat_r _) ?_
      refine Sd_iaload (pc' := 36) (dc D_Mod_remove 21 rfl) rfl ?_
      refine Sd_iconst (pc' := 37) (dc D_Mod_remove 22 rfl) rfl ⟨by decide, by decide⟩ ?_
      refine Sd_isub (pc' := 38) (dc D_Mod_remove 23 rfl) rfl ?_
      refine Sd_iastore (pc' := 39) (dc D_Mod_remove 24 rfl) rfl (by decide) ?_
      refine Sd_iload_n (pc' := 40) (dc D_Mod_remove 25 rfl) rfl 2 rfl rfl ?_
      refine Sd_istore_n (pc' := 41) (l' := [(3, _), (0, _), (1, _), (2, _)]) (dc D_Mod_remove 26 rfl) rfl rfl (by decide) rfl ?_
      refine Sd.sub (l' := [(0, _), (1, _), (3, _)]) [1, 2, 0] rfl ?_
      exact s_Mod_remove_L41 FU _ _ _ _
  · refine Sd_iconst (pc' := 10) (dc D_Mod_remove 5 rfl) rfl ⟨by decide, by decide⟩ ?_
    exact Sd_iret (dc D_Mod_remove 6 rfl) rfl
theorem K_Mod_remove : MOk M_Mod_remove 2 := ⟨Tb_at 133 (by decide +kernel) rfl, Tb_at 1766 (by decide +kernel) rfl, by decide +kernel, by decide +kernel, by decide +kernel⟩
theorem Ks_Mod_remove : Cond.instanceMethod yX12_remove ∈ Tb := Tb_at 1764 (by decide +kernel) rfl
theorem Kv_Mod_remove : Cond.selects RX12 yX12_remove yX12_remove ∈ Tb := Tb_at 1765 (by decide +kernel) rfl
/-! ===== BatchShareModel.changes(IIII)V ===== -/
abbrev M_Mod_changes : AMt := (yX12_changes, cX12_changes, 5, none)
def T_Mod_changes : List (Nat × Instr × Nat) := [(0, .aload_n 0, 1), (1, .iload_n 1, 1), (2, .iload_n 2, 1), (3, .invokevirtual 457, 3), (6, .aload_n 0, 1), (7, .iload_n 1, 1), (8, .iload_n 2, 1), (9, .iload_n 3, 1), (10, .iload 4, 2), (12, .invokevirtual 453, 3), (15, .aload_n 0, 1), (16, .iload_n 1, 1), (17, .iload_n 2, 1), (18, .invokevirtual 457, 3), (21, .return_, 1)]
set_option maxRecDepth 20000 in
theorem D_Mod_changes : (T_Mod_changes.all fun q => decide (decode M_Mod_changes.2.1 q.1 = .ok q.2)) = true := by decide +kernel
def Mod_changes (v0 : Nat) (v1 : Int) (v2 : Int) (v3 : Int) (v4 : Int) (h : AH) : Option (Unit × AH) := rc h 13 v0 <| bnd (Mod_turnsStale v0 v1 v2 h) fun _ h1 => rc h1 13 v0 <| bnd (Mod_putsCell v0 v1 v2 v3 v4 h1) fun _ h4 => rc h4 13 v0 <| bnd (Mod_turnsStale v0 v1 v2 h4) fun _ h7 => some ((), h7)
set_option maxHeartbeats 4000000 in
set_option maxRecDepth 20000 in
theorem s_Mod_changes (v0 : Nat) (v1 : Int) (v2 : Int) (v3 : Int) (v4 : Int) (h : AH) : CS M_Mod_changes 4 77 emV [vr v0, vi v1, vi v2, vi v3, vi v4] h (Mod_changes v0 v1 v2 v3 v4 h) := by
  refine CS.of (by decide) (Nat.le_of_ble_eq_true rfl) ?_
  show Sd M_Mod_changes 4 77 emV 0 [(0, vr v0), (1, vi v1), (2, vi v2), (3, vi v3), (4, vi v4)] [] h _
  unfold Mod_changes
  refine Sd_aload_n (pc' := 1) (dc D_Mod_changes 0 rfl) rfl 0 rfl rfl ?_
  refine Sd_iload_n (pc' := 2) (dc D_Mod_changes 1 rfl) rfl 1 rfl rfl ?_
  refine Sd_iload_n (pc' := 3) (dc D_Mod_changes 2 rfl) rfl 2 rfl rfl ?_
  refine Sd.callVV (ci := 12) (t := 13) (as := [_, _]) RX12 (pc' := 6) (dc D_Mod_changes 3 rfl) rfl rfl rfl rfl K_Mod_turnsStale L_Mod_457 Ks_Mod_turnsStale Kv_Mod_turnsStale ⟨by decide, by decide⟩ rfl rfl (Nat.le_of_ble_eq_true rfl) (s_Mod_turnsStale _ _ _ _) (fun _ h1 => ?_)
  refine Sd_aload_n (pc' := 7) (dc D_Mod_changes 4 rfl) rfl 0 rfl rfl ?_
  refine Sd_iload_n (pc' := 8) (dc D_Mod_changes 5 rfl) rfl 1 rfl rfl ?_
  refine Sd_iload_n (pc' := 9) (dc D_Mod_changes 6 rfl) rfl 2 rfl rfl ?_
  refine Sd_iload_n (pc' := 10) (dc D_Mod_changes 7 rfl) rfl 3 rfl rfl ?_
  refine Sd_iload (pc' := 12) (dc D_Mod_changes 8 rfl) rfl 4 rfl ?_
  refine Sd.callVV (ci := 12) (t := 13) (as := [_, _, _, _]) RX12 (pc' := 15) (dc D_Mod_changes 9 rfl) rfl rfl rfl rfl K_Mod_putsCell L_Mod_453 Ks_Mod_putsCell Kv_Mod_putsCell ⟨by decide, by decide⟩ rfl rfl (Nat.le_of_ble_eq_true rfl) (s_Mod_putsCell _ _ _ _ _ _) (fun _ h4 => ?_)
  refine Sd_aload_n (pc' := 16) (dc D_Mod_changes 10 rfl) rfl 0 rfl rfl ?_
  refine Sd_iload_n (pc' := 17) (dc D_Mod_changes 11 rfl) rfl 1 rfl rfl ?_
  refine Sd_iload_n (pc' := 18) (dc D_Mod_changes 12 rfl) rfl 2 rfl rfl ?_
  refine Sd.callVV (ci := 12) (t := 13) (as := [_, _]) RX12 (pc' := 21) (dc D_Mod_changes 13 rfl) rfl rfl rfl rfl K_Mod_turnsStale L_Mod_457 Ks_Mod_turnsStale Kv_Mod_turnsStale ⟨by decide, by decide⟩ rfl rfl (Nat.le_of_ble_eq_true rfl) (s_Mod_turnsStale _ _ _ _) (fun _ h7 => ?_)
  exact Sd_vret (dc D_Mod_changes 14 rfl) rfl
theorem K_Mod_changes : MOk M_Mod_changes 4 := ⟨Tb_at 133 (by decide +kernel) rfl, Tb_at 1775 (by decide +kernel) rfl, by decide +kernel, by decide +kernel, by decide +kernel⟩
theorem Ks_Mod_changes : Cond.instanceMethod yX12_changes ∈ Tb := Tb_at 1774 (by decide +kernel) rfl
theorem Kv_Mod_changes : Cond.selects RX12 yX12_changes yX12_changes ∈ Tb := Tb_at 105 (by decide +kernel) rfl
/-! ===== BatchShareModel.change(IIII)I ===== -/
abbrev M_Mod_change : AMt := (yX12_change, cX12_change, 6, (some .int))
def T_Mod_change : List (Nat × Instr × Nat) := [(0, .aload_n 0, 1), (1, .iload_n 1, 1), (2, .iload_n 2, 1), (3, .iload_n 3, 1), (4, .invokevirtual 460, 3), (7, .istore 5, 2), (9, .iload 5, 2), (11, .iconst (-1), 1), (12, .if_icmp .eq 23, 3), (15, .iload 4, 2), (17, .i2l, 1), (18, .lconst 0, 1), (19, .ldc2_w 448, 3), (22, .invokestatic 88, 3), (25, .ifCond .eq 10, 3), (28, .iload 5, 2), (30, .iload 4, 2), (32, .if_icmp .ne 5, 3), (35, .iconst (-1), 1), (36, .ireturn, 1), (37, .aload_n 0, 1), (38, .invokevirtual 450, 3), (41, .aload_n 0, 1), (42, .iload_n 1, 1), (43, .iload_n 2, 1), (44, .iload_n 3, 1), (45, .iload 4, 2), (47, .invokevirtual 464, 3), (50, .iload 5, 2), (52, .ireturn, 1)]
set_option maxRecDepth 20000 in
theorem D_Mod_change : (T_Mod_change.all fun q => decide (decode M_Mod_change.2.1 q.1 = .ok q.2)) = true := by decide +kernel
def Mod_change (v0 : Nat) (v1 : Int) (v2 : Int) (v3 : Int) (v4 : Int) (h : AH) : Option (Int × AH) := rc h 13 v0 <| bnd (Mod_cell v0 v1 v2 v3 h) fun x2 h1 => if (x2 : Int) = (-1) then (some ((-1), h1)) else (bnd (Mod_in v4 0 9 h1) fun x5 h4 => if (x5 : Int) = 0 then (some ((-1), h4)) else (if ¬ (x2 : Int) = v4 then (rc h4 13 v0 <| bnd (Mod_keepsAct v0 h4) fun _ h7 => rc h7 13 v0 <| bnd (Mod_changes v0 v1 v2 v3 v4 h7) fun _ h10 => some (x2, h10)) else (some ((-1), h4))))
set_option maxHeartbeats 4000000 in
set_option maxRecDepth 20000 in
theorem s_Mod_change (v0 : Nat) (v1 : Int) (v2 : Int) (v3 : Int) (v4 : Int) (h : AH) : CS M_Mod_change 5 101 emI [vr v0, vi v1, vi v2, vi v3, vi v4] h (Mod_change v0 v1 v2 v3 v4 h) := by
  refine CS.of (by decide) (Nat.le_of_ble_eq_true rfl) ?_
  show Sd M_Mod_change 5 101 emI 0 [(0, vr v0), (1, vi v1), (2, vi v2), (3, vi v3), (4, vi v4)] [] h _
  unfold Mod_change
  refine Sd_aload_n (pc' := 1) (dc D_Mod_change 0 rfl) rfl 0 rfl rfl ?_
  refine Sd_iload_n (pc' := 2) (dc D_Mod_change 1 rfl) rfl 1 rfl rfl ?_
  refine Sd_iload_n (pc' := 3) (dc D_Mod_change 2 rfl) rfl 2 rfl rfl ?_
  refine Sd_iload_n (pc' := 4) (dc D_Mod_change 3 rfl) rfl 3 rfl rfl ?_
  refine Sd.callVI (ci := 12) (t := 13) (as := [_, _, _]) RX12 (pc' := 7) (dc D_Mod_change 4 rfl) rfl rfl rfl rfl K_Mod_cell L_Mod_460 Ks_Mod_cell Kv_Mod_cell ⟨by decide, by decide⟩ rfl rfl (Nat.le_of_ble_eq_true rfl) (s_Mod_cell _ _ _ _ _) (fun x2 h1 => ?_)
  refine Sd_istore (pc' := 9) (l' := [(5, _), (0, _), (1, _), (2, _), (3, _), (4, _)]) (dc D_Mod_change 5 rfl) rfl (by decide) rfl ?_
  refine Sd_iload (pc' := 11) (dc D_Mod_change 6 rfl) rfl 0 rfl ?_
  refine Sd_iconst (pc' := 12) (dc D_Mod_change 7 rfl) rfl ⟨by decide, by decide⟩ ?_
  refine Sd_icmp_eq (tgt := 35) (pc' := 15) (dc D_Mod_change 8 rfl) (by decide) rfl (fun _ => ?_) (fun _ => ?_)
  · refine Sd_iconst (pc' := 36) (dc D_Mod_change 18 rfl) rfl ⟨by decide, by decide⟩ ?_
    exact Sd_iret (dc D_Mod_change 19 rfl) rfl
  · refine Sd_iload (pc' := 17) (dc D_Mod_change 9 rfl) rfl 5 rfl ?_
    refine Sd_i2l (pc' := 18) (dc D_Mod_change 10 rfl) rfl ?_
    refine Sd_lconst (z := 0) (pc' := 19) (dc D_Mod_change 11 rfl) rfl ⟨by decide, by decide⟩ (by decide) ?_
    refine Sd_ldc2 (n := 9) (pc' := 22) (dc D_Mod_change 12 rfl) rfl ⟨by decide, by decide⟩ Q_Mod_448 ?_
    refine Sd.callSI (as := [_, _, _]) (pc' := 25) (dc D_Mod_change 13 rfl) rfl K_Mod_in L_Mod_88 Ks_Mod_in ⟨by decide, by decide⟩ rfl rfl (Nat.le_of_ble_eq_true rfl) (s_Mod_in _ _ _ _) (fun x5 h4 => ?_)
    refine Sd_if_eq (tgt := 35) (pc' := 28) (dc D_Mod_change 14 rfl) (by decide) rfl (fun _ => ?_) (fun _ => ?_)
    · refine Sd_iconst (pc' := 36) (dc D_Mod_change 18 rfl) rfl ⟨by decide, by decide⟩ ?_
      exact Sd_iret (dc D_Mod_change 19 rfl) rfl
    · refine Sd_iload (pc' := 30) (dc D_Mod_change 15 rfl) rfl 0 rfl ?_
      refine Sd_iload (pc' := 32) (dc D_Mod_change 16 rfl) rfl 5 rfl ?_
      refine Sd_icmp_ne (tgt := 37) (pc' := 35) (dc D_Mod_change 17 rfl) (by decide) rfl (fun _ => ?_) (fun _ => ?_)
      · refine Sd_aload_n (pc' := 38) (dc D_Mod_change 20 rfl) rfl 1 rfl rfl ?_
        refine Sd.callVV (ci := 12) (t := 13) (as := []) RX12 (pc' := 41) (dc D_Mod_change 21 rfl) rfl rfl rfl rfl K_Mod_keepsAct L_Mod_450 Ks_Mod_keepsAct Kv_Mod_keepsAct ⟨by decide, by decide⟩ rfl rfl (Nat.le_of_ble_eq_true rfl) (s_Mod_keepsAct _ _) (fun _ h7 => ?_)
        refine Sd_aload_n (pc' := 42) (dc D_Mod_change 22 rfl) rfl 1 rfl rfl ?_
        refine Sd_iload_n (pc' := 43) (dc D_Mod_change 23 rfl) rfl 2 rfl rfl ?_
        refine Sd_iload_n (pc' := 44) (dc D_Mod_change 24 rfl) rfl 3 rfl rfl ?_
        refine Sd_iload_n (pc' := 45) (dc D_Mod_change 25 rfl) rfl 4 rfl rfl ?_
        refine Sd_iload (pc' := 47) (dc D_Mod_change 26 rfl) rfl 5 rfl ?_
        refine Sd.callVV (ci := 12) (t := 13) (as := [_, _, _, _]) RX12 (pc' := 50) (dc D_Mod_change 27 rfl) rfl rfl rfl rfl K_Mod_changes L_Mod_464 Ks_Mod_changes Kv_Mod_changes ⟨by decide, by decide⟩ rfl rfl (Nat.le_of_ble_eq_true rfl) (s_Mod_changes _ _ _ _ _ _) (fun _ h10 => ?_)
        refine Sd_iload (pc' := 52) (dc D_Mod_change 28 rfl) rfl 0 rfl ?_
        exact Sd_iret (dc D_Mod_change 29 rfl) rfl
      · refine Sd_iconst (pc' := 36) (dc D_Mod_change 18 rfl) rfl ⟨by decide, by decide⟩ ?_
        exact Sd_iret (dc D_Mod_change 19 rfl) rfl
theorem K_Mod_change : MOk M_Mod_change 4 := ⟨Tb_at 133 (by decide +kernel) rfl, Tb_at 1770 (by decide +kernel) rfl, by decide +kernel, by decide +kernel, by decide +kernel⟩
theorem Ks_Mod_change : Cond.instanceMethod yX12_change ∈ Tb := Tb_at 1768 (by decide +kernel) rfl
theorem Kv_Mod_change : Cond.selects RX12 yX12_change yX12_change ∈ Tb := Tb_at 1769 (by decide +kernel) rfl
/-! ===== BatchShareModel.bits(I)I ===== -/
abbrev M_Mod_bits : AMt := (yX12_bits, cX12_bits, 3, (some .int))
def T_Mod_bits : List (Nat × Instr × Nat) := [(0, .iconst 0, 1), (1, .istore_n 1, 1), (2, .iconst 0, 1), (3, .istore_n 2, 1), (4, .iload_n 2, 1), (5, .bipush 16, 2), (7, .if_icmp .ge 17, 3), (10, .iload_n 1, 1), (11, .iload_n 0, 1), (12, .iload_n 2, 1), (13, .ishr, 1), (14, .iconst 1, 1), (15, .iand, 1), (16, .iadd, 1), (17, .istore_n 1, 1), (18, .iinc 2 1, 3), (21, .goto (-17), 3), (24, .iload_n 1, 1), (25, .ireturn, 1)]
set_option maxRecDepth 20000 in
theorem D_Mod_bits : (T_Mod_bits.all fun q => decide (decode M_Mod_bits.2.1 q.1 = .ok q.2)) = true := by decide +kernel
def Mod_bits_L4 : Nat → Int → Int → Int → AH → Option (Int × AH)
  | 0, _, _, _, _ => none
  | n + 1, v0, v1, v2, h => if (16 : Int) ≤ v2 then (some (v1, h)) else (Mod_bits_L4 n v0 ((wr (v1 + (iAnd (iShr v0 v2) 1)))) ((wr (v2 + 1))) h)
set_option maxHeartbeats 4000000 in
set_option maxRecDepth 20000 in
theorem s_Mod_bits_L4 : ∀ (n : Nat) (v0 : Int) (v1 : Int) (v2 : Int) (h : AH), Sd M_Mod_bits 1 0 emI 4 [(0, vi v0), (1, vi v1), (2, vi v2)] [] h (Mod_bits_L4 n v0 v1 v2 h)
  | 0, _, _, _, _ => Sd.none
  | n + 1, v0, v1, v2, h => by
    rw [Mod_bits_L4]
    refine Sd_iload_n (pc' := 5) (dc D_Mod_bits 4 rfl) rfl 2 rfl rfl ?_
    refine Sd_bipush (pc' := 7) (dc D_Mod_bits 5 rfl) rfl ⟨by decide, by decide⟩ (by decide) ?_
    refine Sd_icmp_ge (tgt := 24) (pc' := 10) (dc D_Mod_bits 6 rfl) (by decide) rfl (fun _ => ?_) (fun _ => ?_)
    · refine Sd_iload_n (pc' := 25) (dc D_Mod_bits 17 rfl) rfl 1 rfl rfl ?_
      exact Sd_iret (dc D_Mod_bits 18 rfl) rfl
    · refine Sd_iload_n (pc' := 11) (dc D_Mod_bits 7 rfl) rfl 1 rfl rfl ?_
      refine Sd_iload_n (pc' := 12) (dc D_Mod_bits 8 rfl) rfl 0 rfl rfl ?_
      refine Sd_iload_n (pc' := 13) (dc D_Mod_bits 9 rfl) rfl 2 rfl rfl ?_
      refine Sd_ishr (pc' := 14) (dc D_Mod_bits 10 rfl) rfl ?_
      refine Sd_iconst (pc' := 15) (dc D_Mod_bits 11 rfl) rfl ⟨by decide, by decide⟩ ?_
      refine Sd_iand (pc' := 16) (dc D_Mod_bits 12 rfl) rfl ?_
      refine Sd_iadd (pc' := 17) (dc D_Mod_bits 13 rfl) rfl ?_
      refine Sd_istore_n (pc' := 18) (l' := [(1, _), (0, _), (2, _)]) (dc D_Mod_bits 14 rfl) rfl rfl (by decide) rfl ?_
      refine Sd_iinc (pc' := 21) (l' := [(2, _), (1, _), (0, _)]) (dc D_Mod_bits 15 rfl) rfl 2 rfl (by decide) rfl ?_
      refine Sd_goto (tgt := 4) (dc D_Mod_bits 16 rfl) (by decide) ?_
      refine Sd.sub (l' := [(0, _), (1, _), (2, _)]) [2, 1, 0] rfl ?_
      exact s_Mod_bits_L4 n _ _ _ _
def Mod_bits (v0 : Int) (h : AH) : Option (Int × AH) := Mod_bits_L4 FU v0 0 0 h
set_option maxHeartbeats 4000000 in
set_option maxRecDepth 20000 in
theorem s_Mod_bits (v0 : Int) (h : AH) : CS M_Mod_bits 1 0 emI [vi v0] h (Mod_bits v0 h) := by
  refine CS.of (by decide) (Nat.le_of_ble_eq_true rfl) ?_
  show Sd M_Mod_bits 1 0 emI 0 [(0, vi v0)] [] h _
  unfold Mod_bits
  refine Sd_iconst (pc' := 1) (dc D_Mod_bits 0 rfl) rfl ⟨by decide, by decide⟩ ?_
  refine Sd_istore_n (pc' := 2) (l' := [(1, _), (0, _)]) (dc D_Mod_bits 1 rfl) rfl rfl (by decide) rfl ?_
  refine Sd_iconst (pc' := 3) (dc D_Mod_bits 2 rfl) rfl ⟨by decide, by decide⟩ ?_
  refine Sd_istore_n (pc' := 4) (l' := [(2, _), (1, _), (0, _)]) (dc D_Mod_bits 3 rfl) rfl rfl (by decide) rfl ?_
  refine Sd.sub (l' := [(0, _), (1, _), (2, _)]) [2, 1, 0] rfl ?_
  exact s_Mod_bits_L4 FU _ _ _ _
theorem K_Mod_bits : MOk M_Mod_bits 1 := ⟨Tb_at 133 (by decide +kernel) rfl, Tb_at 1782 (by decide +kernel) rfl, by decide +kernel, by decide +kernel, by decide +kernel⟩
theorem Ks_Mod_bits : Cond.static yX12_bits ∈ Tb := Tb_at 1781 (by decide +kernel) rfl
/-! ===== BatchShareModel.strike(I)I ===== -/
abbrev M_Mod_strike : AMt := (yX12_strike, cX12_strike, 2, (some .int))
def T_Mod_strike : List (Nat × Instr × Nat) := [(0, .aload_n 0, 1), (1, .invokevirtual 445, 3), (4, .ifCond .eq 11, 3), (7, .aload_n 0, 1), (8, .iload_n 1, 1), (9, .invokevirtual 255, 3), (12, .ifCond .ne 5, 3), (15, .iconst (-1), 1), (16, .ireturn, 1), (17, .aload_n 0, 1), (18, .invokevirtual 450, 3), (21, .aload_n 0, 1), (22, .getfield 9, 3), (25, .iconst 4, 1), (26, .dup2, 1), (27, .iaload, 1), (28, .iconst 1, 1), (29, .iload_n 1, 1), (30, .ishl, 1), (31, .ixor, 1), (32, .iastore, 1), (33, .aload_n 0, 1), (34, .getfield 9, 3), (37, .iconst 4, 1), (38, .iaload, 1), (39, .invokestatic 467, 3), (42, .ireturn, 1)]
set_option maxRecDepth 20000 in
theorem D_Mod_strike : (T_Mod_strike.all fun q => decide (decode M_Mod_strike.2.1 q.1 = .ok q.2)) = true := by decide +kernel
def Mod_strike (v0 : Nat) (v1 : Int) (h : AH) : Option (Int × AH) := rc h 13 v0 <| bnd (Mod_isBase v0 h) fun x2 h1 => if (x2 : Int) = 0 then (some ((-1), h1)) else (rc h1 13 v0 <| bnd (Mod_isQuery v0 v1 h1) fun x5 h4 => if ¬ (x5 : Int) = 0 then (rc h4 13 v0 <| bnd (Mod_keepsAct v0 h4) fun _ h7 => gR h7 13 v0 1 fun r10 => aI h7 21 r10 4 fun x11 => wI h7 21 r10 4 (iXor x11 (iShl 1 v1)) fun h12 => gR h12 13 v0 1 fun r13 => aI h12 21 r13 4 fun x14 => bnd (Mod_bits x14 h12) fun x16 h15 => some (x16, h15)) else (some ((-1), h4)))
set_option maxHeartbeats 4000000 in
set_option maxRecDepth 20000 in
theorem s_Mod_strike (v0 : Nat) (v1 : Int) (h : AH) : CS M_Mod_strike 5 88 emI [vr v0, vi v1] h (Mod_strike v0 v1 h) := by
  refine CS.of (by decide) (Nat.le_of_ble_eq_true rfl) ?_
  show Sd M_Mod_strike 5 88 emI 0 [(0, vr v0), (1, vi v1)] [] h _
  unfold Mod_strike
  refine Sd_aload_n (pc' := 1) (dc D_Mod_strike 0 rfl) rfl 0 rfl rfl ?_
  refine Sd.callVI (ci := 12) (t := 13) (as := []) RX12 (pc' := 4) (dc D_Mod_strike 1 rfl) rfl rfl rfl rfl K_Mod_isBase L_Mod_445 Ks_Mod_isBase Kv_Mod_isBase ⟨by decide, by decide⟩ rfl rfl (Nat.le_of_ble_eq_true rfl) (s_Mod_isBase _ _) (fun x2 h1 => ?_)
  refine Sd_if_eq (tgt := 15) (pc' := 7) (dc D_Mod_strike 2 rfl) (by decide) rfl (fun _ => ?_) (fun _ => ?_)
  · refine Sd_iconst (pc' := 16) (dc D_Mod_strike 7 rfl) rfl ⟨by decide, by decide⟩ ?_
    exact Sd_iret (dc D_Mod_strike 8 rfl) rfl
  · refine Sd_aload_n (pc' := 8) (dc D_Mod_strike 3 rfl) rfl 0 rfl rfl ?_
    refine Sd_iload_n (pc' := 9) (dc D_Mod_strike 4 rfl) rfl 1 rfl rfl ?_
    refine Sd.callVI (ci := 12) (t := 13) (as := [_]) RX12 (pc' := 12) (dc D_Mod_strike 5 rfl) rfl rfl rfl rfl K_Mod_isQuery L_Mod_255 Ks_Mod_isQuery Kv_Mod_isQuery ⟨by decide, by decide⟩ rfl rfl (Nat.le_of_ble_eq_true rfl) (s_Mod_isQuery _ _ _) (fun x5 h4 => ?_)
    refine Sd_if_ne (tgt := 17) (pc' := 15) (dc D_Mod_strike 6 rfl) (by decide) rfl (fun _ => ?_) (fun _ => ?_)
    · refine Sd_aload_n (pc' := 18) (dc D_Mod_strike 9 rfl) rfl 0 rfl rfl ?_
      refine Sd.callVV (ci := 12) (t := 13) (as := []) RX12 (pc' := 21) (dc D_Mod_strike 10 rfl) rfl rfl rfl rfl K_Mod_keepsAct L_Mod_450 Ks_Mod_keepsAct Kv_Mod_keepsAct ⟨by decide, by decide⟩ rfl rfl (Nat.le_of_ble_eq_true rfl) (s_Mod_keepsAct _ _) (fun _ h7 => ?_)
      refine Sd_aload_n (pc' := 22) (dc D_Mod_strike 11 rfl) rfl 0 rfl rfl ?_
      refine Sd_getR (pc' := 25) (dc D_Mod_strike 12 rfl) rfl F_Mod_9 rfl rfl ?_
      refine Sd_iconst (pc' := 26) (dc D_Mod_strike 13 rfl) rfl ⟨by decide, by decide⟩ ?_
      refine Sd_dup2 (pc' := 27) (dc D_Mod_strike 14 rfl) rfl (cat_i _) (cat_r _) ?_
      refine Sd_iaload (pc' := 28) (dc D_Mod_strike 15 rfl) rfl ?_
      refine Sd_iconst (pc' := 29) (dc D_Mod_strike 16 rfl) rfl ⟨by decide, by decide⟩ ?_
      refine Sd_iload_n (pc' := 30) (dc D_Mod_strike 17 rfl) rfl 1 rfl rfl ?_
      refine Sd_ishl (pc' := 31) (dc D_Mod_strike 18 rfl) rfl ?_
      refine Sd_ixor (pc' := 32) (dc D_Mod_strike 19 rfl) rfl ?_
      refine Sd_iastore (pc' := 33) (dc D_Mod_strike 20 rfl) rfl (by decide) ?_
      refine Sd_aload_n (pc' := 34) (dc D_Mod_strike 21 rfl) rfl 0 rfl rfl ?_
      refine Sd_getR (pc' := 37) (dc D_Mod_strike 22 rfl) rfl F_Mod_9 rfl rfl ?_
      refine Sd_iconst (pc' := 38) (dc D_Mod_strike 23 rfl) rfl ⟨by decide, by decide⟩ ?_
      refine Sd_iaload (pc' := 39) (dc D_Mod_strike 24 rfl) rfl ?_
      refine Sd.callSI (as := [_]) (pc' := 42) (dc D_Mod_strike 25 rfl) rfl K_Mod_bits L_Mod_467 Ks_Mod_bits ⟨by decide, by decide⟩ rfl rfl (Nat.le_of_ble_eq_true rfl) (s_Mod_bits _ _) (fun x16 h15 => ?_)
      exact Sd_iret (dc D_Mod_strike 26 rfl) rfl
    · refine Sd_iconst (pc' := 16) (dc D_Mod_strike 7 rfl) rfl ⟨by decide, by decide⟩ ?_
      exact Sd_iret (dc D_Mod_strike 8 rfl) rfl
theorem K_Mod_strike : MOk M_Mod_strike 1 := ⟨Tb_at 133 (by decide +kernel) rfl, Tb_at 1779 (by decide +kernel) rfl, by decide +kernel, by decide +kernel, by decide +kernel⟩
theorem Ks_Mod_strike : Cond.instanceMethod yX12_strike ∈ Tb := Tb_at 1777 (by decide +kernel) rfl
theorem Kv_Mod_strike : Cond.selects RX12 yX12_strike yX12_strike ∈ Tb := Tb_at 1778 (by decide +kernel) rfl
/-! ===== BatchShareModel.isKeptAlready(I)Z ===== -/
abbrev M_Mod_isKeptAlready : AMt := (yX12_isKeptAlready, cX12_isKeptAlready, 3, (some .boolean))
def T_Mod_isKeptAlready : List (Nat × Instr × Nat) := [(0, .iconst 0, 1), (1, .istore_n 2, 1), (2, .iload_n 2, 1), (3, .aload_n 0, 1), (4, .getfield 9, 3), (7, .iconst 5, 1), (8, .iaload, 1), (9, .if_icmp .ge 33, 3), (12, .aload_n 0, 1), (13, .getfield 25, 3), (16, .bipush 16, 2), (18, .iload_n 2, 1), (19, .imul, 1), (20, .aload_n 0, 1), (21, .getfield 62, 3), (24, .bipush 16, 2), (26, .iload_n 1, 1), (27, .imul, 1), (28, .invokestatic 320, 3), (31, .ifCond .eq 5, 3), (34, .iconst 1, 1), (35, .ireturn, 1), (36, .iinc 2 1, 3), (39, .goto (-37), 3), (42, .iconst 0, 1), (43, .ireturn, 1)]
set_option maxRecDepth 20000 in
theorem D_Mod_isKeptAlready : (T_Mod_isKeptAlready.all fun q => decide (decode M_Mod_isKeptAlready.2.1 q.1 = .ok q.2)) = true := by decide +kernel
def Mod_isKeptAlready_L2 : Nat → Nat → Int → Int → AH → Option (Int × AH)
  | 0, _, _, _, _ => none
  | n + 1, v0, v1, v2, h => gR h 13 v0 1 fun r1 => aI h 21 r1 5 fun x2 => if (x2 : Int) ≤ v2 then (some (0, h)) else (gR h 13 v0 9 fun r3 => gR h 13 v0 29 fun r4 => bnd (Mod_areSame r3 (wr (16 * v2)) r4 (wr (16 * v1)) h) fun x6 h5 => if (x6 : Int) = 0 then (Mod_isKeptAlready_L2 n v0 v1 ((wr (v2 + 1))) h5) else (some (1, h5)))
set_option maxHeartbeats 4000000 in
set_option maxRecDepth 20000 in
theorem s_Mod_isKeptAlready_L2 : ∀ (n : Nat) (v0 : Nat) (v1 : Int) (v2 : Int) (h : AH), Sd M_Mod_isKeptAlready 2 24 emI 2 [(0, vr v0), (1, vi v1), (2, vi v2)] [] h (Mod_isKeptAlready_L2 n v0 v1 v2 h)
  | 0, _, _, _, _ => Sd.none
  | n + 1, v0, v1, v2, h => by
    rw [Mod_isKeptAlready_L2]
    refine Sd_iload_n (pc' := 3) (dc D_Mod_isKeptAlready 2 rfl) rfl 2 rfl rfl ?_
    refine Sd_aload_n (pc' := 4) (dc D_Mod_isKeptAlready 3 rfl) rfl 0 rfl rfl ?_
    refine Sd_getR (pc' := 7) (dc D_Mod_isKeptAlready 4 rfl) rfl F_Mod_9 rfl rfl ?_
    refine Sd_iconst (pc' := 8) (dc D_Mod_isKeptAlready 5 rfl) rfl ⟨by decide, by decide⟩ ?_
    refine Sd_iaload (pc' := 9) (dc D_Mod_isKeptAlready 6 rfl) rfl ?_
    refine Sd_icmp_ge (tgt := 42) (pc' := 12) (dc D_Mod_isKeptAlready 7 rfl) (by decide) rfl (fun _ => ?_) (fun _ => ?_)
    · refine Sd_iconst (pc' := 43) (dc D_Mod_isKeptAlready 24 rfl) rfl ⟨by decide, by decide⟩ ?_
      exact Sd_zret (dc D_Mod_isKeptAlready 25 rfl) rfl (Or.inl rfl)
    · refine Sd_aload_n (pc' := 13) (dc D_Mod_isKeptAlready 8 rfl) rfl 0 rfl rfl ?_
      refine Sd_getR (pc' := 16) (dc D_Mod_isKeptAlready 9 rfl) rfl F_Mod_25 rfl rfl ?_
      refine Sd_bipush (pc' := 18) (dc D_Mod_isKeptAlready 10 rfl) rfl ⟨by decide, by decide⟩ (by decide) ?_
      refine Sd_iload_n (pc' := 19) (dc D_Mod_isKeptAlready 11 rfl) rfl 2 rfl rfl ?_
      refine Sd_imul (pc' := 20) (dc D_Mod_isKeptAlready 12 rfl) rfl ?_
      refine Sd_aload_n (pc' := 21) (dc D_Mod_isKeptAlready 13 rfl) rfl 0 rfl rfl ?_
      refine Sd_getR (pc' := 24) (dc D_Mod_isKeptAlready 14 rfl) rfl F_Mod_62 rfl rfl ?_
      refine Sd_bipush (pc' := 26) (dc D_Mod_isKeptAlready 15 rfl) rfl ⟨by decide, by decide⟩ (by decide) ?_
      refine Sd_iload_n (pc' := 27) (dc D_Mod_isKeptAlready 16 rfl) rfl 1 rfl rfl ?_
      refine Sd_imul (pc' := 28) (dc D_Mod_isKeptAlready 17 rfl) rfl ?_
      refine Sd.callSI (as := [_, _, _, _]) (pc' := 31) (dc D_Mod_isKeptAlready 18 rfl) rfl K_Mod_areSame L_Mod_320 Ks_Mod_areSame ⟨by decide, by decide⟩ rfl rfl (Nat.le_of_ble_eq_true rfl) (s_Mod_areSame _ _ _ _ _) (fun x6 h5 => ?_)
      refine Sd_if_eq (tgt := 36) (pc' := 34) (dc D_Mod_isKeptAlready 19 rfl) (by decide) rfl (fun _ => ?_) (fun _ => ?_)
      · refine Sd_iinc (pc' := 39) (l' := [(2, _), (0, _), (1, _)]) (dc D_Mod_isKeptAlready 22 rfl) rfl 2 rfl (by decide) rfl ?_
        refine Sd_goto (tgt := 2) (dc D_Mod_isKeptAlready 23 rfl) (by decide) ?_
        refine Sd.sub (l' := [(0, _), (1, _), (2, _)]) [1, 2, 0] rfl ?_
        exact s_Mod_isKeptAlready_L2 n _ _ _ _
      · refine Sd_iconst (pc' := 35) (dc D_Mod_isKeptAlready 20 rfl) rfl ⟨by decide, by decide⟩ ?_
        exact Sd_zret (dc D_Mod_isKeptAlready 21 rfl) rfl (Or.inr rfl)
def Mod_isKeptAlready (v0 : Nat) (v1 : Int) (h : AH) : Option (Int × AH) := Mod_isKeptAlready_L2 FU v0 v1 0 h
set_option maxHeartbeats 4000000 in
set_option maxRecDepth 20000 in
theorem s_Mod_isKeptAlready (v0 : Nat) (v1 : Int) (h : AH) : CS M_Mod_isKeptAlready 2 24 emI [vr v0, vi v1] h (Mod_isKeptAlready v0 v1 h) := by
  refine CS.of (by decide) (Nat.le_of_ble_eq_true rfl) ?_
  show Sd M_Mod_isKeptAlready 2 24 emI 0 [(0, vr v0), (1, vi v1)] [] h _
  unfold Mod_isKeptAlready
  refine Sd_iconst (pc' := 1) (dc D_Mod_isKeptAlready 0 rfl) rfl ⟨by decide, by decide⟩ ?_
  refine Sd_istore_n (pc' := 2) (l' := [(2, _), (0, _), (1, _)]) (dc D_Mod_isKeptAlready 1 rfl) rfl rfl (by decide) rfl ?_
  refine Sd.sub (l' := [(0, _), (1, _), (2, _)]) [1, 2, 0] rfl ?_
  exact s_Mod_isKeptAlready_L2 FU _ _ _ _
theorem K_Mod_isKeptAlready : MOk M_Mod_isKeptAlready 1 := ⟨Tb_at 133 (by decide +kernel) rfl, Tb_at 1790 (by decide +kernel) rfl, by decide +kernel, by decide +kernel, by decide +kernel⟩
theorem Ks_Mod_isKeptAlready : Cond.instanceMethod yX12_isKeptAlready ∈ Tb := Tb_at 1789 (by decide +kernel) rfl
theorem Kv_Mod_isKeptAlready : Cond.selects RX12 yX12_isKeptAlready yX12_isKeptAlready ∈ Tb := Tb_at 106 (by decide +kernel) rfl
/-! ===== BatchShareModel.rowsOfAll()I ===== -/
abbrev M_Mod_rowsOfAll : AMt := (yX12_rowsOfAll, cX12_rowsOfAll, 3, (some .int))
def T_Mod_rowsOfAll : List (Nat × Instr × Nat) := [(0, .iconst 0, 1), (1, .istore_n 1, 1), (2, .iconst 0, 1), (3, .istore_n 2, 1), (4, .iload_n 2, 1), (5, .aload_n 0, 1), (6, .getfield 9, 3), (9, .iconst 5, 1), (10, .iaload, 1), (11, .if_icmp .ge 24, 3), (14, .iload_n 1, 1), (15, .aload_n 0, 1), (16, .getfield 25, 3), (19, .bipush 16, 2), (21, .iload_n 2, 1), (22, .imul, 1), (23, .bipush 13, 2), (25, .iadd, 1), (26, .iaload, 1), (27, .iadd, 1), (28, .istore_n 1, 1), (29, .iinc 2 1, 3), (32, .goto (-28), 3), (35, .iload_n 1, 1), (36, .ireturn, 1)]
set_option maxRecDepth 20000 in
theorem D_Mod_rowsOfAll : (T_Mod_rowsOfAll.all fun q => decide (decode M_Mod_rowsOfAll.2.1 q.1 = .ok q.2)) = true := by decide +kernel
def Mod_rowsOfAll_L4 : Nat → Nat → Int → Int → AH → Option (Int × AH)
  | 0, _, _, _, _ => none
  | n + 1, v0, v1, v2, h => gR h 13 v0 1 fun r1 => aI h 21 r1 5 fun x2 => if (x2 : Int) ≤ v2 then (some (v1, h)) else (gR h 13 v0 9 fun r3 => aI h 21 r3 (wr ((wr (16 * v2)) + 13)) fun x4 => Mod_rowsOfAll_L4 n v0 ((wr (v1 + x4))) ((wr (v2 + 1))) h)
set_option maxHeartbeats 4000000 in
set_option maxRecDepth 20000 in
theorem s_Mod_rowsOfAll_L4 : ∀ (n : Nat) (v0 : Nat) (v1 : Int) (v2 : Int) (h : AH), Sd M_Mod_rowsOfAll 1 0 emI 4 [(0, vr v0), (1, vi v1), (2, vi v2)] [] h (Mod_rowsOfAll_L4 n v0 v1 v2 h)
  | 0, _, _, _, _ => Sd.none
  | n + 1, v0, v1, v2, h => by
    rw [Mod_rowsOfAll_L4]
    refine Sd_iload_n (pc' := 5) (dc D_Mod_rowsOfAll 4 rfl) rfl 2 rfl rfl ?_
    refine Sd_aload_n (pc' := 6) (dc D_Mod_rowsOfAll 5 rfl) rfl 0 rfl rfl ?_
    refine Sd_getR (pc' := 9) (dc D_Mod_rowsOfAll 6 rfl) rfl F_Mod_9 rfl rfl ?_
    refine Sd_iconst (pc' := 10) (dc D_Mod_rowsOfAll 7 rfl) rfl ⟨by decide, by decide⟩ ?_
    refine Sd_iaload (pc' := 11) (dc D_Mod_rowsOfAll 8 rfl) rfl ?_
    refine Sd_icmp_ge (tgt := 35) (pc' := 14) (dc D_Mod_rowsOfAll 9 rfl) (by decide) rfl (fun _ => ?_) (fun _ => ?_)
    · refine Sd_iload_n (pc' := 36) (dc D_Mod_rowsOfAll 23 rfl) rfl 1 rfl rfl ?_
      exact Sd_iret (dc D_Mod_rowsOfAll 24 rfl) rfl
    · refine Sd_iload_n (pc' := 15) (dc D_Mod_rowsOfAll 10 rfl) rfl 1 rfl rfl ?_
      refine Sd_aload_n (pc' := 16) (dc D_Mod_rowsOfAll 11 rfl) rfl 0 rfl rfl ?_
      refine Sd_getR (pc' := 19) (dc D_Mod_rowsOfAll 12 rfl) rfl F_Mod_25 rfl rfl ?_
      refine Sd_bipush (pc' := 21) (dc D_Mod_rowsOfAll 13 rfl) rfl ⟨by decide, by decide⟩ (by decide) ?_
      refine Sd_iload_n (pc' := 22) (dc D_Mod_rowsOfAll 14 rfl) rfl 2 rfl rfl ?_
      refine Sd_imul (pc' := 23) (dc D_Mod_rowsOfAll 15 rfl) rfl ?_
      refine Sd_bipush (pc' := 25) (dc D_Mod_rowsOfAll 16 rfl) rfl ⟨by decide, by decide⟩ (by decide) ?_
      refine Sd_iadd (pc' := 26) (dc D_Mod_rowsOfAll 17 rfl) rfl ?_
      refine Sd_iaload (pc' := 27) (dc D_Mod_rowsOfAll 18 rfl) rfl ?_
      refine Sd_iadd (pc' := 28) (dc D_Mod_rowsOfAll 19 rfl) rfl ?_
      refine Sd_istore_n (pc' := 29) (l' := [(1, _), (0, _), (2, _)]) (dc D_Mod_rowsOfAll 20 rfl) rfl rfl (by decide) rfl ?_
      refine Sd_iinc (pc' := 32) (l' := [(2, _), (1, _), (0, _)]) (dc D_Mod_rowsOfAll 21 rfl) rfl 2 rfl (by decide) rfl ?_
      refine Sd_goto (tgt := 4) (dc D_Mod_rowsOfAll 22 rfl) (by decide) ?_
      refine Sd.sub (l' := [(0, _), (1, _), (2, _)]) [2, 1, 0] rfl ?_
      exact s_Mod_rowsOfAll_L4 n _ _ _ _
def Mod_rowsOfAll (v0 : Nat) (h : AH) : Option (Int × AH) := Mod_rowsOfAll_L4 FU v0 0 0 h
set_option maxHeartbeats 4000000 in
set_option maxRecDepth 20000 in
theorem s_Mod_rowsOfAll (v0 : Nat) (h : AH) : CS M_Mod_rowsOfAll 1 0 emI [vr v0] h (Mod_rowsOfAll v0 h) := by
  refine CS.of (by decide) (Nat.le_of_ble_eq_true rfl) ?_
  show Sd M_Mod_rowsOfAll 1 0 emI 0 [(0, vr v0)] [] h _
  unfold Mod_rowsOfAll
  refine Sd_iconst (pc' := 1) (dc D_Mod_rowsOfAll 0 rfl) rfl ⟨by decide, by decide⟩ ?_
  refine Sd_istore_n (pc' := 2) (l' := [(1, _), (0, _)]) (dc D_Mod_rowsOfAll 1 rfl) rfl rfl (by decide) rfl ?_
  refine Sd_iconst (pc' := 3) (dc D_Mod_rowsOfAll 2 rfl) rfl ⟨by decide, by decide⟩ ?_
  refine Sd_istore_n (pc' := 4) (l' := [(2, _), (1, _), (0, _)]) (dc D_Mod_rowsOfAll 3 rfl) rfl rfl (by decide) rfl ?_
  refine Sd.sub (l' := [(0, _), (1, _), (2, _)]) [2, 1, 0] rfl ?_
  exact s_Mod_rowsOfAll_L4 FU _ _ _ _
theorem K_Mod_rowsOfAll : MOk M_Mod_rowsOfAll 0 := ⟨Tb_at 133 (by decide +kernel) rfl, Tb_at 1794 (by decide +kernel) rfl, by decide +kernel, by decide +kernel, by decide +kernel⟩
theorem Ks_Mod_rowsOfAll : Cond.instanceMethod yX12_rowsOfAll ∈ Tb := Tb_at 1793 (by decide +kernel) rfl
theorem Kv_Mod_rowsOfAll : Cond.selects RX12 yX12_rowsOfAll yX12_rowsOfAll ∈ Tb := Tb_at 107 (by decide +kernel) rfl
/-! ===== BatchShareModel.leastUsed()I ===== -/
abbrev M_Mod_leastUsed : AMt := (yX12_leastUsed, cX12_leastUsed, 3, (some .int))
def T_Mod_leastUsed : List (Nat × Instr × Nat) := [(0, .iconst 0, 1), (1, .istore_n 1, 1), (2, .iconst 1, 1), (3, .istore_n 2, 1), (4, .iload_n 2, 1), (5, .aload_n 0, 1), (6, .getfield 9, 3), (9, .iconst 5, 1), (10, .iaload, 1), (11, .if_icmp .ge 42, 3), (14, .aload_n 0, 1), (15, .getfield 25, 3), (18, .bipush 16, 2), (20, .iload_n 2, 1), (21, .imul, 1), (22, .bipush 14, 2), (24, .iadd, 1), (25, .iaload, 1), (26, .aload_n 0, 1), (27, .getfield 25, 3), (30, .bipush 16, 2), (32, .iload_n 1, 1), (33, .imul, 1), (34, .bipush 14, 2), (36, .iadd, 1), (37, .iaload, 1), (38, .if_icmp .ge 7, 3), (41, .iload_n 2, 1), (42, .goto 4, 3), (45, .iload_n 1, 1), (46, .istore_n 1, 1), (47, .iinc 2 1, 3), (50, .goto (-46), 3), (53, .iload_n 1, 1), (54, .ireturn, 1)]
set_option maxRecDepth 20000 in
theorem D_Mod_leastUsed : (T_Mod_leastUsed.all fun q => decide (decode M_Mod_leastUsed.2.1 q.1 = .ok q.2)) = true := by decide +kernel
def Mod_leastUsed_L4 : Nat → Nat → Int → Int → AH → Option (Int × AH)
  | 0, _, _, _, _ => none
  | n + 1, v0, v1, v2, h => gR h 13 v0 1 fun r1 => aI h 21 r1 5 fun x2 => if (x2 : Int) ≤ v2 then (some (v1, h)) else (gR h 13 v0 9 fun r3 => aI h 21 r3 (wr ((wr (16 * v2)) + 14)) fun x4 => gR h 13 v0 9 fun r5 => aI h 21 r5 (wr ((wr (16 * v1)) + 14)) fun x6 => if (x6 : Int) ≤ x4 then (Mod_leastUsed_L4 n v0 v1 ((wr (v2 + 1))) h) else (Mod_leastUsed_L4 n v0 v2 ((wr (v2 + 1))) h))
set_option maxHeartbeats 4000000 in
set_option maxRecDepth 20000 in
theorem s_Mod_leastUsed_L4 : ∀ (n : Nat) (v0 : Nat) (v1 : Int) (v2 : Int) (h : AH), Sd M_Mod_leastUsed 1 0 emI 4 [(0, vr v0), (1, vi v1), (2, vi v2)] [] h (Mod_leastUsed_L4 n v0 v1 v2 h)
  | 0, _, _, _, _ => Sd.none
  | n + 1, v0, v1, v2, h => by
    rw [Mod_leastUsed_L4]
    refine Sd_iload_n (pc' := 5) (dc D_Mod_leastUsed 4 rfl) rfl 2 rfl rfl ?_
    refine Sd_aload_n (pc' := 6) (dc D_Mod_leastUsed 5 rfl) rfl 0 rfl rfl ?_
    refine Sd_getR (pc' := 9) (dc D_Mod_leastUsed 6 rfl) rfl F_Mod_9 rfl rfl ?_
    refine Sd_iconst (pc' := 10) (dc D_Mod_leastUsed 7 rfl) rfl ⟨by decide, by decide⟩ ?_
    refine Sd_iaload (pc' := 11) (dc D_Mod_leastUsed 8 rfl) rfl ?_
    refine Sd_icmp_ge (tgt := 53) (pc' := 14) (dc D_Mod_leastUsed 9 rfl) (by decide) rfl (fun _ => ?_) (fun _ => ?_)
    · refine Sd_iload_n (pc' := 54) (dc D_Mod_leastUsed 33 rfl) rfl 1 rfl rfl ?_
      exact Sd_iret (dc D_Mod_leastUsed 34 rfl) rfl
    · refine Sd_aload_n (pc' := 15) (dc D_Mod_leastUsed 10 rfl) rfl 0 rfl rfl ?_
      refine Sd_getR (pc' := 18) (dc D_Mod_leastUsed 11 rfl) rfl F_Mod_25 rfl rfl ?_
      refine Sd_bipush (pc' := 20) (dc D_Mod_leastUsed 12 rfl) rfl ⟨by decide, by decide⟩ (by decide) ?_
      refine Sd_iload_n (pc' := 21) (dc D_Mod_leastUsed 13 rfl) rfl 2 rfl rfl ?_
      refine Sd_imul (pc' := 22) (dc D_Mod_leastUsed 14 rfl) rfl ?_
      refine Sd_bipush (pc' := 24) (dc D_Mod_leastUsed 15 rfl) rfl ⟨by decide, by decide⟩ (by decide) ?_
      refine Sd_iadd (pc' := 25) (dc D_Mod_leastUsed 16 rfl) rfl ?_
      refine Sd_iaload (pc' := 26) (dc D_Mod_leastUsed 17 rfl) rfl ?_
      refine Sd_aload_n (pc' := 27) (dc D_Mod_leastUsed 18 rfl) rfl 0 rfl rfl ?_
      refine Sd_getR (pc' := 30) (dc D_Mod_leastUsed 19 rfl) rfl F_Mod_25 rfl rfl ?_
      refine Sd_bipush (pc' := 32) (dc D_Mod_leastUsed 20 rfl) rfl ⟨by decide, by decide⟩ (by decide) ?_
      refine Sd_iload_n (pc' := 33) (dc D_Mod_leastUsed 21 rfl) rfl 1 rfl rfl ?_
      refine Sd_imul (pc' := 34) (dc D_Mod_leastUsed 22 rfl) rfl ?_
      refine Sd_bipush (pc' := 36) (dc D_Mod_leastUsed 23 rfl) rfl ⟨by decide, by decide⟩ (by decide) ?_
      refine Sd_iadd (pc' := 37) (dc D_Mod_leastUsed 24 rfl) rfl ?_
      refine Sd_iaload (pc' := 38) (dc D_Mod_leastUsed 25 rfl) rfl ?_
      refine Sd_icmp_ge (tgt := 45) (pc' := 41) (dc D_Mod_leastUsed 26 rfl) (by decide) rfl (fun _ => ?_) (fun _ => ?_)
      · refine Sd_iload_n (pc' := 46) (dc D_Mod_leastUsed 29 rfl) rfl 1 rfl rfl ?_
        refine Sd_istore_n (pc' := 47) (l' := [(1, _), (0, _), (2, _)]) (dc D_Mod_leastUsed 30 rfl) rfl rfl (by decide) rfl ?_
        refine Sd_iinc (pc' := 50) (l' := [(2, _), (1, _), (0, _)]) (dc D_Mod_leastUsed 31 rfl) rfl 2 rfl (by decide) rfl ?_
        refine Sd_goto (tgt := 4) (dc D_Mod_leastUsed 32 rfl) (by decide) ?_
        refine Sd.sub (l' := [(0, _), (1, _), (2, _)]) [2, 1, 0] rfl ?_
        exact s_Mod_leastUsed_L4 n _ _ _ _
      · refine Sd_iload_n (pc' := 42) (dc D_Mod_leastUsed 27 rfl) rfl 2 rfl rfl ?_
        refine Sd_goto (tgt := 46) (dc D_Mod_leastUsed 28 rfl) (by decide) ?_
        refine Sd_istore_n (pc' := 47) (l' := [(1, _), (0, _), (2, _)]) (dc D_Mod_leastUsed 30 rfl) rfl rfl (by decide) rfl ?_
        refine Sd_iinc (pc' := 50) (l' := [(2, _), (1, _), (0, _)]) (dc D_Mod_leastUsed 31 rfl) rfl 2 rfl (by decide) rfl ?_
        refine Sd_goto (tgt := 4) (dc D_Mod_leastUsed 32 rfl) (by decide) ?_
        refine Sd.sub (l' := [(0, _), (1, _), (2, _)]) [2, 1, 0] rfl ?_
        exact s_Mod_leastUsed_L4 n _ _ _ _
def Mod_leastUsed (v0 : Nat) (h : AH) : Option (Int × AH) := Mod_leastUsed_L4 FU v0 0 1 h
set_option maxHeartbeats 4000000 in
set_option maxRecDepth 20000 in
theorem s_Mod_leastUsed (v0 : Nat) (h : AH) : CS M_Mod_leastUsed 1 0 emI [vr v0] h (Mod_leastUsed v0 h) := by
  refine CS.of (by decide) (Nat.le_of_ble_eq_true rfl) ?_
  show Sd M_Mod_leastUsed 1 0 emI 0 [(0, vr v0)] [] h _
  unfold Mod_leastUsed
  refine Sd_iconst (pc' := 1) (dc D_Mod_leastUsed 0 rfl) rfl ⟨by decide, by decide⟩ ?_
  refine Sd_istore_n (pc' := 2) (l' := [(1, _), (0, _)]) (dc D_Mod_leastUsed 1 rfl) rfl rfl (by decide) rfl ?_
  refine Sd_iconst (pc' := 3) (dc D_Mod_leastUsed 2 rfl) rfl ⟨by decide, by decide⟩ ?_
  refine Sd_istore_n (pc' := 4) (l' := [(2, _), (1, _), (0, _)]) (dc D_Mod_leastUsed 3 rfl) rfl rfl (by decide) rfl ?_
  refine Sd.sub (l' := [(0, _), (1, _), (2, _)]) [2, 1, 0] rfl ?_
  exact s_Mod_leastUsed_L4 FU _ _ _ _
theorem K_Mod_leastUsed : MOk M_Mod_leastUsed 0 := ⟨Tb_at 133 (by decide +kernel) rfl, Tb_at 1798 (by decide +kernel) rfl, by decide +kernel, by decide +kernel, by decide +kernel⟩
theorem Ks_Mod_leastUsed : Cond.instanceMethod yX12_leastUsed ∈ Tb := Tb_at 1797 (by decide +kernel) rfl
theorem Kv_Mod_leastUsed : Cond.selects RX12 yX12_leastUsed yX12_leastUsed ∈ Tb := Tb_at 108 (by decide +kernel) rfl
/-! ===== BatchShareModel.forgets(I)V ===== -/
abbrev M_Mod_forgets : AMt := (yX12_forgets, cX12_forgets, 3, none)
def T_Mod_forgets : List (Nat × Instr × Nat) := [(0, .aload_n 0, 1), (1, .getfield 9, 3), (4, .iconst 5, 1), (5, .dup2, 1), (6, .iaload, 1), (7, .iconst 1, 1), (8, .isub, 1), (9, .iastore, 1), (10, .bipush 16, 2), (12, .iload_n 1, 1), (13, .imul, 1), (14, .istore_n 2, 1), (15, .iload_n 2, 1), (16, .bipush 16, 2), (18, .aload_n 0, 1), (19, .getfield 9, 3), (22, .iconst 5, 1), (23, .iaload, 1), (24, .imul, 1), (25, .if_icmp .ge 24, 3), (28, .aload_n 0, 1), (29, .getfield 25, 3), (32, .iload_n 2, 1), (33, .aload_n 0, 1), (34, .getfield 25, 3), (37, .iload_n 2, 1), (38, .bipush 16, 2), (40, .iadd, 1), (41, .iaload, 1), (42, .iastore, 1), (43, .iinc 2 1, 3), (46, .goto (-31), 3), (49, .return_, 1)]
set_option maxRecDepth 20000 in
theorem D_Mod_forgets : (T_Mod_forgets.all fun q => decide (decode M_Mod_forgets.2.1 q.1 = .ok q.2)) = true := by decide +kernel
def Mod_forgets_L15 : Nat → Nat → Int → AH → Option (Unit × AH)
  | 0, _, _, _ => none
  | n + 1, v0, v2, h => gR h 13 v0 1 fun r1 => aI h 21 r1 5 fun x2 => if ((wr (16 * x2)) : Int) ≤ v2 then (some ((), h)) else (gR h 13 v0 9 fun r3 => gR h 13 v0 9 fun r4 => aI h 21 r4 (wr (v2 + 16)) fun x5 => wI h 21 r3 v2 x5 fun h6 => Mod_forgets_L15 n v0 ((wr (v2 + 1))) h6)
set_option maxHeartbeats 4000000 in
set_option maxRecDepth 20000 in
theorem s_Mod_forgets_L15 : ∀ (n : Nat) (v0 : Nat) (v2 : Int) (h : AH), Sd M_Mod_forgets 1 0 emV 15 [(0, vr v0), (2, vi v2)] [] h (Mod_forgets_L15 n v0 v2 h)
  | 0, _, _, _ => Sd.none
  | n + 1, v0, v2, h => by
    rw [Mod_forgets_L15]
    refine Sd_iload_n (pc' := 16) (dc D_Mod_forgets 12 rfl) rfl 1 rfl rfl ?_
    refine Sd_bipush (pc' := 18) (dc D_Mod_forgets 13 rfl) rfl ⟨by decide, by decide⟩ (by decide) ?_
    refine Sd_aload_n (pc' := 19) (dc D_Mod_forgets 14 rfl) rfl 0 rfl rfl ?_
    refine Sd_getR (pc' := 22) (dc D_Mod_forgets 15 rfl) rfl F_Mod_9 rfl rfl ?_
    refine Sd_iconst (pc' := 23) (dc D_Mod_forgets 16 rfl) rfl ⟨by decide, by decide⟩ ?_
    refine Sd_iaload (pc' := 24) (dc D_Mod_forgets 17 rfl) rfl ?_
    refine Sd_imul (pc' := 25) (dc D_Mod_forgets 18 rfl) rfl ?_
    refine Sd_icmp_ge (tgt := 49) (pc' := 28) (dc D_Mod_forgets 19 rfl) (by decide) rfl (fun _ => ?_) (fun _ => ?_)
    · exact Sd_vret (dc D_Mod_forgets 32 rfl) rfl
    · refine Sd_aload_n (pc' := 29) (dc D_Mod_forgets 20 rfl) rfl 0 rfl rfl ?_
      refine Sd_getR (pc' := 32) (dc D_Mod_forgets 21 rfl) rfl F_Mod_25 rfl rfl ?_
      refine Sd_iload_n (pc' := 33) (dc D_Mod_forgets 22 rfl) rfl 1 rfl rfl ?_
      refine Sd_aload_n (pc' := 34) (dc D_Mod_forgets 23 rfl) rfl 0 rfl rfl ?_
      refine Sd_getR (pc' := 37) (dc D_Mod_forgets 24 rfl) rfl F_Mod_25 rfl rfl ?_
      refine Sd_iload_n (pc' := 38) (dc D_Mod_forgets 25 rfl) rfl 1 rfl rfl ?_
      refine Sd_bipush (pc' := 40) (dc D_Mod_forgets 26 rfl) rfl ⟨by decide, by decide⟩ (by decide) ?_
      refine Sd_iadd (pc' := 41) (dc D_Mod_forgets 27 rfl) rfl ?_
      refine Sd_iaload (pc' := 42) (dc D_Mod_forgets 28 rfl) rfl ?_
      refine Sd_iastore (pc' := 43) (dc D_Mod_forgets 29 rfl) rfl (by decide) ?_
      refine Sd_iinc (pc' := 46) (l' := [(2, _), (0, _)]) (dc D_Mod_forgets 30 rfl) rfl 1 rfl (by decide) rfl ?_
      refine Sd_goto (tgt := 15) (dc D_Mod_forgets 31 rfl) (by decide) ?_
      refine Sd.sub (l' := [(0, _), (2, _)]) [1, 0] rfl ?_
      exact s_Mod_forgets_L15 n _ _ _
def Mod_forgets (v0 : Nat) (v1 : Int) (h : AH) : Option (Unit × AH) := gR h 13 v0 1 fun r1 => aI h 21 r1 5 fun x2 => wI h 21 r1 5 (wr (x2 - 1)) fun h3 => Mod_forgets_L15 FU v0 ((wr (16 * v1))) h3
set_option maxHeartbeats 4000000 in
set_option maxRecDepth 20000 in
theorem s_Mod_forgets (v0 : Nat) (v1 : Int) (h : AH) : CS M_Mod_forgets 1 0 emV [vr v0, vi v1] h (Mod_forgets v0 v1 h) := by
  refine CS.of (by decide) (Nat.le_of_ble_eq_true rfl) ?_
  show Sd M_Mod_forgets 1 0 emV 0 [(0, vr v0), (1, vi v1)] [] h _
  unfold Mod_forgets
  refine Sd_aload_n (pc' := 1) (dc D_Mod_forgets 0 rfl) rfl 0 rfl rfl ?_
  refine Sd_getR (pc' := 4) (dc D_Mod_forgets 1 rfl) rfl F_Mod_9 rfl rfl ?_
  refine Sd_iconst (pc' := 5) (dc D_Mod_forgets 2 rfl) rfl ⟨by decide, by decide⟩ ?_
  refine Sd_dup2 (pc' := 6) (dc D_Mod_forgets 3 rfl) rfl (cat_i _) (cat_r _) ?_
  refine Sd_iaload (pc' := 7) (dc D_Mod_forgets 4 rfl) rfl ?_
  refine Sd_iconst (pc' := 8) (dc D_Mod_forgets 5 rfl) rfl ⟨by decide, by decide⟩ ?_
  refine Sd_isub (pc' := 9) (dc D_Mod_forgets 6 rfl) rfl ?_
  refine Sd_iastore (pc' := 10) (dc D_Mod_forgets 7 rfl) rfl (by decide) ?_
  refine Sd_bipush (pc' := 12) (dc D_Mod_forgets 8 rfl) rfl ⟨by decide, by decide⟩ (by decide) ?_
  refine Sd_iload_n (pc' := 13) (dc D_Mod_forgets 9 rfl) rfl 1 rfl rfl ?_
  refine Sd_imul (pc' := 14) (dc D_Mod_forgets 10 rfl) rfl ?_
  refine Sd_istore_n (pc' := 15) (l' := [(2, _), (0, _), (1, _)]) (dc D_Mod_forgets 11 rfl) rfl rfl (by decide) rfl ?_
  refine Sd.sub (l' := [(0, _), (2, _)]) [1, 0] rfl ?_
  exact s_Mod_forgets_L15 FU _ _ _
theorem K_Mod_forgets : MOk M_Mod_forgets 1 := ⟨Tb_at 133 (by decide +kernel) rfl, Tb_at 1802 (by decide +kernel) rfl, by decide +kernel, by decide +kernel, by decide +kernel⟩
theorem Ks_Mod_forgets : Cond.instanceMethod yX12_forgets ∈ Tb := Tb_at 1801 (by decide +kernel) rfl
theorem Kv_Mod_forgets : Cond.selects RX12 yX12_forgets yX12_forgets ∈ Tb := Tb_at 109 (by decide +kernel) rfl
/-! ===== BatchShareModel.keep(I)I ===== -/
abbrev M_Mod_keep : AMt := (yX12_keep, cX12_keep, 4, (some .int))
def T_Mod_keep : List (Nat × Instr × Nat) := [(0, .aload_n 0, 1), (1, .invokevirtual 445, 3), (4, .ifCond .eq 33, 3), (7, .aload_n 0, 1), (8, .iload_n 1, 1), (9, .invokevirtual 338, 3), (12, .ifCond .eq 25, 3), (15, .aload_n 0, 1), (16, .iload_n 1, 1), (17, .invokevirtual 395, 3), (20, .aload_n 0, 1), (21, .getfield 9, 3), (24, .iconst 1, 1), (25, .iaload, 1), (26, .if_icmp .gt 11, 3), (29, .aload_n 0, 1), (30, .iload_n 1, 1), (31, .invokevirtual 470, 3), (34, .ifCond .eq 5, 3), (37, .iconst (-1), 1), (38, .ireturn, 1), (39, .aload_n 0, 1), (40, .invokevirtual 450, 3), (43, .iconst 0, 1), (44, .istore_n 2, 1), (45, .aload_n 0, 1), (46, .invokevirtual 473, 3), (49, .aload_n 0, 1), (50, .iload_n 1, 1), (51, .invokevirtual 395, 3), (54, .iadd, 1), (55, .aload_n 0, 1), (56, .getfield 9, 3), (59, .iconst 1, 1), (60, .iaload, 1), (61, .if_icmp .gt 14, 3), (64, .aload_n 0, 1), (65, .getfield 9, 3), (68, .iconst 5, 1), (69, .iaload, 1), (70, .bipush 6, 2), (72, .if_icmp .ne 17, 3), (75, .aload_n 0, 1), (76, .aload_n 0, 1), (77, .invokevirtual 476, 3), (80, .invokevirtual 479, 3), (83, .iinc 2 1, 3), (86, .goto (-41), 3), (89, .bipush 16, 2), (91, .aload_n 0, 1), (92, .getfield 9, 3), (95, .iconst 5, 1), (96, .iaload, 1), (97, .imul, 1), (98, .istore_n 3, 1), (99, .aload_n 0, 1), (100, .getfield 62, 3), (103, .bipush 16, 2), (105, .iload_n 1, 1), (106, .imul, 1), (107, .aload_n 0, 1), (108, .getfield 25, 3), (111, .iload_n 3, 1), (112, .bipush 16, 2), (114, .invokestatic 346, 3), (117, .aload_n 0, 1), (118, .getfield 25, 3), (121, .iload_n 3, 1), (122, .bipush 14, 2), (124, .iadd, 1), (125, .aload_n 0, 1), (126, .getfield 9, 3), (129, .bipush 7, 2), (131, .iaload, 1), (132, .iastore, 1), (133, .aload_n 0, 1), (134, .getfield 9, 3), (137, .iconst 5, 1), (138, .dup2, 1), (139, .iaload, 1), (140, .iconst 1, 1), (141, .iadd, 1), (142, .iastore, 1), (143, .aload_n 0, 1), (144, .getfield 9, 3), (147, .bipush 6, 2), (149, .dup2, 1), (150, .iaload, 1), (151, .aload_n 0, 1), (152, .getfield 65, 3), (155, .iload_n 1, 1), (156, .iaload, 1), (157, .iadd, 1), (158, .iastore, 1), (159, .iload_n 2, 1), (160, .ireturn, 1)]
set_option maxRecDepth 20000 in
theorem D_Mod_keep : (T_Mod_keep.all fun q => decide (decode M_Mod_keep.2.1 q.1 = .ok q.2)) = true := by decide +kernel
def Mod_keep_L75 (k45 : Nat → Int → Int → AH → Option (Int × AH)) (v0 : Nat) (v1 : Int) (v2 : Int) (h : AH) : Option (Int × AH) := rc h 13 v0 <| bnd (Mod_leastUsed v0 h) fun x2 h1 => rc h1 13 v0 <| bnd (Mod_forgets v0 x2 h1) fun _ h4 => k45 v0 v1 ((wr (v2 + 1))) h4
set_option maxHeartbeats 4000000 in
set_option maxRecDepth 20000 in
theorem s_Mod_keep_L75 (k45 : Nat → Int → Int → AH → Option (Int × AH)) (hk45 : ∀ v0 v1 v2 h, Sd M_Mod_keep 8 168 emI 45 [(0, vr v0), (1, vi v1), (2, vi v2)] [] h (k45 v0 v1 v2 h)) (v0 : Nat) (v1 : Int) (v2 : Int) (h : AH) : Sd M_Mod_keep 8 168 emI 75 [(0, vr v0), (1, vi v1), (2, vi v2)] [] h (Mod_keep_L75 k45 v0 v1 v2 h) := by
  unfold Mod_keep_L75
  refine Sd_aload_n (pc' := 76) (dc D_Mod_keep 42 rfl) rfl 0 rfl rfl ?_
  refine Sd_aload_n (pc' := 77) (dc D_Mod_keep 43 rfl) rfl 0 rfl rfl ?_
  refine Sd.callVI (ci := 12) (t := 13) (as := []) RX12 (pc' := 80) (dc D_Mod_keep 44 rfl) rfl rfl rfl rfl K_Mod_leastUsed L_Mod_476 Ks_Mod_leastUsed Kv_Mod_leastUsed ⟨by decide, by decide⟩ rfl rfl (Nat.le_of_ble_eq_true rfl) (s_Mod_leastUsed _ _) (fun x2 h1 => ?_)
  refine Sd.callVV (ci := 12) (t := 13) (as := [_]) RX12 (pc' := 83) (dc D_Mod_keep 45 rfl) rfl rfl rfl rfl K_Mod_forgets L_Mod_479 Ks_Mod_forgets Kv_Mod_forgets ⟨by decide, by decide⟩ rfl rfl (Nat.le_of_ble_eq_true rfl) (s_Mod_forgets _ _ _) (fun _ h4 => ?_)
  refine Sd_iinc (pc' := 86) (l' := [(2, _), (0, _), (1, _)]) (dc D_Mod_keep 46 rfl) rfl 2 rfl (by decide) rfl ?_
  refine Sd_goto (tgt := 45) (dc D_Mod_keep 47 rfl) (by decide) ?_
  refine Sd.sub (l' := [(0, _), (1, _), (2, _)]) [1, 2, 0] rfl ?_
  exact hk45 _ _ _ _
def Mod_keep_L45 : Nat → Nat → Int → Int → AH → Option (Int × AH)
  | 0, _, _, _, _ => none
  | n + 1, v0, v1, v2, h => rc h 13 v0 <| bnd (Mod_rowsOfAll v0 h) fun x2 h1 => rc h1 13 v0 <| bnd (Mod_rowsOfOne v0 v1 h1) fun x5 h4 => gR h4 13 v0 1 fun r7 => aI h4 21 r7 1 fun x8 => if (x8 : Int) < (wr (x2 + x5)) then (Mod_keep_L75 (Mod_keep_L45 n) v0 v1 v2 h4) else (gR h4 13 v0 1 fun r9 => aI h4 21 r9 5 fun x10 => if ¬ (x10 : Int) = 6 then (gR h4 13 v0 1 fun r11 => aI h4 21 r11 5 fun x12 => gR h4 13 v0 29 fun r13 => gR h4 13 v0 9 fun r14 => bnd (Mod_copiesInto r13 (wr (16 * v1)) r14 (wr (16 * x12)) 16 h4) fun _ h15 => gR h15 13 v0 9 fun r18 => gR h15 13 v0 1 fun r19 => aI h15 21 r19 7 fun x20 => wI h15 21 r18 (wr ((wr (16 * x12)) + 14)) x20 fun h21 => gR h21 13 v0 1 fun r22 => aI h21 21 r22 5 fun x23 => wI h21 21 r22 5 (wr (x23 + 1)) fun h24 => gR h24 13 v0 1 fun r25 => aI h24 21 r25 6 fun x26 => gR h24 13 v0 30 fun r27 => aI h24 21 r27 v1 fun x28 => wI h24 21 r25 6 (wr (x26 + x28)) fun h29 => some (v2, h29)) else (Mod_keep_L75 (Mod_keep_L45 n) v0 v1 v2 h4))
set_option maxHeartbeats 4000000 in
set_option maxRecDepth 20000 in
theorem s_Mod_keep_L45 : ∀ (n : Nat) (v0 : Nat) (v1 : Int) (v2 : Int) (h : AH), Sd M_Mod_keep 8 168 emI 45 [(0, vr v0), (1, vi v1), (2, vi v2)] [] h (Mod_keep_L45 n v0 v1 v2 h)
  | 0, _, _, _, _ => Sd.none
  | n + 1, v0, v1, v2, h => by
    rw [Mod_keep_L45]
    refine Sd_aload_n (pc' := 46) (dc D_Mod_keep 25 rfl) rfl 0 rfl rfl ?_
    refine Sd.callVI (ci := 12) (t := 13) (as := []) RX12 (pc' := 49) (dc D_Mod_keep 26 rfl) rfl rfl rfl rfl K_Mod_rowsOfAll L_Mod_473 Ks_Mod_rowsOfAll Kv_Mod_rowsOfAll ⟨by decide, by decide⟩ rfl rfl (Nat.le_of_ble_eq_true rfl) (s_Mod_rowsOfAll _ _) (fun x2 h1 => ?_)
    refine Sd_aload_n (pc' := 50) (dc D_Mod_keep 27 rfl) rfl 0 rfl rfl ?_
    refine Sd_iload_n (pc' := 51) (dc D_Mod_keep 28 rfl) rfl 1 rfl rfl ?_
    refine Sd.callVI (ci := 12) (t := 13) (as := [_]) RX12 (pc' := 54) (dc D_Mod_keep 29 rfl) rfl rfl rfl rfl K_Mod_rowsOfOne L_Mod_395 Ks_Mod_rowsOfOne Kv_Mod_rowsOfOne ⟨by decide, by decide⟩ rfl rfl (Nat.le_of_ble_eq_true rfl) (s_Mod_rowsOfOne _ _ _) (fun x5 h4 => ?_)
    refine Sd_iadd (pc' := 55) (dc D_Mod_keep 30 rfl) rfl ?_
    refine Sd_aload_n (pc' := 56) (dc D_Mod_keep 31 rfl) rfl 0 rfl rfl ?_
    refine Sd_getR (pc' := 59) (dc D_Mod_keep 32 rfl) rfl F_Mod_9 rfl rfl ?_
    refine Sd_iconst (pc' := 60) (dc D_Mod_keep 33 rfl) rfl ⟨by decide, by decide⟩ ?_
    refine Sd_iaload (pc' := 61) (dc D_Mod_keep 34 rfl) rfl ?_
    refine Sd_icmp_gt (tgt := 75) (pc' := 64) (dc D_Mod_keep 35 rfl) (by decide) rfl (fun _ => ?_) (fun _ => ?_)
    · exact s_Mod_keep_L75 (Mod_keep_L45 n) (s_Mod_keep_L45 n) _ _ _ _
    · refine Sd_aload_n (pc' := 65) (dc D_Mod_keep 36 rfl) rfl 0 rfl rfl ?_
      refine Sd_getR (pc' := 68) (dc D_Mod_keep 37 rfl) rfl F_Mod_9 rfl rfl ?_
      refine Sd_iconst (pc' := 69) (dc D_Mod_keep 38 rfl) rfl ⟨by decide, by decide⟩ ?_
      refine Sd_iaload (pc' := 70) (dc D_Mod_keep 39 rfl) rfl ?_
      refine Sd_bipush (pc' := 72) (dc D_Mod_keep 40 rfl) rfl ⟨by decide, by decide⟩ (by decide) ?_
      refine Sd_icmp_ne (tgt := 89) (pc' := 75) (dc D_Mod_keep 41 rfl) (by decide) rfl (fun _ => ?_) (fun _ => ?_)
      · refine Sd_bipush (pc' := 91) (dc D_Mod_keep 48 rfl) rfl ⟨by decide, by decide⟩ (by decide) ?_
        refine Sd_aload_n (pc' := 92) (dc D_Mod_keep 49 rfl) rfl 0 rfl rfl ?_
        refine Sd_getR (pc' := 95) (dc D_Mod_keep 50 rfl) rfl F_Mod_9 rfl rfl ?_
        refine Sd_iconst (pc' := 96) (dc D_Mod_keep 51 rfl) rfl ⟨by decide, by decide⟩ ?_
        refine Sd_iaload (pc' := 97) (dc D_Mod_keep 52 rfl) rfl ?_
        refine Sd_imul (pc' := 98) (dc D_Mod_keep 53 rfl) rfl ?_
        refine Sd_istore_n (pc' := 99) (l' := [(3, _), (0, _), (1, _), (2, _)]) (dc D_Mod_keep 54 rfl) rfl rfl (by decide) rfl ?_
        refine Sd_aload_n (pc' := 100) (dc D_Mod_keep 55 rfl) rfl 1 rfl rfl ?_
        refine Sd_getR (pc' := 103) (dc D_Mod_keep 56 rfl) rfl F_Mod_62 rfl rfl ?_
        refine Sd_bipush (pc' := 105) (dc D_Mod_keep 57 rfl) rfl ⟨by decide, by decide⟩ (by decide) ?_
        refine Sd_iload_n (pc' := 106) (dc D_Mod_keep 58 rfl) rfl 2 rfl rfl ?_
        refine Sd_imul (pc' := 107) (dc D_Mod_keep 59 rfl) rfl ?_
        refine Sd_aload_n (pc' := 108) (dc D_Mod_keep 60 rfl) rfl 1 rfl rfl ?_
        refine Sd_getR (pc' := 111) (dc D_Mod_keep 61 rfl) rfl F_Mod_25 rfl rfl ?_
        refine Sd_iload_n (pc' := 112) (dc D_Mod_keep 62 rfl) rfl 0 rfl rfl ?_
        refine Sd_bipush (pc' := 114) (dc D_Mod_keep 63 rfl) rfl ⟨by decide, by decide⟩ (by decide) ?_
        refine Sd.callSV (as := [_, _, _, _, _]) (pc' := 117) (dc D_Mod_keep 64 rfl) rfl K_Mod_copiesInto L_Mod_346 Ks_Mod_copiesInto ⟨by decide, by decide⟩ rfl rfl (Nat.le_of_ble_eq_true rfl) (s_Mod_copiesInto _ _ _ _ _ _) (fun _ h15 => ?_)
        refine Sd_aload_n (pc' := 118) (dc D_Mod_keep 65 rfl) rfl 1 rfl rfl ?_
        refine Sd_getR (pc' := 121) (dc D_Mod_keep 66 rfl) rfl F_Mod_25 rfl rfl ?_
        refine Sd_iload_n (pc' := 122) (dc D_Mod_keep 67 rfl) rfl 0 rfl rfl ?_
        refine Sd_bipush (pc' := 124) (dc D_Mod_keep 68 rfl) rfl ⟨by decide, by decide⟩ (by decide) ?_
        refine Sd_iadd (pc' := 125) (dc D_Mod_keep 69 rfl) rfl ?_
        refine Sd_aload_n (pc' := 126) (dc D_Mod_keep 70 rfl) rfl 1 rfl rfl ?_
        refine Sd_getR (pc' := 129) (dc D_Mod_keep 71 rfl) rfl F_Mod_9 rfl rfl ?_
        refine Sd_bipush (pc' := 131) (dc D_Mod_keep 72 rfl) rfl ⟨by decide, by decide⟩ (by decide) ?_
        refine Sd_iaload (pc' := 132) (dc D_Mod_keep 73 rfl) rfl ?_
        refine Sd_iastore (pc' := 133) (dc D_Mod_keep 74 rfl) rfl (by decide) ?_
        refine Sd_aload_n (pc' := 134) (dc D_Mod_keep 75 rfl) rfl 1 rfl rfl ?_
        refine Sd_getR (pc' := 137) (dc D_Mod_keep 76 rfl) rfl F_Mod_9 rfl rfl ?_
        refine Sd_iconst (pc' := 138) (dc D_Mod_keep 77 rfl) rfl ⟨by decide, by decide⟩ ?_
        refine Sd_dup2 (pc' := 139) (dc D_Mod_keep 78 rfl) rfl (cat_i _) (cat_r _) ?_
        refine Sd_iaload (pc' := 140) (dc D_Mod_keep 79 rfl) rfl ?_
        refine Sd_iconst (pc' := 141) (dc D_Mod_keep 80 rfl) rfl ⟨by decide, by decide⟩ ?_
        refine Sd_iadd (pc' := 142) (dc D_Mod_keep 81 rfl) rfl ?_
        refine Sd_iastore (pc' := 143) (dc D_Mod_keep 82 rfl) rfl (by decide) ?_
        refine Sd_aload_n (pc' := 144) (dc D_Mod_keep 83 rfl) rfl 1 rfl rfl ?_
        refine Sd_getR (pc' := 147) (dc D_Mod_keep 84 rfl) rfl F_Mod_9 rfl rfl ?_
        refine Sd_bipush (pc' := 149) (dc D_Mod_keep 85 rfl) rfl ⟨by decide, by decide⟩ (by decide) ?_
        refine Sd_dup2 (pc' := 150) (dc D_Mod_keep 86 rfl) rfl (cat_i _) (cat_r _) ?_
        refine Sd_iaload (pc' := 151) (dc D_Mod_keep 87 rfl) rfl ?_
        refine Sd_aload_n (pc' := 152) (dc D_Mod_keep 88 rfl) rfl 1 rfl rfl ?_
        refine Sd_getR (pc' := 155) (dc D_Mod_keep 89 rfl) rfl F_Mod_65 rfl rfl ?_
        refine Sd_iload_n (pc' := 156) (dc D_Mod_keep 90 rfl) rfl 2 rfl rfl ?_
        refine Sd_iaload (pc' := 157) (dc D_Mod_keep 91 rfl) rfl ?_
        refine Sd_iadd (pc' := 158) (dc D_Mod_keep 92 rfl) rfl ?_
        refine Sd_iastore (pc' := 159) (dc D_Mod_keep 93 rfl) rfl (by decide) ?_
        refine Sd_iload_n (pc' := 160) (dc D_Mod_keep 94 rfl) rfl 3 rfl rfl ?_
        exact Sd_iret (dc D_Mod_keep 95 rfl) rfl
      · exact s_Mod_keep_L75 (Mod_keep_L45 n) (s_Mod_keep_L45 n) _ _ _ _
def Mod_keep (v0 : Nat) (v1 : Int) (h : AH) : Option (Int × AH) := rc h 13 v0 <| bnd (Mod_isBase v0 h) fun x2 h1 => if (x2 : Int) = 0 then (some ((-1), h1)) else (rc h1 13 v0 <| bnd (Mod_isCandidate v0 v1 h1) fun x5 h4 => if (x5 : Int) = 0 then (some ((-1), h4)) else (rc h4 13 v0 <| bnd (Mod_rowsOfOne v0 v1 h4) fun x8 h7 => gR h7 13 v0 1 fun r10 => aI h7 21 r10 1 fun x11 => if (x11 : Int) < x8 then (some ((-1), h7)) else (rc h7 13 v0 <| bnd (Mod_isKeptAlready v0 v1 h7) fun x13 h12 => if (x13 : Int) = 0 then (rc h12 13 v0 <| bnd (Mod_keepsAct v0 h12) fun _ h15 => Mod_keep_L45 FU v0 v1 0 h15) else (some ((-1), h12)))))
set_option maxHeartbeats 4000000 in
set_option maxRecDepth 20000 in
theorem s_Mod_keep (v0 : Nat) (v1 : Int) (h : AH) : CS M_Mod_keep 8 168 emI [vr v0, vi v1] h (Mod_keep v0 v1 h) := by
  refine CS.of (by decide) (Nat.le_of_ble_eq_true rfl) ?_
  show Sd M_Mod_keep 8 168 emI 0 [(0, vr v0), (1, vi v1)] [] h _
  unfold Mod_keep
  refine Sd_aload_n (pc' := 1) (dc D_Mod_keep 0 rfl) rfl 0 rfl rfl ?_
  refine Sd.callVI (ci := 12) (t := 13) (as := []) RX12 (pc' := 4) (dc D_Mod_keep 1 rfl) rfl rfl rfl rfl K_Mod_isBase L_Mod_445 Ks_Mod_isBase Kv_Mod_isBase ⟨by decide, by decide⟩ rfl rfl (Nat.le_of_ble_eq_true rfl) (s_Mod_isBase _ _) (fun x2 h1 => ?_)
  refine Sd_if_eq (tgt := 37) (pc' := 7) (dc D_Mod_keep 2 rfl) (by decide) rfl (fun _ => ?_) (fun _ => ?_)
  · refine Sd_iconst (pc' := 38) (dc D_Mod_keep 19 rfl) rfl ⟨by decide, by decide⟩ ?_
    exact Sd_iret (dc D_Mod_keep 20 rfl) rfl
  · refine Sd_aload_n (pc' := 8) (dc D_Mod_keep 3 rfl) rfl 0 rfl rfl ?_
    refine Sd_iload_n (pc' := 9) (dc D_Mod_keep 4 rfl) rfl 1 rfl rfl ?_
    refine Sd.callVI (ci := 12) (t := 13) (as := [_]) RX12 (pc' := 12) (dc D_Mod_keep 5 rfl) rfl rfl rfl rfl K_Mod_isCandidate L_Mod_338 Ks_Mod_isCandidate Kv_Mod_isCandidate ⟨by decide, by decide⟩ rfl rfl (Nat.le_of_ble_eq_true rfl) (s_Mod_isCandidate _ _ _) (fun x5 h4 => ?_)
    refine Sd_if_eq (tgt := 37) (pc' := 15) (dc D_Mod_keep 6 rfl) (by decide) rfl (fun _ => ?_) (fun _ => ?_)
    · refine Sd_iconst (pc' := 38) (dc D_Mod_keep 19 rfl) rfl ⟨by decide, by decide⟩ ?_
      exact Sd_iret (dc D_Mod_keep 20 rfl) rfl
    · refine Sd_aload_n (pc' := 16) (dc D_Mod_keep 7 rfl) rfl 0 rfl rfl ?_
      refine Sd_iload_n (pc' := 17) (dc D_Mod_keep 8 rfl) rfl 1 rfl rfl ?_
      refine Sd.callVI (ci := 12) (t := 13) (as := [_]) RX12 (pc' := 20) (dc D_Mod_keep 9 rfl) rfl rfl rfl rfl K_Mod_rowsOfOne L_Mod_395 Ks_Mod_rowsOfOne Kv_Mod_rowsOfOne ⟨by decide, by decide⟩ rfl rfl (Nat.le_of_ble_eq_true rfl) (s_Mod_rowsOfOne _ _ _) (fun x8 h7 => ?_)
      refine Sd_aload_n (pc' := 21) (dc D_Mod_keep 10 rfl) rfl 0 rfl rfl ?_
      refine Sd_getR (pc' := 24) (dc D_Mod_keep 11 rfl) rfl F_Mod_9 rfl rfl ?_
      refine Sd_iconst (pc' := 25) (dc D_Mod_keep 12 rfl) rfl ⟨by decide, by decide⟩ ?_
      refine Sd_iaload (pc' := 26) (dc D_Mod_keep 13 rfl) rfl ?_
      refine Sd_icmp_gt (tgt := 37) (pc' := 29) (dc D_Mod_keep 14 rfl) (by decide) rfl (fun _ => ?_) (fun _ => ?_)
      · refine Sd_iconst (pc' := 38) (dc D_Mod_keep 19 rfl) rfl ⟨by decide, by decide⟩ ?_
        exact Sd_iret (dc D_Mod_keep 20 rfl) rfl
      · refine Sd_aload_n (pc' := 30) (dc D_Mod_keep 15 rfl) rfl 0 rfl rfl ?_
        refine Sd_iload_n (pc' := 31) (dc D_Mod_keep 16 rfl) rfl 1 rfl rfl ?_
        refine Sd.callVI (ci := 12) (t := 13) (as := [_]) RX12 (pc' := 34) (dc D_Mod_keep 17 rfl) rfl rfl rfl rfl K_Mod_isKeptAlready L_Mod_470 Ks_Mod_isKeptAlready Kv_Mod_isKeptAlready ⟨by decide, by decide⟩ rfl rfl (Nat.le_of_ble_eq_true rfl) (s_Mod_isKeptAlready _ _ _) (fun x13 h12 => ?_)
        refine Sd_if_eq (tgt := 39) (pc' := 37) (dc D_Mod_keep 18 rfl) (by decide) rfl (fun _ => ?_) (fun _ => ?_)
        · refine Sd_aload_n (pc' := 40) (dc D_Mod_keep 21 rfl) rfl 0 rfl rfl ?_
          refine Sd.callVV (ci := 12) (t := 13) (as := []) RX12 (pc' := 43) (dc D_Mod_keep 22 rfl) rfl rfl rfl rfl K_Mod_keepsAct L_Mod_450 Ks_Mod_keepsAct Kv_Mod_keepsAct ⟨by decide, by decide⟩ rfl rfl (Nat.le_of_ble_eq_true rfl) (s_Mod_keepsAct _ _) (fun _ h15 => ?_)
          refine Sd_iconst (pc' := 44) (dc D_Mod_keep 23 rfl) rfl ⟨by decide, by decide⟩ ?_
          refine Sd_istore_n (pc' := 45) (l' := [(2, _), (0, _), (1, _)]) (dc D_Mod_keep 24 rfl) rfl rfl (by decide) rfl ?_
          refine Sd.sub (l' := [(0, _), (1, _), (2, _)]) [1, 2, 0] rfl ?_
          exact s_Mod_keep_L45 FU _ _ _ _
        · refine Sd_iconst (pc' := 38) (dc D_Mod_keep 19 rfl) rfl ⟨by decide, by decide⟩ ?_
          exact Sd_iret (dc D_Mod_keep 20 rfl) rfl
theorem K_Mod_keep : MOk M_Mod_keep 1 := ⟨Tb_at 133 (by decide +kernel) rfl, Tb_at 1786 (by decide +kernel) rfl, by decide +kernel, by decide +kernel, by decide +kernel⟩
theorem Ks_Mod_keep : Cond.instanceMethod yX12_keep ∈ Tb := Tb_at 1784 (by decide +kernel) rfl
theorem Kv_Mod_keep : Cond.selects RX12 yX12_keep yX12_keep ∈ Tb := Tb_at 1785 (by decide +kernel) rfl
/-! ===== BatchShareModel.isKeptOne(I)Z ===== -/
abbrev M_Mod_isKeptOne : AMt := (yX12_isKeptOne, cX12_isKeptOne, 2, (some .boolean))
def T_Mod_isKeptOne : List (Nat × Instr × Nat) := [(0, .iload_n 1, 1), (1, .i2l, 1), (2, .lconst 0, 1), (3, .aload_n 0, 1), (4, .getfield 9, 3), (7, .iconst 5, 1), (8, .iaload, 1), (9, .iconst 1, 1), (10, .isub, 1), (11, .i2l, 1), (12, .invokestatic 88, 3), (15, .ireturn, 1)]
set_option maxRecDepth 20000 in
theorem D_Mod_isKeptOne : (T_Mod_isKeptOne.all fun q => decide (decode M_Mod_isKeptOne.2.1 q.1 = .ok q.2)) = true := by decide +kernel
def Mod_isKeptOne (v0 : Nat) (v1 : Int) (h : AH) : Option (Int × AH) := gR h 13 v0 1 fun r1 => aI h 21 r1 5 fun x2 => bnd (Mod_in v1 0 (wr (x2 - 1)) h) fun x4 h3 => rz x4 h3
set_option maxHeartbeats 4000000 in
set_option maxRecDepth 20000 in
theorem s_Mod_isKeptOne (v0 : Nat) (v1 : Int) (h : AH) : CS M_Mod_isKeptOne 2 25 emI [vr v0, vi v1] h (Mod_isKeptOne v0 v1 h) := by
  refine CS.of (by decide) (Nat.le_of_ble_eq_true rfl) ?_
  show Sd M_Mod_isKeptOne 2 25 emI 0 [(0, vr v0), (1, vi v1)] [] h _
  unfold Mod_isKeptOne
  refine Sd_iload_n (pc' := 1) (dc D_Mod_isKeptOne 0 rfl) rfl 1 rfl rfl ?_
  refine Sd_i2l (pc' := 2) (dc D_Mod_isKeptOne 1 rfl) rfl ?_
  refine Sd_lconst (z := 0) (pc' := 3) (dc D_Mod_isKeptOne 2 rfl) rfl ⟨by decide, by decide⟩ (by decide) ?_
  refine Sd_aload_n (pc' := 4) (dc D_Mod_isKeptOne 3 rfl) rfl 0 rfl rfl ?_
  refine Sd_getR (pc' := 7) (dc D_Mod_isKeptOne 4 rfl) rfl F_Mod_9 rfl rfl ?_
  refine Sd_iconst (pc' := 8) (dc D_Mod_isKeptOne 5 rfl) rfl ⟨by decide, by decide⟩ ?_
  refine Sd_iaload (pc' := 9) (dc D_Mod_isKeptOne 6 rfl) rfl ?_
  refine Sd_iconst (pc' := 10) (dc D_Mod_isKeptOne 7 rfl) rfl ⟨by decide, by decide⟩ ?_
  refine Sd_isub (pc' := 11) (dc D_Mod_isKeptOne 8 rfl) rfl ?_
  refine Sd_i2l (pc' := 12) (dc D_Mod_isKeptOne 9 rfl) rfl ?_
  refine Sd.callSI (as := [_, _, _]) (pc' := 15) (dc D_Mod_isKeptOne 10 rfl) rfl K_Mod_in L_Mod_88 Ks_Mod_in ⟨by decide, by decide⟩ rfl rfl (Nat.le_of_ble_eq_true rfl) (s_Mod_in _ _ _ _) (fun x4 h3 => ?_)
  exact Sd_zret' (dc D_Mod_isKeptOne 11 rfl) rfl
theorem K_Mod_isKeptOne : MOk M_Mod_isKeptOne 1 := ⟨Tb_at 133 (by decide +kernel) rfl, Tb_at 1810 (by decide +kernel) rfl, by decide +kernel, by decide +kernel, by decide +kernel⟩
theorem Ks_Mod_isKeptOne : Cond.instanceMethod yX12_isKeptOne ∈ Tb := Tb_at 1809 (by decide +kernel) rfl
theorem Kv_Mod_isKeptOne : Cond.selects RX12 yX12_isKeptOne yX12_isKeptOne ∈ Tb := Tb_at 110 (by decide +kernel) rfl
/-! ===== BatchShareModel.forget(I)I ===== -/
abbrev M_Mod_forget : AMt := (yX12_forget, cX12_forget, 2, (some .int))
def T_Mod_forget : List (Nat × Instr × Nat) := [(0, .aload_n 0, 1), (1, .iload_n 1, 1), (2, .invokevirtual 482, 3), (5, .ifCond .ne 5, 3), (8, .iconst (-1), 1), (9, .ireturn, 1), (10, .aload_n 0, 1), (11, .invokevirtual 450, 3), (14, .aload_n 0, 1), (15, .iload_n 1, 1), (16, .invokevirtual 479, 3), (19, .aload_n 0, 1), (20, .getfield 9, 3), (23, .iconst 5, 1), (24, .iaload, 1), (25, .ireturn, 1)]
set_option maxRecDepth 20000 in
theorem D_Mod_forget : (T_Mod_forget.all fun q => decide (decode M_Mod_forget.2.1 q.1 = .ok q.2)) = true := by decide +kernel
def Mod_forget (v0 : Nat) (v1 : Int) (h : AH) : Option (Int × AH) := rc h 13 v0 <| bnd (Mod_isKeptOne v0 v1 h) fun x2 h1 => if ¬ (x2 : Int) = 0 then (rc h1 13 v0 <| bnd (Mod_keepsAct v0 h1) fun _ h4 => rc h4 13 v0 <| bnd (Mod_forgets v0 v1 h4) fun _ h7 => gR h7 13 v0 1 fun r10 => aI h7 21 r10 5 fun x11 => some (x11, h7)) else (some ((-1), h1))
set_option maxHeartbeats 4000000 in
set_option maxRecDepth 20000 in
theorem s_Mod_forget (v0 : Nat) (v1 : Int) (h : AH) : CS M_Mod_forget 5 88 emI [vr v0, vi v1] h (Mod_forget v0 v1 h) := by
  refine CS.of (by decide) (Nat.le_of_ble_eq_true rfl) ?_
  show Sd M_Mod_forget 5 88 emI 0 [(0, vr v0), (1, vi v1)] [] h _
  unfold Mod_forget
  refine Sd_aload_n (pc' := 1) (dc D_Mod_forget 0 rfl) rfl 0 rfl rfl ?_
  refine Sd_iload_n (pc' := 2) (dc D_Mod_forget 1 rfl) rfl 1 rfl rfl ?_
  refine Sd.callVI (ci := 12) (t := 13) (as := [_]) RX12 (pc' := 5) (dc D_Mod_forget 2 rfl) rfl rfl rfl rfl K_Mod_isKeptOne L_Mod_482 Ks_Mod_isKeptOne Kv_Mod_isKeptOne ⟨by decide, by decide⟩ rfl rfl (Nat.le_of_ble_eq_true rfl) (s_Mod_isKeptOne _ _ _) (fun x2 h1 => ?_)
  refine Sd_if_ne (tgt := 10) (pc' := 8) (dc D_Mod_forget 3 rfl) (by decide) rfl (fun _ => ?_) (fun _ => ?_)
  · refine Sd_aload_n (pc' := 11) (dc D_Mod_forget 6 rfl) rfl 0 rfl rfl ?_
    refine Sd.callVV (ci := 12) (t := 13) (as := []) RX12 (pc' := 14) (dc D_Mod_forget 7 rfl) rfl rfl rfl rfl K_Mod_keepsAct L_Mod_450 Ks_Mod_keepsAct Kv_Mod_keepsAct ⟨by decide, by decide⟩ rfl rfl (Nat.le_of_ble_eq_true rfl) (s_Mod_keepsAct _ _) (fun _ h4 => ?_)
    refine Sd_aload_n (pc' := 15) (dc D_Mod_forget 8 rfl) rfl 0 rfl rfl ?_
    refine Sd_iload_n (pc' := 16) (dc D_Mod_forget 9 rfl) rfl 1 rfl rfl ?_
    refine Sd.callVV (ci := 12) (t := 13) (as := [_]) RX12 (pc' := 19) (dc D_Mod_forget 10 rfl) rfl rfl rfl rfl K_Mod_forgets L_Mod_479 Ks_Mod_forgets Kv_Mod_forgets ⟨by decide, by decide⟩ rfl rfl (Nat.le_of_ble_eq_true rfl) (s_Mod_forgets _ _ _) (fun _ h7 => ?_)
    refine Sd_aload_n (pc' := 20) (dc D_Mod_forget 11 rfl) rfl 0 rfl rfl ?_
    refine Sd_getR (pc' := 23) (dc D_Mod_forget 12 rfl) rfl F_Mod_9 rfl rfl ?_
    refine Sd_iconst (pc' := 24) (dc D_Mod_forget 13 rfl) rfl ⟨by decide, by decide⟩ ?_
    refine Sd_iaload (pc' := 25) (dc D_Mod_forget 14 rfl) rfl ?_
    exact Sd_iret (dc D_Mod_forget 15 rfl) rfl
  · refine Sd_iconst (pc' := 9) (dc D_Mod_forget 4 rfl) rfl ⟨by decide, by decide⟩ ?_
    exact Sd_iret (dc D_Mod_forget 5 rfl) rfl
theorem K_Mod_forget : MOk M_Mod_forget 1 := ⟨Tb_at 133 (by decide +kernel) rfl, Tb_at 1806 (by decide +kernel) rfl, by decide +kernel, by decide +kernel, by decide +kernel⟩
theorem Ks_Mod_forget : Cond.instanceMethod yX12_forget ∈ Tb := Tb_at 1804 (by decide +kernel) rfl
theorem Kv_Mod_forget : Cond.selects RX12 yX12_forget yX12_forget ∈ Tb := Tb_at 1805 (by decide +kernel) rfl
/-! ===== BatchShareModel.refresh(I)I ===== -/
abbrev M_Mod_refresh : AMt := (yX12_refresh, cX12_refresh, 4, (some .int))
def T_Mod_refresh : List (Nat × Instr × Nat) := [(0, .aload_n 0, 1), (1, .iload_n 1, 1), (2, .invokevirtual 482, 3), (5, .ifCond .eq 18, 3), (8, .aload_n 0, 1), (9, .getfield 25, 3), (12, .bipush 16, 2), (14, .iload_n 1, 1), (15, .imul, 1), (16, .bipush 15, 2), (18, .iadd, 1), (19, .iaload, 1), (20, .ifCond .ne 5, 3), (23, .iconst (-1), 1), (24, .ireturn, 1), (25, .aload_n 0, 1), (26, .invokevirtual 450, 3), (29, .bipush 16, 2), (31, .iload_n 1, 1), (32, .imul, 1), (33, .istore_n 2, 1), (34, .aload_n 0, 1), (35, .aload_n 0, 1), (36, .getfield 25, 3), (39, .iload_n 2, 1), (40, .invokevirtual 306, 3), (43, .istore_n 3, 1), (44, .aload_n 0, 1), (45, .invokevirtual 473, 3), (48, .aload_n 0, 1), (49, .getfield 25, 3), (52, .iload_n 2, 1), (53, .bipush 13, 2), (55, .iadd, 1), (56, .iaload, 1), (57, .isub, 1), (58, .iload_n 3, 1), (59, .iadd, 1), (60, .aload_n 0, 1), (61, .getfield 9, 3), (64, .iconst 1, 1), (65, .iaload, 1), (66, .if_icmp .le 11, 3), (69, .aload_n 0, 1), (70, .iload_n 1, 1), (71, .invokevirtual 479, 3), (74, .bipush (-2), 2), (76, .ireturn, 1), (77, .aload_n 0, 1), (78, .getfield 25, 3), (81, .iload_n 2, 1), (82, .bipush 13, 2), (84, .iadd, 1), (85, .iload_n 3, 1), (86, .iastore, 1), (87, .aload_n 0, 1), (88, .getfield 25, 3), (91, .iload_n 2, 1), (92, .bipush 15, 2), (94, .iadd, 1), (95, .iconst 0, 1), (96, .iastore, 1), (97, .aload_n 0, 1), (98, .getfield 9, 3), (101, .bipush 6, 2), (103, .dup2, 1), (104, .iaload, 1), (105, .aload_n 0, 1), (106, .aload_n 0, 1), (107, .getfield 25, 3), (110, .iload_n 2, 1), (111, .invokevirtual 310, 3), (114, .iadd, 1), (115, .iastore, 1), (116, .iload_n 3, 1), (117, .ireturn, 1)]
set_option maxRecDepth 20000 in
theorem D_Mod_refresh : (T_Mod_refresh.all fun q => decide (decode M_Mod_refresh.2.1 q.1 = .ok q.2)) = true := by decide +kernel
def Mod_refresh (v0 : Nat) (v1 : Int) (h : AH) : Option (Int × AH) := rc h 13 v0 <| bnd (Mod_isKeptOne v0 v1 h) fun x2 h1 => if (x2 : Int) = 0 then (some ((-1), h1)) else (gR h1 13 v0 9 fun r4 => aI h1 21 r4 (wr ((wr (16 * v1)) + 15)) fun x5 => if ¬ (x5 : Int) = 0 then (rc h1 13 v0 <| bnd (Mod_keepsAct v0 h1) fun _ h6 => gR h6 13 v0 9 fun r9 => rc h6 13 v0 <| bnd (Mod_rowsNow v0 r9 (wr (16 * v1)) h6) fun x11 h10 => rc h10 13 v0 <| bnd (Mod_rowsOfAll v0 h10) fun x14 h13 => gR h13 13 v0 9 fun r16 => aI h13 21 r16 (wr ((wr (16 * v1)) + 13)) fun x17 => gR h13 13 v0 1 fun r18 => aI h13 21 r18 1 fun x19 => if ((wr ((wr (x14 - x17)) + x11)) : Int) ≤ x19 then (gR h13 13 v0 9 fun r20 => wI h13 21 r20 (wr ((wr (16 * v1)) + 13)) x11 fun h21 => gR h21 13 v0 9 fun r22 => wI h21 21 r22 (wr ((wr (16 * v1)) + 15)) 0 fun h23 => gR h23 13 v0 1 fun r24 => aI h23 21 r24 6 fun x25 => gR h23 13 v0 9 fun r26 => rc h23 13 v0 <| bnd (Mod_makeNow v0 r26 (wr (16 * v1)) h23) fun x28 h27 => wI h27 21 r24 6 (wr (x25 + x28)) fun h30 => some (x11, h30)) else (rc h13 13 v0 <| bnd (Mod_forgets v0 v1 h13) fun _ h31 => some ((-2), h31))) else (some ((-1), h1)))
set_option maxHeartbeats 4000000 in
set_option maxRecDepth 20000 in
theorem s_Mod_refresh (v0 : Nat) (v1 : Int) (h : AH) : CS M_Mod_refresh 5 103 emI [vr v0, vi v1] h (Mod_refresh v0 v1 h) := by
  refine CS.of (by decide) (Nat.le_of_ble_eq_true rfl) ?_
  show Sd M_Mod_refresh 5 103 emI 0 [(0, vr v0), (1, vi v1)] [] h _
  unfold Mod_refresh
  refine Sd_aload_n (pc' := 1) (dc D_Mod_refresh 0 rfl) rfl 0 rfl rfl ?_
  refine Sd_iload_n (pc' := 2) (dc D_Mod_refresh 1 rfl) rfl 1 rfl rfl ?_
  refine Sd.callVI (ci := 12) (t := 13) (as := [_]) RX12 (pc' := 5) (dc D_Mod_refresh 2 rfl) rfl rfl rfl rfl K_Mod_isKeptOne L_Mod_482 Ks_Mod_isKeptOne Kv_Mod_isKeptOne ⟨by decide, by decide⟩ rfl rfl (Nat.le_of_ble_eq_true rfl) (s_Mod_isKeptOne _ _ _) (fun x2 h1 => ?_)
  refine Sd_if_eq (tgt := 23) (pc' := 8) (dc D_Mod_refresh 3 rfl) (by decide) rfl (fun _ => ?_) (fun _ => ?_)
  · refine Sd_iconst (pc' := 24) (dc D_Mod_refresh 13 rfl) rfl ⟨by decide, by decide⟩ ?_
    exact Sd_iret (dc D_Mod_refresh 14 rfl) rfl
  · refine Sd_aload_n (pc' := 9) (dc D_Mod_refresh 4 rfl) rfl 0 rfl rfl ?_
    refine Sd_getR (pc' := 12) (dc D_Mod_refresh 5 rfl) rfl F_Mod_25 rfl rfl ?_
    refine Sd_bipush (pc' := 14) (dc D_Mod_refresh 6 rfl) rfl ⟨by decide, by decide⟩ (by decide) ?_
    refine Sd_iload_n (pc' := 15) (dc D_Mod_refresh 7 rfl) rfl 1 rfl rfl ?_
    refine Sd_imul (pc' := 16) (dc D_Mod_refresh 8 rfl) rfl ?_
    refine Sd_bipush (pc' := 18) (dc D_Mod_refresh 9 rfl) rfl ⟨by decide, by decide⟩ (by decide) ?_
    refine Sd_iadd (pc' := 19) (dc D_Mod_refresh 10 rfl) rfl ?_
    refine Sd_iaload (pc' := 20) (dc D_Mod_refresh 11 rfl) rfl ?_
    refine Sd_if_ne (tgt := 25) (pc' := 23) (dc D_Mod_refresh 12 rfl) (by decide) rfl (fun _ => ?_) (fun _ => ?_)
    · refine Sd_aload_n (pc' := 26) (dc D_Mod_refresh 15 rfl) rfl 0 rfl rfl ?_
      refine Sd.callVV (ci := 12) (t := 13) (as := []) RX12 (pc' := 29) (dc D_Mod_refresh 16 rfl) rfl rfl rfl rfl K_Mod_keepsAct L_Mod_450 Ks_Mod_keepsAct Kv_Mod_keepsAct ⟨by decide, by decide⟩ rfl rfl (Nat.le_of_ble_eq_true rfl) (s_Mod_keepsAct _ _) (fun _ h6 => ?_)
      refine Sd_bipush (pc' := 31) (dc D_Mod_refresh 17 rfl) rfl ⟨by decide, by decide⟩ (by decide) ?_
      refine Sd_iload_n (pc' := 32) (dc D_Mod_refresh 18 rfl) rfl 1 rfl rfl ?_
      refine Sd_imul (pc' := 33) (dc D_Mod_refresh 19 rfl) rfl ?_
      refine Sd_istore_n (pc' := 34) (l' := [(2, _), (0, _), (1, _)]) (dc D_Mod_refresh 20 rfl) rfl rfl (by decide) rfl ?_
      refine Sd_aload_n (pc' := 35) (dc D_Mod_refresh 21 rfl) rfl 1 rfl rfl ?_
      refine Sd_aload_n (pc' := 36) (dc D_Mod_refresh 22 rfl) rfl 1 rfl rfl ?_
      refine Sd_getR (pc' := 39) (dc D_Mod_refresh 23 rfl) rfl F_Mod_25 rfl rfl ?_
      refine Sd_iload_n (pc' := 40) (dc D_Mod_refresh 24 rfl) rfl 0 rfl rfl ?_
      refine Sd.callVI (ci := 12) (t := 13) (as := [_, _]) RX12 (pc' := 43) (dc D_Mod_refresh 25 rfl) rfl rfl rfl rfl K_Mod_rowsNow L_Mod_306 Ks_Mod_rowsNow Kv_Mod_rowsNow ⟨by decide, by decide⟩ rfl rfl (Nat.le_of_ble_eq_true rfl) (s_Mod_rowsNow _ _ _ _) (fun x11 h10 => ?_)
      refine Sd_istore_n (pc' := 44) (l' := [(3, _), (2, _), (0, _), (1, _)]) (dc D_Mod_refresh 26 rfl) rfl rfl (by decide) rfl ?_
      refine Sd_aload_n (pc' := 45) (dc D_Mod_refresh 27 rfl) rfl 2 rfl rfl ?_
      refine Sd.callVI (ci := 12) (t := 13) (as := []) RX12 (pc' := 48) (dc D_Mod_refresh 28 rfl) rfl rfl rfl rfl K_Mod_rowsOfAll L_Mod_473 Ks_Mod_rowsOfAll Kv_Mod_rowsOfAll ⟨by decide, by decide⟩ rfl rfl (Nat.le_of_ble_eq_true rfl) (s_Mod_rowsOfAll _ _) (fun x14 h13 => ?_)
      refine Sd_aload_n (pc' := 49) (dc D_Mod_refresh 29 rfl) rfl 2 rfl rfl ?_
      refine Sd_getR (pc' := 52) (dc D_Mod_refresh 30 rfl) rfl F_Mod_25 rfl rfl ?_
      refine Sd_iload_n (pc' := 53) (dc D_Mod_refresh 31 rfl) rfl 1 rfl rfl ?_
      refine Sd_bipush (pc' := 55) (dc D_Mod_refresh 32 rfl) rfl ⟨by decide, by decide⟩ (by decide) ?_
      refine Sd_iadd (pc' := 56) (dc D_Mod_refresh 33 rfl) rfl ?_
      refine Sd_iaload (pc' := 57) (dc D_Mod_refresh 34 rfl) rfl ?_
      refine Sd_isub (pc' := 58) (dc D_Mod_refresh 35 rfl) rfl ?_
      refine Sd_iload_n (pc' := 59) (dc D_Mod_refresh 36 rfl) rfl 0 rfl rfl ?_
      refine Sd_iadd (pc' := 60) (dc D_Mod_refresh 37 rfl) rfl ?_
      refine Sd_aload_n (pc' := 61) (dc D_Mod_refresh 38 rfl) rfl 2 rfl rfl ?_
      refine Sd_getR (pc' := 64) (dc D_Mod_refresh 39 rfl) rfl F_Mod_9 rfl rfl ?_
      refine Sd_iconst (pc' := 65) (dc D_Mod_refresh 40 rfl) rfl ⟨by decide, by decide⟩ ?_
      refine Sd_iaload (pc' := 66) (dc D_Mod_refresh 41 rfl) rfl ?_
      refine Sd_icmp_le (tgt := 77) (pc' := 69) (dc D_Mod_refresh 42 rfl) (by decide) rfl (fun _ => ?_) (fun _ => ?_)
      · refine Sd_aload_n (pc' := 78) (dc D_Mod_refresh 48 rfl) rfl 2 rfl rfl ?_
        refine Sd_getR (pc' := 81) (dc D_Mod_refresh 49 rfl) rfl F_Mod_25 rfl rfl ?_
        refine Sd_iload_n (pc' := 82) (dc D_Mod_refresh 50 rfl) rfl 1 rfl rfl ?_
        refine Sd_bipush (pc' := 84) (dc D_Mod_refresh 51 rfl) rfl ⟨by decide, by decide⟩ (by decide) ?_
        refine Sd_iadd (pc' := 85) (dc D_Mod_refresh 52 rfl) rfl ?_
        refine Sd_iload_n (pc' := 86) (dc D_Mod_refresh 53 rfl) rfl 0 rfl rfl ?_
        refine Sd_iastore (pc' := 87) (dc D_Mod_refresh 54 rfl) rfl (by decide) ?_
        refine Sd_aload_n (pc' := 88) (dc D_Mod_refresh 55 rfl) rfl 2 rfl rfl ?_
        refine Sd_getR (pc' := 91) (dc D_Mod_refresh 56 rfl) rfl F_Mod_25 rfl rfl ?_
        refine Sd_iload_n (pc' := 92) (dc D_Mod_refresh 57 rfl) rfl 1 rfl rfl ?_
        refine Sd_bipush (pc' := 94) (dc D_Mod_refresh 58 rfl) rfl ⟨by decide, by decide⟩ (by decide) ?_
        refine Sd_iadd (pc' := 95) (dc D_Mod_refresh 59 rfl) rfl ?_
        refine Sd_iconst (pc' := 96) (dc D_Mod_refresh 60 rfl) rfl ⟨by decide, by decide⟩ ?_
        refine Sd_iastore (pc' := 97) (dc D_Mod_refresh 61 rfl) rfl (by decide) ?_
        refine Sd_aload_n (pc' := 98) (dc D_Mod_refresh 62 rfl) rfl 2 rfl rfl ?_
        refine Sd_getR (pc' := 101) (dc D_Mod_refresh 63 rfl) rfl F_Mod_9 rfl rfl ?_
        refine Sd_bipush (pc' := 103) (dc D_Mod_refresh 64 rfl) rfl ⟨by decide, by decide⟩ (by decide) ?_
        refine Sd_dup2 (pc' := 104) (dc D_Mod_refresh 65 rfl) rfl (cat_i _) (cat_r _) ?_
        refine Sd_iaload (pc' := 105) (dc D_Mod_refresh 66 rfl) rfl ?_
        refine Sd_aload_n (pc' := 106) (dc D_Mod_refresh 67 rfl) rfl 2 rfl rfl ?_
        refine Sd_aload_n (pc' := 107) (dc D_Mod_refresh 68 rfl) rfl 2 rfl rfl ?_
        refine Sd_getR (pc' := 110) (dc D_Mod_refresh 69 rfl) rfl F_Mod_25 rfl rfl ?_
        refine Sd_iload_n (pc' := 111) (dc D_Mod_refresh 70 rfl) rfl 1 rfl rfl ?_
        refine Sd.callVI (ci := 12) (t := 13) (as := [_, _]) RX12 (pc' := 114) (dc D_Mod_refresh 71 rfl) rfl rfl rfl rfl K_Mod_makeNow L_Mod_310 Ks_Mod_makeNow Kv_Mod_makeNow ⟨by decide, by decide⟩ rfl rfl (Nat.le_of_ble_eq_true rfl) (s_Mod_makeNow _ _ _ _) (fun x28 h27 => ?_)
        refine Sd_iadd (pc' := 115) (dc D_Mod_refresh 72 rfl) rfl ?_
        refine Sd_iastore (pc' := 116) (dc D_Mod_refresh 73 rfl) rfl (by decide) ?_
        refine Sd_iload_n (pc' := 117) (dc D_Mod_refresh 74 rfl) rfl 0 rfl rfl ?_
        exact Sd_iret (dc D_Mod_refresh 75 rfl) rfl
      · refine Sd_aload_n (pc' := 70) (dc D_Mod_refresh 43 rfl) rfl 2 rfl rfl ?_
        refine Sd_iload_n (pc' := 71) (dc D_Mod_refresh 44 rfl) rfl 3 rfl rfl ?_
        refine Sd.callVV (ci := 12) (t := 13) (as := [_]) RX12 (pc' := 74) (dc D_Mod_refresh 45 rfl) rfl rfl rfl rfl K_Mod_forgets L_Mod_479 Ks_Mod_forgets Kv_Mod_forgets ⟨by decide, by decide⟩ rfl rfl (Nat.le_of_ble_eq_true rfl) (s_Mod_forgets _ _ _) (fun _ h31 => ?_)
        refine Sd_bipush (pc' := 76) (dc D_Mod_refresh 46 rfl) rfl ⟨by decide, by decide⟩ (by decide) ?_
        exact Sd_iret (dc D_Mod_refresh 47 rfl) rfl
    · refine Sd_iconst (pc' := 24) (dc D_Mod_refresh 13 rfl) rfl ⟨by decide, by decide⟩ ?_
      exact Sd_iret (dc D_Mod_refresh 14 rfl) rfl
theorem K_Mod_refresh : MOk M_Mod_refresh 1 := ⟨Tb_at 133 (by decide +kernel) rfl, Tb_at 1814 (by decide +kernel) rfl, by decide +kernel, by decide +kernel, by decide +kernel⟩
theorem Ks_Mod_refresh : Cond.instanceMethod yX12_refresh ∈ Tb := Tb_at 1812 (by decide +kernel) rfl
theorem Kv_Mod_refresh : Cond.selects RX12 yX12_refresh yX12_refresh ∈ Tb := Tb_at 1813 (by decide +kernel) rfl
/-! ===== BatchShareModel.batch()I ===== -/
abbrev M_Mod_batch : AMt := (yX12_batch, cX12_batch, 1, (some .int))
def T_Mod_batch : List (Nat × Instr × Nat) := [(0, .aload_n 0, 1), (1, .invokevirtual 371, 3), (4, .aload_n 0, 1), (5, .invokevirtual 374, 3), (8, .aload_n 0, 1), (9, .invokevirtual 377, 3), (12, .ireturn, 1)]
set_option maxRecDepth 20000 in
theorem D_Mod_batch : (T_Mod_batch.all fun q => decide (decode M_Mod_batch.2.1 q.1 = .ok q.2)) = true := by decide +kernel
def Mod_batch (v0 : Nat) (h : AH) : Option (Int × AH) := rc h 13 v0 <| bnd (Mod_laysAll v0 h) fun _ h1 => rc h1 13 v0 <| bnd (Mod_takesKept v0 h1) fun _ h4 => rc h4 13 v0 <| bnd (Mod_batchNow v0 h4) fun x8 h7 => some (x8, h7)
set_option maxHeartbeats 4000000 in
set_option maxRecDepth 20000 in
theorem s_Mod_batch (v0 : Nat) (h : AH) : CS M_Mod_batch 10 206 emI [vr v0] h (Mod_batch v0 h) := by
  refine CS.of (by decide) (Nat.le_of_ble_eq_true rfl) ?_
  show Sd M_Mod_batch 10 206 emI 0 [(0, vr v0)] [] h _
  unfold Mod_batch
  refine Sd_aload_n (pc' := 1) (dc D_Mod_batch 0 rfl) rfl 0 rfl rfl ?_
  refine Sd.callVV (ci := 12) (t := 13) (as := []) RX12 (pc' := 4) (dc D_Mod_batch 1 rfl) rfl rfl rfl rfl K_Mod_laysAll L_Mod_371 Ks_Mod_laysAll Kv_Mod_laysAll ⟨by decide, by decide⟩ rfl rfl (Nat.le_of_ble_eq_true rfl) (s_Mod_laysAll _ _) (fun _ h1 => ?_)
  refine Sd_aload_n (pc' := 5) (dc D_Mod_batch 2 rfl) rfl 0 rfl rfl ?_
  refine Sd.callVV (ci := 12) (t := 13) (as := []) RX12 (pc' := 8) (dc D_Mod_batch 3 rfl) rfl rfl rfl rfl K_Mod_takesKept L_Mod_374 Ks_Mod_takesKept Kv_Mod_takesKept ⟨by decide, by decide⟩ rfl rfl (Nat.le_of_ble_eq_true rfl) (s_Mod_takesKept _ _) (fun _ h4 => ?_)
  refine Sd_aload_n (pc' := 9) (dc D_Mod_batch 4 rfl) rfl 0 rfl rfl ?_
  refine Sd.callVI (ci := 12) (t := 13) (as := []) RX12 (pc' := 12) (dc D_Mod_batch 5 rfl) rfl rfl rfl rfl K_Mod_batchNow L_Mod_377 Ks_Mod_batchNow Kv_Mod_batchNow ⟨by decide, by decide⟩ rfl rfl (Nat.le_of_ble_eq_true rfl) (s_Mod_batchNow _ _) (fun x8 h7 => ?_)
  exact Sd_iret (dc D_Mod_batch 6 rfl) rfl
theorem K_Mod_batch : MOk M_Mod_batch 0 := ⟨Tb_at 133 (by decide +kernel) rfl, Tb_at 1622 (by decide +kernel) rfl, by decide +kernel, by decide +kernel, by decide +kernel⟩
theorem Ks_Mod_batch : Cond.instanceMethod yX12_batch ∈ Tb := Tb_at 1620 (by decide +kernel) rfl
theorem Kv_Mod_batch : Cond.selects RX12 yX12_batch yX12_batch ∈ Tb := Tb_at 1621 (by decide +kernel) rfl
/-! ===== BatchShareModel.servedBy(II)I ===== -/
abbrev M_Mod_servedBy : AMt := (yX12_servedBy, cX12_servedBy, 4, (some .int))
def T_Mod_servedBy : List (Nat × Instr × Nat) := [(0, .aload_n 0, 1), (1, .iload_n 1, 1), (2, .invokevirtual 99, 3), (5, .ifCond .ne 12, 3), (8, .aload_n 0, 1), (9, .iload_n 1, 1), (10, .iload_n 2, 1), (11, .invokevirtual 303, 3), (14, .ifCond .ne 5, 3), (17, .iconst (-1), 1), (18, .ireturn, 1), (19, .aload_n 0, 1), (20, .getfield 28, 3), (23, .iload_n 1, 1), (24, .iaload, 1), (25, .iconst 2, 1), (26, .if_icmp .ne 11, 3), (29, .aload_n 0, 1), (30, .iload_n 1, 1), (31, .invokevirtual 365, 3), (34, .goto 4, 3), (37, .iconst (-1), 1), (38, .istore_n 3, 1), (39, .iload_n 2, 1), (40, .iconst 2, 1), (41, .if_icmp .ne 5, 3), (44, .iload_n 3, 1), (45, .ireturn, 1), (46, .iload_n 3, 1), (47, .iconst (-1), 1), (48, .if_icmp .ne 12, 3), (51, .aload_n 0, 1), (52, .iload_n 1, 1), (53, .iload_n 2, 1), (54, .invokevirtual 356, 3), (57, .goto 4, 3), (60, .iconst (-1), 1), (61, .ireturn, 1)]
set_option maxRecDepth 20000 in
theorem D_Mod_servedBy : (T_Mod_servedBy.all fun q => decide (decode M_Mod_servedBy.2.1 q.1 = .ok q.2)) = true := by decide +kernel
def Mod_servedBy_L38 (v0 : Nat) (v1 : Int) (v2 : Int) (s0 : Int) (h : AH) : Option (Int × AH) := if ¬ (v2 : Int) = 2 then (if ¬ (s0 : Int) = (-1) then (some ((-1), h)) else (rc h 13 v0 <| bnd (Mod_serverOf v0 v1 v2 h) fun x2 h1 => some (x2, h1))) else (some (s0, h))
set_option maxHeartbeats 4000000 in
set_option maxRecDepth 20000 in
theorem s_Mod_servedBy_L38 (v0 : Nat) (v1 : Int) (v2 : Int) (s0 : Int) (h : AH) : Sd M_Mod_servedBy 8 162 emI 38 [(0, vr v0), (1, vi v1), (2, vi v2)] [vi s0] h (Mod_servedBy_L38 v0 v1 v2 s0 h) := by
  unfold Mod_servedBy_L38
  refine Sd_istore_n (pc' := 39) (l' := [(3, _), (0, _), (1, _), (2, _)]) (dc D_Mod_servedBy 22 rfl) rfl rfl (by decide) rfl ?_
  refine Sd_iload_n (pc' := 40) (dc D_Mod_servedBy 23 rfl) rfl 3 rfl rfl ?_
  refine Sd_iconst (pc' := 41) (dc D_Mod_servedBy 24 rfl) rfl ⟨by decide, by decide⟩ ?_
  refine Sd_icmp_ne (tgt := 46) (pc' := 44) (dc D_Mod_servedBy 25 rfl) (by decide) rfl (fun _ => ?_) (fun _ => ?_)
  · refine Sd_iload_n (pc' := 47) (dc D_Mod_servedBy 28 rfl) rfl 0 rfl rfl ?_
    refine Sd_iconst (pc' := 48) (dc D_Mod_servedBy 29 rfl) rfl ⟨by decide, by decide⟩ ?_
    refine Sd_icmp_ne (tgt := 60) (pc' := 51) (dc D_Mod_servedBy 30 rfl) (by decide) rfl (fun _ => ?_) (fun _ => ?_)
    · refine Sd_iconst (pc' := 61) (dc D_Mod_servedBy 36 rfl) rfl ⟨by decide, by decide⟩ ?_
      exact Sd_iret (dc D_Mod_servedBy 37 rfl) rfl
    · refine Sd_aload_n (pc' := 52) (dc D_Mod_servedBy 31 rfl) rfl 1 rfl rfl ?_
      refine Sd_iload_n (pc' := 53) (dc D_Mod_servedBy 32 rfl) rfl 2 rfl rfl ?_
      refine Sd_iload_n (pc' := 54) (dc D_Mod_servedBy 33 rfl) rfl 3 rfl rfl ?_
      refine Sd.callVI (ci := 12) (t := 13) (as := [_, _]) RX12 (pc' := 57) (dc D_Mod_servedBy 34 rfl) rfl rfl rfl rfl K_Mod_serverOf L_Mod_356 Ks_Mod_serverOf Kv_Mod_serverOf ⟨by decide, by decide⟩ rfl rfl (Nat.le_of_ble_eq_true rfl) (s_Mod_serverOf _ _ _ _) (fun x2 h1 => ?_)
      refine Sd_goto (tgt := 61) (dc D_Mod_servedBy 35 rfl) (by decide) ?_
      exact Sd_iret (dc D_Mod_servedBy 37 rfl) rfl
  · refine Sd_iload_n (pc' := 45) (dc D_Mod_servedBy 26 rfl) rfl 0 rfl rfl ?_
    exact Sd_iret (dc D_Mod_servedBy 27 rfl) rfl
def Mod_servedBy (v0 : Nat) (v1 : Int) (v2 : Int) (h : AH) : Option (Int × AH) := rc h 13 v0 <| bnd (Mod_isVoid v0 v1 h) fun x2 h1 => if ¬ (x2 : Int) = 0 then (some ((-1), h1)) else (rc h1 13 v0 <| bnd (Mod_hasKind v0 v1 v2 h1) fun x5 h4 => if ¬ (x5 : Int) = 0 then (gR h4 13 v0 11 fun r7 => aI h4 21 r7 v1 fun x8 => if ¬ (x8 : Int) = 2 then (Mod_servedBy_L38 v0 v1 v2 (-1) h4) else (rc h4 13 v0 <| bnd (Mod_joinedBy v0 v1 h4) fun x10 h9 => Mod_servedBy_L38 v0 v1 v2 x10 h9)) else (some ((-1), h4)))
set_option maxHeartbeats 4000000 in
set_option maxRecDepth 20000 in
theorem s_Mod_servedBy (v0 : Nat) (v1 : Int) (v2 : Int) (h : AH) : CS M_Mod_servedBy 8 162 emI [vr v0, vi v1, vi v2] h (Mod_servedBy v0 v1 v2 h) := by
  refine CS.of (by decide) (Nat.le_of_ble_eq_true rfl) ?_
  show Sd M_Mod_servedBy 8 162 emI 0 [(0, vr v0), (1, vi v1), (2, vi v2)] [] h _
  unfold Mod_servedBy
  refine Sd_aload_n (pc' := 1) (dc D_Mod_servedBy 0 rfl) rfl 0 rfl rfl ?_
  refine Sd_iload_n (pc' := 2) (dc D_Mod_servedBy 1 rfl) rfl 1 rfl rfl ?_
  refine Sd.callVI (ci := 12) (t := 13) (as := [_]) RX12 (pc' := 5) (dc D_Mod_servedBy 2 rfl) rfl rfl rfl rfl K_Mod_isVoid L_Mod_99 Ks_Mod_isVoid Kv_Mod_isVoid ⟨by decide, by decide⟩ rfl rfl (Nat.le_of_ble_eq_true rfl) (s_Mod_isVoid _ _ _) (fun x2 h1 => ?_)
  refine Sd_if_ne (tgt := 17) (pc' := 8) (dc D_Mod_servedBy 3 rfl) (by decide) rfl (fun _ => ?_) (fun _ => ?_)
  · refine Sd_iconst (pc' := 18) (dc D_Mod_servedBy 9 rfl) rfl ⟨by decide, by decide⟩ ?_
    exact Sd_iret (dc D_Mod_servedBy 10 rfl) rfl
  · refine Sd_aload_n (pc' := 9) (dc D_Mod_servedBy 4 rfl) rfl 0 rfl rfl ?_
    refine Sd_iload_n (pc' := 10) (dc D_Mod_servedBy 5 rfl) rfl 1 rfl rfl ?_
    refine Sd_iload_n (pc' := 11) (dc D_Mod_servedBy 6 rfl) rfl 2 rfl rfl ?_
    refine Sd.callVI (ci := 12) (t := 13) (as := [_, _]) RX12 (pc' := 14) (dc D_Mod_servedBy 7 rfl) rfl rfl rfl rfl K_Mod_hasKind L_Mod_303 Ks_Mod_hasKind Kv_Mod_hasKind ⟨by decide, by decide⟩ rfl rfl (Nat.le_of_ble_eq_true rfl) (s_Mod_hasKind _ _ _ _) (fun x5 h4 => ?_)
    refine Sd_if_ne (tgt := 19) (pc' := 17) (dc D_Mod_servedBy 8 rfl) (by decide) rfl (fun _ => ?_) (fun _ => ?_)
    · refine Sd_aload_n (pc' := 20) (dc D_Mod_servedBy 11 rfl) rfl 0 rfl rfl ?_
      refine Sd_getR (pc' := 23) (dc D_Mod_servedBy 12 rfl) rfl F_Mod_28 rfl rfl ?_
      refine Sd_iload_n (pc' := 24) (dc D_Mod_servedBy 13 rfl) rfl 1 rfl rfl ?_
      refine Sd_iaload (pc' := 25) (dc D_Mod_servedBy 14 rfl) rfl ?_
      refine Sd_iconst (pc' := 26) (dc D_Mod_servedBy 15 rfl) rfl ⟨by decide, by decide⟩ ?_
      refine Sd_icmp_ne (tgt := 37) (pc' := 29) (dc D_Mod_servedBy 16 rfl) (by decide) rfl (fun _ => ?_) (fun _ => ?_)
      · refine Sd_iconst (pc' := 38) (dc D_Mod_servedBy 21 rfl) rfl ⟨by decide, by decide⟩ ?_
        exact s_Mod_servedBy_L38 _ _ _ _ _
      · refine Sd_aload_n (pc' := 30) (dc D_Mod_servedBy 17 rfl) rfl 0 rfl rfl ?_
        refine Sd_iload_n (pc' := 31) (dc D_Mod_servedBy 18 rfl) rfl 1 rfl rfl ?_
        refine Sd.callVI (ci := 12) (t := 13) (as := [_]) RX12 (pc' := 34) (dc D_Mod_servedBy 19 rfl) rfl rfl rfl rfl K_Mod_joinedBy L_Mod_365 Ks_Mod_joinedBy Kv_Mod_joinedBy ⟨by decide, by decide⟩ rfl rfl (Nat.le_of_ble_eq_true rfl) (s_Mod_joinedBy _ _ _) (fun x10 h9 => ?_)
        refine Sd_goto (tgt := 38) (dc D_Mod_servedBy 20 rfl) (by decide) ?_
        exact s_Mod_servedBy_L38 _ _ _ _ _
    · refine Sd_iconst (pc' := 18) (dc D_Mod_servedBy 9 rfl) rfl ⟨by decide, by decide⟩ ?_
      exact Sd_iret (dc D_Mod_servedBy 10 rfl) rfl
theorem K_Mod_servedBy : MOk M_Mod_servedBy 2 := ⟨Tb_at 133 (by decide +kernel) rfl, Tb_at 1688 (by decide +kernel) rfl, by decide +kernel, by decide +kernel, by decide +kernel⟩
theorem Ks_Mod_servedBy : Cond.instanceMethod yX12_servedBy ∈ Tb := Tb_at 1687 (by decide +kernel) rfl
theorem Kv_Mod_servedBy : Cond.selects RX12 yX12_servedBy yX12_servedBy ∈ Tb := Tb_at 91 (by decide +kernel) rfl
/-! ===== BatchShareModel.usesAll()V ===== -/
abbrev M_Mod_usesAll : AMt := (yX12_usesAll, cX12_usesAll, 4, none)
def T_Mod_usesAll : List (Nat × Instr × Nat) := [(0, .iconst 0, 1), (1, .istore_n 1, 1), (2, .iload_n 1, 1), (3, .aload_n 0, 1), (4, .getfield 96, 3), (7, .if_icmp .ge 61, 3), (10, .iconst 0, 1), (11, .istore_n 2, 1), (12, .iload_n 2, 1), (13, .iconst 3, 1), (14, .if_icmp .ge 48, 3), (17, .aload_n 0, 1), (18, .iload_n 1, 1), (19, .invokevirtual 323, 3), (22, .ifCond .eq 40, 3), (25, .aload_n 0, 1), (26, .iload_n 1, 1), (27, .iload_n 2, 1), (28, .invokevirtual 386, 3), (31, .istore_n 3, 1), (32, .iload_n 3, 1), (33, .iconst (-1), 1), (34, .if_icmp .eq 22, 3), (37, .aload_n 0, 1), (38, .getfield 25, 3), (41, .bipush 16, 2), (43, .iload_n 3, 1), (44, .imul, 1), (45, .bipush 14, 2), (47, .iadd, 1), (48, .aload_n 0, 1), (49, .getfield 9, 3), (52, .bipush 7, 2), (54, .iaload, 1), (55, .iastore, 1), (56, .iinc 2 1, 3), (59, .goto (-47), 3), (62, .iinc 1 1, 3), (65, .goto (-63), 3), (68, .return_, 1)]
set_option maxRecDepth 20000 in
theorem D_Mod_usesAll : (T_Mod_usesAll.all fun q => decide (decode M_Mod_usesAll.2.1 q.1 = .ok q.2)) = true := by decide +kernel
def Mod_usesAll_L12 (k2 : Nat → Int → AH → Option (Unit × AH)) : Nat → Nat → Int → Int → AH → Option (Unit × AH)
  | 0, _, _, _, _ => none
  | n + 1, v0, v1, v2, h => if (3 : Int) ≤ v2 then (k2 v0 ((wr (v1 + 1))) h) else (rc h 13 v0 <| bnd (Mod_isOn v0 v1 h) fun x2 h1 => if (x2 : Int) = 0 then (k2 v0 ((wr (v1 + 1))) h1) else (rc h1 13 v0 <| bnd (Mod_servedBy v0 v1 v2 h1) fun x5 h4 => if (x5 : Int) = (-1) then (Mod_usesAll_L12 k2 n v0 v1 ((wr (v2 + 1))) h4) else (gR h4 13 v0 9 fun r7 => gR h4 13 v0 1 fun r8 => aI h4 21 r8 7 fun x9 => wI h4 21 r7 (wr ((wr (16 * x5)) + 14)) x9 fun h10 => Mod_usesAll_L12 k2 n v0 v1 ((wr (v2 + 1))) h10)))
set_option maxHeartbeats 4000000 in
set_option maxRecDepth 20000 in
theorem s_Mod_usesAll_L12 (k2 : Nat → Int → AH → Option (Unit × AH)) (hk2 : ∀ v0 v1 h, Sd M_Mod_usesAll 9 185 emV 2 [(0, vr v0), (1, vi v1)] [] h (k2 v0 v1 h)) : ∀ (n : Nat) (v0 : Nat) (v1 : Int) (v2 : Int) (h : AH), Sd M_Mod_usesAll 9 185 emV 12 [(0, vr v0), (1, vi v1), (2, vi v2)] [] h (Mod_usesAll_L12 k2 n v0 v1 v2 h)
  | 0, _, _, _, _ => Sd.none
  | n + 1, v0, v1, v2, h => by
    rw [Mod_usesAll_L12]
    refine Sd_iload_n (pc' := 13) (dc D_Mod_usesAll 8 rfl) rfl 2 rfl rfl ?_
    refine Sd_iconst (pc' := 14) (dc D_Mod_usesAll 9 rfl) rfl ⟨by decide, by decide⟩ ?_
    refine Sd_icmp_ge (tgt := 62) (pc' := 17) (dc D_Mod_usesAll 10 rfl) (by decide) rfl (fun _ => ?_) (fun _ => ?_)
    · refine Sd_iinc (pc' := 65) (l' := [(1, _), (0, _), (2, _)]) (dc D_Mod_usesAll 37 rfl) rfl 1 rfl (by decide) rfl ?_
      refine Sd_goto (tgt := 2) (dc D_Mod_usesAll 38 rfl) (by decide) ?_
      refine Sd.sub (l' := [(0, _), (1, _)]) [1, 0] rfl ?_
      exact hk2 _ _ _
    · refine Sd_aload_n (pc' := 18) (dc D_Mod_usesAll 11 rfl) rfl 0 rfl rfl ?_
      refine Sd_iload_n (pc' := 19) (dc D_Mod_usesAll 12 rfl) rfl 1 rfl rfl ?_
      refine Sd.callVI (ci := 12) (t := 13) (as := [_]) RX12 (pc' := 22) (dc D_Mod_usesAll 13 rfl) rfl rfl rfl rfl K_Mod_isOn L_Mod_323 Ks_Mod_isOn Kv_Mod_isOn ⟨by decide, by decide⟩ rfl rfl (Nat.le_of_ble_eq_true rfl) (s_Mod_isOn _ _ _) (fun x2 h1 => ?_)
      refine Sd_if_eq (tgt := 62) (pc' := 25) (dc D_Mod_usesAll 14 rfl) (by decide) rfl (fun _ => ?_) (fun _ => ?_)
      · refine Sd_iinc (pc' := 65) (l' := [(1, _), (0, _), (2, _)]) (dc D_Mod_usesAll 37 rfl) rfl 1 rfl (by decide) rfl ?_
        refine Sd_goto (tgt := 2) (dc D_Mod_usesAll 38 rfl) (by decide) ?_
        refine Sd.sub (l' := [(0, _), (1, _)]) [1, 0] rfl ?_
        exact hk2 _ _ _
      · refine Sd_aload_n (pc' := 26) (dc D_Mod_usesAll 15 rfl) rfl 0 rfl rfl ?_
        refine Sd_iload_n (pc' := 27) (dc D_Mod_usesAll 16 rfl) rfl 1 rfl rfl ?_
        refine Sd_iload_n (pc' := 28) (dc D_Mod_usesAll 17 rfl) rfl 2 rfl rfl ?_
        refine Sd.callVI (ci := 12) (t := 13) (as := [_, _]) RX12 (pc' := 31) (dc D_Mod_usesAll 18 rfl) rfl rfl rfl rfl K_Mod_servedBy L_Mod_386 Ks_Mod_servedBy Kv_Mod_servedBy ⟨by decide, by decide⟩ rfl rfl (Nat.le_of_ble_eq_true rfl) (s_Mod_servedBy _ _ _ _) (fun x5 h4 => ?_)
        refine Sd_istore_n (pc' := 32) (l' := [(3, _), (0, _), (1, _), (2, _)]) (dc D_Mod_usesAll 19 rfl) rfl rfl (by decide) rfl ?_
        refine Sd_iload_n (pc' := 33) (dc D_Mod_usesAll 20 rfl) rfl 0 rfl rfl ?_
        refine Sd_iconst (pc' := 34) (dc D_Mod_usesAll 21 rfl) rfl ⟨by decide, by decide⟩ ?_
        refine Sd_icmp_eq (tgt := 56) (pc' := 37) (dc D_Mod_usesAll 22 rfl) (by decide) rfl (fun _ => ?_) (fun _ => ?_)
        · refine Sd_iinc (pc' := 59) (l' := [(2, _), (3, _), (0, _), (1, _)]) (dc D_Mod_usesAll 35 rfl) rfl 3 rfl (by decide) rfl ?_
          refine Sd_goto (tgt := 12) (dc D_Mod_usesAll 36 rfl) (by decide) ?_
          refine Sd.sub (l' := [(0, _), (1, _), (2, _)]) [2, 3, 0] rfl ?_
          exact s_Mod_usesAll_L12 k2 hk2 n _ _ _ _
        · refine Sd_aload_n (pc' := 38) (dc D_Mod_usesAll 23 rfl) rfl 1 rfl rfl ?_
          refine Sd_getR (pc' := 41) (dc D_Mod_usesAll 24 rfl) rfl F_Mod_25 rfl rfl ?_
          refine Sd_bipush (pc' := 43) (dc D_Mod_usesAll 25 rfl) rfl ⟨by decide, by decide⟩ (by decide) ?_
          refine Sd_iload_n (pc' := 44) (dc D_Mod_usesAll 26 rfl) rfl 0 rfl rfl ?_
          refine Sd_imul (pc' := 45) (dc D_Mod_usesAll 27 rfl) rfl ?_
          refine Sd_bipush (pc' := 47) (dc D_Mod_usesAll 28 rfl) rfl ⟨by decide, by decide⟩ (by decide) ?_
          refine Sd_iadd (pc' := 48) (dc D_Mod_usesAll 29 rfl) rfl ?_
          refine Sd_aload_n (pc' := 49) (dc D_Mod_usesAll 30 rfl) rfl 1 rfl rfl ?_
          refine Sd_getR (pc' := 52) (dc D_Mod_usesAll 31 rfl) rfl F_Mod_9 rfl rfl ?_
          refine Sd_bipush (pc' := 54) (dc D_Mod_usesAll 32 rfl) rfl ⟨by decide, by decide⟩ (by decide) ?_
          refine Sd_iaload (pc' := 55) (dc D_Mod_usesAll 33 rfl) rfl ?_
          refine Sd_iastore (pc' := 56) (dc D_Mod_usesAll 34 rfl) rfl (by decide) ?_
          refine Sd_iinc (pc' := 59) (l' := [(2, _), (3, _), (0, _), (1, _)]) (dc D_Mod_usesAll 35 rfl) rfl 3 rfl (by decide) rfl ?_
          refine Sd_goto (tgt := 12) (dc D_Mod_usesAll 36 rfl) (by decide) ?_
          refine Sd.sub (l' := [(0, _), (1, _), (2, _)]) [2, 3, 0] rfl ?_
          exact s_Mod_usesAll_L12 k2 hk2 n _ _ _ _
def Mod_usesAll_L2 : Nat → Nat → Int → AH → Option (Unit × AH)
  | 0, _, _, _ => none
  | n + 1, v0, v1, h => gI h 13 v0 10 fun x1 => if (x1 : Int) ≤ v1 then (some ((), h)) else (Mod_usesAll_L12 (Mod_usesAll_L2 n) FU v0 v1 0 h)
set_option maxHeartbeats 4000000 in
set_option maxRecDepth 20000 in
theorem s_Mod_usesAll_L2 : ∀ (n : Nat) (v0 : Nat) (v1 : Int) (h : AH), Sd M_Mod_usesAll 9 185 emV 2 [(0, vr v0), (1, vi v1)] [] h (Mod_usesAll_L2 n v0 v1 h)
  | 0, _, _, _ => Sd.none
  | n + 1, v0, v1, h => by
    rw [Mod_usesAll_L2]
    refine Sd_iload_n (pc' := 3) (dc D_Mod_usesAll 2 rfl) rfl 1 rfl rfl ?_
    refine Sd_aload_n (pc' := 4) (dc D_Mod_usesAll 3 rfl) rfl 0 rfl rfl ?_
    refine Sd_getI (pc' := 7) (dc D_Mod_usesAll 4 rfl) rfl F_Mod_96 rfl rfl ?_
    refine Sd_icmp_ge (tgt := 68) (pc' := 10) (dc D_Mod_usesAll 5 rfl) (by decide) rfl (fun _ => ?_) (fun _ => ?_)
    · exact Sd_vret (dc D_Mod_usesAll 39 rfl) rfl
    · refine Sd_iconst (pc' := 11) (dc D_Mod_usesAll 6 rfl) rfl ⟨by decide, by decide⟩ ?_
      refine Sd_istore_n (pc' := 12) (l' := [(2, _), (0, _), (1, _)]) (dc D_Mod_usesAll 7 rfl) rfl rfl (by decide) rfl ?_
      refine Sd.sub (l' := [(0, _), (1, _), (2, _)]) [1, 2, 0] rfl ?_
      exact s_Mod_usesAll_L12 (Mod_usesAll_L2 n) (s_Mod_usesAll_L2 n) FU _ _ _ _
def Mod_usesAll (v0 : Nat) (h : AH) : Option (Unit × AH) := Mod_usesAll_L2 FU v0 0 h
set_option maxHeartbeats 4000000 in
set_option maxRecDepth 20000 in
theorem s_Mod_usesAll (v0 : Nat) (h : AH) : CS M_Mod_usesAll 9 185 emV [vr v0] h (Mod_usesAll v0 h) := by
  refine CS.of (by decide) (Nat.le_of_ble_eq_true rfl) ?_
  show Sd M_Mod_usesAll 9 185 emV 0 [(0, vr v0)] [] h _
  unfold Mod_usesAll
  refine Sd_iconst (pc' := 1) (dc D_Mod_usesAll 0 rfl) rfl ⟨by decide, by decide⟩ ?_
  refine Sd_istore_n (pc' := 2) (l' := [(1, _), (0, _)]) (dc D_Mod_usesAll 1 rfl) rfl rfl (by decide) rfl ?_
  refine Sd.sub (l' := [(0, _), (1, _)]) [1, 0] rfl ?_
  exact s_Mod_usesAll_L2 FU _ _ _
theorem K_Mod_usesAll : MOk M_Mod_usesAll 0 := ⟨Tb_at 133 (by decide +kernel) rfl, Tb_at 1827 (by decide +kernel) rfl, by decide +kernel, by decide +kernel, by decide +kernel⟩
theorem Ks_Mod_usesAll : Cond.instanceMethod yX12_usesAll ∈ Tb := Tb_at 1826 (by decide +kernel) rfl
theorem Kv_Mod_usesAll : Cond.selects RX12 yX12_usesAll yX12_usesAll ∈ Tb := Tb_at 112 (by decide +kernel) rfl
/-! ===== BatchShareModel.runs()I ===== -/
abbrev M_Mod_runs : AMt := (yX12_runs, cX12_runs, 2, (some .int))
def T_Mod_runs : List (Nat × Instr × Nat) := [(0, .aload_n 0, 1), (1, .getfield 9, 3), (4, .bipush 7, 2), (6, .dup2, 1), (7, .iaload, 1), (8, .iconst 1, 1), (9, .iadd, 1), (10, .iastore, 1), (11, .aload_n 0, 1), (12, .invokevirtual 485, 3), (15, .istore_n 1, 1), (16, .aload_n 0, 1), (17, .getfield 9, 3), (20, .bipush 6, 2), (22, .dup2, 1), (23, .iaload, 1), (24, .iload_n 1, 1), (25, .iadd, 1), (26, .iastore, 1), (27, .aload_n 0, 1), (28, .invokevirtual 488, 3), (31, .iload_n 1, 1), (32, .ireturn, 1)]
set_option maxRecDepth 20000 in
theorem D_Mod_runs : (T_Mod_runs.all fun q => decide (decode M_Mod_runs.2.1 q.1 = .ok q.2)) = true := by decide +kernel
def Mod_runs (v0 : Nat) (h : AH) : Option (Int × AH) := gR h 13 v0 1 fun r1 => aI h 21 r1 7 fun x2 => wI h 21 r1 7 (wr (x2 + 1)) fun h3 => rc h3 13 v0 <| bnd (Mod_batch v0 h3) fun x5 h4 => gR h4 13 v0 1 fun r7 => aI h4 21 r7 6 fun x8 => wI h4 21 r7 6 (wr (x8 + x5)) fun h9 => rc h9 13 v0 <| bnd (Mod_usesAll v0 h9) fun _ h10 => some (x5, h10)
set_option maxHeartbeats 4000000 in
set_option maxRecDepth 20000 in
theorem s_Mod_runs (v0 : Nat) (h : AH) : CS M_Mod_runs 11 226 emI [vr v0] h (Mod_runs v0 h) := by
  refine CS.of (by decide) (Nat.le_of_ble_eq_true rfl) ?_
  show Sd M_Mod_runs 11 226 emI 0 [(0, vr v0)] [] h _
  unfold Mod_runs
  refine Sd_aload_n (pc' := 1) (dc D_Mod_runs 0 rfl) rfl 0 rfl rfl ?_
  refine Sd_getR (pc' := 4) (dc D_Mod_runs 1 rfl) rfl F_Mod_9 rfl rfl ?_
  refine Sd_bipush (pc' := 6) (dc D_Mod_runs 2 rfl) rfl ⟨by decide, by decide⟩ (by decide) ?_
  refine Sd_dup2 (pc' := 7) (dc D_Mod_runs 3 rfl) rfl (cat_i _) (cat_r _) ?_
  refine Sd_iaload (pc' := 8) (dc D_Mod_runs 4 rfl) rfl ?_
  refine Sd_iconst (pc' := 9) (dc D_Mod_runs 5 rfl) rfl ⟨by decide, by decide⟩ ?_
  refine Sd_iadd (pc' := 10) (dc D_Mod_runs 6 rfl) rfl ?_
  refine Sd_iastore (pc' := 11) (dc D_Mod_runs 7 rfl) rfl (by decide) ?_
  refine Sd_aload_n (pc' := 12) (dc D_Mod_runs 8 rfl) rfl 0 rfl rfl ?_
  refine Sd.callVI (ci := 12) (t := 13) (as := []) RX12 (pc' := 15) (dc D_Mod_runs 9 rfl) rfl rfl rfl rfl K_Mod_batch L_Mod_485 Ks_Mod_batch Kv_Mod_batch ⟨by decide, by decide⟩ rfl rfl (Nat.le_of_ble_eq_true rfl) (s_Mod_batch _ _) (fun x5 h4 => ?_)
  refine Sd_istore_n (pc' := 16) (l' := [(1, _), (0, _)]) (dc D_Mod_runs 10 rfl) rfl rfl (by decide) rfl ?_
  refine Sd_aload_n (pc' := 17) (dc D_Mod_runs 11 rfl) rfl 1 rfl rfl ?_
  refine Sd_getR (pc' := 20) (dc D_Mod_runs 12 rfl) rfl F_Mod_9 rfl rfl ?_
  refine Sd_bipush (pc' := 22) (dc D_Mod_runs 13 rfl) rfl ⟨by decide, by decide⟩ (by decide) ?_
  refine Sd_dup2 (pc' := 23) (dc D_Mod_runs 14 rfl) rfl (cat_i _) (cat_r _) ?_
  refine Sd_iaload (pc' := 24) (dc D_Mod_runs 15 rfl) rfl ?_
  refine Sd_iload_n (pc' := 25) (dc D_Mod_runs 16 rfl) rfl 0 rfl rfl ?_
  refine Sd_iadd (pc' := 26) (dc D_Mod_runs 17 rfl) rfl ?_
  refine Sd_iastore (pc' := 27) (dc D_Mod_runs 18 rfl) rfl (by decide) ?_
  refine Sd_aload_n (pc' := 28) (dc D_Mod_runs 19 rfl) rfl 1 rfl rfl ?_
  refine Sd.callVV (ci := 12) (t := 13) (as := []) RX12 (pc' := 31) (dc D_Mod_runs 20 rfl) rfl rfl rfl rfl K_Mod_usesAll L_Mod_488 Ks_Mod_usesAll Kv_Mod_usesAll ⟨by decide, by decide⟩ rfl rfl (Nat.le_of_ble_eq_true rfl) (s_Mod_usesAll _ _) (fun _ h10 => ?_)
  refine Sd_iload_n (pc' := 32) (dc D_Mod_runs 21 rfl) rfl 0 rfl rfl ?_
  exact Sd_iret (dc D_Mod_runs 22 rfl) rfl
theorem K_Mod_runs : MOk M_Mod_runs 0 := ⟨Tb_at 133 (by decide +kernel) rfl, Tb_at 1822 (by decide +kernel) rfl, by decide +kernel, by decide +kernel, by decide +kernel⟩
theorem Ks_Mod_runs : Cond.instanceMethod yX12_runs ∈ Tb := Tb_at 1821 (by decide +kernel) rfl
theorem Kv_Mod_runs : Cond.selects RX12 yX12_runs yX12_runs ∈ Tb := Tb_at 111 (by decide +kernel) rfl
/-! ===== BatchShareModel.run()I ===== -/
abbrev M_Mod_run : AMt := (yX12_run, cX12_run, 1, (some .int))
def T_Mod_run : List (Nat × Instr × Nat) := [(0, .aload_n 0, 1), (1, .invokevirtual 445, 3), (4, .ifCond .ne 5, 3), (7, .iconst (-1), 1), (8, .ireturn, 1), (9, .aload_n 0, 1), (10, .invokevirtual 450, 3), (13, .aload_n 0, 1), (14, .invokevirtual 491, 3), (17, .ireturn, 1)]
set_option maxRecDepth 20000 in
theorem D_Mod_run : (T_Mod_run.all fun q => decide (decode M_Mod_run.2.1 q.1 = .ok q.2)) = true := by decide +kernel
def Mod_run (v0 : Nat) (h : AH) : Option (Int × AH) := rc h 13 v0 <| bnd (Mod_isBase v0 h) fun x2 h1 => if ¬ (x2 : Int) = 0 then (rc h1 13 v0 <| bnd (Mod_keepsAct v0 h1) fun _ h4 => rc h4 13 v0 <| bnd (Mod_runs v0 h4) fun x8 h7 => some (x8, h7)) else (some ((-1), h1))
set_option maxHeartbeats 4000000 in
set_option maxRecDepth 20000 in
theorem s_Mod_run (v0 : Nat) (h : AH) : CS M_Mod_run 12 247 emI [vr v0] h (Mod_run v0 h) := by
  refine CS.of (by decide) (Nat.le_of_ble_eq_true rfl) ?_
  show Sd M_Mod_run 12 247 emI 0 [(0, vr v0)] [] h _
  unfold Mod_run
  refine Sd_aload_n (pc' := 1) (dc D_Mod_run 0 rfl) rfl 0 rfl rfl ?_
  refine Sd.callVI (ci := 12) (t := 13) (as := []) RX12 (pc' := 4) (dc D_Mod_run 1 rfl) rfl rfl rfl rfl K_Mod_isBase L_Mod_445 Ks_Mod_isBase Kv_Mod_isBase ⟨by decide, by decide⟩ rfl rfl (Nat.le_of_ble_eq_true rfl) (s_Mod_isBase _ _) (fun x2 h1 => ?_)
  refine Sd_if_ne (tgt := 9) (pc' := 7) (dc D_Mod_run 2 rfl) (by decide) rfl (fun _ => ?_) (fun _ => ?_)
  · refine Sd_aload_n (pc' := 10) (dc D_Mod_run 5 rfl) rfl 0 rfl rfl ?_
    refine Sd.callVV (ci := 12) (t := 13) (as := []) RX12 (pc' := 13) (dc D_Mod_run 6 rfl) rfl rfl rfl rfl K_Mod_keepsAct L_Mod_450 Ks_Mod_keepsAct Kv_Mod_keepsAct ⟨by decide, by decide⟩ rfl rfl (Nat.le_of_ble_eq_true rfl) (s_Mod_keepsAct _ _) (fun _ h4 => ?_)
    refine Sd_aload_n (pc' := 14) (dc D_Mod_run 7 rfl) rfl 0 rfl rfl ?_
    refine Sd.callVI (ci := 12) (t := 13) (as := []) RX12 (pc' := 17) (dc D_Mod_run 8 rfl) rfl rfl rfl rfl K_Mod_runs L_Mod_491 Ks_Mod_runs Kv_Mod_runs ⟨by decide, by decide⟩ rfl rfl (Nat.le_of_ble_eq_true rfl) (s_Mod_runs _ _) (fun x8 h7 => ?_)
    exact Sd_iret (dc D_Mod_run 9 rfl) rfl
  · refine Sd_iconst (pc' := 8) (dc D_Mod_run 3 rfl) rfl ⟨by decide, by decide⟩ ?_
    exact Sd_iret (dc D_Mod_run 4 rfl) rfl
theorem K_Mod_run : MOk M_Mod_run 0 := ⟨Tb_at 133 (by decide +kernel) rfl, Tb_at 1818 (by decide +kernel) rfl, by decide +kernel, by decide +kernel, by decide +kernel⟩
theorem Ks_Mod_run : Cond.instanceMethod yX12_run ∈ Tb := Tb_at 1816 (by decide +kernel) rfl
theorem Kv_Mod_run : Cond.selects RX12 yX12_run yX12_run ∈ Tb := Tb_at 1817 (by decide +kernel) rfl
/-! ===== BatchShareModel.undo()I ===== -/
abbrev M_Mod_undo : AMt := (yX12_undo, cX12_undo, 1, (some .int))
def T_Mod_undo : List (Nat × Instr × Nat) := [(0, .aload_n 0, 1), (1, .getfield 186, 3), (4, .ifCond .ne 6, 3), (7, .bipush (-2), 2), (9, .ireturn, 1), (10, .aload_n 0, 1), (11, .dup, 1), (12, .getfield 186, 3), (15, .iconst 1, 1), (16, .isub, 1), (17, .putfield 186, 3), (20, .aload_n 0, 1), (21, .aload_n 0, 1), (22, .getfield 186, 3), (25, .iconst 1, 1), (26, .invokevirtual 441, 3), (29, .aload_n 0, 1), (30, .getfield 186, 3), (33, .ireturn, 1)]
set_option maxRecDepth 20000 in
theorem D_Mod_undo : (T_Mod_undo.all fun q => decide (decode M_Mod_undo.2.1 q.1 = .ok q.2)) = true := by decide +kernel
def Mod_undo (v0 : Nat) (h : AH) : Option (Int × AH) := gI h 13 v0 43 fun x1 => if ¬ (x1 : Int) = 0 then (gI h 13 v0 43 fun x2 => pI h 13 v0 43 (wr (x2 - 1)) fun h3 => gI h3 13 v0 43 fun x4 => rc h3 13 v0 <| bnd (Mod_movesAll v0 x4 1 h3) fun _ h5 => gI h5 13 v0 43 fun x8 => some (x8, h5)) else (some ((-2), h))
set_option maxHeartbeats 4000000 in
set_option maxRecDepth 20000 in
theorem s_Mod_undo (v0 : Nat) (h : AH) : CS M_Mod_undo 4 67 emI [vr v0] h (Mod_undo v0 h) := by
  refine CS.of (by decide) (Nat.le_of_ble_eq_true rfl) ?_
  show Sd M_Mod_undo 4 67 emI 0 [(0, vr v0)] [] h _
  unfold Mod_undo
  refine Sd_aload_n (pc' := 1) (dc D_Mod_undo 0 rfl) rfl 0 rfl rfl ?_
  refine Sd_getI (pc' := 4) (dc D_Mod_undo 1 rfl) rfl F_Mod_186 rfl rfl ?_
  refine Sd_if_ne (tgt := 10) (pc' := 7) (dc D_Mod_undo 2 rfl) (by decide) rfl (fun _ => ?_) (fun _ => ?_)
  · refine Sd_aload_n (pc' := 11) (dc D_Mod_undo 5 rfl) rfl 0 rfl rfl ?_
    refine Sd_dup (pc' := 12) (dc D_Mod_undo 6 rfl) rfl (cat_r _) ?_
    refine Sd_getI (pc' := 15) (dc D_Mod_undo 7 rfl) rfl F_Mod_186 rfl rfl ?_
    refine Sd_iconst (pc' := 16) (dc D_Mod_undo 8 rfl) rfl ⟨by decide, by decide⟩ ?_
    refine Sd_isub (pc' := 17) (dc D_Mod_undo 9 rfl) rfl ?_
    refine Sd_putI (pc' := 20) (dc D_Mod_undo 10 rfl) rfl F_Mod_186 rfl rfl rfl (finOk.no rfl) (by decide) ?_
    refine Sd_aload_n (pc' := 21) (dc D_Mod_undo 11 rfl) rfl 0 rfl rfl ?_
    refine Sd_aload_n (pc' := 22) (dc D_Mod_undo 12 rfl) rfl 0 rfl rfl ?_
    refine Sd_getI (pc' := 25) (dc D_Mod_undo 13 rfl) rfl F_Mod_186 rfl rfl ?_
    refine Sd_iconst (pc' := 26) (dc D_Mod_undo 14 rfl) rfl ⟨by decide, by decide⟩ ?_
    refine Sd.callVV (ci := 12) (t := 13) (as := [_, _]) RX12 (pc' := 29) (dc D_Mod_undo 15 rfl) rfl rfl rfl rfl K_Mod_movesAll L_Mod_441 Ks_Mod_movesAll Kv_Mod_movesAll ⟨by decide, by decide⟩ rfl rfl (Nat.le_of_ble_eq_true rfl) (s_Mod_movesAll _ _ _ _) (fun _ h5 => ?_)
    refine Sd_aload_n (pc' := 30) (dc D_Mod_undo 16 rfl) rfl 0 rfl rfl ?_
    refine Sd_getI (pc' := 33) (dc D_Mod_undo 17 rfl) rfl F_Mod_186 rfl rfl ?_
    exact Sd_iret (dc D_Mod_undo 18 rfl) rfl
  · refine Sd_bipush (pc' := 9) (dc D_Mod_undo 3 rfl) rfl ⟨by decide, by decide⟩ (by decide) ?_
    exact Sd_iret (dc D_Mod_undo 4 rfl) rfl
theorem K_Mod_undo : MOk M_Mod_undo 0 := ⟨Tb_at 133 (by decide +kernel) rfl, Tb_at 1729 (by decide +kernel) rfl, by decide +kernel, by decide +kernel, by decide +kernel⟩
theorem Ks_Mod_undo : Cond.instanceMethod yX12_undo ∈ Tb := Tb_at 1727 (by decide +kernel) rfl
theorem Kv_Mod_undo : Cond.selects RX12 yX12_undo yX12_undo ∈ Tb := Tb_at 1728 (by decide +kernel) rfl
/-! ===== BatchShareModel.kept(II)I ===== -/
abbrev M_Mod_kept : AMt := (yX12_kept, cX12_kept, 3, (some .int))
def T_Mod_kept : List (Nat × Instr × Nat) := [(0, .aload_n 0, 1), (1, .iload_n 1, 1), (2, .invokevirtual 482, 3), (5, .ifCond .eq 29, 3), (8, .iload_n 2, 1), (9, .i2l, 1), (10, .lconst 0, 1), (11, .ldc2_w 494, 3), (14, .invokestatic 88, 3), (17, .ifCond .eq 17, 3), (20, .aload_n 0, 1), (21, .getfield 25, 3), (24, .bipush 16, 2), (26, .iload_n 1, 1), (27, .imul, 1), (28, .iload_n 2, 1), (29, .iadd, 1), (30, .iaload, 1), (31, .goto 5, 3), (34, .bipush (-2), 2), (36, .ireturn, 1)]
set_option maxRecDepth 20000 in
theorem D_Mod_kept : (T_Mod_kept.all fun q => decide (decode M_Mod_kept.2.1 q.1 = .ok q.2)) = true := by decide +kernel
def Mod_kept (v0 : Nat) (v1 : Int) (v2 : Int) (h : AH) : Option (Int × AH) := rc h 13 v0 <| bnd (Mod_isKeptOne v0 v1 h) fun x2 h1 => if (x2 : Int) = 0 then (some ((-2), h1)) else (bnd (Mod_in v2 0 15 h1) fun x5 h4 => if (x5 : Int) = 0 then (some ((-2), h4)) else (gR h4 13 v0 9 fun r7 => aI h4 21 r7 (wr ((wr (16 * v1)) + v2)) fun x8 => some (x8, h4)))
set_option maxHeartbeats 4000000 in
set_option maxRecDepth 20000 in
theorem s_Mod_kept (v0 : Nat) (v1 : Int) (v2 : Int) (h : AH) : CS M_Mod_kept 3 46 emI [vr v0, vi v1, vi v2] h (Mod_kept v0 v1 v2 h) := by
  refine CS.of (by decide) (Nat.le_of_ble_eq_true rfl) ?_
  show Sd M_Mod_kept 3 46 emI 0 [(0, vr v0), (1, vi v1), (2, vi v2)] [] h _
  unfold Mod_kept
  refine Sd_aload_n (pc' := 1) (dc D_Mod_kept 0 rfl) rfl 0 rfl rfl ?_
  refine Sd_iload_n (pc' := 2) (dc D_Mod_kept 1 rfl) rfl 1 rfl rfl ?_
  refine Sd.callVI (ci := 12) (t := 13) (as := [_]) RX12 (pc' := 5) (dc D_Mod_kept 2 rfl) rfl rfl rfl rfl K_Mod_isKeptOne L_Mod_482 Ks_Mod_isKeptOne Kv_Mod_isKeptOne ⟨by decide, by decide⟩ rfl rfl (Nat.le_of_ble_eq_true rfl) (s_Mod_isKeptOne _ _ _) (fun x2 h1 => ?_)
  refine Sd_if_eq (tgt := 34) (pc' := 8) (dc D_Mod_kept 3 rfl) (by decide) rfl (fun _ => ?_) (fun _ => ?_)
  · refine Sd_bipush (pc' := 36) (dc D_Mod_kept 19 rfl) rfl ⟨by decide, by decide⟩ (by decide) ?_
    exact Sd_iret (dc D_Mod_kept 20 rfl) rfl
  · refine Sd_iload_n (pc' := 9) (dc D_Mod_kept 4 rfl) rfl 2 rfl rfl ?_
    refine Sd_i2l (pc' := 10) (dc D_Mod_kept 5 rfl) rfl ?_
    refine Sd_lconst (z := 0) (pc' := 11) (dc D_Mod_kept 6 rfl) rfl ⟨by decide, by decide⟩ (by decide) ?_
    refine Sd_ldc2 (n := 15) (pc' := 14) (dc D_Mod_kept 7 rfl) rfl ⟨by decide, by decide⟩ Q_Mod_494 ?_
    refine Sd.callSI (as := [_, _, _]) (pc' := 17) (dc D_Mod_kept 8 rfl) rfl K_Mod_in L_Mod_88 Ks_Mod_in ⟨by decide, by decide⟩ rfl rfl (Nat.le_of_ble_eq_true rfl) (s_Mod_in _ _ _ _) (fun x5 h4 => ?_)
    refine Sd_if_eq (tgt := 34) (pc' := 20) (dc D_Mod_kept 9 rfl) (by decide) rfl (fun _ => ?_) (fun _ => ?_)
    · refine Sd_bipush (pc' := 36) (dc D_Mod_kept 19 rfl) rfl ⟨by decide, by decide⟩ (by decide) ?_
      exact Sd_iret (dc D_Mod_kept 20 rfl) rfl
    · refine Sd_aload_n (pc' := 21) (dc D_Mod_kept 10 rfl) rfl 0 rfl rfl ?_
      refine Sd_getR (pc' := 24) (dc D_Mod_kept 11 rfl) rfl F_Mod_25 rfl rfl ?_
      refine Sd_bipush (pc' := 26) (dc D_Mod_kept 12 rfl) rfl ⟨by decide, by decide⟩ (by decide) ?_
      refine Sd_iload_n (pc' := 27) (dc D_Mod_kept 13 rfl) rfl 1 rfl rfl ?_
      refine Sd_imul (pc' := 28) (dc D_Mod_kept 14 rfl) rfl ?_
      refine Sd_iload_n (pc' := 29) (dc D_Mod_kept 15 rfl) rfl 2 rfl rfl ?_
      refine Sd_iadd (pc' := 30) (dc D_Mod_kept 16 rfl) rfl ?_
      refine Sd_iaload (pc' := 31) (dc D_Mod_kept 17 rfl) rfl ?_
      refine Sd_goto (tgt := 36) (dc D_Mod_kept 18 rfl) (by decide) ?_
      exact Sd_iret (dc D_Mod_kept 20 rfl) rfl
theorem K_Mod_kept : MOk M_Mod_kept 2 := ⟨Tb_at 133 (by decide +kernel) rfl, Tb_at 1831 (by decide +kernel) rfl, by decide +kernel, by decide +kernel, by decide +kernel⟩
theorem Ks_Mod_kept : Cond.instanceMethod yX12_kept ∈ Tb := Tb_at 1829 (by decide +kernel) rfl
theorem Kv_Mod_kept : Cond.selects RX12 yX12_kept yX12_kept ∈ Tb := Tb_at 1830 (by decide +kernel) rfl
/-! ===== BatchShareModel.isAsked(I)Z ===== -/
abbrev M_Mod_isAsked : AMt := (yX12_isAsked, cX12_isAsked, 2, (some .boolean))
def T_Mod_isAsked : List (Nat × Instr × Nat) := [(0, .aload_n 0, 1), (1, .iload_n 1, 1), (2, .invokevirtual 255, 3), (5, .ifCond .eq 20, 3), (8, .aload_n 0, 1), (9, .getfield 9, 3), (12, .iconst 4, 1), (13, .iaload, 1), (14, .iload_n 1, 1), (15, .invokestatic 103, 3), (18, .ifCond .ne 7, 3), (21, .iconst 1, 1), (22, .goto 4, 3), (25, .iconst 0, 1), (26, .ireturn, 1)]
set_option maxRecDepth 20000 in
theorem D_Mod_isAsked : (T_Mod_isAsked.all fun q => decide (decode M_Mod_isAsked.2.1 q.1 = .ok q.2)) = true := by decide +kernel
def Mod_isAsked (v0 : Nat) (v1 : Int) (h : AH) : Option (Int × AH) := rc h 13 v0 <| bnd (Mod_isQuery v0 v1 h) fun x2 h1 => if (x2 : Int) = 0 then (some (0, h1)) else (gR h1 13 v0 1 fun r4 => aI h1 21 r4 4 fun x5 => bnd (Mod_has x5 v1 h1) fun x7 h6 => if ¬ (x7 : Int) = 0 then (some (0, h6)) else (some (1, h6)))
set_option maxHeartbeats 4000000 in
set_option maxRecDepth 20000 in
theorem s_Mod_isAsked (v0 : Nat) (v1 : Int) (h : AH) : CS M_Mod_isAsked 3 46 emI [vr v0, vi v1] h (Mod_isAsked v0 v1 h) := by
  refine CS.of (by decide) (Nat.le_of_ble_eq_true rfl) ?_
  show Sd M_Mod_isAsked 3 46 emI 0 [(0, vr v0), (1, vi v1)] [] h _
  unfold Mod_isAsked
  refine Sd_aload_n (pc' := 1) (dc D_Mod_isAsked 0 rfl) rfl 0 rfl rfl ?_
  refine Sd_iload_n (pc' := 2) (dc D_Mod_isAsked 1 rfl) rfl 1 rfl rfl ?_
  refine Sd.callVI (ci := 12) (t := 13) (as := [_]) RX12 (pc' := 5) (dc D_Mod_isAsked 2 rfl) rfl rfl rfl rfl K_Mod_isQuery L_Mod_255 Ks_Mod_isQuery Kv_Mod_isQuery ⟨by decide, by decide⟩ rfl rfl (Nat.le_of_ble_eq_true rfl) (s_Mod_isQuery _ _ _) (fun x2 h1 => ?_)
  refine Sd_if_eq (tgt := 25) (pc' := 8) (dc D_Mod_isAsked 3 rfl) (by decide) rfl (fun _ => ?_) (fun _ => ?_)
  · refine Sd_iconst (pc' := 26) (dc D_Mod_isAsked 13 rfl) rfl ⟨by decide, by decide⟩ ?_
    exact Sd_zret (dc D_Mod_isAsked 14 rfl) rfl (Or.inl rfl)
  · refine Sd_aload_n (pc' := 9) (dc D_Mod_isAsked 4 rfl) rfl 0 rfl rfl ?_
    refine Sd_getR (pc' := 12) (dc D_Mod_isAsked 5 rfl) rfl F_Mod_9 rfl rfl ?_
    refine Sd_iconst (pc' := 13) (dc D_Mod_isAsked 6 rfl) rfl ⟨by decide, by decide⟩ ?_
    refine Sd_iaload (pc' := 14) (dc D_Mod_isAsked 7 rfl) rfl ?_
    refine Sd_iload_n (pc' := 15) (dc D_Mod_isAsked 8 rfl) rfl 1 rfl rfl ?_
    refine Sd.callSI (as := [_, _]) (pc' := 18) (dc D_Mod_isAsked 9 rfl) rfl K_Mod_has L_Mod_103 Ks_Mod_has ⟨by decide, by decide⟩ rfl rfl (Nat.le_of_ble_eq_true rfl) (s_Mod_has _ _ _) (fun x7 h6 => ?_)
    refine Sd_if_ne (tgt := 25) (pc' := 21) (dc D_Mod_isAsked 10 rfl) (by decide) rfl (fun _ => ?_) (fun _ => ?_)
    · refine Sd_iconst (pc' := 26) (dc D_Mod_isAsked 13 rfl) rfl ⟨by decide, by decide⟩ ?_
      exact Sd_zret (dc D_Mod_isAsked 14 rfl) rfl (Or.inl rfl)
    · refine Sd_iconst (pc' := 22) (dc D_Mod_isAsked 11 rfl) rfl ⟨by decide, by decide⟩ ?_
      refine Sd_goto (tgt := 26) (dc D_Mod_isAsked 12 rfl) (by decide) ?_
      exact Sd_zret (dc D_Mod_isAsked 14 rfl) rfl (Or.inr rfl)
theorem K_Mod_isAsked : MOk M_Mod_isAsked 1 := ⟨Tb_at 133 (by decide +kernel) rfl, Tb_at 1680 (by decide +kernel) rfl, by decide +kernel, by decide +kernel, by decide +kernel⟩
theorem Ks_Mod_isAsked : Cond.instanceMethod yX12_isAsked ∈ Tb := Tb_at 1679 (by decide +kernel) rfl
theorem Kv_Mod_isAsked : Cond.selects RX12 yX12_isAsked yX12_isAsked ∈ Tb := Tb_at 90 (by decide +kernel) rfl
/-! ===== BatchShareModel.costs(I)I ===== -/
abbrev M_Mod_costs : AMt := (yX12_costs, cX12_costs, 2, (some .int))
def T_Mod_costs : List (Nat × Instr × Nat) := [(0, .aload_n 0, 1), (1, .iload_n 1, 1), (2, .invokevirtual 383, 3), (5, .ifCond .ne 5, 3), (8, .iconst (-1), 1), (9, .ireturn, 1), (10, .aload_n 0, 1), (11, .invokevirtual 371, 3), (14, .aload_n 0, 1), (15, .invokevirtual 374, 3), (18, .aload_n 0, 1), (19, .iload_n 1, 1), (20, .invokevirtual 368, 3), (23, .ireturn, 1)]
set_option maxRecDepth 20000 in
theorem D_Mod_costs : (T_Mod_costs.all fun q => decide (decode M_Mod_costs.2.1 q.1 = .ok q.2)) = true := by decide +kernel
def Mod_costs (v0 : Nat) (v1 : Int) (h : AH) : Option (Int × AH) := rc h 13 v0 <| bnd (Mod_isAsked v0 v1 h) fun x2 h1 => if ¬ (x2 : Int) = 0 then (rc h1 13 v0 <| bnd (Mod_laysAll v0 h1) fun _ h4 => rc h4 13 v0 <| bnd (Mod_takesKept v0 h4) fun _ h7 => rc h7 13 v0 <| bnd (Mod_costNow v0 v1 h7) fun x11 h10 => some (x11, h10)) else (some ((-1), h1))
set_option maxHeartbeats 4000000 in
set_option maxRecDepth 20000 in
theorem s_Mod_costs (v0 : Nat) (v1 : Int) (h : AH) : CS M_Mod_costs 9 184 emI [vr v0, vi v1] h (Mod_costs v0 v1 h) := by
  refine CS.of (by decide) (Nat.le_of_ble_eq_true rfl) ?_
  show Sd M_Mod_costs 9 184 emI 0 [(0, vr v0), (1, vi v1)] [] h _
  unfold Mod_costs
  refine Sd_aload_n (pc' := 1) (dc D_Mod_costs 0 rfl) rfl 0 rfl rfl ?_
  refine Sd_iload_n (pc' := 2) (dc D_Mod_costs 1 rfl) rfl 1 rfl rfl ?_
  refine Sd.callVI (ci := 12) (t := 13) (as := [_]) RX12 (pc' := 5) (dc D_Mod_costs 2 rfl) rfl rfl rfl rfl K_Mod_isAsked L_Mod_383 Ks_Mod_isAsked Kv_Mod_isAsked ⟨by decide, by decide⟩ rfl rfl (Nat.le_of_ble_eq_true rfl) (s_Mod_isAsked _ _ _) (fun x2 h1 => ?_)
  refine Sd_if_ne (tgt := 10) (pc' := 8) (dc D_Mod_costs 3 rfl) (by decide) rfl (fun _ => ?_) (fun _ => ?_)
  · refine Sd_aload_n (pc' := 11) (dc D_Mod_costs 6 rfl) rfl 0 rfl rfl ?_
    refine Sd.callVV (ci := 12) (t := 13) (as := []) RX12 (pc' := 14) (dc D_Mod_costs 7 rfl) rfl rfl rfl rfl K_Mod_laysAll L_Mod_371 Ks_Mod_laysAll Kv_Mod_laysAll ⟨by decide, by decide⟩ rfl rfl (Nat.le_of_ble_eq_true rfl) (s_Mod_laysAll _ _) (fun _ h4 => ?_)
    refine Sd_aload_n (pc' := 15) (dc D_Mod_costs 8 rfl) rfl 0 rfl rfl ?_
    refine Sd.callVV (ci := 12) (t := 13) (as := []) RX12 (pc' := 18) (dc D_Mod_costs 9 rfl) rfl rfl rfl rfl K_Mod_takesKept L_Mod_374 Ks_Mod_takesKept Kv_Mod_takesKept ⟨by decide, by decide⟩ rfl rfl (Nat.le_of_ble_eq_true rfl) (s_Mod_takesKept _ _) (fun _ h7 => ?_)
    refine Sd_aload_n (pc' := 19) (dc D_Mod_costs 10 rfl) rfl 0 rfl rfl ?_
    refine Sd_iload_n (pc' := 20) (dc D_Mod_costs 11 rfl) rfl 1 rfl rfl ?_
    refine Sd.callVI (ci := 12) (t := 13) (as := [_]) RX12 (pc' := 23) (dc D_Mod_costs 12 rfl) rfl rfl rfl rfl K_Mod_costNow L_Mod_368 Ks_Mod_costNow Kv_Mod_costNow ⟨by decide, by decide⟩ rfl rfl (Nat.le_of_ble_eq_true rfl) (s_Mod_costNow _ _ _) (fun x11 h10 => ?_)
    exact Sd_iret (dc D_Mod_costs 13 rfl) rfl
  · refine Sd_iconst (pc' := 9) (dc D_Mod_costs 4 rfl) rfl ⟨by decide, by decide⟩ ?_
    exact Sd_iret (dc D_Mod_costs 5 rfl) rfl
theorem K_Mod_costs : MOk M_Mod_costs 1 := ⟨Tb_at 133 (by decide +kernel) rfl, Tb_at 1676 (by decide +kernel) rfl, by decide +kernel, by decide +kernel, by decide +kernel⟩
theorem Ks_Mod_costs : Cond.instanceMethod yX12_costs ∈ Tb := Tb_at 1674 (by decide +kernel) rfl
theorem Kv_Mod_costs : Cond.selects RX12 yX12_costs yX12_costs ∈ Tb := Tb_at 1675 (by decide +kernel) rfl
/-! ===== BatchShareModel.serves(II)I ===== -/
abbrev M_Mod_serves : AMt := (yX12_serves, cX12_serves, 4, (some .int))
def T_Mod_serves : List (Nat × Instr × Nat) := [(0, .aload_n 0, 1), (1, .iload_n 1, 1), (2, .invokevirtual 383, 3), (5, .ifCond .eq 15, 3), (8, .iload_n 2, 1), (9, .i2l, 1), (10, .lconst 0, 1), (11, .ldc2_w 248, 3), (14, .invokestatic 88, 3), (17, .ifCond .ne 5, 3), (20, .iconst (-1), 1), (21, .ireturn, 1), (22, .aload_n 0, 1), (23, .invokevirtual 371, 3), (26, .aload_n 0, 1), (27, .invokevirtual 374, 3), (30, .aload_n 0, 1), (31, .iload_n 1, 1), (32, .iload_n 2, 1), (33, .invokevirtual 386, 3), (36, .istore_n 3, 1), (37, .iload_n 3, 1), (38, .iconst (-1), 1), (39, .if_icmp .ne 8, 3), (42, .bipush (-2), 2), (44, .goto 4, 3), (47, .iload_n 3, 1), (48, .ireturn, 1)]
set_option maxRecDepth 20000 in
theorem D_Mod_serves : (T_Mod_serves.all fun q => decide (decode M_Mod_serves.2.1 q.1 = .ok q.2)) = true := by decide +kernel
def Mod_serves (v0 : Nat) (v1 : Int) (v2 : Int) (h : AH) : Option (Int × AH) := rc h 13 v0 <| bnd (Mod_isAsked v0 v1 h) fun x2 h1 => if (x2 : Int) = 0 then (some ((-1), h1)) else (bnd (Mod_in v2 0 2 h1) fun x5 h4 => if ¬ (x5 : Int) = 0 then (rc h4 13 v0 <| bnd (Mod_laysAll v0 h4) fun _ h7 => rc h7 13 v0 <| bnd (Mod_takesKept v0 h7) fun _ h10 => rc h10 13 v0 <| bnd (Mod_servedBy v0 v1 v2 h10) fun x14 h13 => if ¬ (x14 : Int) = (-1) then (some (x14, h13)) else (some ((-2), h13))) else (some ((-1), h4)))
set_option maxHeartbeats 4000000 in
set_option maxRecDepth 20000 in
theorem s_Mod_serves (v0 : Nat) (v1 : Int) (v2 : Int) (h : AH) : CS M_Mod_serves 9 185 emI [vr v0, vi v1, vi v2] h (Mod_serves v0 v1 v2 h) := by
  refine CS.of (by decide) (Nat.le_of_ble_eq_true rfl) ?_
  show Sd M_Mod_serves 9 185 emI 0 [(0, vr v0), (1, vi v1), (2, vi v2)] [] h _
  unfold Mod_serves
  refine Sd_aload_n (pc' := 1) (dc D_Mod_serves 0 rfl) rfl 0 rfl rfl ?_
  refine Sd_iload_n (pc' := 2) (dc D_Mod_serves 1 rfl) rfl 1 rfl rfl ?_
  refine Sd.callVI (ci := 12) (t := 13) (as := [_]) RX12 (pc' := 5) (dc D_Mod_serves 2 rfl) rfl rfl rfl rfl K_Mod_isAsked L_Mod_383 Ks_Mod_isAsked Kv_Mod_isAsked ⟨by decide, by decide⟩ rfl rfl (Nat.le_of_ble_eq_true rfl) (s_Mod_isAsked _ _ _) (fun x2 h1 => ?_)
  refine Sd_if_eq (tgt := 20) (pc' := 8) (dc D_Mod_serves 3 rfl) (by decide) rfl (fun _ => ?_) (fun _ => ?_)
  · refine Sd_iconst (pc' := 21) (dc D_Mod_serves 10 rfl) rfl ⟨by decide, by decide⟩ ?_
    exact Sd_iret (dc D_Mod_serves 11 rfl) rfl
  · refine Sd_iload_n (pc' := 9) (dc D_Mod_serves 4 rfl) rfl 2 rfl rfl ?_
    refine Sd_i2l (pc' := 10) (dc D_Mod_serves 5 rfl) rfl ?_
    refine Sd_lconst (z := 0) (pc' := 11) (dc D_Mod_serves 6 rfl) rfl ⟨by decide, by decide⟩ (by decide) ?_
    refine Sd_ldc2 (n := 2) (pc' := 14) (dc D_Mod_serves 7 rfl) rfl ⟨by decide, by decide⟩ Q_Mod_248 ?_
    refine Sd.callSI (as := [_, _, _]) (pc' := 17) (dc D_Mod_serves 8 rfl) rfl K_Mod_in L_Mod_88 Ks_Mod_in ⟨by decide, by decide⟩ rfl rfl (Nat.le_of_ble_eq_true rfl) (s_Mod_in _ _ _ _) (fun x5 h4 => ?_)
    refine Sd_if_ne (tgt := 22) (pc' := 20) (dc D_Mod_serves 9 rfl) (by decide) rfl (fun _ => ?_) (fun _ => ?_)
    · refine Sd_aload_n (pc' := 23) (dc D_Mod_serves 12 rfl) rfl 0 rfl rfl ?_
      refine Sd.callVV (ci := 12) (t := 13) (as := []) RX12 (pc' := 26) (dc D_Mod_serves 13 rfl) rfl rfl rfl rfl K_Mod_laysAll L_Mod_371 Ks_Mod_laysAll Kv_Mod_laysAll ⟨by decide, by decide⟩ rfl rfl (Nat.le_of_ble_eq_true rfl) (s_Mod_laysAll _ _) (fun _ h7 => ?_)
      refine Sd_aload_n (pc' := 27) (dc D_Mod_serves 14 rfl) rfl 0 rfl rfl ?_
      refine Sd.callVV (ci := 12) (t := 13) (as := []) RX12 (pc' := 30) (dc D_Mod_serves 15 rfl) rfl rfl rfl rfl K_Mod_takesKept L_Mod_374 Ks_Mod_takesKept Kv_Mod_takesKept ⟨by decide, by decide⟩ rfl rfl (Nat.le_of_ble_eq_true rfl) (s_Mod_takesKept _ _) (fun _ h10 => ?_)
      refine Sd_aload_n (pc' := 31) (dc D_Mod_serves 16 rfl) rfl 0 rfl rfl ?_
      refine Sd_iload_n (pc' := 32) (dc D_Mod_serves 17 rfl) rfl 1 rfl rfl ?_
      refine Sd_iload_n (pc' := 33) (dc D_Mod_serves 18 rfl) rfl 2 rfl rfl ?_
      refine Sd.callVI (ci := 12) (t := 13) (as := [_, _]) RX12 (pc' := 36) (dc D_Mod_serves 19 rfl) rfl rfl rfl rfl K_Mod_servedBy L_Mod_386 Ks_Mod_servedBy Kv_Mod_servedBy ⟨by decide, by decide⟩ rfl rfl (Nat.le_of_ble_eq_true rfl) (s_Mod_servedBy _ _ _ _) (fun x14 h13 => ?_)
      refine Sd_istore_n (pc' := 37) (l' := [(3, _), (0, _), (1, _), (2, _)]) (dc D_Mod_serves 20 rfl) rfl rfl (by decide) rfl ?_
      refine Sd_iload_n (pc' := 38) (dc D_Mod_serves 21 rfl) rfl 0 rfl rfl ?_
      refine Sd_iconst (pc' := 39) (dc D_Mod_serves 22 rfl) rfl ⟨by decide, by decide⟩ ?_
      refine Sd_icmp_ne (tgt := 47) (pc' := 42) (dc D_Mod_serves 23 rfl) (by decide) rfl (fun _ => ?_) (fun _ => ?_)
      · refine Sd_iload_n (pc' := 48) (dc D_Mod_serves 26 rfl) rfl 0 rfl rfl ?_
        exact Sd_iret (dc D_Mod_serves 27 rfl) rfl
      · refine Sd_bipush (pc' := 44) (dc D_Mod_serves 24 rfl) rfl ⟨by decide, by decide⟩ (by decide) ?_
        refine Sd_goto (tgt := 48) (dc D_Mod_serves 25 rfl) (by decide) ?_
        exact Sd_iret (dc D_Mod_serves 27 rfl) rfl
    · refine Sd_iconst (pc' := 21) (dc D_Mod_serves 10 rfl) rfl ⟨by decide, by decide⟩ ?_
      exact Sd_iret (dc D_Mod_serves 11 rfl) rfl
theorem K_Mod_serves : MOk M_Mod_serves 2 := ⟨Tb_at 133 (by decide +kernel) rfl, Tb_at 1684 (by decide +kernel) rfl, by decide +kernel, by decide +kernel, by decide +kernel⟩
theorem Ks_Mod_serves : Cond.instanceMethod yX12_serves ∈ Tb := Tb_at 1682 (by decide +kernel) rfl
theorem Kv_Mod_serves : Cond.selects RX12 yX12_serves yX12_serves ∈ Tb := Tb_at 1683 (by decide +kernel) rfl
/-! ===== BatchShareModel.marksOf(IIII)I ===== -/
abbrev M_Mod_marksOf : AMt := (yX12_marksOf, cX12_marksOf, 8, (some .int))
def T_Mod_marksOf : List (Nat × Instr × Nat) := [(0, .iconst 0, 1), (1, .istore 5, 2), (3, .iconst 0, 1), (4, .istore 6, 2), (6, .iload 6, 2), (8, .aload_n 0, 1), (9, .getfield 96, 3), (12, .if_icmp .ge 104, 3), (15, .aload_n 0, 1), (16, .iload 6, 2), (18, .invokevirtual 323, 3), (21, .ifCond .eq 28, 3), (24, .aload_n 0, 1), (25, .iload 6, 2), (27, .iload_n 1, 1), (28, .invokevirtual 303, 3), (31, .ifCond .eq 18, 3), (34, .aload_n 0, 1), (35, .iload 6, 2), (37, .iload_n 1, 1), (38, .iload_n 2, 1), (39, .invokevirtual 276, 3), (42, .ifCond .eq 7, 3), (45, .iconst 1, 1), (46, .goto 4, 3), (49, .iconst 0, 1), (50, .istore 7, 2), (52, .iload 7, 2), (54, .ifCond .eq 35, 3), (57, .iload_n 3, 1), (58, .iconst (-1), 1), (59, .if_icmp .eq 26, 3), (62, .aload_n 0, 1), (63, .getfield 31, 3), (66, .iload 6, 2), (68, .iaload, 1), (69, .iload_n 3, 1), (70, .if_icmp .ne 19, 3), (73, .aload_n 0, 1), (74, .getfield 34, 3), (77, .iload 6, 2), (79, .iaload, 1), (80, .iload 4, 2), (82, .if_icmp .ne 7, 3), (85, .iconst 1, 1), (86, .goto 4, 3), (89, .iconst 0, 1), (90, .istore 7, 2), (92, .iload 5, 2), (94, .iload 7, 2), (96, .ifCond .eq 10, 3), (99, .iconst 1, 1), (100, .iload 6, 2), (102, .ishl, 1), (103, .goto 4, 3), (106, .iconst 0, 1), (107, .ior, 1), (108, .istore 5, 2), (110, .iinc 6 1, 3), (113, .goto (-107), 3), (116, .iload 5, 2), (118, .ireturn, 1)]
set_option maxRecDepth 20000 in
theorem D_Mod_marksOf : (T_Mod_marksOf.all fun q => decide (decode M_Mod_marksOf.2.1 q.1 = .ok q.2)) = true := by decide +kernel
def Mod_marksOf_L90 (k6 : Nat → Int → Int → Int → Int → Int → Int → AH → Option (Int × AH)) (v0 : Nat) (v1 : Int) (v2 : Int) (v3 : Int) (v4 : Int) (v5 : Int) (v6 : Int) (s0 : Int) (h : AH) : Option (Int × AH) := if (s0 : Int) = 0 then (k6 v0 v1 v2 v3 v4 ((iOr v5 0)) ((wr (v6 + 1))) h) else (k6 v0 v1 v2 v3 v4 ((iOr v5 (iShl 1 v6))) ((wr (v6 + 1))) h)
set_option maxHeartbeats 4000000 in
set_option maxRecDepth 20000 in
theorem s_Mod_marksOf_L90 (k6 : Nat → Int → Int → Int → Int → Int → Int → AH → Option (Int × AH)) (hk6 : ∀ v0 v1 v2 v3 v4 v5 v6 h, Sd M_Mod_marksOf 3 51 emI 6 [(0, vr v0), (1, vi v1), (2, vi v2), (3, vi v3), (4, vi v4), (5, vi v5), (6, vi v6)] [] h (k6 v0 v1 v2 v3 v4 v5 v6 h)) (v0 : Nat) (v1 : Int) (v2 : Int) (v3 : Int) (v4 : Int) (v5 : Int) (v6 : Int) (s0 : Int) (h : AH) : Sd M_Mod_marksOf 3 51 emI 90 [(0, vr v0), (1, vi v1), (2, vi v2), (3, vi v3), (4, vi v4), (5, vi v5), (6, vi v6)] [vi s0] h (Mod_marksOf_L90 k6 v0 v1 v2 v3 v4 v5 v6 s0 h) := by
  unfold Mod_marksOf_L90
  refine Sd_istore (pc' := 92) (l' := [(7, _), (0, _), (1, _), (2, _), (3, _), (4, _), (5, _), (6, _)]) (dc D_Mod_marksOf 47 rfl) rfl (by decide) rfl ?_
  refine Sd_iload (pc' := 94) (dc D_Mod_marksOf 48 rfl) rfl 6 rfl ?_
  refine Sd_iload (pc' := 96) (dc D_Mod_marksOf 49 rfl) rfl 0 rfl ?_
  refine Sd_if_eq (tgt := 106) (pc' := 99) (dc D_Mod_marksOf 50 rfl) (by decide) rfl (fun _ => ?_) (fun _ => ?_)
  · refine Sd_iconst (pc' := 107) (dc D_Mod_marksOf 55 rfl) rfl ⟨by decide, by decide⟩ ?_
    refine Sd_ior (pc' := 108) (dc D_Mod_marksOf 56 rfl) rfl ?_
    refine Sd_istore (pc' := 110) (l' := [(5, _), (7, _), (0, _), (1, _), (2, _), (3, _), (4, _), (6, _)]) (dc D_Mod_marksOf 57 rfl) rfl (by decide) rfl ?_
    refine Sd_iinc (pc' := 113) (l' := [(6, _), (5, _), (7, _), (0, _), (1, _), (2, _), (3, _), (4, _)]) (dc D_Mod_marksOf 58 rfl) rfl 7 rfl (by decide) rfl ?_
    refine Sd_goto (tgt := 6) (dc D_Mod_marksOf 59 rfl) (by decide) ?_
    refine Sd.sub (l' := [(0, _), (1, _), (2, _), (3, _), (4, _), (5, _), (6, _)]) [3, 4, 5, 6, 7, 1, 0] rfl ?_
    exact hk6 _ _ _ _ _ _ _ _
  · refine Sd_iconst (pc' := 100) (dc D_Mod_marksOf 51 rfl) rfl ⟨by decide, by decide⟩ ?_
    refine Sd_iload (pc' := 102) (dc D_Mod_marksOf 52 rfl) rfl 7 rfl ?_
    refine Sd_ishl (pc' := 103) (dc D_Mod_marksOf 53 rfl) rfl ?_
    refine Sd_goto (tgt := 107) (dc D_Mod_marksOf 54 rfl) (by decide) ?_
    refine Sd_ior (pc' := 108) (dc D_Mod_marksOf 56 rfl) rfl ?_
    refine Sd_istore (pc' := 110) (l' := [(5, _), (7, _), (0, _), (1, _), (2, _), (3, _), (4, _), (6, _)]) (dc D_Mod_marksOf 57 rfl) rfl (by decide) rfl ?_
    refine Sd_iinc (pc' := 113) (l' := [(6, _), (5, _), (7, _), (0, _), (1, _), (2, _), (3, _), (4, _)]) (dc D_Mod_marksOf 58 rfl) rfl 7 rfl (by decide) rfl ?_
    refine Sd_goto (tgt := 6) (dc D_Mod_marksOf 59 rfl) (by decide) ?_
    refine Sd.sub (l' := [(0, _), (1, _), (2, _), (3, _), (4, _), (5, _), (6, _)]) [3, 4, 5, 6, 7, 1, 0] rfl ?_
    exact hk6 _ _ _ _ _ _ _ _
def Mod_marksOf_L50 (k6 : Nat → Int → Int → Int → Int → Int → Int → AH → Option (Int × AH)) (v0 : Nat) (v1 : Int) (v2 : Int) (v3 : Int) (v4 : Int) (v5 : Int) (v6 : Int) (s0 : Int) (h : AH) : Option (Int × AH) := if (s0 : Int) = 0 then (Mod_marksOf_L90 k6 v0 v1 v2 v3 v4 v5 v6 0 h) else (if (v3 : Int) = (-1) then (Mod_marksOf_L90 k6 v0 v1 v2 v3 v4 v5 v6 1 h) else (gR h 13 v0 12 fun r1 => aI h 21 r1 v6 fun x2 => if ¬ (x2 : Int) = v3 then (Mod_marksOf_L90 k6 v0 v1 v2 v3 v4 v5 v6 0 h) else (gR h 13 v0 13 fun r3 => aI h 21 r3 v6 fun x4 => if ¬ (x4 : Int) = v4 then (Mod_marksOf_L90 k6 v0 v1 v2 v3 v4 v5 v6 0 h) else (Mod_marksOf_L90 k6 v0 v1 v2 v3 v4 v5 v6 1 h))))
set_option maxHeartbeats 4000000 in
set_option maxRecDepth 20000 in
theorem s_Mod_marksOf_L50 (k6 : Nat → Int → Int → Int → Int → Int → Int → AH → Option (Int × AH)) (hk6 : ∀ v0 v1 v2 v3 v4 v5 v6 h, Sd M_Mod_marksOf 3 51 emI 6 [(0, vr v0), (1, vi v1), (2, vi v2), (3, vi v3), (4, vi v4), (5, vi v5), (6, vi v6)] [] h (k6 v0 v1 v2 v3 v4 v5 v6 h)) (v0 : Nat) (v1 : Int) (v2 : Int) (v3 : Int) (v4 : Int) (v5 : Int) (v6 : Int) (s0 : Int) (h : AH) : Sd M_Mod_marksOf 3 51 emI 50 [(0, vr v0), (1, vi v1), (2, vi v2), (3, vi v3), (4, vi v4), (5, vi v5), (6, vi v6)] [vi s0] h (Mod_marksOf_L50 k6 v0 v1 v2 v3 v4 v5 v6 s0 h) := by
  unfold Mod_marksOf_L50
  refine Sd_istore (pc' := 52) (l' := [(7, _), (0, _), (1, _), (2, _), (3, _), (4, _), (5, _), (6, _)]) (dc D_Mod_marksOf 26 rfl) rfl (by decide) rfl ?_
  refine Sd_iload (pc' := 54) (dc D_Mod_marksOf 27 rfl) rfl 0 rfl ?_
  refine Sd_if_eq (tgt := 89) (pc' := 57) (dc D_Mod_marksOf 28 rfl) (by decide) rfl (fun _ => ?_) (fun _ => ?_)
  · refine Sd_iconst (pc' := 90) (dc D_Mod_marksOf 46 rfl) rfl ⟨by decide, by decide⟩ ?_
    refine Sd.sub (l' := [(0, _), (1, _), (2, _), (3, _), (4, _), (5, _), (6, _)]) [1, 2, 3, 4, 5, 6, 7] rfl ?_
    exact s_Mod_marksOf_L90 k6 hk6 _ _ _ _ _ _ _ _ _
  · refine Sd_iload_n (pc' := 58) (dc D_Mod_marksOf 29 rfl) rfl 4 rfl rfl ?_
    refine Sd_iconst (pc' := 59) (dc D_Mod_marksOf 30 rfl) rfl ⟨by decide, by decide⟩ ?_
    refine Sd_icmp_eq (tgt := 85) (pc' := 62) (dc D_Mod_marksOf 31 rfl) (by decide) rfl (fun _ => ?_) (fun _ => ?_)
    · refine Sd_iconst (pc' := 86) (dc D_Mod_marksOf 44 rfl) rfl ⟨by decide, by decide⟩ ?_
      refine Sd_goto (tgt := 90) (dc D_Mod_marksOf 45 rfl) (by decide) ?_
      refine Sd.sub (l' := [(0, _), (1, _), (2, _), (3, _), (4, _), (5, _), (6, _)]) [1, 2, 3, 4, 5, 6, 7] rfl ?_
      exact s_Mod_marksOf_L90 k6 hk6 _ _ _ _ _ _ _ _ _
    · refine Sd_aload_n (pc' := 63) (dc D_Mod_marksOf 32 rfl) rfl 1 rfl rfl ?_
      refine Sd_getR (pc' := 66) (dc D_Mod_marksOf 33 rfl) rfl F_Mod_31 rfl rfl ?_
      refine Sd_iload (pc' := 68) (dc D_Mod_marksOf 34 rfl) rfl 7 rfl ?_
      refine Sd_iaload (pc' := 69) (dc D_Mod_marksOf 35 rfl) rfl ?_
      refine Sd_iload_n (pc' := 70) (dc D_Mod_marksOf 36 rfl) rfl 4 rfl rfl ?_
      refine Sd_icmp_ne (tgt := 89) (pc' := 73) (dc D_Mod_marksOf 37 rfl) (by decide) rfl (fun _ => ?_) (fun _ => ?_)
      · refine Sd_iconst (pc' := 90) (dc D_Mod_marksOf 46 rfl) rfl ⟨by decide, by decide⟩ ?_
        refine Sd.sub (l' := [(0, _), (1, _), (2, _), (3, _), (4, _), (5, _), (6, _)]) [1, 2, 3, 4, 5, 6, 7] rfl ?_
        exact s_Mod_marksOf_L90 k6 hk6 _ _ _ _ _ _ _ _ _
      · refine Sd_aload_n (pc' := 74) (dc D_Mod_marksOf 38 rfl) rfl 1 rfl rfl ?_
        refine Sd_getR (pc' := 77) (dc D_Mod_marksOf 39 rfl) rfl F_Mod_34 rfl rfl ?_
        refine Sd_iload (pc' := 79) (dc D_Mod_marksOf 40 rfl) rfl 7 rfl ?_
        refine Sd_iaload (pc' := 80) (dc D_Mod_marksOf 41 rfl) rfl ?_
        refine Sd_iload (pc' := 82) (dc D_Mod_marksOf 42 rfl) rfl 5 rfl ?_
        refine Sd_icmp_ne (tgt := 89) (pc' := 85) (dc D_Mod_marksOf 43 rfl) (by decide) rfl (fun _ => ?_) (fun _ => ?_)
        · refine Sd_iconst (pc' := 90) (dc D_Mod_marksOf 46 rfl) rfl ⟨by decide, by decide⟩ ?_
          refine Sd.sub (l' := [(0, _), (1, _), (2, _), (3, _), (4, _), (5, _), (6, _)]) [1, 2, 3, 4, 5, 6, 7] rfl ?_
          exact s_Mod_marksOf_L90 k6 hk6 _ _ _ _ _ _ _ _ _
        · refine Sd_iconst (pc' := 86) (dc D_Mod_marksOf 44 rfl) rfl ⟨by decide, by decide⟩ ?_
          refine Sd_goto (tgt := 90) (dc D_Mod_marksOf 45 rfl) (by decide) ?_
          refine Sd.sub (l' := [(0, _), (1, _), (2, _), (3, _), (4, _), (5, _), (6, _)]) [1, 2, 3, 4, 5, 6, 7] rfl ?_
          exact s_Mod_marksOf_L90 k6 hk6 _ _ _ _ _ _ _ _ _
def Mod_marksOf_L6 : Nat → Nat → Int → Int → Int → Int → Int → Int → AH → Option (Int × AH)
  | 0, _, _, _, _, _, _, _, _ => none
  | n + 1, v0, v1, v2, v3, v4, v5, v6, h => gI h 13 v0 10 fun x1 => if (x1 : Int) ≤ v6 then (some (v5, h)) else (rc h 13 v0 <| bnd (Mod_isOn v0 v6 h) fun x3 h2 => if (x3 : Int) = 0 then (Mod_marksOf_L50 (Mod_marksOf_L6 n) v0 v1 v2 v3 v4 v5 v6 0 h2) else (rc h2 13 v0 <| bnd (Mod_hasKind v0 v6 v1 h2) fun x6 h5 => if (x6 : Int) = 0 then (Mod_marksOf_L50 (Mod_marksOf_L6 n) v0 v1 v2 v3 v4 v5 v6 0 h5) else (rc h5 13 v0 <| bnd (Mod_isIn v0 v6 v1 v2 h5) fun x9 h8 => if (x9 : Int) = 0 then (Mod_marksOf_L50 (Mod_marksOf_L6 n) v0 v1 v2 v3 v4 v5 v6 0 h8) else (Mod_marksOf_L50 (Mod_marksOf_L6 n) v0 v1 v2 v3 v4 v5 v6 1 h8))))
set_option maxHeartbeats 4000000 in
set_option maxRecDepth 20000 in
theorem s_Mod_marksOf_L6 : ∀ (n : Nat) (v0 : Nat) (v1 : Int) (v2 : Int) (v3 : Int) (v4 : Int) (v5 : Int) (v6 : Int) (h : AH), Sd M_Mod_marksOf 3 51 emI 6 [(0, vr v0), (1, vi v1), (2, vi v2), (3, vi v3), (4, vi v4), (5, vi v5), (6, vi v6)] [] h (Mod_marksOf_L6 n v0 v1 v2 v3 v4 v5 v6 h)
  | 0, _, _, _, _, _, _, _, _ => Sd.none
  | n + 1, v0, v1, v2, v3, v4, v5, v6, h => by
    rw [Mod_marksOf_L6]
    refine Sd_iload (pc' := 8) (dc D_Mod_marksOf 4 rfl) rfl 6 rfl ?_
    refine Sd_aload_n (pc' := 9) (dc D_Mod_marksOf 5 rfl) rfl 0 rfl rfl ?_
    refine Sd_getI (pc' := 12) (dc D_Mod_marksOf 6 rfl) rfl F_Mod_96 rfl rfl ?_
    refine Sd_icmp_ge (tgt := 116) (pc' := 15) (dc D_Mod_marksOf 7 rfl) (by decide) rfl (fun _ => ?_) (fun _ => ?_)
    · refine Sd_iload (pc' := 118) (dc D_Mod_marksOf 60 rfl) rfl 5 rfl ?_
      exact Sd_iret (dc D_Mod_marksOf 61 rfl) rfl
    · refine Sd_aload_n (pc' := 16) (dc D_Mod_marksOf 8 rfl) rfl 0 rfl rfl ?_
      refine Sd_iload (pc' := 18) (dc D_Mod_marksOf 9 rfl) rfl 6 rfl ?_
      refine Sd.callVI (ci := 12) (t := 13) (as := [_]) RX12 (pc' := 21) (dc D_Mod_marksOf 10 rfl) rfl rfl rfl rfl K_Mod_isOn L_Mod_323 Ks_Mod_isOn Kv_Mod_isOn ⟨by decide, by decide⟩ rfl rfl (Nat.le_of_ble_eq_true rfl) (s_Mod_isOn _ _ _) (fun x3 h2 => ?_)
      refine Sd_if_eq (tgt := 49) (pc' := 24) (dc D_Mod_marksOf 11 rfl) (by decide) rfl (fun _ => ?_) (fun _ => ?_)
      · refine Sd_iconst (pc' := 50) (dc D_Mod_marksOf 25 rfl) rfl ⟨by decide, by decide⟩ ?_
        exact s_Mod_marksOf_L50 (Mod_marksOf_L6 n) (s_Mod_marksOf_L6 n) _ _ _ _ _ _ _ _ _
      · refine Sd_aload_n (pc' := 25) (dc D_Mod_marksOf 12 rfl) rfl 0 rfl rfl ?_
        refine Sd_iload (pc' := 27) (dc D_Mod_marksOf 13 rfl) rfl 6 rfl ?_
        refine Sd_iload_n (pc' := 28) (dc D_Mod_marksOf 14 rfl) rfl 1 rfl rfl ?_
        refine Sd.callVI (ci := 12) (t := 13) (as := [_, _]) RX12 (pc' := 31) (dc D_Mod_marksOf 15 rfl) rfl rfl rfl rfl K_Mod_hasKind L_Mod_303 Ks_Mod_hasKind Kv_Mod_hasKind ⟨by decide, by decide⟩ rfl rfl (Nat.le_of_ble_eq_true rfl) (s_Mod_hasKind _ _ _ _) (fun x6 h5 => ?_)
        refine Sd_if_eq (tgt := 49) (pc' := 34) (dc D_Mod_marksOf 16 rfl) (by decide) rfl (fun _ => ?_) (fun _ => ?_)
        · refine Sd_iconst (pc' := 50) (dc D_Mod_marksOf 25 rfl) rfl ⟨by decide, by decide⟩ ?_
          exact s_Mod_marksOf_L50 (Mod_marksOf_L6 n) (s_Mod_marksOf_L6 n) _ _ _ _ _ _ _ _ _
        · refine Sd_aload_n (pc' := 35) (dc D_Mod_marksOf 17 rfl) rfl 0 rfl rfl ?_
          refine Sd_iload (pc' := 37) (dc D_Mod_marksOf 18 rfl) rfl 6 rfl ?_
          refine Sd_iload_n (pc' := 38) (dc D_Mod_marksOf 19 rfl) rfl 1 rfl rfl ?_
          refine Sd_iload_n (pc' := 39) (dc D_Mod_marksOf 20 rfl) rfl 2 rfl rfl ?_
          refine Sd.callVI (ci := 12) (t := 13) (as := [_, _, _]) RX12 (pc' := 42) (dc D_Mod_marksOf 21 rfl) rfl rfl rfl rfl K_Mod_isIn L_Mod_276 Ks_Mod_isIn Kv_Mod_isIn ⟨by decide, by decide⟩ rfl rfl (Nat.le_of_ble_eq_true rfl) (s_Mod_isIn _ _ _ _ _) (fun x9 h8 => ?_)
          refine Sd_if_eq (tgt := 49) (pc' := 45) (dc D_Mod_marksOf 22 rfl) (by decide) rfl (fun _ => ?_) (fun _ => ?_)
          · refine Sd_iconst (pc' := 50) (dc D_Mod_marksOf 25 rfl) rfl ⟨by decide, by decide⟩ ?_
            exact s_Mod_marksOf_L50 (Mod_marksOf_L6 n) (s_Mod_marksOf_L6 n) _ _ _ _ _ _ _ _ _
          · refine Sd_iconst (pc' := 46) (dc D_Mod_marksOf 23 rfl) rfl ⟨by decide, by decide⟩ ?_
            refine Sd_goto (tgt := 50) (dc D_Mod_marksOf 24 rfl) (by decide) ?_
            exact s_Mod_marksOf_L50 (Mod_marksOf_L6 n) (s_Mod_marksOf_L6 n) _ _ _ _ _ _ _ _ _
def Mod_marksOf (v0 : Nat) (v1 : Int) (v2 : Int) (v3 : Int) (v4 : Int) (h : AH) : Option (Int × AH) := Mod_marksOf_L6 FU v0 v1 v2 v3 v4 0 0 h
set_option maxHeartbeats 4000000 in
set_option maxRecDepth 20000 in
theorem s_Mod_marksOf (v0 : Nat) (v1 : Int) (v2 : Int) (v3 : Int) (v4 : Int) (h : AH) : CS M_Mod_marksOf 3 51 emI [vr v0, vi v1, vi v2, vi v3, vi v4] h (Mod_marksOf v0 v1 v2 v3 v4 h) := by
  refine CS.of (by decide) (Nat.le_of_ble_eq_true rfl) ?_
  show Sd M_Mod_marksOf 3 51 emI 0 [(0, vr v0), (1, vi v1), (2, vi v2), (3, vi v3), (4, vi v4)] [] h _
  unfold Mod_marksOf
  refine Sd_iconst (pc' := 1) (dc D_Mod_marksOf 0 rfl) rfl ⟨by decide, by decide⟩ ?_
  refine Sd_istore (pc' := 3) (l' := [(5, _), (0, _), (1, _), (2, _), (3, _), (4, _)]) (dc D_Mod_marksOf 1 rfl) rfl (by decide) rfl ?_
  refine Sd_iconst (pc' := 4) (dc D_Mod_marksOf 2 rfl) rfl ⟨by decide, by decide⟩ ?_
  refine Sd_istore (pc' := 6) (l' := [(6, _), (5, _), (0, _), (1, _), (2, _), (3, _), (4, _)]) (dc D_Mod_marksOf 3 rfl) rfl (by decide) rfl ?_
  refine Sd.sub (l' := [(0, _), (1, _), (2, _), (3, _), (4, _), (5, _), (6, _)]) [2, 3, 4, 5, 6, 1, 0] rfl ?_
  exact s_Mod_marksOf_L6 FU _ _ _ _ _ _ _ _
theorem K_Mod_marksOf : MOk M_Mod_marksOf 4 := ⟨Tb_at 133 (by decide +kernel) rfl, Tb_at 1840 (by decide +kernel) rfl, by decide +kernel, by decide +kernel, by decide +kernel⟩
theorem Ks_Mod_marksOf : Cond.instanceMethod yX12_marksOf ∈ Tb := Tb_at 1839 (by decide +kernel) rfl
theorem Kv_Mod_marksOf : Cond.selects RX12 yX12_marksOf yX12_marksOf ∈ Tb := Tb_at 113 (by decide +kernel) rfl
/-! ===== BatchShareModel.marks(II)I ===== -/
abbrev M_Mod_marks : AMt := (yX12_marks, cX12_marks, 3, (some .int))
def T_Mod_marks : List (Nat × Instr × Nat) := [(0, .aload_n 0, 1), (1, .iload_n 1, 1), (2, .iload_n 2, 1), (3, .invokevirtual 243, 3), (6, .ifCond .eq 14, 3), (9, .aload_n 0, 1), (10, .iload_n 1, 1), (11, .iload_n 2, 1), (12, .iconst (-1), 1), (13, .iconst (-1), 1), (14, .invokevirtual 496, 3), (17, .goto 4, 3), (20, .iconst (-1), 1), (21, .ireturn, 1)]
set_option maxRecDepth 20000 in
theorem D_Mod_marks : (T_Mod_marks.all fun q => decide (decode M_Mod_marks.2.1 q.1 = .ok q.2)) = true := by decide +kernel
def Mod_marks (v0 : Nat) (v1 : Int) (v2 : Int) (h : AH) : Option (Int × AH) := rc h 13 v0 <| bnd (Mod_isRow v0 v1 v2 h) fun x2 h1 => if (x2 : Int) = 0 then (some ((-1), h1)) else (rc h1 13 v0 <| bnd (Mod_marksOf v0 v1 v2 (-1) (-1) h1) fun x5 h4 => some (x5, h4))
set_option maxHeartbeats 4000000 in
set_option maxRecDepth 20000 in
theorem s_Mod_marks (v0 : Nat) (v1 : Int) (v2 : Int) (h : AH) : CS M_Mod_marks 4 78 emI [vr v0, vi v1, vi v2] h (Mod_marks v0 v1 v2 h) := by
  refine CS.of (by decide) (Nat.le_of_ble_eq_true rfl) ?_
  show Sd M_Mod_marks 4 78 emI 0 [(0, vr v0), (1, vi v1), (2, vi v2)] [] h _
  unfold Mod_marks
  refine Sd_aload_n (pc' := 1) (dc D_Mod_marks 0 rfl) rfl 0 rfl rfl ?_
  refine Sd_iload_n (pc' := 2) (dc D_Mod_marks 1 rfl) rfl 1 rfl rfl ?_
  refine Sd_iload_n (pc' := 3) (dc D_Mod_marks 2 rfl) rfl 2 rfl rfl ?_
  refine Sd.callVI (ci := 12) (t := 13) (as := [_, _]) RX12 (pc' := 6) (dc D_Mod_marks 3 rfl) rfl rfl rfl rfl K_Mod_isRow L_Mod_243 Ks_Mod_isRow Kv_Mod_isRow ⟨by decide, by decide⟩ rfl rfl (Nat.le_of_ble_eq_true rfl) (s_Mod_isRow _ _ _ _) (fun x2 h1 => ?_)
  refine Sd_if_eq (tgt := 20) (pc' := 9) (dc D_Mod_marks 4 rfl) (by decide) rfl (fun _ => ?_) (fun _ => ?_)
  · refine Sd_iconst (pc' := 21) (dc D_Mod_marks 12 rfl) rfl ⟨by decide, by decide⟩ ?_
    exact Sd_iret (dc D_Mod_marks 13 rfl) rfl
  · refine Sd_aload_n (pc' := 10) (dc D_Mod_marks 5 rfl) rfl 0 rfl rfl ?_
    refine Sd_iload_n (pc' := 11) (dc D_Mod_marks 6 rfl) rfl 1 rfl rfl ?_
    refine Sd_iload_n (pc' := 12) (dc D_Mod_marks 7 rfl) rfl 2 rfl rfl ?_
    refine Sd_iconst (pc' := 13) (dc D_Mod_marks 8 rfl) rfl ⟨by decide, by decide⟩ ?_
    refine Sd_iconst (pc' := 14) (dc D_Mod_marks 9 rfl) rfl ⟨by decide, by decide⟩ ?_
    refine Sd.callVI (ci := 12) (t := 13) (as := [_, _, _, _]) RX12 (pc' := 17) (dc D_Mod_marks 10 rfl) rfl rfl rfl rfl K_Mod_marksOf L_Mod_496 Ks_Mod_marksOf Kv_Mod_marksOf ⟨by decide, by decide⟩ rfl rfl (Nat.le_of_ble_eq_true rfl) (s_Mod_marksOf _ _ _ _ _ _) (fun x5 h4 => ?_)
    refine Sd_goto (tgt := 21) (dc D_Mod_marks 11 rfl) (by decide) ?_
    exact Sd_iret (dc D_Mod_marks 13 rfl) rfl
theorem K_Mod_marks : MOk M_Mod_marks 2 := ⟨Tb_at 133 (by decide +kernel) rfl, Tb_at 1836 (by decide +kernel) rfl, by decide +kernel, by decide +kernel, by decide +kernel⟩
theorem Ks_Mod_marks : Cond.instanceMethod yX12_marks ∈ Tb := Tb_at 1834 (by decide +kernel) rfl
theorem Kv_Mod_marks : Cond.selects RX12 yX12_marks yX12_marks ∈ Tb := Tb_at 1835 (by decide +kernel) rfl
/-! ===== BatchShareModel.markedOf(III)I ===== -/
abbrev M_Mod_markedOf : AMt := (yX12_markedOf, cX12_markedOf, 6, (some .int))
def T_Mod_markedOf : List (Nat × Instr × Nat) := [(0, .iconst 0, 1), (1, .istore 4, 2), (3, .iconst 0, 1), (4, .istore 5, 2), (6, .iload 5, 2), (8, .aload_n 0, 1), (9, .iload_n 1, 1), (10, .invokevirtual 92, 3), (13, .if_icmp .ge 31, 3), (16, .iload 4, 2), (18, .aload_n 0, 1), (19, .iload_n 1, 1), (20, .iload 5, 2), (22, .iload_n 2, 1), (23, .iload_n 3, 1), (24, .invokevirtual 496, 3), (27, .ifCond .eq 7, 3), (30, .iconst 1, 1), (31, .goto 4, 3), (34, .iconst 0, 1), (35, .iadd, 1), (36, .istore 4, 2), (38, .iinc 5 1, 3), (41, .goto (-35), 3), (44, .iload 4, 2), (46, .ireturn, 1)]
set_option maxRecDepth 20000 in
theorem D_Mod_markedOf : (T_Mod_markedOf.all fun q => decide (decode M_Mod_markedOf.2.1 q.1 = .ok q.2)) = true := by decide +kernel
def Mod_markedOf_L6 : Nat → Nat → Int → Int → Int → Int → Int → AH → Option (Int × AH)
  | 0, _, _, _, _, _, _, _ => none
  | n + 1, v0, v1, v2, v3, v4, v5, h => rc h 13 v0 <| bnd (Mod_manyOf v0 v1 h) fun x2 h1 => if (x2 : Int) ≤ v5 then (some (v4, h1)) else (rc h1 13 v0 <| bnd (Mod_marksOf v0 v1 v5 v2 v3 h1) fun x5 h4 => if (x5 : Int) = 0 then (Mod_markedOf_L6 n v0 v1 v2 v3 ((wr (v4 + 0))) ((wr (v5 + 1))) h4) else (Mod_markedOf_L6 n v0 v1 v2 v3 ((wr (v4 + 1))) ((wr (v5 + 1))) h4))
set_option maxHeartbeats 4000000 in
set_option maxRecDepth 20000 in
theorem s_Mod_markedOf_L6 : ∀ (n : Nat) (v0 : Nat) (v1 : Int) (v2 : Int) (v3 : Int) (v4 : Int) (v5 : Int) (h : AH), Sd M_Mod_markedOf 4 78 emI 6 [(0, vr v0), (1, vi v1), (2, vi v2), (3, vi v3), (4, vi v4), (5, vi v5)] [] h (Mod_markedOf_L6 n v0 v1 v2 v3 v4 v5 h)
  | 0, _, _, _, _, _, _, _ => Sd.none
  | n + 1, v0, v1, v2, v3, v4, v5, h => by
    rw [Mod_markedOf_L6]
    refine Sd_iload (pc' := 8) (dc D_Mod_markedOf 4 rfl) rfl 5 rfl ?_
    refine Sd_aload_n (pc' := 9) (dc D_Mod_markedOf 5 rfl) rfl 0 rfl rfl ?_
    refine Sd_iload_n (pc' := 10) (dc D_Mod_markedOf 6 rfl) rfl 1 rfl rfl ?_
    refine Sd.callVI (ci := 12) (t := 13) (as := [_]) RX12 (pc' := 13) (dc D_Mod_markedOf 7 rfl) rfl rfl rfl rfl K_Mod_manyOf L_Mod_92 Ks_Mod_manyOf Kv_Mod_manyOf ⟨by decide, by decide⟩ rfl rfl (Nat.le_of_ble_eq_true rfl) (s_Mod_manyOf _ _ _) (fun x2 h1 => ?_)
    refine Sd_icmp_ge (tgt := 44) (pc' := 16) (dc D_Mod_markedOf 8 rfl) (by decide) rfl (fun _ => ?_) (fun _ => ?_)
    · refine Sd_iload (pc' := 46) (dc D_Mod_markedOf 24 rfl) rfl 4 rfl ?_
      exact Sd_iret (dc D_Mod_markedOf 25 rfl) rfl
    · refine Sd_iload (pc' := 18) (dc D_Mod_markedOf 9 rfl) rfl 4 rfl ?_
      refine Sd_aload_n (pc' := 19) (dc D_Mod_markedOf 10 rfl) rfl 0 rfl rfl ?_
      refine Sd_iload_n (pc' := 20) (dc D_Mod_markedOf 11 rfl) rfl 1 rfl rfl ?_
      refine Sd_iload (pc' := 22) (dc D_Mod_markedOf 12 rfl) rfl 5 rfl ?_
      refine Sd_iload_n (pc' := 23) (dc D_Mod_markedOf 13 rfl) rfl 2 rfl rfl ?_
      refine Sd_iload_n (pc' := 24) (dc D_Mod_markedOf 14 rfl) rfl 3 rfl rfl ?_
      refine Sd.callVI (ci := 12) (t := 13) (as := [_, _, _, _]) RX12 (pc' := 27) (dc D_Mod_markedOf 15 rfl) rfl rfl rfl rfl K_Mod_marksOf L_Mod_496 Ks_Mod_marksOf Kv_Mod_marksOf ⟨by decide, by decide⟩ rfl rfl (Nat.le_of_ble_eq_true rfl) (s_Mod_marksOf _ _ _ _ _ _) (fun x5 h4 => ?_)
      refine Sd_if_eq (tgt := 34) (pc' := 30) (dc D_Mod_markedOf 16 rfl) (by decide) rfl (fun _ => ?_) (fun _ => ?_)
      · refine Sd_iconst (pc' := 35) (dc D_Mod_markedOf 19 rfl) rfl ⟨by decide, by decide⟩ ?_
        refine Sd_iadd (pc' := 36) (dc D_Mod_markedOf 20 rfl) rfl ?_
        refine Sd_istore (pc' := 38) (l' := [(4, _), (0, _), (1, _), (2, _), (3, _), (5, _)]) (dc D_Mod_markedOf 21 rfl) rfl (by decide) rfl ?_
        refine Sd_iinc (pc' := 41) (l' := [(5, _), (4, _), (0, _), (1, _), (2, _), (3, _)]) (dc D_Mod_markedOf 22 rfl) rfl 5 rfl (by decide) rfl ?_
        refine Sd_goto (tgt := 6) (dc D_Mod_markedOf 23 rfl) (by decide) ?_
        refine Sd.sub (l' := [(0, _), (1, _), (2, _), (3, _), (4, _), (5, _)]) [2, 3, 4, 5, 1, 0] rfl ?_
        exact s_Mod_markedOf_L6 n _ _ _ _ _ _ _
      · refine Sd_iconst (pc' := 31) (dc D_Mod_markedOf 17 rfl) rfl ⟨by decide, by decide⟩ ?_
        refine Sd_goto (tgt := 35) (dc D_Mod_markedOf 18 rfl) (by decide) ?_
        refine Sd_iadd (pc' := 36) (dc D_Mod_markedOf 20 rfl) rfl ?_
        refine Sd_istore (pc' := 38) (l' := [(4, _), (0, _), (1, _), (2, _), (3, _), (5, _)]) (dc D_Mod_markedOf 21 rfl) rfl (by decide) rfl ?_
        refine Sd_iinc (pc' := 41) (l' := [(5, _), (4, _), (0, _), (1, _), (2, _), (3, _)]) (dc D_Mod_markedOf 22 rfl) rfl 5 rfl (by decide) rfl ?_
        refine Sd_goto (tgt := 6) (dc D_Mod_markedOf 23 rfl) (by decide) ?_
        refine Sd.sub (l' := [(0, _), (1, _), (2, _), (3, _), (4, _), (5, _)]) [2, 3, 4, 5, 1, 0] rfl ?_
        exact s_Mod_markedOf_L6 n _ _ _ _ _ _ _
def Mod_markedOf (v0 : Nat) (v1 : Int) (v2 : Int) (v3 : Int) (h : AH) : Option (Int × AH) := Mod_markedOf_L6 FU v0 v1 v2 v3 0 0 h
set_option maxHeartbeats 4000000 in
set_option maxRecDepth 20000 in
theorem s_Mod_markedOf (v0 : Nat) (v1 : Int) (v2 : Int) (v3 : Int) (h : AH) : CS M_Mod_markedOf 4 78 emI [vr v0, vi v1, vi v2, vi v3] h (Mod_markedOf v0 v1 v2 v3 h) := by
  refine CS.of (by decide) (Nat.le_of_ble_eq_true rfl) ?_
  show Sd M_Mod_markedOf 4 78 emI 0 [(0, vr v0), (1, vi v1), (2, vi v2), (3, vi v3)] [] h _
  unfold Mod_markedOf
  refine Sd_iconst (pc' := 1) (dc D_Mod_markedOf 0 rfl) rfl ⟨by decide, by decide⟩ ?_
  refine Sd_istore (pc' := 3) (l' := [(4, _), (0, _), (1, _), (2, _), (3, _)]) (dc D_Mod_markedOf 1 rfl) rfl (by decide) rfl ?_
  refine Sd_iconst (pc' := 4) (dc D_Mod_markedOf 2 rfl) rfl ⟨by decide, by decide⟩ ?_
  refine Sd_istore (pc' := 6) (l' := [(5, _), (4, _), (0, _), (1, _), (2, _), (3, _)]) (dc D_Mod_markedOf 3 rfl) rfl (by decide) rfl ?_
  refine Sd.sub (l' := [(0, _), (1, _), (2, _), (3, _), (4, _), (5, _)]) [2, 3, 4, 5, 1, 0] rfl ?_
  exact s_Mod_markedOf_L6 FU _ _ _ _ _ _ _
theorem K_Mod_markedOf : MOk M_Mod_markedOf 3 := ⟨Tb_at 133 (by decide +kernel) rfl, Tb_at 1848 (by decide +kernel) rfl, by decide +kernel, by decide +kernel, by decide +kernel⟩
theorem Ks_Mod_markedOf : Cond.instanceMethod yX12_markedOf ∈ Tb := Tb_at 1847 (by decide +kernel) rfl
theorem Kv_Mod_markedOf : Cond.selects RX12 yX12_markedOf yX12_markedOf ∈ Tb := Tb_at 114 (by decide +kernel) rfl
/-! ===== BatchShareModel.shared()I ===== -/
abbrev M_Mod_shared : AMt := (yX12_shared, cX12_shared, 6, (some .int))
def T_Mod_shared : List (Nat × Instr × Nat) := [(0, .iconst 0, 1), (1, .istore_n 1, 1), (2, .iconst 0, 1), (3, .istore_n 2, 1), (4, .iconst 0, 1), (5, .istore_n 3, 1), (6, .iload_n 3, 1), (7, .aload_n 0, 1), (8, .getfield 96, 3), (11, .if_icmp .ge 63, 3), (14, .iload_n 1, 1), (15, .ifCond .ne 20, 3), (18, .aload_n 0, 1), (19, .iload_n 3, 1), (20, .invokevirtual 323, 3), (23, .ifCond .eq 16, 3), (26, .aload_n 0, 1), (27, .iload_n 3, 1), (28, .iconst 0, 1), (29, .invokevirtual 303, 3), (32, .ifCond .eq 7, 3), (35, .iconst 1, 1), (36, .goto 4, 3), (39, .iconst 0, 1), (40, .istore_n 1, 1), (41, .iload_n 2, 1), (42, .ifCond .ne 20, 3), (45, .aload_n 0, 1), (46, .iload_n 3, 1), (47, .invokevirtual 323, 3), (50, .ifCond .eq 16, 3), (53, .aload_n 0, 1), (54, .iload_n 3, 1), (55, .iconst 1, 1), (56, .invokevirtual 303, 3), (59, .ifCond .eq 7, 3), (62, .iconst 1, 1), (63, .goto 4, 3), (66, .iconst 0, 1), (67, .istore_n 2, 1), (68, .iinc 3 1, 3), (71, .goto (-65), 3), (74, .iload_n 1, 1), (75, .ifCond .eq 12, 3), (78, .aload_n 0, 1), (79, .getfield 9, 3), (82, .iconst 2, 1), (83, .iaload, 1), (84, .goto 4, 3), (87, .iconst 0, 1), (88, .iload_n 2, 1), (89, .ifCond .eq 12, 3), (92, .aload_n 0, 1), (93, .getfield 9, 3), (96, .iconst 3, 1), (97, .iaload, 1), (98, .goto 4, 3), (101, .iconst 0, 1), (102, .iadd, 1), (103, .istore_n 3, 1), (104, .iconst 0, 1), (105, .istore 4, 2), (107, .iload 4, 2), (109, .iconst 3, 1), (110, .if_icmp .ge 46, 3), (113, .iconst 3, 1), (114, .istore 5, 2), (116, .iload 5, 2), (118, .iconst 5, 1), (119, .if_icmp .ge 31, 3), (122, .iload_n 3, 1), (123, .aload_n 0, 1), (124, .iconst 0, 1), (125, .iload 4, 2), (127, .iload 5, 2), (129, .invokevirtual 500, 3), (132, .aload_n 0, 1), (133, .iconst 1, 1), (134, .iload 4, 2), (136, .iload 5, 2), (138, .invokevirtual 500, 3), (141, .imul, 1), (142, .iadd, 1), (143, .istore_n 3, 1), (144, .iinc 5 1, 3), (147, .goto (-31), 3), (150, .iinc 4 1, 3), (153, .goto (-46), 3), (156, .iload_n 3, 1), (157, .ireturn, 1)]
set_option maxRecDepth 20000 in
theorem D_Mod_shared : (T_Mod_shared.all fun q => decide (decode M_Mod_shared.2.1 q.1 = .ok q.2)) = true := by decide +kernel
def Mod_shared_L116 (k107 : Nat → Int → Int → AH → Option (Int × AH)) : Nat → Nat → Int → Int → Int → AH → Option (Int × AH)
  | 0, _, _, _, _, _ => none
  | n + 1, v0, v3, v4, v5, h => if (5 : Int) ≤ v5 then (k107 v0 v3 ((wr (v4 + 1))) h) else (rc h 13 v0 <| bnd (Mod_markedOf v0 0 v4 v5 h) fun x2 h1 => rc h1 13 v0 <| bnd (Mod_markedOf v0 1 v4 v5 h1) fun x5 h4 => Mod_shared_L116 k107 n v0 ((wr (v3 + (wr (x2 * x5))))) v4 ((wr (v5 + 1))) h4)
set_option maxHeartbeats 4000000 in
set_option maxRecDepth 20000 in
theorem s_Mod_shared_L116 (k107 : Nat → Int → Int → AH → Option (Int × AH)) (hk107 : ∀ v0 v3 v4 h, Sd M_Mod_shared 5 103 emI 107 [(0, vr v0), (3, vi v3), (4, vi v4)] [] h (k107 v0 v3 v4 h)) : ∀ (n : Nat) (v0 : Nat) (v3 : Int) (v4 : Int) (v5 : Int) (h : AH), Sd M_Mod_shared 5 103 emI 116 [(0, vr v0), (3, vi v3), (4, vi v4), (5, vi v5)] [] h (Mod_shared_L116 k107 n v0 v3 v4 v5 h)
  | 0, _, _, _, _, _ => Sd.none
  | n + 1, v0, v3, v4, v5, h => by
    rw [Mod_shared_L116]
    refine Sd_iload (pc' := 118) (dc D_Mod_shared 67 rfl) rfl 3 rfl ?_
    refine Sd_iconst (pc' := 119) (dc D_Mod_shared 68 rfl) rfl ⟨by decide, by decide⟩ ?_
    refine Sd_icmp_ge (tgt := 150) (pc' := 122) (dc D_Mod_shared 69 rfl) (by decide) rfl (fun _ => ?_) (fun _ => ?_)
    · refine Sd_iinc (pc' := 153) (l' := [(4, _), (0, _), (3, _), (5, _)]) (dc D_Mod_shared 86 rfl) rfl 2 rfl (by decide) rfl ?_
      refine Sd_goto (tgt := 107) (dc D_Mod_shared 87 rfl) (by decide) ?_
      refine Sd.sub (l' := [(0, _), (3, _), (4, _)]) [1, 2, 0] rfl ?_
      exact hk107 _ _ _ _
    · refine Sd_iload_n (pc' := 123) (dc D_Mod_shared 70 rfl) rfl 1 rfl rfl ?_
      refine Sd_aload_n (pc' := 124) (dc D_Mod_shared 71 rfl) rfl 0 rfl rfl ?_
      refine Sd_iconst (pc' := 125) (dc D_Mod_shared 72 rfl) rfl ⟨by decide, by decide⟩ ?_
      refine Sd_iload (pc' := 127) (dc D_Mod_shared 73 rfl) rfl 2 rfl ?_
      refine Sd_iload (pc' := 129) (dc D_Mod_shared 74 rfl) rfl 3 rfl ?_
      refine Sd.callVI (ci := 12) (t := 13) (as := [_, _, _]) RX12 (pc' := 132) (dc D_Mod_shared 75 rfl) rfl rfl rfl rfl K_Mod_markedOf L_Mod_500 Ks_Mod_markedOf Kv_Mod_markedOf ⟨by decide, by decide⟩ rfl rfl (Nat.le_of_ble_eq_true rfl) (s_Mod_markedOf _ _ _ _ _) (fun x2 h1 => ?_)
      refine Sd_aload_n (pc' := 133) (dc D_Mod_shared 76 rfl) rfl 0 rfl rfl ?_
      refine Sd_iconst (pc' := 134) (dc D_Mod_shared 77 rfl) rfl ⟨by decide, by decide⟩ ?_
      refine Sd_iload (pc' := 136) (dc D_Mod_shared 78 rfl) rfl 2 rfl ?_
      refine Sd_iload (pc' := 138) (dc D_Mod_shared 79 rfl) rfl 3 rfl ?_
      refine Sd.callVI (ci := 12) (t := 13) (as := [_, _, _]) RX12 (pc' := 141) (dc D_Mod_shared 80 rfl) rfl rfl rfl rfl K_Mod_markedOf L_Mod_500 Ks_Mod_markedOf Kv_Mod_markedOf ⟨by decide, by decide⟩ rfl rfl (Nat.le_of_ble_eq_true rfl) (s_Mod_markedOf _ _ _ _ _) (fun x5 h4 => ?_)
      refine Sd_imul (pc' := 142) (dc D_Mod_shared 81 rfl) rfl ?_
      refine Sd_iadd (pc' := 143) (dc D_Mod_shared 82 rfl) rfl ?_
      refine Sd_istore_n (pc' := 144) (l' := [(3, _), (0, _), (4, _), (5, _)]) (dc D_Mod_shared 83 rfl) rfl rfl (by decide) rfl ?_
      refine Sd_iinc (pc' := 147) (l' := [(5, _), (3, _), (0, _), (4, _)]) (dc D_Mod_shared 84 rfl) rfl 3 rfl (by decide) rfl ?_
      refine Sd_goto (tgt := 116) (dc D_Mod_shared 85 rfl) (by decide) ?_
      refine Sd.sub (l' := [(0, _), (3, _), (4, _), (5, _)]) [2, 1, 3, 0] rfl ?_
      exact s_Mod_shared_L116 k107 hk107 n _ _ _ _ _
def Mod_shared_L107 : Nat → Nat → Int → Int → AH → Option (Int × AH)
  | 0, _, _, _, _ => none
  | n + 1, v0, v3, v4, h => if (3 : Int) ≤ v4 then (some (v3, h)) else (Mod_shared_L116 (Mod_shared_L107 n) FU v0 v3 v4 3 h)
set_option maxHeartbeats 4000000 in
set_option maxRecDepth 20000 in
theorem s_Mod_shared_L107 : ∀ (n : Nat) (v0 : Nat) (v3 : Int) (v4 : Int) (h : AH), Sd M_Mod_shared 5 103 emI 107 [(0, vr v0), (3, vi v3), (4, vi v4)] [] h (Mod_shared_L107 n v0 v3 v4 h)
  | 0, _, _, _, _ => Sd.none
  | n + 1, v0, v3, v4, h => by
    rw [Mod_shared_L107]
    refine Sd_iload (pc' := 109) (dc D_Mod_shared 62 rfl) rfl 2 rfl ?_
    refine Sd_iconst (pc' := 110) (dc D_Mod_shared 63 rfl) rfl ⟨by decide, by decide⟩ ?_
    refine Sd_icmp_ge (tgt := 156) (pc' := 113) (dc D_Mod_shared 64 rfl) (by decide) rfl (fun _ => ?_) (fun _ => ?_)
    · refine Sd_iload_n (pc' := 157) (dc D_Mod_shared 88 rfl) rfl 1 rfl rfl ?_
      exact Sd_iret (dc D_Mod_shared 89 rfl) rfl
    · refine Sd_iconst (pc' := 114) (dc D_Mod_shared 65 rfl) rfl ⟨by decide, by decide⟩ ?_
      refine Sd_istore (pc' := 116) (l' := [(5, _), (0, _), (3, _), (4, _)]) (dc D_Mod_shared 66 rfl) rfl (by decide) rfl ?_
      refine Sd.sub (l' := [(0, _), (3, _), (4, _), (5, _)]) [1, 2, 3, 0] rfl ?_
      exact s_Mod_shared_L116 (Mod_shared_L107 n) (s_Mod_shared_L107 n) FU _ _ _ _ _
def Mod_shared_L88 (v0 : Nat) (v2 : Int) (s0 : Int) (h : AH) : Option (Int × AH) := if (v2 : Int) = 0 then (Mod_shared_L107 FU v0 ((wr (s0 + 0))) 0 h) else (gR h 13 v0 1 fun r1 => aI h 21 r1 3 fun x2 => Mod_shared_L107 FU v0 ((wr (s0 + x2))) 0 h)
set_option maxHeartbeats 4000000 in
set_option maxRecDepth 20000 in
theorem s_Mod_shared_L88 (v0 : Nat) (v2 : Int) (s0 : Int) (h : AH) : Sd M_Mod_shared 5 103 emI 88 [(0, vr v0), (2, vi v2)] [vi s0] h (Mod_shared_L88 v0 v2 s0 h) := by
  unfold Mod_shared_L88
  refine Sd_iload_n (pc' := 89) (dc D_Mod_shared 50 rfl) rfl 1 rfl rfl ?_
  refine Sd_if_eq (tgt := 101) (pc' := 92) (dc D_Mod_shared 51 rfl) (by decide) rfl (fun _ => ?_) (fun _ => ?_)
  · refine Sd_iconst (pc' := 102) (dc D_Mod_shared 57 rfl) rfl ⟨by decide, by decide⟩ ?_
    refine Sd_iadd (pc' := 103) (dc D_Mod_shared 58 rfl) rfl ?_
    refine Sd_istore_n (pc' := 104) (l' := [(3, _), (0, _), (2, _)]) (dc D_Mod_shared 59 rfl) rfl rfl (by decide) rfl ?_
    refine Sd_iconst (pc' := 105) (dc D_Mod_shared 60 rfl) rfl ⟨by decide, by decide⟩ ?_
    refine Sd_istore (pc' := 107) (l' := [(4, _), (3, _), (0, _), (2, _)]) (dc D_Mod_shared 61 rfl) rfl (by decide) rfl ?_
    refine Sd.sub (l' := [(0, _), (3, _), (4, _)]) [2, 1, 0] rfl ?_
    exact s_Mod_shared_L107 FU _ _ _ _
  · refine Sd_aload_n (pc' := 93) (dc D_Mod_shared 52 rfl) rfl 0 rfl rfl ?_
    refine Sd_getR (pc' := 96) (dc D_Mod_shared 53 rfl) rfl F_Mod_9 rfl rfl ?_
    refine Sd_iconst (pc' := 97) (dc D_Mod_shared 54 rfl) rfl ⟨by decide, by decide⟩ ?_
    refine Sd_iaload (pc' := 98) (dc D_Mod_shared 55 rfl) rfl ?_
    refine Sd_goto (tgt := 102) (dc D_Mod_shared 56 rfl) (by decide) ?_
    refine Sd_iadd (pc' := 103) (dc D_Mod_shared 58 rfl) rfl ?_
    refine Sd_istore_n (pc' := 104) (l' := [(3, _), (0, _), (2, _)]) (dc D_Mod_shared 59 rfl) rfl rfl (by decide) rfl ?_
    refine Sd_iconst (pc' := 105) (dc D_Mod_shared 60 rfl) rfl ⟨by decide, by decide⟩ ?_
    refine Sd_istore (pc' := 107) (l' := [(4, _), (3, _), (0, _), (2, _)]) (dc D_Mod_shared 61 rfl) rfl (by decide) rfl ?_
    refine Sd.sub (l' := [(0, _), (3, _), (4, _)]) [2, 1, 0] rfl ?_
    exact s_Mod_shared_L107 FU _ _ _ _
def Mod_shared_L40 (k6 : Nat → Int → Int → Int → AH → Option (Int × AH)) (v0 : Nat) (v2 : Int) (v3 : Int) (s0 : Int) (h : AH) : Option (Int × AH) := if ¬ (v2 : Int) = 0 then (k6 v0 s0 1 ((wr (v3 + 1))) h) else (rc h 13 v0 <| bnd (Mod_isOn v0 v3 h) fun x2 h1 => if (x2 : Int) = 0 then (k6 v0 s0 0 ((wr (v3 + 1))) h1) else (rc h1 13 v0 <| bnd (Mod_hasKind v0 v3 1 h1) fun x5 h4 => if (x5 : Int) = 0 then (k6 v0 s0 0 ((wr (v3 + 1))) h4) else (k6 v0 s0 1 ((wr (v3 + 1))) h4)))
set_option maxHeartbeats 4000000 in
set_option maxRecDepth 20000 in
theorem s_Mod_shared_L40 (k6 : Nat → Int → Int → Int → AH → Option (Int × AH)) (hk6 : ∀ v0 v1 v2 v3 h, Sd M_Mod_shared 5 103 emI 6 [(0, vr v0), (1, vi v1), (2, vi v2), (3, vi v3)] [] h (k6 v0 v1 v2 v3 h)) (v0 : Nat) (v2 : Int) (v3 : Int) (s0 : Int) (h : AH) : Sd M_Mod_shared 5 103 emI 40 [(0, vr v0), (2, vi v2), (3, vi v3)] [vi s0] h (Mod_shared_L40 k6 v0 v2 v3 s0 h) := by
  unfold Mod_shared_L40
  refine Sd_istore_n (pc' := 41) (l' := [(1, _), (0, _), (2, _), (3, _)]) (dc D_Mod_shared 24 rfl) rfl rfl (by decide) rfl ?_
  refine Sd_iload_n (pc' := 42) (dc D_Mod_shared 25 rfl) rfl 2 rfl rfl ?_
  refine Sd_if_ne (tgt := 62) (pc' := 45) (dc D_Mod_shared 26 rfl) (by decide) rfl (fun _ => ?_) (fun _ => ?_)
  · refine Sd_iconst (pc' := 63) (dc D_Mod_shared 36 rfl) rfl ⟨by decide, by decide⟩ ?_
    refine Sd_goto (tgt := 67) (dc D_Mod_shared 37 rfl) (by decide) ?_
    refine Sd_istore_n (pc' := 68) (l' := [(2, _), (1, _), (0, _), (3, _)]) (dc D_Mod_shared 39 rfl) rfl rfl (by decide) rfl ?_
    refine Sd_iinc (pc' := 71) (l' := [(3, _), (2, _), (1, _), (0, _)]) (dc D_Mod_shared 40 rfl) rfl 3 rfl (by decide) rfl ?_
    refine Sd_goto (tgt := 6) (dc D_Mod_shared 41 rfl) (by decide) ?_
    refine Sd.sub (l' := [(0, _), (1, _), (2, _), (3, _)]) [3, 2, 1, 0] rfl ?_
    exact hk6 _ _ _ _ _
  · refine Sd_aload_n (pc' := 46) (dc D_Mod_shared 27 rfl) rfl 1 rfl rfl ?_
    refine Sd_iload_n (pc' := 47) (dc D_Mod_shared 28 rfl) rfl 3 rfl rfl ?_
    refine Sd.callVI (ci := 12) (t := 13) (as := [_]) RX12 (pc' := 50) (dc D_Mod_shared 29 rfl) rfl rfl rfl rfl K_Mod_isOn L_Mod_323 Ks_Mod_isOn Kv_Mod_isOn ⟨by decide, by decide⟩ rfl rfl (Nat.le_of_ble_eq_true rfl) (s_Mod_isOn _ _ _) (fun x2 h1 => ?_)
    refine Sd_if_eq (tgt := 66) (pc' := 53) (dc D_Mod_shared 30 rfl) (by decide) rfl (fun _ => ?_) (fun _ => ?_)
    · refine Sd_iconst (pc' := 67) (dc D_Mod_shared 38 rfl) rfl ⟨by decide, by decide⟩ ?_
      refine Sd_istore_n (pc' := 68) (l' := [(2, _), (1, _), (0, _), (3, _)]) (dc D_Mod_shared 39 rfl) rfl rfl (by decide) rfl ?_
      refine Sd_iinc (pc' := 71) (l' := [(3, _), (2, _), (1, _), (0, _)]) (dc D_Mod_shared 40 rfl) rfl 3 rfl (by decide) rfl ?_
      refine Sd_goto (tgt := 6) (dc D_Mod_shared 41 rfl) (by decide) ?_
      refine Sd.sub (l' := [(0, _), (1, _), (2, _), (3, _)]) [3, 2, 1, 0] rfl ?_
      exact hk6 _ _ _ _ _
    · refine Sd_aload_n (pc' := 54) (dc D_Mod_shared 31 rfl) rfl 1 rfl rfl ?_
      refine Sd_iload_n (pc' := 55) (dc D_Mod_shared 32 rfl) rfl 3 rfl rfl ?_
      refine Sd_iconst (pc' := 56) (dc D_Mod_shared 33 rfl) rfl ⟨by decide, by decide⟩ ?_
      refine Sd.callVI (ci := 12) (t := 13) (as := [_, _]) RX12 (pc' := 59) (dc D_Mod_shared 34 rfl) rfl rfl rfl rfl K_Mod_hasKind L_Mod_303 Ks_Mod_hasKind Kv_Mod_hasKind ⟨by decide, by decide⟩ rfl rfl (Nat.le_of_ble_eq_true rfl) (s_Mod_hasKind _ _ _ _) (fun x5 h4 => ?_)
      refine Sd_if_eq (tgt := 66) (pc' := 62) (dc D_Mod_shared 35 rfl) (by decide) rfl (fun _ => ?_) (fun _ => ?_)
      · refine Sd_iconst (pc' := 67) (dc D_Mod_shared 38 rfl) rfl ⟨by decide, by decide⟩ ?_
        refine Sd_istore_n (pc' := 68) (l' := [(2, _), (1, _), (0, _), (3, _)]) (dc D_Mod_shared 39 rfl) rfl rfl (by decide) rfl ?_
        refine Sd_iinc (pc' := 71) (l' := [(3, _), (2, _), (1, _), (0, _)]) (dc D_Mod_shared 40 rfl) rfl 3 rfl (by decide) rfl ?_
        refine Sd_goto (tgt := 6) (dc D_Mod_shared 41 rfl) (by decide) ?_
        refine Sd.sub (l' := [(0, _), (1, _), (2, _), (3, _)]) [3, 2, 1, 0] rfl ?_
        exact hk6 _ _ _ _ _
      · refine Sd_iconst (pc' := 63) (dc D_Mod_shared 36 rfl) rfl ⟨by decide, by decide⟩ ?_
        refine Sd_goto (tgt := 67) (dc D_Mod_shared 37 rfl) (by decide) ?_
        refine Sd_istore_n (pc' := 68) (l' := [(2, _), (1, _), (0, _), (3, _)]) (dc D_Mod_shared 39 rfl) rfl rfl (by decide) rfl ?_
        refine Sd_iinc (pc' := 71) (l' := [(3, _), (2, _), (1, _), (0, _)]) (dc D_Mod_shared 40 rfl) rfl 3 rfl (by decide) rfl ?_
        refine Sd_goto (tgt := 6) (dc D_Mod_shared 41 rfl) (by decide) ?_
        refine Sd.sub (l' := [(0, _), (1, _), (2, _), (3, _)]) [3, 2, 1, 0] rfl ?_
        exact hk6 _ _ _ _ _
def Mod_shared_L6 : Nat → Nat → Int → Int → Int → AH → Option (Int × AH)
  | 0, _, _, _, _, _ => none
  | n + 1, v0, v1, v2, v3, h => gI h 13 v0 10 fun x1 => if (x1 : Int) ≤ v3 then (if (v1 : Int) = 0 then (Mod_shared_L88 v0 v2 0 h) else (gR h 13 v0 1 fun r2 => aI h 21 r2 2 fun x3 => Mod_shared_L88 v0 v2 x3 h)) else (if ¬ (v1 : Int) = 0 then (Mod_shared_L40 (Mod_shared_L6 n) v0 v2 v3 1 h) else (rc h 13 v0 <| bnd (Mod_isOn v0 v3 h) fun x5 h4 => if (x5 : Int) = 0 then (Mod_shared_L40 (Mod_shared_L6 n) v0 v2 v3 0 h4) else (rc h4 13 v0 <| bnd (Mod_hasKind v0 v3 0 h4) fun x8 h7 => if (x8 : Int) = 0 then (Mod_shared_L40 (Mod_shared_L6 n) v0 v2 v3 0 h7) else (Mod_shared_L40 (Mod_shared_L6 n) v0 v2 v3 1 h7))))
set_option maxHeartbeats 4000000 in
set_option maxRecDepth 20000 in
theorem s_Mod_shared_L6 : ∀ (n : Nat) (v0 : Nat) (v1 : Int) (v2 : Int) (v3 : Int) (h : AH), Sd M_Mod_shared 5 103 emI 6 [(0, vr v0), (1, vi v1), (2, vi v2), (3, vi v3)] [] h (Mod_shared_L6 n v0 v1 v2 v3 h)
  | 0, _, _, _, _, _ => Sd.none
  | n + 1, v0, v1, v2, v3, h => by
    rw [Mod_shared_L6]
    refine Sd_iload_n (pc' := 7) (dc D_Mod_shared 6 rfl) rfl 3 rfl rfl ?_
    refine Sd_aload_n (pc' := 8) (dc D_Mod_shared 7 rfl) rfl 0 rfl rfl ?_
    refine Sd_getI (pc' := 11) (dc D_Mod_shared 8 rfl) rfl F_Mod_96 rfl rfl ?_
    refine Sd_icmp_ge (tgt := 74) (pc' := 14) (dc D_Mod_shared 9 rfl) (by decide) rfl (fun _ => ?_) (fun _ => ?_)
    · refine Sd_iload_n (pc' := 75) (dc D_Mod_shared 42 rfl) rfl 1 rfl rfl ?_
      refine Sd_if_eq (tgt := 87) (pc' := 78) (dc D_Mod_shared 43 rfl) (by decide) rfl (fun _ => ?_) (fun _ => ?_)
      · refine Sd_iconst (pc' := 88) (dc D_Mod_shared 49 rfl) rfl ⟨by decide, by decide⟩ ?_
        refine Sd.sub (l' := [(0, _), (2, _)]) [0, 2] rfl ?_
        exact s_Mod_shared_L88 _ _ _ _
      · refine Sd_aload_n (pc' := 79) (dc D_Mod_shared 44 rfl) rfl 0 rfl rfl ?_
        refine Sd_getR (pc' := 82) (dc D_Mod_shared 45 rfl) rfl F_Mod_9 rfl rfl ?_
        refine Sd_iconst (pc' := 83) (dc D_Mod_shared 46 rfl) rfl ⟨by decide, by decide⟩ ?_
        refine Sd_iaload (pc' := 84) (dc D_Mod_shared 47 rfl) rfl ?_
        refine Sd_goto (tgt := 88) (dc D_Mod_shared 48 rfl) (by decide) ?_
        refine Sd.sub (l' := [(0, _), (2, _)]) [0, 2] rfl ?_
        exact s_Mod_shared_L88 _ _ _ _
    · refine Sd_iload_n (pc' := 15) (dc D_Mod_shared 10 rfl) rfl 1 rfl rfl ?_
      refine Sd_if_ne (tgt := 35) (pc' := 18) (dc D_Mod_shared 11 rfl) (by decide) rfl (fun _ => ?_) (fun _ => ?_)
      · refine Sd_iconst (pc' := 36) (dc D_Mod_shared 21 rfl) rfl ⟨by decide, by decide⟩ ?_
        refine Sd_goto (tgt := 40) (dc D_Mod_shared 22 rfl) (by decide) ?_
        refine Sd.sub (l' := [(0, _), (2, _), (3, _)]) [0, 2, 3] rfl ?_
        exact s_Mod_shared_L40 (Mod_shared_L6 n) (s_Mod_shared_L6 n) _ _ _ _ _
      · refine Sd_aload_n (pc' := 19) (dc D_Mod_shared 12 rfl) rfl 0 rfl rfl ?_
        refine Sd_iload_n (pc' := 20) (dc D_Mod_shared 13 rfl) rfl 3 rfl rfl ?_
        refine Sd.callVI (ci := 12) (t := 13) (as := [_]) RX12 (pc' := 23) (dc D_Mod_shared 14 rfl) rfl rfl rfl rfl K_Mod_isOn L_Mod_323 Ks_Mod_isOn Kv_Mod_isOn ⟨by decide, by decide⟩ rfl rfl (Nat.le_of_ble_eq_true rfl) (s_Mod_isOn _ _ _) (fun x5 h4 => ?_)
        refine Sd_if_eq (tgt := 39) (pc' := 26) (dc D_Mod_shared 15 rfl) (by decide) rfl (fun _ => ?_) (fun _ => ?_)
        · refine Sd_iconst (pc' := 40) (dc D_Mod_shared 23 rfl) rfl ⟨by decide, by decide⟩ ?_
          refine Sd.sub (l' := [(0, _), (2, _), (3, _)]) [0, 2, 3] rfl ?_
          exact s_Mod_shared_L40 (Mod_shared_L6 n) (s_Mod_shared_L6 n) _ _ _ _ _
        · refine Sd_aload_n (pc' := 27) (dc D_Mod_shared 16 rfl) rfl 0 rfl rfl ?_
          refine Sd_iload_n (pc' := 28) (dc D_Mod_shared 17 rfl) rfl 3 rfl rfl ?_
          refine Sd_iconst (pc' := 29) (dc D_Mod_shared 18 rfl) rfl ⟨by decide, by decide⟩ ?_
          refine Sd.callVI (ci := 12) (t := 13) (as := [_, _]) RX12 (pc' := 32) (dc D_Mod_shared 19 rfl) rfl rfl rfl rfl K_Mod_hasKind L_Mod_303 Ks_Mod_hasKind Kv_Mod_hasKind ⟨by decide, by decide⟩ rfl rfl (Nat.le_of_ble_eq_true rfl) (s_Mod_hasKind _ _ _ _) (fun x8 h7 => ?_)
          refine Sd_if_eq (tgt := 39) (pc' := 35) (dc D_Mod_shared 20 rfl) (by decide) rfl (fun _ => ?_) (fun _ => ?_)
          · refine Sd_iconst (pc' := 40) (dc D_Mod_shared 23 rfl) rfl ⟨by decide, by decide⟩ ?_
            refine Sd.sub (l' := [(0, _), (2, _), (3, _)]) [0, 2, 3] rfl ?_
            exact s_Mod_shared_L40 (Mod_shared_L6 n) (s_Mod_shared_L6 n) _ _ _ _ _
          · refine Sd_iconst (pc' := 36) (dc D_Mod_shared 21 rfl) rfl ⟨by decide, by decide⟩ ?_
            refine Sd_goto (tgt := 40) (dc D_Mod_shared 22 rfl) (by decide) ?_
            refine Sd.sub (l' := [(0, _), (2, _), (3, _)]) [0, 2, 3] rfl ?_
            exact s_Mod_shared_L40 (Mod_shared_L6 n) (s_Mod_shared_L6 n) _ _ _ _ _
def Mod_shared (v0 : Nat) (h : AH) : Option (Int × AH) := Mod_shared_L6 FU v0 0 0 0 h
set_option maxHeartbeats 4000000 in
set_option maxRecDepth 20000 in
theorem s_Mod_shared (v0 : Nat) (h : AH) : CS M_Mod_shared 5 103 emI [vr v0] h (Mod_shared v0 h) := by
  refine CS.of (by decide) (Nat.le_of_ble_eq_true rfl) ?_
  show Sd M_Mod_shared 5 103 emI 0 [(0, vr v0)] [] h _
  unfold Mod_shared
  refine Sd_iconst (pc' := 1) (dc D_Mod_shared 0 rfl) rfl ⟨by decide, by decide⟩ ?_
  refine Sd_istore_n (pc' := 2) (l' := [(1, _), (0, _)]) (dc D_Mod_shared 1 rfl) rfl rfl (by decide) rfl ?_
  refine Sd_iconst (pc' := 3) (dc D_Mod_shared 2 rfl) rfl ⟨by decide, by decide⟩ ?_
  refine Sd_istore_n (pc' := 4) (l' := [(2, _), (1, _), (0, _)]) (dc D_Mod_shared 3 rfl) rfl rfl (by decide) rfl ?_
  refine Sd_iconst (pc' := 5) (dc D_Mod_shared 4 rfl) rfl ⟨by decide, by decide⟩ ?_
  refine Sd_istore_n (pc' := 6) (l' := [(3, _), (2, _), (1, _), (0, _)]) (dc D_Mod_shared 5 rfl) rfl rfl (by decide) rfl ?_
  refine Sd.sub (l' := [(0, _), (1, _), (2, _), (3, _)]) [3, 2, 1, 0] rfl ?_
  exact s_Mod_shared_L6 FU _ _ _ _ _
theorem K_Mod_shared : MOk M_Mod_shared 0 := ⟨Tb_at 133 (by decide +kernel) rfl, Tb_at 1844 (by decide +kernel) rfl, by decide +kernel, by decide +kernel, by decide +kernel⟩
theorem Ks_Mod_shared : Cond.instanceMethod yX12_shared ∈ Tb := Tb_at 1842 (by decide +kernel) rfl
theorem Kv_Mod_shared : Cond.selects RX12 yX12_shared yX12_shared ∈ Tb := Tb_at 1843 (by decide +kernel) rfl
/-! ===== BatchShareModel.residue(II)I ===== -/
abbrev M_Mod_residue : AMt := (yX12_residue, cX12_residue, 6, (some .int))
def T_Mod_residue : List (Nat × Instr × Nat) := [(0, .aload_n 0, 1), (1, .iload_n 1, 1), (2, .invokevirtual 383, 3), (5, .ifCond .eq 11, 3), (8, .aload_n 0, 1), (9, .iload_n 2, 1), (10, .invokevirtual 482, 3), (13, .ifCond .ne 5, 3), (16, .iconst (-1), 1), (17, .ireturn, 1), (18, .bipush 16, 2), (20, .iload_n 2, 1), (21, .imul, 1), (22, .istore_n 3, 1), (23, .aload_n 0, 1), (24, .getfield 25, 3), (27, .iload_n 3, 1), (28, .iaload, 1), (29, .istore 4, 2), (31, .aload_n 0, 1), (32, .iload_n 1, 1), (33, .iload 4, 2), (35, .invokevirtual 300, 3), (38, .aload_n 0, 1), (39, .iload_n 1, 1), (40, .invokevirtual 99, 3), (43, .ifCond .ne 45, 3), (46, .aload_n 0, 1), (47, .iload_n 1, 1), (48, .iload 4, 2), (50, .invokevirtual 303, 3), (53, .ifCond .eq 35, 3), (56, .aload_n 0, 1), (57, .getfield 25, 3), (60, .iload_n 3, 1), (61, .bipush 15, 2), (63, .iadd, 1), (64, .iaload, 1), (65, .ifCond .ne 23, 3), (68, .aload_n 0, 1), (69, .getfield 25, 3), (72, .iload_n 3, 1), (73, .aload_n 0, 1), (74, .getfield 53, 3), (77, .iconst 0, 1), (78, .invokestatic 350, 3), (81, .ifCond .eq 7, 3), (84, .iconst 1, 1), (85, .goto 4, 3), (88, .iconst 0, 1), (89, .istore 5, 2), (91, .iload 5, 2), (93, .ifCond .eq 25, 3), (96, .aload_n 0, 1), (97, .getfield 25, 3), (100, .iload_n 3, 1), (101, .bipush 13, 2), (103, .iadd, 1), (104, .iaload, 1), (105, .aload_n 0, 1), (106, .aload_n 0, 1), (107, .getfield 53, 3), (110, .iconst 0, 1), (111, .invokevirtual 306, 3), (114, .isub, 1), (115, .goto 5, 3), (118, .bipush (-2), 2), (120, .ireturn, 1)]
set_option maxRecDepth 20000 in
theorem D_Mod_residue : (T_Mod_residue.all fun q => decide (decode M_Mod_residue.2.1 q.1 = .ok q.2)) = true := by decide +kernel
def Mod_residue_L89 (v0 : Nat) (v3 : Int) (s0 : Int) (h : AH) : Option (Int × AH) := if (s0 : Int) = 0 then (some ((-2), h)) else (gR h 13 v0 9 fun r1 => aI h 21 r1 (wr (v3 + 13)) fun x2 => gR h 13 v0 26 fun r3 => rc h 13 v0 <| bnd (Mod_rowsNow v0 r3 0 h) fun x5 h4 => some ((wr (x2 - x5)), h4))
set_option maxHeartbeats 4000000 in
set_option maxRecDepth 20000 in
theorem s_Mod_residue_L89 (v0 : Nat) (v3 : Int) (s0 : Int) (h : AH) : Sd M_Mod_residue 5 103 emI 89 [(0, vr v0), (3, vi v3)] [vi s0] h (Mod_residue_L89 v0 v3 s0 h) := by
  unfold Mod_residue_L89
  refine Sd_istore (pc' := 91) (l' := [(5, _), (0, _), (3, _)]) (dc D_Mod_residue 50 rfl) rfl (by decide) rfl ?_
  refine Sd_iload (pc' := 93) (dc D_Mod_residue 51 rfl) rfl 0 rfl ?_
  refine Sd_if_eq (tgt := 118) (pc' := 96) (dc D_Mod_residue 52 rfl) (by decide) rfl (fun _ => ?_) (fun _ => ?_)
  · refine Sd_bipush (pc' := 120) (dc D_Mod_residue 66 rfl) rfl ⟨by decide, by decide⟩ (by decide) ?_
    exact Sd_iret (dc D_Mod_residue 67 rfl) rfl
  · refine Sd_aload_n (pc' := 97) (dc D_Mod_residue 53 rfl) rfl 1 rfl rfl ?_
    refine Sd_getR (pc' := 100) (dc D_Mod_residue 54 rfl) rfl F_Mod_25 rfl rfl ?_
    refine Sd_iload_n (pc' := 101) (dc D_Mod_residue 55 rfl) rfl 2 rfl rfl ?_
    refine Sd_bipush (pc' := 103) (dc D_Mod_residue 56 rfl) rfl ⟨by decide, by decide⟩ (by decide) ?_
    refine Sd_iadd (pc' := 104) (dc D_Mod_residue 57 rfl) rfl ?_
    refine Sd_iaload (pc' := 105) (dc D_Mod_residue 58 rfl) rfl ?_
    refine Sd_aload_n (pc' := 106) (dc D_Mod_residue 59 rfl) rfl 1 rfl rfl ?_
    refine Sd_aload_n (pc' := 107) (dc D_Mod_residue 60 rfl) rfl 1 rfl rfl ?_
    refine Sd_getR (pc' := 110) (dc D_Mod_residue 61 rfl) rfl F_Mod_53 rfl rfl ?_
    refine Sd_iconst (pc' := 111) (dc D_Mod_residue 62 rfl) rfl ⟨by decide, by decide⟩ ?_
    refine Sd.callVI (ci := 12) (t := 13) (as := [_, _]) RX12 (pc' := 114) (dc D_Mod_residue 63 rfl) rfl rfl rfl rfl K_Mod_rowsNow L_Mod_306 Ks_Mod_rowsNow Kv_Mod_rowsNow ⟨by decide, by decide⟩ rfl rfl (Nat.le_of_ble_eq_true rfl) (s_Mod_rowsNow _ _ _ _) (fun x5 h4 => ?_)
    refine Sd_isub (pc' := 115) (dc D_Mod_residue 64 rfl) rfl ?_
    refine Sd_goto (tgt := 120) (dc D_Mod_residue 65 rfl) (by decide) ?_
    exact Sd_iret (dc D_Mod_residue 67 rfl) rfl
def Mod_residue (v0 : Nat) (v1 : Int) (v2 : Int) (h : AH) : Option (Int × AH) := rc h 13 v0 <| bnd (Mod_isAsked v0 v1 h) fun x2 h1 => if (x2 : Int) = 0 then (some ((-1), h1)) else (rc h1 13 v0 <| bnd (Mod_isKeptOne v0 v2 h1) fun x5 h4 => if ¬ (x5 : Int) = 0 then (gR h4 13 v0 9 fun r7 => aI h4 21 r7 (wr (16 * v2)) fun x8 => rc h4 13 v0 <| bnd (Mod_laysPart v0 v1 x8 h4) fun _ h9 => rc h9 13 v0 <| bnd (Mod_isVoid v0 v1 h9) fun x13 h12 => if ¬ (x13 : Int) = 0 then (Mod_residue_L89 v0 ((wr (16 * v2))) 0 h12) else (rc h12 13 v0 <| bnd (Mod_hasKind v0 v1 x8 h12) fun x16 h15 => if (x16 : Int) = 0 then (Mod_residue_L89 v0 ((wr (16 * v2))) 0 h15) else (gR h15 13 v0 9 fun r18 => aI h15 21 r18 (wr ((wr (16 * v2)) + 15)) fun x19 => if ¬ (x19 : Int) = 0 then (Mod_residue_L89 v0 ((wr (16 * v2))) 0 h15) else (gR h15 13 v0 9 fun r20 => gR h15 13 v0 26 fun r21 => bnd (Mod_doesHold r20 (wr (16 * v2)) r21 0 h15) fun x23 h22 => if (x23 : Int) = 0 then (Mod_residue_L89 v0 ((wr (16 * v2))) 0 h22) else (Mod_residue_L89 v0 ((wr (16 * v2))) 1 h22))))) else (some ((-1), h4)))
set_option maxHeartbeats 4000000 in
set_option maxRecDepth 20000 in
theorem s_Mod_residue (v0 : Nat) (v1 : Int) (v2 : Int) (h : AH) : CS M_Mod_residue 5 103 emI [vr v0, vi v1, vi v2] h (Mod_residue v0 v1 v2 h) := by
  refine CS.of (by decide) (Nat.le_of_ble_eq_true rfl) ?_
  show Sd M_Mod_residue 5 103 emI 0 [(0, vr v0), (1, vi v1), (2, vi v2)] [] h _
  unfold Mod_residue
  refine Sd_aload_n (pc' := 1) (dc D_Mod_residue 0 rfl) rfl 0 rfl rfl ?_
  refine Sd_iload_n (pc' := 2) (dc D_Mod_residue 1 rfl) rfl 1 rfl rfl ?_
  refine Sd.callVI (ci := 12) (t := 13) (as := [_]) RX12 (pc' := 5) (dc D_Mod_residue 2 rfl) rfl rfl rfl rfl K_Mod_isAsked L_Mod_383 Ks_Mod_isAsked Kv_Mod_isAsked ⟨by decide, by decide⟩ rfl rfl (Nat.le_of_ble_eq_true rfl) (s_Mod_isAsked _ _ _) (fun x2 h1 => ?_)
  refine Sd_if_eq (tgt := 16) (pc' := 8) (dc D_Mod_residue 3 rfl) (by decide) rfl (fun _ => ?_) (fun _ => ?_)
  · refine Sd_iconst (pc' := 17) (dc D_Mod_residue 8 rfl) rfl ⟨by decide, by decide⟩ ?_
    exact Sd_iret (dc D_Mod_residue 9 rfl) rfl
  · refine Sd_aload_n (pc' := 9) (dc D_Mod_residue 4 rfl) rfl 0 rfl rfl ?_
    refine Sd_iload_n (pc' := 10) (dc D_Mod_residue 5 rfl) rfl 2 rfl rfl ?_
    refine Sd.callVI (ci := 12) (t := 13) (as := [_]) RX12 (pc' := 13) (dc D_Mod_residue 6 rfl) rfl rfl rfl rfl K_Mod_isKeptOne L_Mod_482 Ks_Mod_isKeptOne Kv_Mod_isKeptOne ⟨by decide, by decide⟩ rfl rfl (Nat.le_of_ble_eq_true rfl) (s_Mod_isKeptOne _ _ _) (fun x5 h4 => ?_)
    refine Sd_if_ne (tgt := 18) (pc' := 16) (dc D_Mod_residue 7 rfl) (by decide) rfl (fun _ => ?_) (fun _ => ?_)
    · refine Sd_bipush (pc' := 20) (dc D_Mod_residue 10 rfl) rfl ⟨by decide, by decide⟩ (by decide) ?_
      refine Sd_iload_n (pc' := 21) (dc D_Mod_residue 11 rfl) rfl 2 rfl rfl ?_
      refine Sd_imul (pc' := 22) (dc D_Mod_residue 12 rfl) rfl ?_
      refine Sd_istore_n (pc' := 23) (l' := [(3, _), (0, _), (1, _), (2, _)]) (dc D_Mod_residue 13 rfl) rfl rfl (by decide) rfl ?_
      refine Sd_aload_n (pc' := 24) (dc D_Mod_residue 14 rfl) rfl 1 rfl rfl ?_
      refine Sd_getR (pc' := 27) (dc D_Mod_residue 15 rfl) rfl F_Mod_25 rfl rfl ?_
      refine Sd_iload_n (pc' := 28) (dc D_Mod_residue 16 rfl) rfl 0 rfl rfl ?_
      refine Sd_iaload (pc' := 29) (dc D_Mod_residue 17 rfl) rfl ?_
      refine Sd_istore (pc' := 31) (l' := [(4, _), (3, _), (0, _), (1, _), (2, _)]) (dc D_Mod_residue 18 rfl) rfl (by decide) rfl ?_
      refine Sd_aload_n (pc' := 32) (dc D_Mod_residue 19 rfl) rfl 2 rfl rfl ?_
      refine Sd_iload_n (pc' := 33) (dc D_Mod_residue 20 rfl) rfl 3 rfl rfl ?_
      refine Sd_iload (pc' := 35) (dc D_Mod_residue 21 rfl) rfl 0 rfl ?_
      refine Sd.callVV (ci := 12) (t := 13) (as := [_, _]) RX12 (pc' := 38) (dc D_Mod_residue 22 rfl) rfl rfl rfl rfl K_Mod_laysPart L_Mod_300 Ks_Mod_laysPart Kv_Mod_laysPart ⟨by decide, by decide⟩ rfl rfl (Nat.le_of_ble_eq_true rfl) (s_Mod_laysPart _ _ _ _) (fun _ h9 => ?_)
      refine Sd_aload_n (pc' := 39) (dc D_Mod_residue 23 rfl) rfl 2 rfl rfl ?_
      refine Sd_iload_n (pc' := 40) (dc D_Mod_residue 24 rfl) rfl 3 rfl rfl ?_
      refine Sd.callVI (ci := 12) (t := 13) (as := [_]) RX12 (pc' := 43) (dc D_Mod_residue 25 rfl) rfl rfl rfl rfl K_Mod_isVoid L_Mod_99 Ks_Mod_isVoid Kv_Mod_isVoid ⟨by decide, by decide⟩ rfl rfl (Nat.le_of_ble_eq_true rfl) (s_Mod_isVoid _ _ _) (fun x13 h12 => ?_)
      refine Sd_if_ne (tgt := 88) (pc' := 46) (dc D_Mod_residue 26 rfl) (by decide) rfl (fun _ => ?_) (fun _ => ?_)
      · refine Sd_iconst (pc' := 89) (dc D_Mod_residue 49 rfl) rfl ⟨by decide, by decide⟩ ?_
        refine Sd.sub (l' := [(0, _), (3, _)]) [2, 1] rfl ?_
        exact s_Mod_residue_L89 _ _ _ _
      · refine Sd_aload_n (pc' := 47) (dc D_Mod_residue 27 rfl) rfl 2 rfl rfl ?_
        refine Sd_iload_n (pc' := 48) (dc D_Mod_residue 28 rfl) rfl 3 rfl rfl ?_
        refine Sd_iload (pc' := 50) (dc D_Mod_residue 29 rfl) rfl 0 rfl ?_
        refine Sd.callVI (ci := 12) (t := 13) (as := [_, _]) RX12 (pc' := 53) (dc D_Mod_residue 30 rfl) rfl rfl rfl rfl K_Mod_hasKind L_Mod_303 Ks_Mod_hasKind Kv_Mod_hasKind ⟨by decide, by decide⟩ rfl rfl (Nat.le_of_ble_eq_true rfl) (s_Mod_hasKind _ _ _ _) (fun x16 h15 => ?_)
        refine Sd_if_eq (tgt := 88) (pc' := 56) (dc D_Mod_residue 31 rfl) (by decide) rfl (fun _ => ?_) (fun _ => ?_)
        · refine Sd_iconst (pc' := 89) (dc D_Mod_residue 49 rfl) rfl ⟨by decide, by decide⟩ ?_
          refine Sd.sub (l' := [(0, _), (3, _)]) [2, 1] rfl ?_
          exact s_Mod_residue_L89 _ _ _ _
        · refine Sd_aload_n (pc' := 57) (dc D_Mod_residue 32 rfl) rfl 2 rfl rfl ?_
          refine Sd_getR (pc' := 60) (dc D_Mod_residue 33 rfl) rfl F_Mod_25 rfl rfl ?_
          refine Sd_iload_n (pc' := 61) (dc D_Mod_residue 34 rfl) rfl 1 rfl rfl ?_
          refine Sd_bipush (pc' := 63) (dc D_Mod_residue 35 rfl) rfl ⟨by decide, by decide⟩ (by decide) ?_
          refine Sd_iadd (pc' := 64) (dc D_Mod_residue 36 rfl) rfl ?_
          refine Sd_iaload (pc' := 65) (dc D_Mod_residue 37 rfl) rfl ?_
          refine Sd_if_ne (tgt := 88) (pc' := 68) (dc D_Mod_residue 38 rfl) (by decide) rfl (fun _ => ?_) (fun _ => ?_)
          · refine Sd_iconst (pc' := 89) (dc D_Mod_residue 49 rfl) rfl ⟨by decide, by decide⟩ ?_
            refine Sd.sub (l' := [(0, _), (3, _)]) [2, 1] rfl ?_
            exact s_Mod_residue_L89 _ _ _ _
          · refine Sd_aload_n (pc' := 69) (dc D_Mod_residue 39 rfl) rfl 2 rfl rfl ?_
            refine Sd_getR (pc' := 72) (dc D_Mod_residue 40 rfl) rfl F_Mod_25 rfl rfl ?_
            refine Sd_iload_n (pc' := 73) (dc D_Mod_residue 41 rfl) rfl 1 rfl rfl ?_
            refine Sd_aload_n (pc' := 74) (dc D_Mod_residue 42 rfl) rfl 2 rfl rfl ?_
            refine Sd_getR (pc' := 77) (dc D_Mod_residue 43 rfl) rfl F_Mod_53 rfl rfl ?_
            refine Sd_iconst (pc' := 78) (dc D_Mod_residue 44 rfl) rfl ⟨by decide, by decide⟩ ?_
            refine Sd.callSI (as := [_, _, _, _]) (pc' := 81) (dc D_Mod_residue 45 rfl) rfl K_Mod_doesHold L_Mod_350 Ks_Mod_doesHold ⟨by decide, by decide⟩ rfl rfl (Nat.le_of_ble_eq_true rfl) (s_Mod_doesHold _ _ _ _ _) (fun x23 h22 => ?_)
            refine Sd_if_eq (tgt := 88) (pc' := 84) (dc D_Mod_residue 46 rfl) (by decide) rfl (fun _ => ?_) (fun _ => ?_)
            · refine Sd_iconst (pc' := 89) (dc D_Mod_residue 49 rfl) rfl ⟨by decide, by decide⟩ ?_
              refine Sd.sub (l' := [(0, _), (3, _)]) [2, 1] rfl ?_
              exact s_Mod_residue_L89 _ _ _ _
            · refine Sd_iconst (pc' := 85) (dc D_Mod_residue 47 rfl) rfl ⟨by decide, by decide⟩ ?_
              refine Sd_goto (tgt := 89) (dc D_Mod_residue 48 rfl) (by decide) ?_
              refine Sd.sub (l' := [(0, _), (3, _)]) [2, 1] rfl ?_
              exact s_Mod_residue_L89 _ _ _ _
    · refine Sd_iconst (pc' := 17) (dc D_Mod_residue 8 rfl) rfl ⟨by decide, by decide⟩ ?_
      exact Sd_iret (dc D_Mod_residue 9 rfl) rfl
theorem K_Mod_residue : MOk M_Mod_residue 2 := ⟨Tb_at 133 (by decide +kernel) rfl, Tb_at 1852 (by decide +kernel) rfl, by decide +kernel, by decide +kernel, by decide +kernel⟩
theorem Ks_Mod_residue : Cond.instanceMethod yX12_residue ∈ Tb := Tb_at 1850 (by decide +kernel) rfl
theorem Kv_Mod_residue : Cond.selects RX12 yX12_residue yX12_residue ∈ Tb := Tb_at 1851 (by decide +kernel) rfl
/-! ===== BatchShareModel.draws(I)I ===== -/
abbrev M_Mod_draws : AMt := (yX12_draws, cX12_draws, 2, (some .int))
def T_Mod_draws : List (Nat × Instr × Nat) := [(0, .aload_n 0, 1), (1, .getfield 9, 3), (4, .bipush 8, 2), (6, .aload_n 0, 1), (7, .getfield 9, 3), (10, .bipush 8, 2), (12, .iaload, 1), (13, .i2l, 1), (14, .ldc2_w 503, 3), (17, .lmul, 1), (18, .ldc2_w 505, 3), (21, .ladd, 1), (22, .ldc2_w 507, 3), (25, .lrem, 1), (26, .l2i, 1), (27, .iastore, 1), (28, .aload_n 0, 1), (29, .getfield 9, 3), (32, .bipush 8, 2), (34, .iaload, 1), (35, .ldc_w 509, 3), (38, .idiv, 1), (39, .iload_n 1, 1), (40, .irem, 1), (41, .ireturn, 1)]
set_option maxRecDepth 20000 in
theorem D_Mod_draws : (T_Mod_draws.all fun q => decide (decode M_Mod_draws.2.1 q.1 = .ok q.2)) = true := by decide +kernel
def Mod_draws (v0 : Nat) (v1 : Int) (h : AH) : Option (Int × AH) := gR h 13 v0 1 fun r1 => gR h 13 v0 1 fun r2 => aI h 21 r2 8 fun x3 => if (2147483648 : Int) = 0 then none else wI h 21 r1 8 (wr (lRem (wr64 ((wr64 (x3 * 1103515245)) + 12345)) 2147483648)) fun h4 => gR h4 13 v0 1 fun r5 => aI h4 21 r5 8 fun x6 => if (65536 : Int) = 0 then none else if (v1 : Int) = 0 then none else some ((iRem (iDiv x6 65536) v1), h4)
set_option maxHeartbeats 4000000 in
set_option maxRecDepth 20000 in
theorem s_Mod_draws (v0 : Nat) (v1 : Int) (h : AH) : CS M_Mod_draws 1 0 emI [vr v0, vi v1] h (Mod_draws v0 v1 h) := by
  refine CS.of (by decide) (Nat.le_of_ble_eq_true rfl) ?_
  show Sd M_Mod_draws 1 0 emI 0 [(0, vr v0), (1, vi v1)] [] h _
  unfold Mod_draws
  refine Sd_aload_n (pc' := 1) (dc D_Mod_draws 0 rfl) rfl 0 rfl rfl ?_
  refine Sd_getR (pc' := 4) (dc D_Mod_draws 1 rfl) rfl F_Mod_9 rfl rfl ?_
  refine Sd_bipush (pc' := 6) (dc D_Mod_draws 2 rfl) rfl ⟨by decide, by decide⟩ (by decide) ?_
  refine Sd_aload_n (pc' := 7) (dc D_Mod_draws 3 rfl) rfl 0 rfl rfl ?_
  refine Sd_getR (pc' := 10) (dc D_Mod_draws 4 rfl) rfl F_Mod_9 rfl rfl ?_
  refine Sd_bipush (pc' := 12) (dc D_Mod_draws 5 rfl) rfl ⟨by decide, by decide⟩ (by decide) ?_
  refine Sd_iaload (pc' := 13) (dc D_Mod_draws 6 rfl) rfl ?_
  refine Sd_i2l (pc' := 14) (dc D_Mod_draws 7 rfl) rfl ?_
  refine Sd_ldc2 (n := 1103515245) (pc' := 17) (dc D_Mod_draws 8 rfl) rfl ⟨by decide, by decide⟩ Q_Mod_503 ?_
  refine Sd_lmul (pc' := 18) (dc D_Mod_draws 9 rfl) rfl ?_
  refine Sd_ldc2 (n := 12345) (pc' := 21) (dc D_Mod_draws 10 rfl) rfl ⟨by decide, by decide⟩ Q_Mod_505 ?_
  refine Sd_ladd (pc' := 22) (dc D_Mod_draws 11 rfl) rfl ?_
  refine Sd_ldc2 (n := 2147483648) (pc' := 25) (dc D_Mod_draws 12 rfl) rfl ⟨by decide, by decide⟩ Q_Mod_507 ?_
  refine Sd_lrem (pc' := 26) (dc D_Mod_draws 13 rfl) rfl ?_
  refine Sd_l2i (pc' := 27) (dc D_Mod_draws 14 rfl) rfl ?_
  refine Sd_iastore (pc' := 28) (dc D_Mod_draws 15 rfl) rfl (by decide) ?_
  refine Sd_aload_n (pc' := 29) (dc D_Mod_draws 16 rfl) rfl 0 rfl rfl ?_
  refine Sd_getR (pc' := 32) (dc D_Mod_draws 17 rfl) rfl F_Mod_9 rfl rfl ?_
  refine Sd_bipush (pc' := 34) (dc D_Mod_draws 18 rfl) rfl ⟨by decide, by decide⟩ (by decide) ?_
  refine Sd_iaload (pc' := 35) (dc D_Mod_draws 19 rfl) rfl ?_
  refine Sd_ldcw (n := 65536) (pc' := 38) (dc D_Mod_draws 20 rfl) rfl ⟨by decide, by decide⟩ Q_Mod_509 ?_
  refine Sd_idiv (pc' := 39) (dc D_Mod_draws 21 rfl) rfl ?_
  refine Sd_iload_n (pc' := 40) (dc D_Mod_draws 22 rfl) rfl 1 rfl rfl ?_
  refine Sd_irem (pc' := 41) (dc D_Mod_draws 23 rfl) rfl ?_
  exact Sd_iret (dc D_Mod_draws 24 rfl) rfl
theorem K_Mod_draws : MOk M_Mod_draws 1 := ⟨Tb_at 133 (by decide +kernel) rfl, Tb_at 1867 (by decide +kernel) rfl, by decide +kernel, by decide +kernel, by decide +kernel⟩
theorem Ks_Mod_draws : Cond.instanceMethod yX12_draws ∈ Tb := Tb_at 1866 (by decide +kernel) rfl
theorem Kv_Mod_draws : Cond.selects RX12 yX12_draws yX12_draws ∈ Tb := Tb_at 115 (by decide +kernel) rfl
/-! ===== BatchShareModel.drifts()V ===== -/
abbrev M_Mod_drifts : AMt := (yX12_drifts, cX12_drifts, 4, none)
def T_Mod_drifts : List (Nat × Instr × Nat) := [(0, .aload_n 0, 1), (1, .aload_n 0, 1), (2, .getfield 9, 3), (5, .iconst 2, 1), (6, .iaload, 1), (7, .invokevirtual 510, 3), (10, .istore_n 1, 1), (11, .aload_n 0, 1), (12, .iconst 3, 1), (13, .invokevirtual 510, 3), (16, .istore_n 2, 1), (17, .aload_n 0, 1), (18, .bipush 10, 2), (20, .invokevirtual 510, 3), (23, .istore_n 3, 1), (24, .aload_n 0, 1), (25, .iload_n 1, 1), (26, .iload_n 2, 1), (27, .invokevirtual 252, 3), (30, .iload_n 3, 1), (31, .if_icmp .eq 11, 3), (34, .aload_n 0, 1), (35, .iconst 0, 1), (36, .iload_n 1, 1), (37, .iload_n 2, 1), (38, .iload_n 3, 1), (39, .invokevirtual 464, 3), (42, .return_, 1)]
set_option maxRecDepth 20000 in
theorem D_Mod_drifts : (T_Mod_drifts.all fun q => decide (decode M_Mod_drifts.2.1 q.1 = .ok q.2)) = true := by decide +kernel
def Mod_drifts (v0 : Nat) (h : AH) : Option (Unit × AH) := gR h 13 v0 1 fun r1 => aI h 21 r1 2 fun x2 => rc h 13 v0 <| bnd (Mod_draws v0 x2 h) fun x4 h3 => rc h3 13 v0 <| bnd (Mod_draws v0 3 h3) fun x7 h6 => rc h6 13 v0 <| bnd (Mod_draws v0 10 h6) fun x10 h9 => rc h9 13 v0 <| bnd (Mod_numberAt v0 x4 x7 h9) fun x13 h12 => if (x13 : Int) = x10 then (some ((), h12)) else (rc h12 13 v0 <| bnd (Mod_changes v0 0 x4 x7 x10 h12) fun _ h15 => some ((), h15))
set_option maxHeartbeats 4000000 in
set_option maxRecDepth 20000 in
theorem s_Mod_drifts (v0 : Nat) (h : AH) : CS M_Mod_drifts 5 101 emV [vr v0] h (Mod_drifts v0 h) := by
  refine CS.of (by decide) (Nat.le_of_ble_eq_true rfl) ?_
  show Sd M_Mod_drifts 5 101 emV 0 [(0, vr v0)] [] h _
  unfold Mod_drifts
  refine Sd_aload_n (pc' := 1) (dc D_Mod_drifts 0 rfl) rfl 0 rfl rfl ?_
  refine Sd_aload_n (pc' := 2) (dc D_Mod_drifts 1 rfl) rfl 0 rfl rfl ?_
  refine Sd_getR (pc' := 5) (dc D_Mod_drifts 2 rfl) rfl F_Mod_9 rfl rfl ?_
  refine Sd_iconst (pc' := 6) (dc D_Mod_drifts 3 rfl) rfl ⟨by decide, by decide⟩ ?_
  refine Sd_iaload (pc' := 7) (dc D_Mod_drifts 4 rfl) rfl ?_
  refine Sd.callVI (ci := 12) (t := 13) (as := [_]) RX12 (pc' := 10) (dc D_Mod_drifts 5 rfl) rfl rfl rfl rfl K_Mod_draws L_Mod_510 Ks_Mod_draws Kv_Mod_draws ⟨by decide, by decide⟩ rfl rfl (Nat.le_of_ble_eq_true rfl) (s_Mod_draws _ _ _) (fun x4 h3 => ?_)
  refine Sd_istore_n (pc' := 11) (l' := [(1, _), (0, _)]) (dc D_Mod_drifts 6 rfl) rfl rfl (by decide) rfl ?_
  refine Sd_aload_n (pc' := 12) (dc D_Mod_drifts 7 rfl) rfl 1 rfl rfl ?_
  refine Sd_iconst (pc' := 13) (dc D_Mod_drifts 8 rfl) rfl ⟨by decide, by decide⟩ ?_
  refine Sd.callVI (ci := 12) (t := 13) (as := [_]) RX12 (pc' := 16) (dc D_Mod_drifts 9 rfl) rfl rfl rfl rfl K_Mod_draws L_Mod_510 Ks_Mod_draws Kv_Mod_draws ⟨by decide, by decide⟩ rfl rfl (Nat.le_of_ble_eq_true rfl) (s_Mod_draws _ _ _) (fun x7 h6 => ?_)
  refine Sd_istore_n (pc' := 17) (l' := [(2, _), (1, _), (0, _)]) (dc D_Mod_drifts 10 rfl) rfl rfl (by decide) rfl ?_
  refine Sd_aload_n (pc' := 18) (dc D_Mod_drifts 11 rfl) rfl 2 rfl rfl ?_
  refine Sd_bipush (pc' := 20) (dc D_Mod_drifts 12 rfl) rfl ⟨by decide, by decide⟩ (by decide) ?_
  refine Sd.callVI (ci := 12) (t := 13) (as := [_]) RX12 (pc' := 23) (dc D_Mod_drifts 13 rfl) rfl rfl rfl rfl K_Mod_draws L_Mod_510 Ks_Mod_draws Kv_Mod_draws ⟨by decide, by decide⟩ rfl rfl (Nat.le_of_ble_eq_true rfl) (s_Mod_draws _ _ _) (fun x10 h9 => ?_)
  refine Sd_istore_n (pc' := 24) (l' := [(3, _), (2, _), (1, _), (0, _)]) (dc D_Mod_drifts 14 rfl) rfl rfl (by decide) rfl ?_
  refine Sd_aload_n (pc' := 25) (dc D_Mod_drifts 15 rfl) rfl 3 rfl rfl ?_
  refine Sd_iload_n (pc' := 26) (dc D_Mod_drifts 16 rfl) rfl 2 rfl rfl ?_
  refine Sd_iload_n (pc' := 27) (dc D_Mod_drifts 17 rfl) rfl 1 rfl rfl ?_
  refine Sd.callVI (ci := 12) (t := 13) (as := [_, _]) RX12 (pc' := 30) (dc D_Mod_drifts 18 rfl) rfl rfl rfl rfl K_Mod_numberAt L_Mod_252 Ks_Mod_numberAt Kv_Mod_numberAt ⟨by decide, by decide⟩ rfl rfl (Nat.le_of_ble_eq_true rfl) (s_Mod_numberAt _ _ _ _) (fun x13 h12 => ?_)
  refine Sd_iload_n (pc' := 31) (dc D_Mod_drifts 19 rfl) rfl 0 rfl rfl ?_
  refine Sd_icmp_eq (tgt := 42) (pc' := 34) (dc D_Mod_drifts 20 rfl) (by decide) rfl (fun _ => ?_) (fun _ => ?_)
  · exact Sd_vret (dc D_Mod_drifts 27 rfl) rfl
  · refine Sd_aload_n (pc' := 35) (dc D_Mod_drifts 21 rfl) rfl 3 rfl rfl ?_
    refine Sd_iconst (pc' := 36) (dc D_Mod_drifts 22 rfl) rfl ⟨by decide, by decide⟩ ?_
    refine Sd_iload_n (pc' := 37) (dc D_Mod_drifts 23 rfl) rfl 2 rfl rfl ?_
    refine Sd_iload_n (pc' := 38) (dc D_Mod_drifts 24 rfl) rfl 1 rfl rfl ?_
    refine Sd_iload_n (pc' := 39) (dc D_Mod_drifts 25 rfl) rfl 0 rfl rfl ?_
    refine Sd.callVV (ci := 12) (t := 13) (as := [_, _, _, _]) RX12 (pc' := 42) (dc D_Mod_drifts 26 rfl) rfl rfl rfl rfl K_Mod_changes L_Mod_464 Ks_Mod_changes Kv_Mod_changes ⟨by decide, by decide⟩ rfl rfl (Nat.le_of_ble_eq_true rfl) (s_Mod_changes _ _ _ _ _ _) (fun _ h15 => ?_)
    exact Sd_vret (dc D_Mod_drifts 27 rfl) rfl
theorem K_Mod_drifts : MOk M_Mod_drifts 0 := ⟨Tb_at 133 (by decide +kernel) rfl, Tb_at 1875 (by decide +kernel) rfl, by decide +kernel, by decide +kernel, by decide +kernel⟩
theorem Ks_Mod_drifts : Cond.instanceMethod yX12_drifts ∈ Tb := Tb_at 1874 (by decide +kernel) rfl
theorem Kv_Mod_drifts : Cond.selects RX12 yX12_drifts yX12_drifts ∈ Tb := Tb_at 116 (by decide +kernel) rfl
/-! ===== BatchShareModel.staleMany()I ===== -/
abbrev M_Mod_staleMany : AMt := (yX12_staleMany, cX12_staleMany, 3, (some .int))
def T_Mod_staleMany : List (Nat × Instr × Nat) := [(0, .iconst 0, 1), (1, .istore_n 1, 1), (2, .iconst 0, 1), (3, .istore_n 2, 1), (4, .iload_n 2, 1), (5, .aload_n 0, 1), (6, .getfield 9, 3), (9, .iconst 5, 1), (10, .iaload, 1), (11, .if_icmp .ge 24, 3), (14, .iload_n 1, 1), (15, .aload_n 0, 1), (16, .getfield 25, 3), (19, .bipush 16, 2), (21, .iload_n 2, 1), (22, .imul, 1), (23, .bipush 15, 2), (25, .iadd, 1), (26, .iaload, 1), (27, .iadd, 1), (28, .istore_n 1, 1), (29, .iinc 2 1, 3), (32, .goto (-28), 3), (35, .iload_n 1, 1), (36, .ireturn, 1)]
set_option maxRecDepth 20000 in
theorem D_Mod_staleMany : (T_Mod_staleMany.all fun q => decide (decode M_Mod_staleMany.2.1 q.1 = .ok q.2)) = true := by decide +kernel
def Mod_staleMany_L4 : Nat → Nat → Int → Int → AH → Option (Int × AH)
  | 0, _, _, _, _ => none
  | n + 1, v0, v1, v2, h => gR h 13 v0 1 fun r1 => aI h 21 r1 5 fun x2 => if (x2 : Int) ≤ v2 then (some (v1, h)) else (gR h 13 v0 9 fun r3 => aI h 21 r3 (wr ((wr (16 * v2)) + 15)) fun x4 => Mod_staleMany_L4 n v0 ((wr (v1 + x4))) ((wr (v2 + 1))) h)
set_option maxHeartbeats 4000000 in
set_option maxRecDepth 20000 in
theorem s_Mod_staleMany_L4 : ∀ (n : Nat) (v0 : Nat) (v1 : Int) (v2 : Int) (h : AH), Sd M_Mod_staleMany 1 0 emI 4 [(0, vr v0), (1, vi v1), (2, vi v2)] [] h (Mod_staleMany_L4 n v0 v1 v2 h)
  | 0, _, _, _, _ => Sd.none
  | n + 1, v0, v1, v2, h => by
    rw [Mod_staleMany_L4]
    refine Sd_iload_n (pc' := 5) (dc D_Mod_staleMany 4 rfl) rfl 2 rfl rfl ?_
    refine Sd_aload_n (pc' := 6) (dc D_Mod_staleMany 5 rfl) rfl 0 rfl rfl ?_
    refine Sd_getR (pc' := 9) (dc D_Mod_staleMany 6 rfl) rfl F_Mod_9 rfl rfl ?_
    refine Sd_iconst (pc' := 10) (dc D_Mod_staleMany 7 rfl) rfl ⟨by decide, by decide⟩ ?_
    refine Sd_iaload (pc' := 11) (dc D_Mod_staleMany 8 rfl) rfl ?_
    refine Sd_icmp_ge (tgt := 35) (pc' := 14) (dc D_Mod_staleMany 9 rfl) (by decide) rfl (fun _ => ?_) (fun _ => ?_)
    · refine Sd_iload_n (pc' := 36) (dc D_Mod_staleMany 23 rfl) rfl 1 rfl rfl ?_
      exact Sd_iret (dc D_Mod_staleMany 24 rfl) rfl
    · refine Sd_iload_n (pc' := 15) (dc D_Mod_staleMany 10 rfl) rfl 1 rfl rfl ?_
      refine Sd_aload_n (pc' := 16) (dc D_Mod_staleMany 11 rfl) rfl 0 rfl rfl ?_
      refine Sd_getR (pc' := 19) (dc D_Mod_staleMany 12 rfl) rfl F_Mod_25 rfl rfl ?_
      refine Sd_bipush (pc' := 21) (dc D_Mod_staleMany 13 rfl) rfl ⟨by decide, by decide⟩ (by decide) ?_
      refine Sd_iload_n (pc' := 22) (dc D_Mod_staleMany 14 rfl) rfl 2 rfl rfl ?_
      refine Sd_imul (pc' := 23) (dc D_Mod_staleMany 15 rfl) rfl ?_
      refine Sd_bipush (pc' := 25) (dc D_Mod_staleMany 16 rfl) rfl ⟨by decide, by decide⟩ (by decide) ?_
      refine Sd_iadd (pc' := 26) (dc D_Mod_staleMany 17 rfl) rfl ?_
      refine Sd_iaload (pc' := 27) (dc D_Mod_staleMany 18 rfl) rfl ?_
      refine Sd_iadd (pc' := 28) (dc D_Mod_staleMany 19 rfl) rfl ?_
      refine Sd_istore_n (pc' := 29) (l' := [(1, _), (0, _), (2, _)]) (dc D_Mod_staleMany 20 rfl) rfl rfl (by decide) rfl ?_
      refine Sd_iinc (pc' := 32) (l' := [(2, _), (1, _), (0, _)]) (dc D_Mod_staleMany 21 rfl) rfl 2 rfl (by decide) rfl ?_
      refine Sd_goto (tgt := 4) (dc D_Mod_staleMany 22 rfl) (by decide) ?_
      refine Sd.sub (l' := [(0, _), (1, _), (2, _)]) [2, 1, 0] rfl ?_
      exact s_Mod_staleMany_L4 n _ _ _ _
def Mod_staleMany (v0 : Nat) (h : AH) : Option (Int × AH) := Mod_staleMany_L4 FU v0 0 0 h
set_option maxHeartbeats 4000000 in
set_option maxRecDepth 20000 in
theorem s_Mod_staleMany (v0 : Nat) (h : AH) : CS M_Mod_staleMany 1 0 emI [vr v0] h (Mod_staleMany v0 h) := by
  refine CS.of (by decide) (Nat.le_of_ble_eq_true rfl) ?_
  show Sd M_Mod_staleMany 1 0 emI 0 [(0, vr v0)] [] h _
  unfold Mod_staleMany
  refine Sd_iconst (pc' := 1) (dc D_Mod_staleMany 0 rfl) rfl ⟨by decide, by decide⟩ ?_
  refine Sd_istore_n (pc' := 2) (l' := [(1, _), (0, _)]) (dc D_Mod_staleMany 1 rfl) rfl rfl (by decide) rfl ?_
  refine Sd_iconst (pc' := 3) (dc D_Mod_staleMany 2 rfl) rfl ⟨by decide, by decide⟩ ?_
  refine Sd_istore_n (pc' := 4) (l' := [(2, _), (1, _), (0, _)]) (dc D_Mod_staleMany 3 rfl) rfl rfl (by decide) rfl ?_
  refine Sd.sub (l' := [(0, _), (1, _), (2, _)]) [2, 1, 0] rfl ?_
  exact s_Mod_staleMany_L4 FU _ _ _ _
theorem K_Mod_staleMany : MOk M_Mod_staleMany 0 := ⟨Tb_at 133 (by decide +kernel) rfl, Tb_at 1879 (by decide +kernel) rfl, by decide +kernel, by decide +kernel, by decide +kernel⟩
theorem Ks_Mod_staleMany : Cond.instanceMethod yX12_staleMany ∈ Tb := Tb_at 1878 (by decide +kernel) rfl
theorem Kv_Mod_staleMany : Cond.selects RX12 yX12_staleMany yX12_staleMany ∈ Tb := Tb_at 117 (by decide +kernel) rfl
/-! ===== BatchShareModel.drift(IIII)I ===== -/
abbrev M_Mod_drift : AMt := (yX12_drift, cX12_drift, 10, (some .int))
def T_Mod_drift : List (Nat × Instr × Nat) := [(0, .aload_n 0, 1), (1, .invokevirtual 445, 3), (4, .ifCond .eq 50, 3), (7, .iload_n 1, 1), (8, .i2l, 1), (9, .lconst 1, 1), (10, .ldc2_w 513, 3), (13, .invokestatic 88, 3), (16, .ifCond .eq 38, 3), (19, .iload_n 2, 1), (20, .i2l, 1), (21, .lconst 1, 1), (22, .ldc2_w 515, 3), (25, .invokestatic 88, 3), (28, .ifCond .eq 26, 3), (31, .iload_n 3, 1), (32, .i2l, 1), (33, .lconst 0, 1), (34, .ldc2_w 517, 3), (37, .invokestatic 88, 3), (40, .ifCond .eq 14, 3), (43, .iload 4, 2), (45, .i2l, 1), (46, .lconst 0, 1), (47, .lconst 1, 1), (48, .invokestatic 88, 3), (51, .ifCond .ne 5, 3), (54, .iconst (-1), 1), (55, .ireturn, 1), (56, .aload_n 0, 1), (57, .getfield 9, 3), (60, .bipush 8, 2), (62, .iaload, 1), (63, .istore 5, 2), (65, .iconst 0, 1), (66, .istore 6, 2), (68, .aload_n 0, 1), (69, .bipush 20, 2), (71, .iconst 0, 1), (72, .invokevirtual 441, 3), (75, .iconst 0, 1), (76, .istore 7, 2), (78, .iload 7, 2), (80, .iload_n 1, 1), (81, .if_icmp .ge 94, 3), (84, .iconst 0, 1), (85, .istore 8, 2), (87, .iload 8, 2), (89, .iload_n 2, 1), (90, .if_icmp .ge 54, 3), (93, .aload_n 0, 1), (94, .bipush 100, 2), (96, .invokevirtual 510, 3), (99, .iload_n 3, 1), (100, .if_icmp .ge 16, 3), (103, .aload_n 0, 1), (104, .getfield 9, 3), (107, .iconst 2, 1), (108, .iaload, 1), (109, .ifCond .le 7, 3), (112, .aload_n 0, 1), (113, .invokevirtual 519, 3), (116, .aload_n 0, 1), (117, .invokevirtual 491, 3), (120, .istore 9, 2), (122, .iload 6, 2), (124, .iload 4, 2), (126, .ifCond .ne 8, 3), (129, .iload 9, 2), (131, .goto 4, 3), (134, .iconst 0, 1), (135, .iadd, 1), (136, .istore 6, 2), (138, .iinc 8 1, 3), (141, .goto (-54), 3), (144, .iload 6, 2), (146, .iload 4, 2), (148, .ifCond .ne 7, 3), (151, .iconst 0, 1), (152, .goto 7, 3), (155, .aload_n 0, 1), (156, .invokevirtual 522, 3), (159, .iadd, 1), (160, .istore 6, 2), (162, .aload_n 0, 1), (163, .bipush 20, 2), (165, .iconst 1, 1), (166, .invokevirtual 441, 3), (169, .iinc 7 1, 3), (172, .goto (-94), 3), (175, .aload_n 0, 1), (176, .getfield 9, 3), (179, .bipush 8, 2), (181, .iload 5, 2), (183, .iastore, 1), (184, .iload 6, 2), (186, .ireturn, 1)]
set_option maxRecDepth 20000 in
theorem D_Mod_drift : (T_Mod_drift.all fun q => decide (decode M_Mod_drift.2.1 q.1 = .ok q.2)) = true := by decide +kernel
def Mod_drift_L116 (k78 : Nat → Int → Int → Int → Int → Int → Int → Int → AH → Option (Int × AH)) (k87 : Nat → Int → Int → Int → Int → Int → Int → Int → Int → AH → Option (Int × AH)) (v0 : Nat) (v1 : Int) (v2 : Int) (v3 : Int) (v4 : Int) (v5 : Int) (v6 : Int) (v7 : Int) (v8 : Int) (h : AH) : Option (Int × AH) := rc h 13 v0 <| bnd (Mod_runs v0 h) fun x2 h1 => if ¬ (v4 : Int) = 0 then (k87 v0 v1 v2 v3 v4 v5 ((wr (v6 + 0))) v7 ((wr (v8 + 1))) h1) else (k87 v0 v1 v2 v3 v4 v5 ((wr (v6 + x2))) v7 ((wr (v8 + 1))) h1)
set_option maxHeartbeats 4000000 in
set_option maxRecDepth 20000 in
theorem s_Mod_drift_L116 (k78 : Nat → Int → Int → Int → Int → Int → Int → Int → AH → Option (Int × AH)) (hk78 : ∀ v0 v1 v2 v3 v4 v5 v6 v7 h, Sd M_Mod_drift 12 247 emI 78 [(0, vr v0), (1, vi v1), (2, vi v2), (3, vi v3), (4, vi v4), (5, vi v5), (6, vi v6), (7, vi v7)] [] h (k78 v0 v1 v2 v3 v4 v5 v6 v7 h)) (k87 : Nat → Int → Int → Int → Int → Int → Int → Int → Int → AH → Option (Int × AH)) (hk87 : ∀ v0 v1 v2 v3 v4 v5 v6 v7 v8 h, Sd M_Mod_drift 12 247 emI 87 [(0, vr v0), (1, vi v1), (2, vi v2), (3, vi v3), (4, vi v4), (5, vi v5), (6, vi v6), (7, vi v7), (8, vi v8)] [] h (k87 v0 v1 v2 v3 v4 v5 v6 v7 v8 h)) (v0 : Nat) (v1 : Int) (v2 : Int) (v3 : Int) (v4 : Int) (v5 : Int) (v6 : Int) (v7 : Int) (v8 : Int) (h : AH) : Sd M_Mod_drift 12 247 emI 116 [(0, vr v0), (1, vi v1), (2, vi v2), (3, vi v3), (4, vi v4), (5, vi v5), (6, vi v6), (7, vi v7), (8, vi v8)] [] h (Mod_drift_L116 k78 k87 v0 v1 v2 v3 v4 v5 v6 v7 v8 h) := by
  unfold Mod_drift_L116
  refine Sd_aload_n (pc' := 117) (dc D_Mod_drift 62 rfl) rfl 0 rfl rfl ?_
  refine Sd.callVI (ci := 12) (t := 13) (as := []) RX12 (pc' := 120) (dc D_Mod_drift 63 rfl) rfl rfl rfl rfl K_Mod_runs L_Mod_491 Ks_Mod_runs Kv_Mod_runs ⟨by decide, by decide⟩ rfl rfl (Nat.le_of_ble_eq_true rfl) (s_Mod_runs _ _) (fun x2 h1 => ?_)
  refine Sd_istore (pc' := 122) (l' := [(9, _), (0, _), (1, _), (2, _), (3, _), (4, _), (5, _), (6, _), (7, _), (8, _)]) (dc D_Mod_drift 64 rfl) rfl (by decide) rfl ?_
  refine Sd_iload (pc' := 124) (dc D_Mod_drift 65 rfl) rfl 7 rfl ?_
  refine Sd_iload (pc' := 126) (dc D_Mod_drift 66 rfl) rfl 5 rfl ?_
  refine Sd_if_ne (tgt := 134) (pc' := 129) (dc D_Mod_drift 67 rfl) (by decide) rfl (fun _ => ?_) (fun _ => ?_)
  · refine Sd_iconst (pc' := 135) (dc D_Mod_drift 70 rfl) rfl ⟨by decide, by decide⟩ ?_
    refine Sd_iadd (pc' := 136) (dc D_Mod_drift 71 rfl) rfl ?_
    refine Sd_istore (pc' := 138) (l' := [(6, _), (9, _), (0, _), (1, _), (2, _), (3, _), (4, _), (5, _), (7, _), (8, _)]) (dc D_Mod_drift 72 rfl) rfl (by decide) rfl ?_
    refine Sd_iinc (pc' := 141) (l' := [(8, _), (6, _), (9, _), (0, _), (1, _), (2, _), (3, _), (4, _), (5, _), (7, _)]) (dc D_Mod_drift 73 rfl) rfl 9 rfl (by decide) rfl ?_
    refine Sd_goto (tgt := 87) (dc D_Mod_drift 74 rfl) (by decide) ?_
    refine Sd.sub (l' := [(0, _), (1, _), (2, _), (3, _), (4, _), (5, _), (6, _), (7, _), (8, _)]) [3, 4, 5, 6, 7, 8, 1, 9, 0] rfl ?_
    exact hk87 _ _ _ _ _ _ _ _ _ _
  · refine Sd_iload (pc' := 131) (dc D_Mod_drift 68 rfl) rfl 0 rfl ?_
    refine Sd_goto (tgt := 135) (dc D_Mod_drift 69 rfl) (by decide) ?_
    refine Sd_iadd (pc' := 136) (dc D_Mod_drift 71 rfl) rfl ?_
    refine Sd_istore (pc' := 138) (l' := [(6, _), (9, _), (0, _), (1, _), (2, _), (3, _), (4, _), (5, _), (7, _), (8, _)]) (dc D_Mod_drift 72 rfl) rfl (by decide) rfl ?_
    refine Sd_iinc (pc' := 141) (l' := [(8, _), (6, _), (9, _), (0, _), (1, _), (2, _), (3, _), (4, _), (5, _), (7, _)]) (dc D_Mod_drift 73 rfl) rfl 9 rfl (by decide) rfl ?_
    refine Sd_goto (tgt := 87) (dc D_Mod_drift 74 rfl) (by decide) ?_
    refine Sd.sub (l' := [(0, _), (1, _), (2, _), (3, _), (4, _), (5, _), (6, _), (7, _), (8, _)]) [3, 4, 5, 6, 7, 8, 1, 9, 0] rfl ?_
    exact hk87 _ _ _ _ _ _ _ _ _ _
def Mod_drift_L87 (k78 : Nat → Int → Int → Int → Int → Int → Int → Int → AH → Option (Int × AH)) : Nat → Nat → Int → Int → Int → Int → Int → Int → Int → Int → AH → Option (Int × AH)
  | 0, _, _, _, _, _, _, _, _, _, _ => none
  | n + 1, v0, v1, v2, v3, v4, v5, v6, v7, v8, h => if (v2 : Int) ≤ v8 then (if ¬ (v4 : Int) = 0 then (rc h 13 v0 <| bnd (Mod_staleMany v0 h) fun x2 h1 => rc h1 13 v0 <| bnd (Mod_movesAll v0 20 1 h1) fun _ h4 => k78 v0 v1 v2 v3 v4 v5 ((wr (v6 + x2))) ((wr (v7 + 1))) h4) else (rc h 13 v0 <| bnd (Mod_movesAll v0 20 1 h) fun _ h7 => k78 v0 v1 v2 v3 v4 v5 ((wr (v6 + 0))) ((wr (v7 + 1))) h7)) else (rc h 13 v0 <| bnd (Mod_draws v0 100 h) fun x11 h10 => if (v3 : Int) ≤ x11 then (Mod_drift_L116 k78 (Mod_drift_L87 k78 n) v0 v1 v2 v3 v4 v5 v6 v7 v8 h10) else (gR h10 13 v0 1 fun r13 => aI h10 21 r13 2 fun x14 => if (x14 : Int) ≤ 0 then (Mod_drift_L116 k78 (Mod_drift_L87 k78 n) v0 v1 v2 v3 v4 v5 v6 v7 v8 h10) else (rc h10 13 v0 <| bnd (Mod_drifts v0 h10) fun _ h15 => Mod_drift_L116 k78 (Mod_drift_L87 k78 n) v0 v1 v2 v3 v4 v5 v6 v7 v8 h15)))
set_option maxHeartbeats 4000000 in
set_option maxRecDepth 20000 in
theorem s_Mod_drift_L87 (k78 : Nat → Int → Int → Int → Int → Int → Int → Int → AH → Option (Int × AH)) (hk78 : ∀ v0 v1 v2 v3 v4 v5 v6 v7 h, Sd M_Mod_drift 12 247 emI 78 [(0, vr v0), (1, vi v1), (2, vi v2), (3, vi v3), (4, vi v4), (5, vi v5), (6, vi v6), (7, vi v7)] [] h (k78 v0 v1 v2 v3 v4 v5 v6 v7 h)) : ∀ (n : Nat) (v0 : Nat) (v1 : Int) (v2 : Int) (v3 : Int) (v4 : Int) (v5 : Int) (v6 : Int) (v7 : Int) (v8 : Int) (h : AH), Sd M_Mod_drift 12 247 emI 87 [(0, vr v0), (1, vi v1), (2, vi v2), (3, vi v3), (4, vi v4), (5, vi v5), (6, vi v6), (7, vi v7), (8, vi v8)] [] h (Mod_drift_L87 k78 n v0 v1 v2 v3 v4 v5 v6 v7 v8 h)
  | 0, _, _, _, _, _, _, _, _, _, _ => Sd.none
  | n + 1, v0, v1, v2, v3, v4, v5, v6, v7, v8, h => by
    rw [Mod_drift_L87]
    refine Sd_iload (pc' := 89) (dc D_Mod_drift 47 rfl) rfl 8 rfl ?_
    refine Sd_iload_n (pc' := 90) (dc D_Mod_drift 48 rfl) rfl 2 rfl rfl ?_
    refine Sd_icmp_ge (tgt := 144) (pc' := 93) (dc D_Mod_drift 49 rfl) (by decide) rfl (fun _ => ?_) (fun _ => ?_)
    · refine Sd_iload (pc' := 146) (dc D_Mod_drift 75 rfl) rfl 6 rfl ?_
      refine Sd_iload (pc' := 148) (dc D_Mod_drift 76 rfl) rfl 4 rfl ?_
      refine Sd_if_ne (tgt := 155) (pc' := 151) (dc D_Mod_drift 77 rfl) (by decide) rfl (fun _ => ?_) (fun _ => ?_)
      · refine Sd_aload_n (pc' := 156) (dc D_Mod_drift 80 rfl) rfl 0 rfl rfl ?_
        refine Sd.callVI (ci := 12) (t := 13) (as := []) RX12 (pc' := 159) (dc D_Mod_drift 81 rfl) rfl rfl rfl rfl K_Mod_staleMany L_Mod_522 Ks_Mod_staleMany Kv_Mod_staleMany ⟨by decide, by decide⟩ rfl rfl (Nat.le_of_ble_eq_true rfl) (s_Mod_staleMany _ _) (fun x2 h1 => ?_)
        refine Sd_iadd (pc' := 160) (dc D_Mod_drift 82 rfl) rfl ?_
        refine Sd_istore (pc' := 162) (l' := [(6, _), (0, _), (1, _), (2, _), (3, _), (4, _), (5, _), (7, _), (8, _)]) (dc D_Mod_drift 83 rfl) rfl (by decide) rfl ?_
        refine Sd_aload_n (pc' := 163) (dc D_Mod_drift 84 rfl) rfl 1 rfl rfl ?_
        refine Sd_bipush (pc' := 165) (dc D_Mod_drift 85 rfl) rfl ⟨by decide, by decide⟩ (by decide) ?_
        refine Sd_iconst (pc' := 166) (dc D_Mod_drift 86 rfl) rfl ⟨by decide, by decide⟩ ?_
        refine Sd.callVV (ci := 12) (t := 13) (as := [_, _]) RX12 (pc' := 169) (dc D_Mod_drift 87 rfl) rfl rfl rfl rfl K_Mod_movesAll L_Mod_441 Ks_Mod_movesAll Kv_Mod_movesAll ⟨by decide, by decide⟩ rfl rfl (Nat.le_of_ble_eq_true rfl) (s_Mod_movesAll _ _ _ _) (fun _ h4 => ?_)
        refine Sd_iinc (pc' := 172) (l' := [(7, _), (6, _), (0, _), (1, _), (2, _), (3, _), (4, _), (5, _), (8, _)]) (dc D_Mod_drift 88 rfl) rfl 7 rfl (by decide) rfl ?_
        refine Sd_goto (tgt := 78) (dc D_Mod_drift 89 rfl) (by decide) ?_
        refine Sd.sub (l' := [(0, _), (1, _), (2, _), (3, _), (4, _), (5, _), (6, _), (7, _)]) [2, 3, 4, 5, 6, 7, 1, 0] rfl ?_
        exact hk78 _ _ _ _ _ _ _ _ _
      · refine Sd_iconst (pc' := 152) (dc D_Mod_drift 78 rfl) rfl ⟨by decide, by decide⟩ ?_
        refine Sd_goto (tgt := 159) (dc D_Mod_drift 79 rfl) (by decide) ?_
        refine Sd_iadd (pc' := 160) (dc D_Mod_drift 82 rfl) rfl ?_
        refine Sd_istore (pc' := 162) (l' := [(6, _), (0, _), (1, _), (2, _), (3, _), (4, _), (5, _), (7, _), (8, _)]) (dc D_Mod_drift 83 rfl) rfl (by decide) rfl ?_
        refine Sd_aload_n (pc' := 163) (dc D_Mod_drift 84 rfl) rfl 1 rfl rfl ?_
        refine Sd_bipush (pc' := 165) (dc D_Mod_drift 85 rfl) rfl ⟨by decide, by decide⟩ (by decide) ?_
        refine Sd_iconst (pc' := 166) (dc D_Mod_drift 86 rfl) rfl ⟨by decide, by decide⟩ ?_
        refine Sd.callVV (ci := 12) (t := 13) (as := [_, _]) RX12 (pc' := 169) (dc D_Mod_drift 87 rfl) rfl rfl rfl rfl K_Mod_movesAll L_Mod_441 Ks_Mod_movesAll Kv_Mod_movesAll ⟨by decide, by decide⟩ rfl rfl (Nat.le_of_ble_eq_true rfl) (s_Mod_movesAll _ _ _ _) (fun _ h7 => ?_)
        refine Sd_iinc (pc' := 172) (l' := [(7, _), (6, _), (0, _), (1, _), (2, _), (3, _), (4, _), (5, _), (8, _)]) (dc D_Mod_drift 88 rfl) rfl 7 rfl (by decide) rfl ?_
        refine Sd_goto (tgt := 78) (dc D_Mod_drift 89 rfl) (by decide) ?_
        refine Sd.sub (l' := [(0, _), (1, _), (2, _), (3, _), (4, _), (5, _), (6, _), (7, _)]) [2, 3, 4, 5, 6, 7, 1, 0] rfl ?_
        exact hk78 _ _ _ _ _ _ _ _ _
    · refine Sd_aload_n (pc' := 94) (dc D_Mod_drift 50 rfl) rfl 0 rfl rfl ?_
      refine Sd_bipush (pc' := 96) (dc D_Mod_drift 51 rfl) rfl ⟨by decide, by decide⟩ (by decide) ?_
      refine Sd.callVI (ci := 12) (t := 13) (as := [_]) RX12 (pc' := 99) (dc D_Mod_drift 52 rfl) rfl rfl rfl rfl K_Mod_draws L_Mod_510 Ks_Mod_draws Kv_Mod_draws ⟨by decide, by decide⟩ rfl rfl (Nat.le_of_ble_eq_true rfl) (s_Mod_draws _ _ _) (fun x11 h10 => ?_)
      refine Sd_iload_n (pc' := 100) (dc D_Mod_drift 53 rfl) rfl 3 rfl rfl ?_
      refine Sd_icmp_ge (tgt := 116) (pc' := 103) (dc D_Mod_drift 54 rfl) (by decide) rfl (fun _ => ?_) (fun _ => ?_)
      · exact s_Mod_drift_L116 k78 hk78 (Mod_drift_L87 k78 n) (s_Mod_drift_L87 k78 hk78 n) _ _ _ _ _ _ _ _ _ _
      · refine Sd_aload_n (pc' := 104) (dc D_Mod_drift 55 rfl) rfl 0 rfl rfl ?_
        refine Sd_getR (pc' := 107) (dc D_Mod_drift 56 rfl) rfl F_Mod_9 rfl rfl ?_
        refine Sd_iconst (pc' := 108) (dc D_Mod_drift 57 rfl) rfl ⟨by decide, by decide⟩ ?_
        refine Sd_iaload (pc' := 109) (dc D_Mod_drift 58 rfl) rfl ?_
        refine Sd_if_le (tgt := 116) (pc' := 112) (dc D_Mod_drift 59 rfl) (by decide) rfl (fun _ => ?_) (fun _ => ?_)
        · exact s_Mod_drift_L116 k78 hk78 (Mod_drift_L87 k78 n) (s_Mod_drift_L87 k78 hk78 n) _ _ _ _ _ _ _ _ _ _
        · refine Sd_aload_n (pc' := 113) (dc D_Mod_drift 60 rfl) rfl 0 rfl rfl ?_
          refine Sd.callVV (ci := 12) (t := 13) (as := []) RX12 (pc' := 116) (dc D_Mod_drift 61 rfl) rfl rfl rfl rfl K_Mod_drifts L_Mod_519 Ks_Mod_drifts Kv_Mod_drifts ⟨by decide, by decide⟩ rfl rfl (Nat.le_of_ble_eq_true rfl) (s_Mod_drifts _ _) (fun _ h15 => ?_)
          exact s_Mod_drift_L116 k78 hk78 (Mod_drift_L87 k78 n) (s_Mod_drift_L87 k78 hk78 n) _ _ _ _ _ _ _ _ _ _
def Mod_drift_L78 : Nat → Nat → Int → Int → Int → Int → Int → Int → Int → AH → Option (Int × AH)
  | 0, _, _, _, _, _, _, _, _, _ => none
  | n + 1, v0, v1, v2, v3, v4, v5, v6, v7, h => if (v1 : Int) ≤ v7 then (gR h 13 v0 1 fun r1 => wI h 21 r1 8 v5 fun h2 => some (v6, h2)) else (Mod_drift_L87 (Mod_drift_L78 n) FU v0 v1 v2 v3 v4 v5 v6 v7 0 h)
set_option maxHeartbeats 4000000 in
set_option maxRecDepth 20000 in
theorem s_Mod_drift_L78 : ∀ (n : Nat) (v0 : Nat) (v1 : Int) (v2 : Int) (v3 : Int) (v4 : Int) (v5 : Int) (v6 : Int) (v7 : Int) (h : AH), Sd M_Mod_drift 12 247 emI 78 [(0, vr v0), (1, vi v1), (2, vi v2), (3, vi v3), (4, vi v4), (5, vi v5), (6, vi v6), (7, vi v7)] [] h (Mod_drift_L78 n v0 v1 v2 v3 v4 v5 v6 v7 h)
  | 0, _, _, _, _, _, _, _, _, _ => Sd.none
  | n + 1, v0, v1, v2, v3, v4, v5, v6, v7, h => by
    rw [Mod_drift_L78]
    refine Sd_iload (pc' := 80) (dc D_Mod_drift 42 rfl) rfl 7 rfl ?_
    refine Sd_iload_n (pc' := 81) (dc D_Mod_drift 43 rfl) rfl 1 rfl rfl ?_
    refine Sd_icmp_ge (tgt := 175) (pc' := 84) (dc D_Mod_drift 44 rfl) (by decide) rfl (fun _ => ?_) (fun _ => ?_)
    · refine Sd_aload_n (pc' := 176) (dc D_Mod_drift 90 rfl) rfl 0 rfl rfl ?_
      refine Sd_getR (pc' := 179) (dc D_Mod_drift 91 rfl) rfl F_Mod_9 rfl rfl ?_
      refine Sd_bipush (pc' := 181) (dc D_Mod_drift 92 rfl) rfl ⟨by decide, by decide⟩ (by decide) ?_
      refine Sd_iload (pc' := 183) (dc D_Mod_drift 93 rfl) rfl 5 rfl ?_
      refine Sd_iastore (pc' := 184) (dc D_Mod_drift 94 rfl) rfl (by decide) ?_
      refine Sd_iload (pc' := 186) (dc D_Mod_drift 95 rfl) rfl 6 rfl ?_
      exact Sd_iret (dc D_Mod_drift 96 rfl) rfl
    · refine Sd_iconst (pc' := 85) (dc D_Mod_drift 45 rfl) rfl ⟨by decide, by decide⟩ ?_
      refine Sd_istore (pc' := 87) (l' := [(8, _), (0, _), (1, _), (2, _), (3, _), (4, _), (5, _), (6, _), (7, _)]) (dc D_Mod_drift 46 rfl) rfl (by decide) rfl ?_
      refine Sd.sub (l' := [(0, _), (1, _), (2, _), (3, _), (4, _), (5, _), (6, _), (7, _), (8, _)]) [1, 2, 3, 4, 5, 6, 7, 8, 0] rfl ?_
      exact s_Mod_drift_L87 (Mod_drift_L78 n) (s_Mod_drift_L78 n) FU _ _ _ _ _ _ _ _ _ _
def Mod_drift (v0 : Nat) (v1 : Int) (v2 : Int) (v3 : Int) (v4 : Int) (h : AH) : Option (Int × AH) := rc h 13 v0 <| bnd (Mod_isBase v0 h) fun x2 h1 => if (x2 : Int) = 0 then (some ((-1), h1)) else (bnd (Mod_in v1 1 5 h1) fun x5 h4 => if (x5 : Int) = 0 then (some ((-1), h4)) else (bnd (Mod_in v2 1 30 h4) fun x8 h7 => if (x8 : Int) = 0 then (some ((-1), h7)) else (bnd (Mod_in v3 0 100 h7) fun x11 h10 => if (x11 : Int) = 0 then (some ((-1), h10)) else (bnd (Mod_in v4 0 1 h10) fun x14 h13 => if ¬ (x14 : Int) = 0 then (gR h13 13 v0 1 fun r16 => aI h13 21 r16 8 fun x17 => rc h13 13 v0 <| bnd (Mod_movesAll v0 20 0 h13) fun _ h18 => Mod_drift_L78 FU v0 v1 v2 v3 v4 x17 0 0 h18) else (some ((-1), h13))))))
set_option maxHeartbeats 4000000 in
set_option maxRecDepth 20000 in
theorem s_Mod_drift (v0 : Nat) (v1 : Int) (v2 : Int) (v3 : Int) (v4 : Int) (h : AH) : CS M_Mod_drift 12 247 emI [vr v0, vi v1, vi v2, vi v3, vi v4] h (Mod_drift v0 v1 v2 v3 v4 h) := by
  refine CS.of (by decide) (Nat.le_of_ble_eq_true rfl) ?_
  show Sd M_Mod_drift 12 247 emI 0 [(0, vr v0), (1, vi v1), (2, vi v2), (3, vi v3), (4, vi v4)] [] h _
  unfold Mod_drift
  refine Sd_aload_n (pc' := 1) (dc D_Mod_drift 0 rfl) rfl 0 rfl rfl ?_
  refine Sd.callVI (ci := 12) (t := 13) (as := []) RX12 (pc' := 4) (dc D_Mod_drift 1 rfl) rfl rfl rfl rfl K_Mod_isBase L_Mod_445 Ks_Mod_isBase Kv_Mod_isBase ⟨by decide, by decide⟩ rfl rfl (Nat.le_of_ble_eq_true rfl) (s_Mod_isBase _ _) (fun x2 h1 => ?_)
  refine Sd_if_eq (tgt := 54) (pc' := 7) (dc D_Mod_drift 2 rfl) (by decide) rfl (fun _ => ?_) (fun _ => ?_)
  · refine Sd_iconst (pc' := 55) (dc D_Mod_drift 27 rfl) rfl ⟨by decide, by decide⟩ ?_
    exact Sd_iret (dc D_Mod_drift 28 rfl) rfl
  · refine Sd_iload_n (pc' := 8) (dc D_Mod_drift 3 rfl) rfl 1 rfl rfl ?_
    refine Sd_i2l (pc' := 9) (dc D_Mod_drift 4 rfl) rfl ?_
    refine Sd_lconst (z := 1) (pc' := 10) (dc D_Mod_drift 5 rfl) rfl ⟨by decide, by decide⟩ (by decide) ?_
    refine Sd_ldc2 (n := 5) (pc' := 13) (dc D_Mod_drift 6 rfl) rfl ⟨by decide, by decide⟩ Q_Mod_513 ?_
    refine Sd.callSI (as := [_, _, _]) (pc' := 16) (dc D_Mod_drift 7 rfl) rfl K_Mod_in L_Mod_88 Ks_Mod_in ⟨by decide, by decide⟩ rfl rfl (Nat.le_of_ble_eq_true rfl) (s_Mod_in _ _ _ _) (fun x5 h4 => ?_)
    refine Sd_if_eq (tgt := 54) (pc' := 19) (dc D_Mod_drift 8 rfl) (by decide) rfl (fun _ => ?_) (fun _ => ?_)
    · refine Sd_iconst (pc' := 55) (dc D_Mod_drift 27 rfl) rfl ⟨by decide, by decide⟩ ?_
      exact Sd_iret (dc D_Mod_drift 28 rfl) rfl
    · refine Sd_iload_n (pc' := 20) (dc D_Mod_drift 9 rfl) rfl 2 rfl rfl ?_
      refine Sd_i2l (pc' := 21) (dc D_Mod_drift 10 rfl) rfl ?_
      refine Sd_lconst (z := 1) (pc' := 22) (dc D_Mod_drift 11 rfl) rfl ⟨by decide, by decide⟩ (by decide) ?_
      refine Sd_ldc2 (n := 30) (pc' := 25) (dc D_Mod_drift 12 rfl) rfl ⟨by decide, by decide⟩ Q_Mod_515 ?_
      refine Sd.callSI (as := [_, _, _]) (pc' := 28) (dc D_Mod_drift 13 rfl) rfl K_Mod_in L_Mod_88 Ks_Mod_in ⟨by decide, by decide⟩ rfl rfl (Nat.le_of_ble_eq_true rfl) (s_Mod_in _ _ _ _) (fun x8 h7 => ?_)
      refine Sd_if_eq (tgt := 54) (pc' := 31) (dc D_Mod_drift 14 rfl) (by decide) rfl (fun _ => ?_) (fun _ => ?_)
      · refine Sd_iconst (pc' := 55) (dc D_Mod_drift 27 rfl) rfl ⟨by decide, by decide⟩ ?_
        exact Sd_iret (dc D_Mod_drift 28 rfl) rfl
      · refine Sd_iload_n (pc' := 32) (dc D_Mod_drift 15 rfl) rfl 3 rfl rfl ?_
        refine Sd_i2l (pc' := 33) (dc D_Mod_drift 16 rfl) rfl ?_
        refine Sd_lconst (z := 0) (pc' := 34) (dc D_Mod_drift 17 rfl) rfl ⟨by decide, by decide⟩ (by decide) ?_
        refine Sd_ldc2 (n := 100) (pc' := 37) (dc D_Mod_drift 18 rfl) rfl ⟨by decide, by decide⟩ Q_Mod_517 ?_
        refine Sd.callSI (as := [_, _, _]) (pc' := 40) (dc D_Mod_drift 19 rfl) rfl K_Mod_in L_Mod_88 Ks_Mod_in ⟨by decide, by decide⟩ rfl rfl (Nat.le_of_ble_eq_true rfl) (s_Mod_in _ _ _ _) (fun x11 h10 => ?_)
        refine Sd_if_eq (tgt := 54) (pc' := 43) (dc D_Mod_drift 20 rfl) (by decide) rfl (fun _ => ?_) (fun _ => ?_)
        · refine Sd_iconst (pc' := 55) (dc D_Mod_drift 27 rfl) rfl ⟨by decide, by decide⟩ ?_
          exact Sd_iret (dc D_Mod_drift 28 rfl) rfl
        · refine Sd_iload (pc' := 45) (dc D_Mod_drift 21 rfl) rfl 4 rfl ?_
          refine Sd_i2l (pc' := 46) (dc D_Mod_drift 22 rfl) rfl ?_
          refine Sd_lconst (z := 0) (pc' := 47) (dc D_Mod_drift 23 rfl) rfl ⟨by decide, by decide⟩ (by decide) ?_
          refine Sd_lconst (z := 1) (pc' := 48) (dc D_Mod_drift 24 rfl) rfl ⟨by decide, by decide⟩ (by decide) ?_
          refine Sd.callSI (as := [_, _, _]) (pc' := 51) (dc D_Mod_drift 25 rfl) rfl K_Mod_in L_Mod_88 Ks_Mod_in ⟨by decide, by decide⟩ rfl rfl (Nat.le_of_ble_eq_true rfl) (s_Mod_in _ _ _ _) (fun x14 h13 => ?_)
          refine Sd_if_ne (tgt := 56) (pc' := 54) (dc D_Mod_drift 26 rfl) (by decide) rfl (fun _ => ?_) (fun _ => ?_)
          · refine Sd_aload_n (pc' := 57) (dc D_Mod_drift 29 rfl) rfl 0 rfl rfl ?_
            refine Sd_getR (pc' := 60) (dc D_Mod_drift 30 rfl) rfl F_Mod_9 rfl rfl ?_
            refine Sd_bipush (pc' := 62) (dc D_Mod_drift 31 rfl) rfl ⟨by decide, by decide⟩ (by decide) ?_
            refine Sd_iaload (pc' := 63) (dc D_Mod_drift 32 rfl) rfl ?_
            refine Sd_istore (pc' := 65) (l' := [(5, _), (0, _), (1, _), (2, _), (3, _), (4, _)]) (dc D_Mod_drift 33 rfl) rfl (by decide) rfl ?_
            refine Sd_iconst (pc' := 66) (dc D_Mod_drift 34 rfl) rfl ⟨by decide, by decide⟩ ?_
            refine Sd_istore (pc' := 68) (l' := [(6, _), (5, _), (0, _), (1, _), (2, _), (3, _), (4, _)]) (dc D_Mod_drift 35 rfl) rfl (by decide) rfl ?_
            refine Sd_aload_n (pc' := 69) (dc D_Mod_drift 36 rfl) rfl 2 rfl rfl ?_
            refine Sd_bipush (pc' := 71) (dc D_Mod_drift 37 rfl) rfl ⟨by decide, by decide⟩ (by decide) ?_
            refine Sd_iconst (pc' := 72) (dc D_Mod_drift 38 rfl) rfl ⟨by decide, by decide⟩ ?_
            refine Sd.callVV (ci := 12) (t := 13) (as := [_, _]) RX12 (pc' := 75) (dc D_Mod_drift 39 rfl) rfl rfl rfl rfl K_Mod_movesAll L_Mod_441 Ks_Mod_movesAll Kv_Mod_movesAll ⟨by decide, by decide⟩ rfl rfl (Nat.le_of_ble_eq_true rfl) (s_Mod_movesAll _ _ _ _) (fun _ h18 => ?_)
            refine Sd_iconst (pc' := 76) (dc D_Mod_drift 40 rfl) rfl ⟨by decide, by decide⟩ ?_
            refine Sd_istore (pc' := 78) (l' := [(7, _), (6, _), (5, _), (0, _), (1, _), (2, _), (3, _), (4, _)]) (dc D_Mod_drift 41 rfl) rfl (by decide) rfl ?_
            refine Sd.sub (l' := [(0, _), (1, _), (2, _), (3, _), (4, _), (5, _), (6, _), (7, _)]) [3, 4, 5, 6, 7, 2, 1, 0] rfl ?_
            exact s_Mod_drift_L78 FU _ _ _ _ _ _ _ _ _
          · refine Sd_iconst (pc' := 55) (dc D_Mod_drift 27 rfl) rfl ⟨by decide, by decide⟩ ?_
            exact Sd_iret (dc D_Mod_drift 28 rfl) rfl
theorem K_Mod_drift : MOk M_Mod_drift 4 := ⟨Tb_at 133 (by decide +kernel) rfl, Tb_at 1860 (by decide +kernel) rfl, by decide +kernel, by decide +kernel, by decide +kernel⟩
theorem Ks_Mod_drift : Cond.instanceMethod yX12_drift ∈ Tb := Tb_at 1858 (by decide +kernel) rfl
theorem Kv_Mod_drift : Cond.selects RX12 yX12_drift yX12_drift ∈ Tb := Tb_at 1859 (by decide +kernel) rfl
/-! ===== BatchShareModel.seed(I)I ===== -/
abbrev M_Mod_seed : AMt := (yX12_seed, cX12_seed, 3, (some .int))
def T_Mod_seed : List (Nat × Instr × Nat) := [(0, .iload_n 1, 1), (1, .ifCond .ge 5, 3), (4, .iconst (-1), 1), (5, .ireturn, 1), (6, .aload_n 0, 1), (7, .getfield 9, 3), (10, .bipush 8, 2), (12, .iaload, 1), (13, .istore_n 2, 1), (14, .aload_n 0, 1), (15, .getfield 9, 3), (18, .bipush 8, 2), (20, .iload_n 1, 1), (21, .iastore, 1), (22, .iload_n 2, 1), (23, .ireturn, 1)]
set_option maxRecDepth 20000 in
theorem D_Mod_seed : (T_Mod_seed.all fun q => decide (decode M_Mod_seed.2.1 q.1 = .ok q.2)) = true := by decide +kernel
def Mod_seed (v0 : Nat) (v1 : Int) (h : AH) : Option (Int × AH) := if (0 : Int) ≤ v1 then (gR h 13 v0 1 fun r1 => aI h 21 r1 8 fun x2 => gR h 13 v0 1 fun r3 => wI h 21 r3 8 v1 fun h4 => some (x2, h4)) else (some ((-1), h))
set_option maxHeartbeats 4000000 in
set_option maxRecDepth 20000 in
theorem s_Mod_seed (v0 : Nat) (v1 : Int) (h : AH) : CS M_Mod_seed 1 0 emI [vr v0, vi v1] h (Mod_seed v0 v1 h) := by
  refine CS.of (by decide) (Nat.le_of_ble_eq_true rfl) ?_
  show Sd M_Mod_seed 1 0 emI 0 [(0, vr v0), (1, vi v1)] [] h _
  unfold Mod_seed
  refine Sd_iload_n (pc' := 1) (dc D_Mod_seed 0 rfl) rfl 1 rfl rfl ?_
  refine Sd_if_ge (tgt := 6) (pc' := 4) (dc D_Mod_seed 1 rfl) (by decide) rfl (fun _ => ?_) (fun _ => ?_)
  · refine Sd_aload_n (pc' := 7) (dc D_Mod_seed 4 rfl) rfl 0 rfl rfl ?_
    refine Sd_getR (pc' := 10) (dc D_Mod_seed 5 rfl) rfl F_Mod_9 rfl rfl ?_
    refine Sd_bipush (pc' := 12) (dc D_Mod_seed 6 rfl) rfl ⟨by decide, by decide⟩ (by decide) ?_
    refine Sd_iaload (pc' := 13) (dc D_Mod_seed 7 rfl) rfl ?_
    refine Sd_istore_n (pc' := 14) (l' := [(2, _), (0, _), (1, _)]) (dc D_Mod_seed 8 rfl) rfl rfl (by decide) rfl ?_
    refine Sd_aload_n (pc' := 15) (dc D_Mod_seed 9 rfl) rfl 1 rfl rfl ?_
    refine Sd_getR (pc' := 18) (dc D_Mod_seed 10 rfl) rfl F_Mod_9 rfl rfl ?_
    refine Sd_bipush (pc' := 20) (dc D_Mod_seed 11 rfl) rfl ⟨by decide, by decide⟩ (by decide) ?_
    refine Sd_iload_n (pc' := 21) (dc D_Mod_seed 12 rfl) rfl 2 rfl rfl ?_
    refine Sd_iastore (pc' := 22) (dc D_Mod_seed 13 rfl) rfl (by decide) ?_
    refine Sd_iload_n (pc' := 23) (dc D_Mod_seed 14 rfl) rfl 0 rfl rfl ?_
    exact Sd_iret (dc D_Mod_seed 15 rfl) rfl
  · refine Sd_iconst (pc' := 5) (dc D_Mod_seed 2 rfl) rfl ⟨by decide, by decide⟩ ?_
    exact Sd_iret (dc D_Mod_seed 3 rfl) rfl
theorem K_Mod_seed : MOk M_Mod_seed 1 := ⟨Tb_at 133 (by decide +kernel) rfl, Tb_at 1856 (by decide +kernel) rfl, by decide +kernel, by decide +kernel, by decide +kernel⟩
theorem Ks_Mod_seed : Cond.instanceMethod yX12_seed ∈ Tb := Tb_at 1854 (by decide +kernel) rfl
theorem Kv_Mod_seed : Cond.selects RX12 yX12_seed yX12_seed ∈ Tb := Tb_at 1855 (by decide +kernel) rfl
/-! ===== BatchShareModel.count(I)I ===== -/
abbrev M_Mod_count : AMt := (yX12_count, cX12_count, 2, (some .int))
def T_Mod_count : List (Nat × Instr × Nat) := [(0, .iload_n 1, 1), (1, .tableswitch 142 0 11 #[63, 70, 77, 84, 89, 96, 103, 108, 116, 124, 129, 137], 63), (64, .aload_n 0, 1), (65, .getfield 9, 3), (68, .iconst 1, 1), (69, .iaload, 1), (70, .ireturn, 1), (71, .aload_n 0, 1), (72, .getfield 9, 3), (75, .iconst 2, 1), (76, .iaload, 1), (77, .ireturn, 1), (78, .aload_n 0, 1), (79, .getfield 9, 3), (82, .iconst 3, 1), (83, .iaload, 1), (84, .ireturn, 1), (85, .aload_n 0, 1), (86, .getfield 96, 3), (89, .ireturn, 1), (90, .aload_n 0, 1), (91, .getfield 9, 3), (94, .iconst 4, 1), (95, .iaload, 1), (96, .ireturn, 1), (97, .aload_n 0, 1), (98, .getfield 9, 3), (101, .iconst 5, 1), (102, .iaload, 1), (103, .ireturn, 1), (104, .aload_n 0, 1), (105, .invokevirtual 473, 3), (108, .ireturn, 1), (109, .aload_n 0, 1), (110, .getfield 9, 3), (113, .bipush 6, 2), (115, .iaload, 1), (116, .ireturn, 1), (117, .aload_n 0, 1), (118, .getfield 9, 3), (121, .bipush 7, 2), (123, .iaload, 1), (124, .ireturn, 1), (125, .aload_n 0, 1), (126, .getfield 186, 3), (129, .ireturn, 1), (130, .aload_n 0, 1), (131, .getfield 9, 3), (134, .bipush 8, 2), (136, .iaload, 1), (137, .ireturn, 1), (138, .aload_n 0, 1), (139, .getfield 107, 3), (142, .ireturn, 1), (143, .iconst (-1), 1), (144, .ireturn, 1)]
set_option maxRecDepth 20000 in
theorem D_Mod_count : (T_Mod_count.all fun q => decide (decode M_Mod_count.2.1 q.1 = .ok q.2)) = true := by decide +kernel
def Mod_count (v0 : Nat) (v1 : Int) (h : AH) : Option (Int × AH) := if (v1 : Int) = 0 then (gR h 13 v0 1 fun r1 => aI h 21 r1 1 fun x2 => some (x2, h)) else (if (v1 : Int) = 1 then (gR h 13 v0 1 fun r3 => aI h 21 r3 2 fun x4 => some (x4, h)) else (if (v1 : Int) = 2 then (gR h 13 v0 1 fun r5 => aI h 21 r5 3 fun x6 => some (x6, h)) else (if (v1 : Int) = 3 then (gI h 13 v0 10 fun x7 => some (x7, h)) else (if (v1 : Int) = 4 then (gR h 13 v0 1 fun r8 => aI h 21 r8 4 fun x9 => some (x9, h)) else (if (v1 : Int) = 5 then (gR h 13 v0 1 fun r10 => aI h 21 r10 5 fun x11 => some (x11, h)) else (if (v1 : Int) = 6 then (rc h 13 v0 <| bnd (Mod_rowsOfAll v0 h) fun x13 h12 => some (x13, h12)) else (if (v1 : Int) = 7 then (gR h 13 v0 1 fun r15 => aI h 21 r15 6 fun x16 => some (x16, h)) else (if (v1 : Int) = 8 then (gR h 13 v0 1 fun r17 => aI h 21 r17 7 fun x18 => some (x18, h)) else (if (v1 : Int) = 9 then (gI h 13 v0 43 fun x19 => some (x19, h)) else (if (v1 : Int) = 10 then (gR h 13 v0 1 fun r20 => aI h 21 r20 8 fun x21 => some (x21, h)) else (if (v1 : Int) = 11 then (gI h 13 v0 18 fun x22 => some (x22, h)) else (some ((-1), h)))))))))))))
set_option maxHeartbeats 4000000 in
set_option maxRecDepth 20000 in
theorem s_Mod_count (v0 : Nat) (v1 : Int) (h : AH) : CS M_Mod_count 2 22 emI [vr v0, vi v1] h (Mod_count v0 v1 h) := by
  refine CS.of (by decide) (Nat.le_of_ble_eq_true rfl) ?_
  show Sd M_Mod_count 2 22 emI 0 [(0, vr v0), (1, vi v1)] [] h _
  unfold Mod_count
  refine Sd_iload_n (pc' := 1) (dc D_Mod_count 0 rfl) rfl 1 rfl rfl ?_
  refine Sd_tcase (i := 0) (tgt := 64) (dc D_Mod_count 1 rfl) rfl (by decide) (by decide) (by decide) (fun _ => ?_) (fun hn0 => ?_)
  · refine Sd_aload_n (pc' := 65) (dc D_Mod_count 2 rfl) rfl 0 rfl rfl ?_
    refine Sd_getR (pc' := 68) (dc D_Mod_count 3 rfl) rfl F_Mod_9 rfl rfl ?_
    refine Sd_iconst (pc' := 69) (dc D_Mod_count 4 rfl) rfl ⟨by decide, by decide⟩ ?_
    refine Sd_iaload (pc' := 70) (dc D_Mod_count 5 rfl) rfl ?_
    exact Sd_iret (dc D_Mod_count 6 rfl) rfl
  refine Sd_tcase (i := 1) (tgt := 71) (dc D_Mod_count 1 rfl) rfl (by decide) (by decide) (by decide) (fun _ => ?_) (fun hn1 => ?_)
  · refine Sd_aload_n (pc' := 72) (dc D_Mod_count 7 rfl) rfl 0 rfl rfl ?_
    refine Sd_getR (pc' := 75) (dc D_Mod_count 8 rfl) rfl F_Mod_9 rfl rfl ?_
    refine Sd_iconst (pc' := 76) (dc D_Mod_count 9 rfl) rfl ⟨by decide, by decide⟩ ?_
    refine Sd_iaload (pc' := 77) (dc D_Mod_count 10 rfl) rfl ?_
    exact Sd_iret (dc D_Mod_count 11 rfl) rfl
  refine Sd_tcase (i := 2) (tgt := 78) (dc D_Mod_count 1 rfl) rfl (by decide) (by decide) (by decide) (fun _ => ?_) (fun hn2 => ?_)
  · refine Sd_aload_n (pc' := 79) (dc D_Mod_count 12 rfl) rfl 0 rfl rfl ?_
    refine Sd_getR (pc' := 82) (dc D_Mod_count 13 rfl) rfl F_Mod_9 rfl rfl ?_
    refine Sd_iconst (pc' := 83) (dc D_Mod_count 14 rfl) rfl ⟨by decide, by decide⟩ ?_
    refine Sd_iaload (pc' := 84) (dc D_Mod_count 15 rfl) rfl ?_
    exact Sd_iret (dc D_Mod_count 16 rfl) rfl
  refine Sd_tcase (i := 3) (tgt := 85) (dc D_Mod_count 1 rfl) rfl (by decide) (by decide) (by decide) (fun _ => ?_) (fun hn3 => ?_)
  · refine Sd_aload_n (pc' := 86) (dc D_Mod_count 17 rfl) rfl 0 rfl rfl ?_
    refine Sd_getI (pc' := 89) (dc D_Mod_count 18 rfl) rfl F_Mod_96 rfl rfl ?_
    exact Sd_iret (dc D_Mod_count 19 rfl) rfl
  refine Sd_tcase (i := 4) (tgt := 90) (dc D_Mod_count 1 rfl) rfl (by decide) (by decide) (by decide) (fun _ => ?_) (fun hn4 => ?_)
  · refine Sd_aload_n (pc' := 91) (dc D_Mod_count 20 rfl) rfl 0 rfl rfl ?_
    refine Sd_getR (pc' := 94) (dc D_Mod_count 21 rfl) rfl F_Mod_9 rfl rfl ?_
    refine Sd_iconst (pc' := 95) (dc D_Mod_count 22 rfl) rfl ⟨by decide, by decide⟩ ?_
    refine Sd_iaload (pc' := 96) (dc D_Mod_count 23 rfl) rfl ?_
    exact Sd_iret (dc D_Mod_count 24 rfl) rfl
  refine Sd_tcase (i := 5) (tgt := 97) (dc D_Mod_count 1 rfl) rfl (by decide) (by decide) (by decide) (fun _ => ?_) (fun hn5 => ?_)
  · refine Sd_aload_n (pc' := 98) (dc D_Mod_count 25 rfl) rfl 0 rfl rfl ?_
    refine Sd_getR (pc' := 101) (dc D_Mod_count 26 rfl) rfl F_Mod_9 rfl rfl ?_
    refine Sd_iconst (pc' := 102) (dc D_Mod_count 27 rfl) rfl ⟨by decide, by decide⟩ ?_
    refine Sd_iaload (pc' := 103) (dc D_Mod_count 28 rfl) rfl ?_
    exact Sd_iret (dc D_Mod_count 29 rfl) rfl
  refine Sd_tcase (i := 6) (tgt := 104) (dc D_Mod_count 1 rfl) rfl (by decide) (by decide) (by decide) (fun _ => ?_) (fun hn6 => ?_)
  · refine Sd_aload_n (pc' := 105) (dc D_Mod_count 30 rfl) rfl 0 rfl rfl ?_
    refine Sd.callVI (ci := 12) (t := 13) (as := []) RX12 (pc' := 108) (dc D_Mod_count 31 rfl) rfl rfl rfl rfl K_Mod_rowsOfAll L_Mod_473 Ks_Mod_rowsOfAll Kv_Mod_rowsOfAll ⟨by decide, by decide⟩ rfl rfl (Nat.le_of_ble_eq_true rfl) (s_Mod_rowsOfAll _ _) (fun x13 h12 => ?_)
    exact Sd_iret (dc D_Mod_count 32 rfl) rfl
  refine Sd_tcase (i := 7) (tgt := 109) (dc D_Mod_count 1 rfl) rfl (by decide) (by decide) (by decide) (fun _ => ?_) (fun hn7 => ?_)
  · refine Sd_aload_n (pc' := 110) (dc D_Mod_count 33 rfl) rfl 0 rfl rfl ?_
    refine Sd_getR (pc' := 113) (dc D_Mod_count 34 rfl) rfl F_Mod_9 rfl rfl ?_
    refine Sd_bipush (pc' := 115) (dc D_Mod_count 35 rfl) rfl ⟨by decide, by decide⟩ (by decide) ?_
    refine Sd_iaload (pc' := 116) (dc D_Mod_count 36 rfl) rfl ?_
    exact Sd_iret (dc D_Mod_count 37 rfl) rfl
  refine Sd_tcase (i := 8) (tgt := 117) (dc D_Mod_count 1 rfl) rfl (by decide) (by decide) (by decide) (fun _ => ?_) (fun hn8 => ?_)
  · refine Sd_aload_n (pc' := 118) (dc D_Mod_count 38 rfl) rfl 0 rfl rfl ?_
    refine Sd_getR (pc' := 121) (dc D_Mod_count 39 rfl) rfl F_Mod_9 rfl rfl ?_
    refine Sd_bipush (pc' := 123) (dc D_Mod_count 40 rfl) rfl ⟨by decide, by decide⟩ (by decide) ?_
    refine Sd_iaload (pc' := 124) (dc D_Mod_count 41 rfl) rfl ?_
    exact Sd_iret (dc D_Mod_count 42 rfl) rfl
  refine Sd_tcase (i := 9) (tgt := 125) (dc D_Mod_count 1 rfl) rfl (by decide) (by decide) (by decide) (fun _ => ?_) (fun hn9 => ?_)
  · refine Sd_aload_n (pc' := 126) (dc D_Mod_count 43 rfl) rfl 0 rfl rfl ?_
    refine Sd_getI (pc' := 129) (dc D_Mod_count 44 rfl) rfl F_Mod_186 rfl rfl ?_
    exact Sd_iret (dc D_Mod_count 45 rfl) rfl
  refine Sd_tcase (i := 10) (tgt := 130) (dc D_Mod_count 1 rfl) rfl (by decide) (by decide) (by decide) (fun _ => ?_) (fun hn10 => ?_)
  · refine Sd_aload_n (pc' := 131) (dc D_Mod_count 46 rfl) rfl 0 rfl rfl ?_
    refine Sd_getR (pc' := 134) (dc D_Mod_count 47 rfl) rfl F_Mod_9 rfl rfl ?_
    refine Sd_bipush (pc' := 136) (dc D_Mod_count 48 rfl) rfl ⟨by decide, by decide⟩ (by decide) ?_
    refine Sd_iaload (pc' := 137) (dc D_Mod_count 49 rfl) rfl ?_
    exact Sd_iret (dc D_Mod_count 50 rfl) rfl
  refine Sd_tcase (i := 11) (tgt := 138) (dc D_Mod_count 1 rfl) rfl (by decide) (by decide) (by decide) (fun _ => ?_) (fun hn11 => ?_)
  · refine Sd_aload_n (pc' := 139) (dc D_Mod_count 51 rfl) rfl 0 rfl rfl ?_
    refine Sd_getI (pc' := 142) (dc D_Mod_count 52 rfl) rfl F_Mod_107 rfl rfl ?_
    exact Sd_iret (dc D_Mod_count 53 rfl) rfl
  refine Sd_tdef (tgt := 143) (dc D_Mod_count 1 rfl) (by omega) (by decide) ?_
  refine Sd_iconst (pc' := 144) (dc D_Mod_count 54 rfl) rfl ⟨by decide, by decide⟩ ?_
  exact Sd_iret (dc D_Mod_count 55 rfl) rfl
theorem K_Mod_count : MOk M_Mod_count 1 := ⟨Tb_at 133 (by decide +kernel) rfl, Tb_at 1883 (by decide +kernel) rfl, by decide +kernel, by decide +kernel, by decide +kernel⟩
theorem Ks_Mod_count : Cond.instanceMethod yX12_count ∈ Tb := Tb_at 1881 (by decide +kernel) rfl
theorem Kv_Mod_count : Cond.selects RX12 yX12_count yX12_count ∈ Tb := Tb_at 1882 (by decide +kernel) rfl
/-! ===== BatchShareModel.carries(I)I ===== -/
abbrev M_Mod_carries : AMt := (yX12_carries, cX12_carries, 2, (some .int))
def T_Mod_carries : List (Nat × Instr × Nat) := [(0, .aload_n 0, 1), (1, .getfield 525, 3), (4, .ifCond .ne 13, 3), (7, .aload_n 0, 1), (8, .getfield 77, 3), (11, .aload_n 0, 1), (12, .getfield 528, 3), (15, .iload_n 1, 1), (16, .iastore, 1), (17, .aload_n 0, 1), (18, .dup, 1), (19, .getfield 528, 3), (22, .iconst 1, 1), (23, .iadd, 1), (24, .putfield 528, 3), (27, .aload_n 0, 1), (28, .getfield 77, 3), (31, .aload_n 0, 1), (32, .getfield 528, 3), (35, .iconst 1, 1), (36, .isub, 1), (37, .iaload, 1), (38, .ireturn, 1)]
set_option maxRecDepth 20000 in
theorem D_Mod_carries : (T_Mod_carries.all fun q => decide (decode M_Mod_carries.2.1 q.1 = .ok q.2)) = true := by decide +kernel
def Mod_carries_L17 (v0 : Nat) (h : AH) : Option (Int × AH) := gI h 13 v0 48 fun x1 => pI h 13 v0 48 (wr (x1 + 1)) fun h2 => gR h2 13 v0 46 fun r3 => gI h2 13 v0 48 fun x4 => aI h2 21 r3 (wr (x4 - 1)) fun x5 => some (x5, h2)
set_option maxHeartbeats 4000000 in
set_option maxRecDepth 20000 in
theorem s_Mod_carries_L17 (v0 : Nat) (h : AH) : Sd M_Mod_carries 1 0 emI 17 [(0, vr v0)] [] h (Mod_carries_L17 v0 h) := by
  unfold Mod_carries_L17
  refine Sd_aload_n (pc' := 18) (dc D_Mod_carries 9 rfl) rfl 0 rfl rfl ?_
  refine Sd_dup (pc' := 19) (dc D_Mod_carries 10 rfl) rfl (cat_r _) ?_
  refine Sd_getI (pc' := 22) (dc D_Mod_carries 11 rfl) rfl F_Mod_528 rfl rfl ?_
  refine Sd_iconst (pc' := 23) (dc D_Mod_carries 12 rfl) rfl ⟨by decide, by decide⟩ ?_
  refine Sd_iadd (pc' := 24) (dc D_Mod_carries 13 rfl) rfl ?_
  refine Sd_putI (pc' := 27) (dc D_Mod_carries 14 rfl) rfl F_Mod_528 rfl rfl rfl (finOk.no rfl) (by decide) ?_
  refine Sd_aload_n (pc' := 28) (dc D_Mod_carries 15 rfl) rfl 0 rfl rfl ?_
  refine Sd_getR (pc' := 31) (dc D_Mod_carries 16 rfl) rfl F_Mod_77 rfl rfl ?_
  refine Sd_aload_n (pc' := 32) (dc D_Mod_carries 17 rfl) rfl 0 rfl rfl ?_
  refine Sd_getI (pc' := 35) (dc D_Mod_carries 18 rfl) rfl F_Mod_528 rfl rfl ?_
  refine Sd_iconst (pc' := 36) (dc D_Mod_carries 19 rfl) rfl ⟨by decide, by decide⟩ ?_
  refine Sd_isub (pc' := 37) (dc D_Mod_carries 20 rfl) rfl ?_
  refine Sd_iaload (pc' := 38) (dc D_Mod_carries 21 rfl) rfl ?_
  exact Sd_iret (dc D_Mod_carries 22 rfl) rfl
def Mod_carries (v0 : Nat) (v1 : Int) (h : AH) : Option (Int × AH) := gI h 13 v0 49 fun x1 => if ¬ (x1 : Int) = 0 then (Mod_carries_L17 v0 h) else (gR h 13 v0 46 fun r2 => gI h 13 v0 48 fun x3 => wI h 21 r2 x3 v1 fun h4 => Mod_carries_L17 v0 h4)
set_option maxHeartbeats 4000000 in
set_option maxRecDepth 20000 in
theorem s_Mod_carries (v0 : Nat) (v1 : Int) (h : AH) : CS M_Mod_carries 1 0 emI [vr v0, vi v1] h (Mod_carries v0 v1 h) := by
  refine CS.of (by decide) (Nat.le_of_ble_eq_true rfl) ?_
  show Sd M_Mod_carries 1 0 emI 0 [(0, vr v0), (1, vi v1)] [] h _
  unfold Mod_carries
  refine Sd_aload_n (pc' := 1) (dc D_Mod_carries 0 rfl) rfl 0 rfl rfl ?_
  refine Sd_getI (pc' := 4) (dc D_Mod_carries 1 rfl) rfl F_Mod_525 rfl rfl ?_
  refine Sd_if_ne (tgt := 17) (pc' := 7) (dc D_Mod_carries 2 rfl) (by decide) rfl (fun _ => ?_) (fun _ => ?_)
  · refine Sd.sub (l' := [(0, _)]) [0] rfl ?_
    exact s_Mod_carries_L17 _ _
  · refine Sd_aload_n (pc' := 8) (dc D_Mod_carries 3 rfl) rfl 0 rfl rfl ?_
    refine Sd_getR (pc' := 11) (dc D_Mod_carries 4 rfl) rfl F_Mod_77 rfl rfl ?_
    refine Sd_aload_n (pc' := 12) (dc D_Mod_carries 5 rfl) rfl 0 rfl rfl ?_
    refine Sd_getI (pc' := 15) (dc D_Mod_carries 6 rfl) rfl F_Mod_528 rfl rfl ?_
    refine Sd_iload_n (pc' := 16) (dc D_Mod_carries 7 rfl) rfl 1 rfl rfl ?_
    refine Sd_iastore (pc' := 17) (dc D_Mod_carries 8 rfl) rfl (by decide) ?_
    refine Sd.sub (l' := [(0, _)]) [0] rfl ?_
    exact s_Mod_carries_L17 _ _
theorem K_Mod_carries : MOk M_Mod_carries 1 := ⟨Tb_at 133 (by decide +kernel) rfl, Tb_at 1895 (by decide +kernel) rfl, by decide +kernel, by decide +kernel, by decide +kernel⟩
theorem Ks_Mod_carries : Cond.instanceMethod yX12_carries ∈ Tb := Tb_at 1894 (by decide +kernel) rfl
theorem Kv_Mod_carries : Cond.selects RX12 yX12_carries yX12_carries ∈ Tb := Tb_at 119 (by decide +kernel) rfl
/-! ===== BatchShareModel.carriesAll(IZ)V ===== -/
abbrev M_Mod_carriesAll : AMt := (yX12_carriesAll, cX12_carriesAll, 4, none)
def T_Mod_carriesAll : List (Nat × Instr × Nat) := [(0, .aload_n 0, 1), (1, .sipush 3278, 3), (4, .iload_n 1, 1), (5, .imul, 1), (6, .putfield 528, 3), (9, .aload_n 0, 1), (10, .iload_n 2, 1), (11, .putfield 525, 3), (14, .aload_n 0, 1), (15, .aload_n 0, 1), (16, .aload_n 0, 1), (17, .getfield 186, 3), (20, .invokevirtual 531, 3), (23, .putfield 186, 3), (26, .aload_n 0, 1), (27, .getfield 9, 3), (30, .bipush 8, 2), (32, .aload_n 0, 1), (33, .aload_n 0, 1), (34, .getfield 9, 3), (37, .bipush 8, 2), (39, .iaload, 1), (40, .invokevirtual 531, 3), (43, .iastore, 1), (44, .iconst 0, 1), (45, .istore_n 3, 1), (46, .iload_n 3, 1), (47, .sipush 3276, 3), (50, .if_icmp .ge 25, 3), (53, .aload_n 0, 1), (54, .getfield 74, 3), (57, .iload_n 3, 1), (58, .aload_n 0, 1), (59, .aload_n 0, 1), (60, .getfield 74, 3), (63, .iload_n 3, 1), (64, .iaload, 1), (65, .invokevirtual 531, 3), (68, .iastore, 1), (69, .iinc 3 1, 3), (72, .goto (-26), 3), (75, .return_, 1)]
set_option maxRecDepth 20000 in
theorem D_Mod_carriesAll : (T_Mod_carriesAll.all fun q => decide (decode M_Mod_carriesAll.2.1 q.1 = .ok q.2)) = true := by decide +kernel
def Mod_carriesAll_L46 : Nat → Nat → Int → AH → Option (Unit × AH)
  | 0, _, _, _ => none
  | n + 1, v0, v3, h => if (3276 : Int) ≤ v3 then (some ((), h)) else (gR h 13 v0 42 fun r1 => gR h 13 v0 42 fun r2 => aI h 21 r2 v3 fun x3 => rc h 13 v0 <| bnd (Mod_carries v0 x3 h) fun x5 h4 => wI h4 21 r1 v3 x5 fun h7 => Mod_carriesAll_L46 n v0 ((wr (v3 + 1))) h7)
set_option maxHeartbeats 4000000 in
set_option maxRecDepth 20000 in
theorem s_Mod_carriesAll_L46 : ∀ (n : Nat) (v0 : Nat) (v3 : Int) (h : AH), Sd M_Mod_carriesAll 2 21 emV 46 [(0, vr v0), (3, vi v3)] [] h (Mod_carriesAll_L46 n v0 v3 h)
  | 0, _, _, _ => Sd.none
  | n + 1, v0, v3, h => by
    rw [Mod_carriesAll_L46]
    refine Sd_iload_n (pc' := 47) (dc D_Mod_carriesAll 26 rfl) rfl 1 rfl rfl ?_
    refine Sd_sipush (pc' := 50) (dc D_Mod_carriesAll 27 rfl) rfl ⟨by decide, by decide⟩ (by decide) ?_
    refine Sd_icmp_ge (tgt := 75) (pc' := 53) (dc D_Mod_carriesAll 28 rfl) (by decide) rfl (fun _ => ?_) (fun _ => ?_)
    · exact Sd_vret (dc D_Mod_carriesAll 41 rfl) rfl
    · refine Sd_aload_n (pc' := 54) (dc D_Mod_carriesAll 29 rfl) rfl 0 rfl rfl ?_
      refine Sd_getR (pc' := 57) (dc D_Mod_carriesAll 30 rfl) rfl F_Mod_74 rfl rfl ?_
      refine Sd_iload_n (pc' := 58) (dc D_Mod_carriesAll 31 rfl) rfl 1 rfl rfl ?_
      refine Sd_aload_n (pc' := 59) (dc D_Mod_carriesAll 32 rfl) rfl 0 rfl rfl ?_
      refine Sd_aload_n (pc' := 60) (dc D_Mod_carriesAll 33 rfl) rfl 0 rfl rfl ?_
      refine Sd_getR (pc' := 63) (dc D_Mod_carriesAll 34 rfl) rfl F_Mod_74 rfl rfl ?_
      refine Sd_iload_n (pc' := 64) (dc D_Mod_carriesAll 35 rfl) rfl 1 rfl rfl ?_
      refine Sd_iaload (pc' := 65) (dc D_Mod_carriesAll 36 rfl) rfl ?_
      refine Sd.callVI (ci := 12) (t := 13) (as := [_]) RX12 (pc' := 68) (dc D_Mod_carriesAll 37 rfl) rfl rfl rfl rfl K_Mod_carries L_Mod_531 Ks_Mod_carries Kv_Mod_carries ⟨by decide, by decide⟩ rfl rfl (Nat.le_of_ble_eq_true rfl) (s_Mod_carries _ _ _) (fun x5 h4 => ?_)
      refine Sd_iastore (pc' := 69) (dc D_Mod_carriesAll 38 rfl) rfl (by decide) ?_
      refine Sd_iinc (pc' := 72) (l' := [(3, _), (0, _)]) (dc D_Mod_carriesAll 39 rfl) rfl 1 rfl (by decide) rfl ?_
      refine Sd_goto (tgt := 46) (dc D_Mod_carriesAll 40 rfl) (by decide) ?_
      refine Sd.sub (l' := [(0, _), (3, _)]) [1, 0] rfl ?_
      exact s_Mod_carriesAll_L46 n _ _ _
def Mod_carriesAll (v0 : Nat) (v1 : Int) (v2 : Int) (h : AH) : Option (Unit × AH) := pI h 13 v0 48 (wr (3278 * v1)) fun h1 => pZ h1 13 v0 49 v2 fun h2 => gI h2 13 v0 43 fun x3 => rc h2 13 v0 <| bnd (Mod_carries v0 x3 h2) fun x5 h4 => pI h4 13 v0 43 x5 fun h7 => gR h7 13 v0 1 fun r8 => gR h7 13 v0 1 fun r9 => aI h7 21 r9 8 fun x10 => rc h7 13 v0 <| bnd (Mod_carries v0 x10 h7) fun x12 h11 => wI h11 21 r8 8 x12 fun h14 => Mod_carriesAll_L46 FU v0 0 h14
set_option maxHeartbeats 4000000 in
set_option maxRecDepth 20000 in
theorem s_Mod_carriesAll (v0 : Nat) (v1 : Int) (v2 : Int) (h : AH) : CS M_Mod_carriesAll 2 21 emV [vr v0, vi v1, vi v2] h (Mod_carriesAll v0 v1 v2 h) := by
  refine CS.of (by decide) (Nat.le_of_ble_eq_true rfl) ?_
  show Sd M_Mod_carriesAll 2 21 emV 0 [(0, vr v0), (1, vi v1), (2, vi v2)] [] h _
  unfold Mod_carriesAll
  refine Sd_aload_n (pc' := 1) (dc D_Mod_carriesAll 0 rfl) rfl 0 rfl rfl ?_
  refine Sd_sipush (pc' := 4) (dc D_Mod_carriesAll 1 rfl) rfl ⟨by decide, by decide⟩ (by decide) ?_
  refine Sd_iload_n (pc' := 5) (dc D_Mod_carriesAll 2 rfl) rfl 1 rfl rfl ?_
  refine Sd_imul (pc' := 6) (dc D_Mod_carriesAll 3 rfl) rfl ?_
  refine Sd_putI (pc' := 9) (dc D_Mod_carriesAll 4 rfl) rfl F_Mod_528 rfl rfl rfl (finOk.no rfl) (by decide) ?_
  refine Sd_aload_n (pc' := 10) (dc D_Mod_carriesAll 5 rfl) rfl 0 rfl rfl ?_
  refine Sd_iload_n (pc' := 11) (dc D_Mod_carriesAll 6 rfl) rfl 2 rfl rfl ?_
  refine Sd_putZ (pc' := 14) (dc D_Mod_carriesAll 7 rfl) rfl F_Mod_525 rfl rfl rfl (finOk.no rfl) (by decide) ?_
  refine Sd_aload_n (pc' := 15) (dc D_Mod_carriesAll 8 rfl) rfl 0 rfl rfl ?_
  refine Sd_aload_n (pc' := 16) (dc D_Mod_carriesAll 9 rfl) rfl 0 rfl rfl ?_
  refine Sd_aload_n (pc' := 17) (dc D_Mod_carriesAll 10 rfl) rfl 0 rfl rfl ?_
  refine Sd_getI (pc' := 20) (dc D_Mod_carriesAll 11 rfl) rfl F_Mod_186 rfl rfl ?_
  refine Sd.callVI (ci := 12) (t := 13) (as := [_]) RX12 (pc' := 23) (dc D_Mod_carriesAll 12 rfl) rfl rfl rfl rfl K_Mod_carries L_Mod_531 Ks_Mod_carries Kv_Mod_carries ⟨by decide, by decide⟩ rfl rfl (Nat.le_of_ble_eq_true rfl) (s_Mod_carries _ _ _) (fun x5 h4 => ?_)
  refine Sd_putI (pc' := 26) (dc D_Mod_carriesAll 13 rfl) rfl F_Mod_186 rfl rfl rfl (finOk.no rfl) (by decide) ?_
  refine Sd_aload_n (pc' := 27) (dc D_Mod_carriesAll 14 rfl) rfl 0 rfl rfl ?_
  refine Sd_getR (pc' := 30) (dc D_Mod_carriesAll 15 rfl) rfl F_Mod_9 rfl rfl ?_
  refine Sd_bipush (pc' := 32) (dc D_Mod_carriesAll 16 rfl) rfl ⟨by decide, by decide⟩ (by decide) ?_
  refine Sd_aload_n (pc' := 33) (dc D_Mod_carriesAll 17 rfl) rfl 0 rfl rfl ?_
  refine Sd_aload_n (pc' := 34) (dc D_Mod_carriesAll 18 rfl) rfl 0 rfl rfl ?_
  refine Sd_getR (pc' := 37) (dc D_Mod_carriesAll 19 rfl) rfl F_Mod_9 rfl rfl ?_
  refine Sd_bipush (pc' := 39) (dc D_Mod_carriesAll 20 rfl) rfl ⟨by decide, by decide⟩ (by decide) ?_
  refine Sd_iaload (pc' := 40) (dc D_Mod_carriesAll 21 rfl) rfl ?_
  refine Sd.callVI (ci := 12) (t := 13) (as := [_]) RX12 (pc' := 43) (dc D_Mod_carriesAll 22 rfl) rfl rfl rfl rfl K_Mod_carries L_Mod_531 Ks_Mod_carries Kv_Mod_carries ⟨by decide, by decide⟩ rfl rfl (Nat.le_of_ble_eq_true rfl) (s_Mod_carries _ _ _) (fun x12 h11 => ?_)
  refine Sd_iastore (pc' := 44) (dc D_Mod_carriesAll 23 rfl) rfl (by decide) ?_
  refine Sd_iconst (pc' := 45) (dc D_Mod_carriesAll 24 rfl) rfl ⟨by decide, by decide⟩ ?_
  refine Sd_istore_n (pc' := 46) (l' := [(3, _), (0, _), (1, _), (2, _)]) (dc D_Mod_carriesAll 25 rfl) rfl rfl (by decide) rfl ?_
  refine Sd.sub (l' := [(0, _), (3, _)]) [1, 0] rfl ?_
  exact s_Mod_carriesAll_L46 FU _ _ _
theorem K_Mod_carriesAll : MOk M_Mod_carriesAll 2 := ⟨Tb_at 133 (by decide +kernel) rfl, Tb_at 1891 (by decide +kernel) rfl, by decide +kernel, by decide +kernel, by decide +kernel⟩
theorem Ks_Mod_carriesAll : Cond.instanceMethod yX12_carriesAll ∈ Tb := Tb_at 1890 (by decide +kernel) rfl
theorem Kv_Mod_carriesAll : Cond.selects RX12 yX12_carriesAll yX12_carriesAll ∈ Tb := Tb_at 118 (by decide +kernel) rfl
/-! ===== BatchShareModel.image(I)I ===== -/
abbrev M_Mod_image : AMt := (yX12_image, cX12_image, 2, (some .int))
def T_Mod_image : List (Nat × Instr × Nat) := [(0, .iload_n 1, 1), (1, .i2l, 1), (2, .lconst 0, 1), (3, .ldc2_w 246, 3), (6, .invokestatic 88, 3), (9, .ifCond .ne 5, 3), (12, .iconst (-1), 1), (13, .ireturn, 1), (14, .aload_n 0, 1), (15, .getfield 80, 3), (18, .iload_n 1, 1), (19, .iconst 1, 1), (20, .bastore, 1), (21, .aload_n 0, 1), (22, .bipush 20, 2), (24, .iconst 0, 1), (25, .invokevirtual 441, 3), (28, .aload_n 0, 1), (29, .iload_n 1, 1), (30, .iconst 0, 1), (31, .invokevirtual 534, 3), (34, .aload_n 0, 1), (35, .getfield 9, 3), (38, .bipush 7, 2), (40, .iaload, 1), (41, .ireturn, 1)]
set_option maxRecDepth 20000 in
theorem D_Mod_image : (T_Mod_image.all fun q => decide (decode M_Mod_image.2.1 q.1 = .ok q.2)) = true := by decide +kernel
def Mod_image (v0 : Nat) (v1 : Int) (h : AH) : Option (Int × AH) := bnd (Mod_in v1 0 3 h) fun x2 h1 => if ¬ (x2 : Int) = 0 then (gR h1 13 v0 47 fun r4 => wZ h1 23 r4 v1 1 fun h5 => rc h5 13 v0 <| bnd (Mod_movesAll v0 20 0 h5) fun _ h6 => rc h6 13 v0 <| bnd (Mod_carriesAll v0 v1 0 h6) fun _ h9 => gR h9 13 v0 1 fun r12 => aI h9 21 r12 7 fun x13 => some (x13, h9)) else (some ((-1), h1))
set_option maxHeartbeats 4000000 in
set_option maxRecDepth 20000 in
theorem s_Mod_image (v0 : Nat) (v1 : Int) (h : AH) : CS M_Mod_image 4 67 emI [vr v0, vi v1] h (Mod_image v0 v1 h) := by
  refine CS.of (by decide) (Nat.le_of_ble_eq_true rfl) ?_
  show Sd M_Mod_image 4 67 emI 0 [(0, vr v0), (1, vi v1)] [] h _
  unfold Mod_image
  refine Sd_iload_n (pc' := 1) (dc D_Mod_image 0 rfl) rfl 1 rfl rfl ?_
  refine Sd_i2l (pc' := 2) (dc D_Mod_image 1 rfl) rfl ?_
  refine Sd_lconst (z := 0) (pc' := 3) (dc D_Mod_image 2 rfl) rfl ⟨by decide, by decide⟩ (by decide) ?_
  refine Sd_ldc2 (n := 3) (pc' := 6) (dc D_Mod_image 3 rfl) rfl ⟨by decide, by decide⟩ Q_Mod_246 ?_
  refine Sd.callSI (as := [_, _, _]) (pc' := 9) (dc D_Mod_image 4 rfl) rfl K_Mod_in L_Mod_88 Ks_Mod_in ⟨by decide, by decide⟩ rfl rfl (Nat.le_of_ble_eq_true rfl) (s_Mod_in _ _ _ _) (fun x2 h1 => ?_)
  refine Sd_if_ne (tgt := 14) (pc' := 12) (dc D_Mod_image 5 rfl) (by decide) rfl (fun _ => ?_) (fun _ => ?_)
  · refine Sd_aload_n (pc' := 15) (dc D_Mod_image 8 rfl) rfl 0 rfl rfl ?_
    refine Sd_getR (pc' := 18) (dc D_Mod_image 9 rfl) rfl F_Mod_80 rfl rfl ?_
    refine Sd_iload_n (pc' := 19) (dc D_Mod_image 10 rfl) rfl 1 rfl rfl ?_
    refine Sd_iconst (pc' := 20) (dc D_Mod_image 11 rfl) rfl ⟨by decide, by decide⟩ ?_
    refine Sd_zastore (pc' := 21) (dc D_Mod_image 12 rfl) rfl (by decide) ?_
    refine Sd_aload_n (pc' := 22) (dc D_Mod_image 13 rfl) rfl 0 rfl rfl ?_
    refine Sd_bipush (pc' := 24) (dc D_Mod_image 14 rfl) rfl ⟨by decide, by decide⟩ (by decide) ?_
    refine Sd_iconst (pc' := 25) (dc D_Mod_image 15 rfl) rfl ⟨by decide, by decide⟩ ?_
    refine Sd.callVV (ci := 12) (t := 13) (as := [_, _]) RX12 (pc' := 28) (dc D_Mod_image 16 rfl) rfl rfl rfl rfl K_Mod_movesAll L_Mod_441 Ks_Mod_movesAll Kv_Mod_movesAll ⟨by decide, by decide⟩ rfl rfl (Nat.le_of_ble_eq_true rfl) (s_Mod_movesAll _ _ _ _) (fun _ h6 => ?_)
    refine Sd_aload_n (pc' := 29) (dc D_Mod_image 17 rfl) rfl 0 rfl rfl ?_
    refine Sd_iload_n (pc' := 30) (dc D_Mod_image 18 rfl) rfl 1 rfl rfl ?_
    refine Sd_iconst (pc' := 31) (dc D_Mod_image 19 rfl) rfl ⟨by decide, by decide⟩ ?_
    refine Sd.callVV (ci := 12) (t := 13) (as := [_, _]) RX12 (pc' := 34) (dc D_Mod_image 20 rfl) rfl rfl rfl rfl K_Mod_carriesAll L_Mod_534 Ks_Mod_carriesAll Kv_Mod_carriesAll ⟨by decide, by decide⟩ rfl rfl (Nat.le_of_ble_eq_true rfl) (s_Mod_carriesAll _ _ _ _) (fun _ h9 => ?_)
    refine Sd_aload_n (pc' := 35) (dc D_Mod_image 21 rfl) rfl 0 rfl rfl ?_
    refine Sd_getR (pc' := 38) (dc D_Mod_image 22 rfl) rfl F_Mod_9 rfl rfl ?_
    refine Sd_bipush (pc' := 40) (dc D_Mod_image 23 rfl) rfl ⟨by decide, by decide⟩ (by decide) ?_
    refine Sd_iaload (pc' := 41) (dc D_Mod_image 24 rfl) rfl ?_
    exact Sd_iret (dc D_Mod_image 25 rfl) rfl
  · refine Sd_iconst (pc' := 13) (dc D_Mod_image 6 rfl) rfl ⟨by decide, by decide⟩ ?_
    exact Sd_iret (dc D_Mod_image 7 rfl) rfl
theorem K_Mod_image : MOk M_Mod_image 1 := ⟨Tb_at 133 (by decide +kernel) rfl, Tb_at 1887 (by decide +kernel) rfl, by decide +kernel, by decide +kernel, by decide +kernel⟩
theorem Ks_Mod_image : Cond.instanceMethod yX12_image ∈ Tb := Tb_at 1885 (by decide +kernel) rfl
theorem Kv_Mod_image : Cond.selects RX12 yX12_image yX12_image ∈ Tb := Tb_at 1886 (by decide +kernel) rfl
/-! ===== BatchShareModel.back(I)I ===== -/
abbrev M_Mod_back : AMt := (yX12_back, cX12_back, 2, (some .int))
def T_Mod_back : List (Nat × Instr × Nat) := [(0, .iload_n 1, 1), (1, .i2l, 1), (2, .lconst 0, 1), (3, .ldc2_w 246, 3), (6, .invokestatic 88, 3), (9, .ifCond .eq 12, 3), (12, .aload_n 0, 1), (13, .getfield 80, 3), (16, .iload_n 1, 1), (17, .baload, 1), (18, .ifCond .ne 5, 3), (21, .iconst (-1), 1), (22, .ireturn, 1), (23, .aload_n 0, 1), (24, .iload_n 1, 1), (25, .iconst 1, 1), (26, .invokevirtual 534, 3), (29, .aload_n 0, 1), (30, .bipush 20, 2), (32, .iconst 1, 1), (33, .invokevirtual 441, 3), (36, .aload_n 0, 1), (37, .getfield 9, 3), (40, .bipush 7, 2), (42, .iaload, 1), (43, .ireturn, 1)]
set_option maxRecDepth 20000 in
theorem D_Mod_back : (T_Mod_back.all fun q => decide (decode M_Mod_back.2.1 q.1 = .ok q.2)) = true := by decide +kernel
def Mod_back (v0 : Nat) (v1 : Int) (h : AH) : Option (Int × AH) := bnd (Mod_in v1 0 3 h) fun x2 h1 => if (x2 : Int) = 0 then (some ((-1), h1)) else (gR h1 13 v0 47 fun r4 => aI h1 23 r4 v1 fun x5 => if ¬ (x5 : Int) = 0 then (rc h1 13 v0 <| bnd (Mod_carriesAll v0 v1 1 h1) fun _ h6 => rc h6 13 v0 <| bnd (Mod_movesAll v0 20 1 h6) fun _ h9 => gR h9 13 v0 1 fun r12 => aI h9 21 r12 7 fun x13 => some (x13, h9)) else (some ((-1), h1)))
set_option maxHeartbeats 4000000 in
set_option maxRecDepth 20000 in
theorem s_Mod_back (v0 : Nat) (v1 : Int) (h : AH) : CS M_Mod_back 4 67 emI [vr v0, vi v1] h (Mod_back v0 v1 h) := by
  refine CS.of (by decide) (Nat.le_of_ble_eq_true rfl) ?_
  show Sd M_Mod_back 4 67 emI 0 [(0, vr v0), (1, vi v1)] [] h _
  unfold Mod_back
  refine Sd_iload_n (pc' := 1) (dc D_Mod_back 0 rfl) rfl 1 rfl rfl ?_
  refine Sd_i2l (pc' := 2) (dc D_Mod_back 1 rfl) rfl ?_
  refine Sd_lconst (z := 0) (pc' := 3) (dc D_Mod_back 2 rfl) rfl ⟨by decide, by decide⟩ (by decide) ?_
  refine Sd_ldc2 (n := 3) (pc' := 6) (dc D_Mod_back 3 rfl) rfl ⟨by decide, by decide⟩ Q_Mod_246 ?_
  refine Sd.callSI (as := [_, _, _]) (pc' := 9) (dc D_Mod_back 4 rfl) rfl K_Mod_in L_Mod_88 Ks_Mod_in ⟨by decide, by decide⟩ rfl rfl (Nat.le_of_ble_eq_true rfl) (s_Mod_in _ _ _ _) (fun x2 h1 => ?_)
  refine Sd_if_eq (tgt := 21) (pc' := 12) (dc D_Mod_back 5 rfl) (by decide) rfl (fun _ => ?_) (fun _ => ?_)
  · refine Sd_iconst (pc' := 22) (dc D_Mod_back 11 rfl) rfl ⟨by decide, by decide⟩ ?_
    exact Sd_iret (dc D_Mod_back 12 rfl) rfl
  · refine Sd_aload_n (pc' := 13) (dc D_Mod_back 6 rfl) rfl 0 rfl rfl ?_
    refine Sd_getR (pc' := 16) (dc D_Mod_back 7 rfl) rfl F_Mod_80 rfl rfl ?_
    refine Sd_iload_n (pc' := 17) (dc D_Mod_back 8 rfl) rfl 1 rfl rfl ?_
    refine Sd_zaload (pc' := 18) (dc D_Mod_back 9 rfl) rfl ?_
    refine Sd_if_ne (tgt := 23) (pc' := 21) (dc D_Mod_back 10 rfl) (by decide) rfl (fun _ => ?_) (fun _ => ?_)
    · refine Sd_aload_n (pc' := 24) (dc D_Mod_back 13 rfl) rfl 0 rfl rfl ?_
      refine Sd_iload_n (pc' := 25) (dc D_Mod_back 14 rfl) rfl 1 rfl rfl ?_
      refine Sd_iconst (pc' := 26) (dc D_Mod_back 15 rfl) rfl ⟨by decide, by decide⟩ ?_
      refine Sd.callVV (ci := 12) (t := 13) (as := [_, _]) RX12 (pc' := 29) (dc D_Mod_back 16 rfl) rfl rfl rfl rfl K_Mod_carriesAll L_Mod_534 Ks_Mod_carriesAll Kv_Mod_carriesAll ⟨by decide, by decide⟩ rfl rfl (Nat.le_of_ble_eq_true rfl) (s_Mod_carriesAll _ _ _ _) (fun _ h6 => ?_)
      refine Sd_aload_n (pc' := 30) (dc D_Mod_back 17 rfl) rfl 0 rfl rfl ?_
      refine Sd_bipush (pc' := 32) (dc D_Mod_back 18 rfl) rfl ⟨by decide, by decide⟩ (by decide) ?_
      refine Sd_iconst (pc' := 33) (dc D_Mod_back 19 rfl) rfl ⟨by decide, by decide⟩ ?_
      refine Sd.callVV (ci := 12) (t := 13) (as := [_, _]) RX12 (pc' := 36) (dc D_Mod_back 20 rfl) rfl rfl rfl rfl K_Mod_movesAll L_Mod_441 Ks_Mod_movesAll Kv_Mod_movesAll ⟨by decide, by decide⟩ rfl rfl (Nat.le_of_ble_eq_true rfl) (s_Mod_movesAll _ _ _ _) (fun _ h9 => ?_)
      refine Sd_aload_n (pc' := 37) (dc D_Mod_back 21 rfl) rfl 0 rfl rfl ?_
      refine Sd_getR (pc' := 40) (dc D_Mod_back 22 rfl) rfl F_Mod_9 rfl rfl ?_
      refine Sd_bipush (pc' := 42) (dc D_Mod_back 23 rfl) rfl ⟨by decide, by decide⟩ (by decide) ?_
      refine Sd_iaload (pc' := 43) (dc D_Mod_back 24 rfl) rfl ?_
      exact Sd_iret (dc D_Mod_back 25 rfl) rfl
    · refine Sd_iconst (pc' := 22) (dc D_Mod_back 11 rfl) rfl ⟨by decide, by decide⟩ ?_
      exact Sd_iret (dc D_Mod_back 12 rfl) rfl
theorem K_Mod_back : MOk M_Mod_back 1 := ⟨Tb_at 133 (by decide +kernel) rfl, Tb_at 1899 (by decide +kernel) rfl, by decide +kernel, by decide +kernel, by decide +kernel⟩
theorem Ks_Mod_back : Cond.instanceMethod yX12_back ∈ Tb := Tb_at 1897 (by decide +kernel) rfl
theorem Kv_Mod_back : Cond.selects RX12 yX12_back yX12_back ∈ Tb := Tb_at 1898 (by decide +kernel) rfl
