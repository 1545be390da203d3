/-! ===== BatchShare$Table.<init>(III)V ===== -/
abbrev M_Tab_init : AMt := (yX9_init, cX9_init, 4, none)
def T_Tab_init : List (Nat × Instr × Nat) := [(0, .aload_n 0, 1), (1, .invokespecial 3, 3), (4, .aload_n 0, 1), (5, .iload_n 1, 1), (6, .putfield 9, 3), (9, .aload_n 0, 1), (10, .iload_n 2, 1), (11, .putfield 15, 3), (14, .aload_n 0, 1), (15, .iload_n 3, 1), (16, .iload_n 2, 1), (17, .imul, 1), (18, .newarray .int, 2), (20, .putfield 18, 3), (23, .return_, 1)]
set_option maxRecDepth 20000 in
theorem D_Tab_init : (T_Tab_init.all fun q => decide (decode M_Tab_init.2.1 q.1 = .ok q.2)) = true := by decide +kernel
def Tab_init (v0 : Nat) (v1 : Int) (v2 : Int) (v3 : Int) (h : AH) : Option (Unit × AH) := oi v0 <| pI h 10 v0 0 v1 fun h1 => pI h1 10 v0 1 v2 fun h2 => nA h2 21 (wr (v3 * v2)) fun r3 h4 => pR h4 10 v0 2 r3 fun h5 => some ((), h5)
set_option maxHeartbeats 4000000 in
set_option maxRecDepth 20000 in
theorem s_Tab_init (v0 : Nat) (v1 : Int) (v2 : Int) (v3 : Int) (h : AH) : CS M_Tab_init 1 20 emV [vr v0, vi v1, vi v2, vi v3] h (Tab_init v0 v1 v2 v3 h) := by
  refine CS.of (by decide) (Nat.le_of_ble_eq_true rfl) ?_
  show Sd M_Tab_init 1 20 emV 0 [(0, vr v0), (1, vi v1), (2, vi v2), (3, vi v3)] [] h _
  unfold Tab_init
  refine Sd_aload_n (pc' := 1) (dc D_Tab_init 0 rfl) rfl 0 rfl rfl ?_
  refine Sd_oi (pc' := 4) (dc D_Tab_init 1 rfl) rfl L_Tab_3 W_obj2 W_obj3 (by decide) (Nat.le_of_ble_eq_true rfl) ?_
  refine Sd_aload_n (pc' := 5) (dc D_Tab_init 2 rfl) rfl 0 rfl rfl ?_
  refine Sd_iload_n (pc' := 6) (dc D_Tab_init 3 rfl) rfl 1 rfl rfl ?_
  refine Sd_putI (pc' := 9) (dc D_Tab_init 4 rfl) rfl F_Tab_9 rfl rfl rfl (finOk.yes rfl rfl) (by decide) ?_
  refine Sd_aload_n (pc' := 10) (dc D_Tab_init 5 rfl) rfl 0 rfl rfl ?_
  refine Sd_iload_n (pc' := 11) (dc D_Tab_init 6 rfl) rfl 2 rfl rfl ?_
  refine Sd_putI (pc' := 14) (dc D_Tab_init 7 rfl) rfl F_Tab_15 rfl rfl rfl (finOk.yes rfl rfl) (by decide) ?_
  refine Sd_aload_n (pc' := 15) (dc D_Tab_init 8 rfl) rfl 0 rfl rfl ?_
  refine Sd_iload_n (pc' := 16) (dc D_Tab_init 9 rfl) rfl 3 rfl rfl ?_
  refine Sd_iload_n (pc' := 17) (dc D_Tab_init 10 rfl) rfl 2 rfl rfl ?_
  refine Sd_imul (pc' := 18) (dc D_Tab_init 11 rfl) rfl ?_
  refine Sd_newarray (t := 21) (j := 0) (ty := .int) (pc' := 20) (dc D_Tab_init 12 rfl) rfl rfl (by decide) rfl W_aI (by decide) rfl (fun _ _ h => h) ?_
  refine Sd_putR (pc' := 23) (dc D_Tab_init 13 rfl) rfl F_Tab_18 rfl rfl rfl (finOk.yes rfl rfl) (by decide) ?_
  exact Sd_vret (dc D_Tab_init 14 rfl) rfl
theorem K_Tab_init : MOk M_Tab_init 3 := ⟨Tb_at 128 (by decide +kernel) rfl, Tb_at 257 (by decide +kernel) rfl, by decide +kernel, by decide +kernel, by decide +kernel⟩
theorem Ks_Tab_init : Cond.instanceMethod yX9_init ∈ Tb := Tb_at 256 (by decide +kernel) rfl
/-! ===== BatchShare$Table.isFull()Z ===== -/
abbrev M_Tab_isFull : AMt := (yX9_isFull, cX9_isFull, 1, (some .boolean))
def T_Tab_isFull : List (Nat × Instr × Nat) := [(0, .aload_n 0, 1), (1, .getfield 22, 3), (4, .iconst 1, 1), (5, .iadd, 1), (6, .aload_n 0, 1), (7, .getfield 15, 3), (10, .imul, 1), (11, .aload_n 0, 1), (12, .getfield 18, 3), (15, .arraylength, 1), (16, .if_icmp .le 7, 3), (19, .iconst 1, 1), (20, .goto 4, 3), (23, .iconst 0, 1), (24, .ireturn, 1)]
set_option maxRecDepth 20000 in
theorem D_Tab_isFull : (T_Tab_isFull.all fun q => decide (decode M_Tab_isFull.2.1 q.1 = .ok q.2)) = true := by decide +kernel
def Tab_isFull (v0 : Nat) (h : AH) : Option (Int × AH) := gI h 10 v0 3 fun x1 => gI h 10 v0 1 fun x2 => gR h 10 v0 2 fun r3 => aN h 21 r3 fun x4 => if ((wr ((wr (x1 + 1)) * x2)) : Int) ≤ x4 then (some (0, h)) else (some (1, h))
set_option maxHeartbeats 4000000 in
set_option maxRecDepth 20000 in
theorem s_Tab_isFull (v0 : Nat) (h : AH) : CS M_Tab_isFull 1 0 emI [vr v0] h (Tab_isFull v0 h) := by
  refine CS.of (by decide) (Nat.le_of_ble_eq_true rfl) ?_
  show Sd M_Tab_isFull 1 0 emI 0 [(0, vr v0)] [] h _
  unfold Tab_isFull
  refine Sd_aload_n (pc' := 1) (dc D_Tab_isFull 0 rfl) rfl 0 rfl rfl ?_
  refine Sd_getI (pc' := 4) (dc D_Tab_isFull 1 rfl) rfl F_Tab_22 rfl rfl ?_
  refine Sd_iconst (pc' := 5) (dc D_Tab_isFull 2 rfl) rfl ⟨by decide, by decide⟩ ?_
  refine Sd_iadd (pc' := 6) (dc D_Tab_isFull 3 rfl) rfl ?_
  refine Sd_aload_n (pc' := 7) (dc D_Tab_isFull 4 rfl) rfl 0 rfl rfl ?_
  refine Sd_getI (pc' := 10) (dc D_Tab_isFull 5 rfl) rfl F_Tab_15 rfl rfl ?_
  refine Sd_imul (pc' := 11) (dc D_Tab_isFull 6 rfl) rfl ?_
  refine Sd_aload_n (pc' := 12) (dc D_Tab_isFull 7 rfl) rfl 0 rfl rfl ?_
  refine Sd_getR (pc' := 15) (dc D_Tab_isFull 8 rfl) rfl F_Tab_18 rfl rfl ?_
  refine Sd_alen (t := 21) (j := 0) (pc' := 16) (dc D_Tab_isFull 9 rfl) rfl rfl (by decide) (by decide) ?_
  refine Sd_icmp_le (tgt := 23) (pc' := 19) (dc D_Tab_isFull 10 rfl) (by decide) rfl (fun _ => ?_) (fun _ => ?_)
  · refine Sd_iconst (pc' := 24) (dc D_Tab_isFull 13 rfl) rfl ⟨by decide, by decide⟩ ?_
    exact Sd_zret (dc D_Tab_isFull 14 rfl) rfl (Or.inl rfl)
  · refine Sd_iconst (pc' := 20) (dc D_Tab_isFull 11 rfl) rfl ⟨by decide, by decide⟩ ?_
    refine Sd_goto (tgt := 24) (dc D_Tab_isFull 12 rfl) (by decide) ?_
    exact Sd_zret (dc D_Tab_isFull 14 rfl) rfl (Or.inr rfl)
theorem K_Tab_isFull : MOk M_Tab_isFull 0 := ⟨Tb_at 128 (by decide +kernel) rfl, Tb_at 605 (by decide +kernel) rfl, by decide +kernel, by decide +kernel, by decide +kernel⟩
theorem Ks_Tab_isFull : Cond.instanceMethod yX9_isFull ∈ Tb := Tb_at 603 (by decide +kernel) rfl
theorem Kv_Tab_isFull : Cond.selects RX9 yX9_isFull yX9_isFull ∈ Tb := Tb_at 604 (by decide +kernel) rfl
/-! ===== BatchShare$Table.hasRow(I)Z ===== -/
abbrev M_Tab_hasRow : AMt := (yX9_hasRow, cX9_hasRow, 2, (some .boolean))
def T_Tab_hasRow : List (Nat × Instr × Nat) := [(0, .iload_n 1, 1), (1, .ifCond .lt 15, 3), (4, .iload_n 1, 1), (5, .aload_n 0, 1), (6, .getfield 22, 3), (9, .if_icmp .ge 7, 3), (12, .iconst 1, 1), (13, .goto 4, 3), (16, .iconst 0, 1), (17, .ireturn, 1)]
set_option maxRecDepth 20000 in
theorem D_Tab_hasRow : (T_Tab_hasRow.all fun q => decide (decode M_Tab_hasRow.2.1 q.1 = .ok q.2)) = true := by decide +kernel
def Tab_hasRow (v0 : Nat) (v1 : Int) (h : AH) : Option (Int × AH) := if (v1 : Int) < 0 then (some (0, h)) else (gI h 10 v0 3 fun x1 => if (x1 : Int) ≤ v1 then (some (0, h)) else (some (1, h)))
set_option maxHeartbeats 4000000 in
set_option maxRecDepth 20000 in
theorem s_Tab_hasRow (v0 : Nat) (v1 : Int) (h : AH) : CS M_Tab_hasRow 1 0 emI [vr v0, vi v1] h (Tab_hasRow v0 v1 h) := by
  refine CS.of (by decide) (Nat.le_of_ble_eq_true rfl) ?_
  show Sd M_Tab_hasRow 1 0 emI 0 [(0, vr v0), (1, vi v1)] [] h _
  unfold Tab_hasRow
  refine Sd_iload_n (pc' := 1) (dc D_Tab_hasRow 0 rfl) rfl 1 rfl rfl ?_
  refine Sd_if_lt (tgt := 16) (pc' := 4) (dc D_Tab_hasRow 1 rfl) (by decide) rfl (fun _ => ?_) (fun _ => ?_)
  · refine Sd_iconst (pc' := 17) (dc D_Tab_hasRow 8 rfl) rfl ⟨by decide, by decide⟩ ?_
    exact Sd_zret (dc D_Tab_hasRow 9 rfl) rfl (Or.inl rfl)
  · refine Sd_iload_n (pc' := 5) (dc D_Tab_hasRow 2 rfl) rfl 1 rfl rfl ?_
    refine Sd_aload_n (pc' := 6) (dc D_Tab_hasRow 3 rfl) rfl 0 rfl rfl ?_
    refine Sd_getI (pc' := 9) (dc D_Tab_hasRow 4 rfl) rfl F_Tab_22 rfl rfl ?_
    refine Sd_icmp_ge (tgt := 16) (pc' := 12) (dc D_Tab_hasRow 5 rfl) (by decide) rfl (fun _ => ?_) (fun _ => ?_)
    · refine Sd_iconst (pc' := 17) (dc D_Tab_hasRow 8 rfl) rfl ⟨by decide, by decide⟩ ?_
      exact Sd_zret (dc D_Tab_hasRow 9 rfl) rfl (Or.inl rfl)
    · refine Sd_iconst (pc' := 13) (dc D_Tab_hasRow 6 rfl) rfl ⟨by decide, by decide⟩ ?_
      refine Sd_goto (tgt := 17) (dc D_Tab_hasRow 7 rfl) (by decide) ?_
      exact Sd_zret (dc D_Tab_hasRow 9 rfl) rfl (Or.inr rfl)
theorem K_Tab_hasRow : MOk M_Tab_hasRow 1 := ⟨Tb_at 128 (by decide +kernel) rfl, Tb_at 618 (by decide +kernel) rfl, by decide +kernel, by decide +kernel, by decide +kernel⟩
theorem Ks_Tab_hasRow : Cond.instanceMethod yX9_hasRow ∈ Tb := Tb_at 616 (by decide +kernel) rfl
theorem Kv_Tab_hasRow : Cond.selects RX9 yX9_hasRow yX9_hasRow ∈ Tb := Tb_at 617 (by decide +kernel) rfl
/-! ===== BatchShare$Table.hasCol(I)Z ===== -/
abbrev M_Tab_hasCol : AMt := (yX9_hasCol, cX9_hasCol, 2, (some .boolean))
def T_Tab_hasCol : List (Nat × Instr × Nat) := [(0, .iload_n 1, 1), (1, .aload_n 0, 1), (2, .getfield 9, 3), (5, .if_icmp .lt 20, 3), (8, .iload_n 1, 1), (9, .aload_n 0, 1), (10, .getfield 9, 3), (13, .aload_n 0, 1), (14, .getfield 15, 3), (17, .iadd, 1), (18, .if_icmp .ge 7, 3), (21, .iconst 1, 1), (22, .goto 4, 3), (25, .iconst 0, 1), (26, .ireturn, 1)]
set_option maxRecDepth 20000 in
theorem D_Tab_hasCol : (T_Tab_hasCol.all fun q => decide (decode M_Tab_hasCol.2.1 q.1 = .ok q.2)) = true := by decide +kernel
def Tab_hasCol (v0 : Nat) (v1 : Int) (h : AH) : Option (Int × AH) := gI h 10 v0 0 fun x1 => if (v1 : Int) < x1 then (some (0, h)) else (gI h 10 v0 0 fun x2 => gI h 10 v0 1 fun x3 => if ((wr (x2 + x3)) : Int) ≤ v1 then (some (0, h)) else (some (1, h)))
set_option maxHeartbeats 4000000 in
set_option maxRecDepth 20000 in
theorem s_Tab_hasCol (v0 : Nat) (v1 : Int) (h : AH) : CS M_Tab_hasCol 1 0 emI [vr v0, vi v1] h (Tab_hasCol v0 v1 h) := by
  refine CS.of (by decide) (Nat.le_of_ble_eq_true rfl) ?_
  show Sd M_Tab_hasCol 1 0 emI 0 [(0, vr v0), (1, vi v1)] [] h _
  unfold Tab_hasCol
  refine Sd_iload_n (pc' := 1) (dc D_Tab_hasCol 0 rfl) rfl 1 rfl rfl ?_
  refine Sd_aload_n (pc' := 2) (dc D_Tab_hasCol 1 rfl) rfl 0 rfl rfl ?_
  refine Sd_getI (pc' := 5) (dc D_Tab_hasCol 2 rfl) rfl F_Tab_9 rfl rfl ?_
  refine Sd_icmp_lt (tgt := 25) (pc' := 8) (dc D_Tab_hasCol 3 rfl) (by decide) rfl (fun _ => ?_) (fun _ => ?_)
  · refine Sd_iconst (pc' := 26) (dc D_Tab_hasCol 13 rfl) rfl ⟨by decide, by decide⟩ ?_
    exact Sd_zret (dc D_Tab_hasCol 14 rfl) rfl (Or.inl rfl)
  · refine Sd_iload_n (pc' := 9) (dc D_Tab_hasCol 4 rfl) rfl 1 rfl rfl ?_
    refine Sd_aload_n (pc' := 10) (dc D_Tab_hasCol 5 rfl) rfl 0 rfl rfl ?_
    refine Sd_getI (pc' := 13) (dc D_Tab_hasCol 6 rfl) rfl F_Tab_9 rfl rfl ?_
    refine Sd_aload_n (pc' := 14) (dc D_Tab_hasCol 7 rfl) rfl 0 rfl rfl ?_
    refine Sd_getI (pc' := 17) (dc D_Tab_hasCol 8 rfl) rfl F_Tab_15 rfl rfl ?_
    refine Sd_iadd (pc' := 18) (dc D_Tab_hasCol 9 rfl) rfl ?_
    refine Sd_icmp_ge (tgt := 25) (pc' := 21) (dc D_Tab_hasCol 10 rfl) (by decide) rfl (fun _ => ?_) (fun _ => ?_)
    · refine Sd_iconst (pc' := 26) (dc D_Tab_hasCol 13 rfl) rfl ⟨by decide, by decide⟩ ?_
      exact Sd_zret (dc D_Tab_hasCol 14 rfl) rfl (Or.inl rfl)
    · refine Sd_iconst (pc' := 22) (dc D_Tab_hasCol 11 rfl) rfl ⟨by decide, by decide⟩ ?_
      refine Sd_goto (tgt := 26) (dc D_Tab_hasCol 12 rfl) (by decide) ?_
      exact Sd_zret (dc D_Tab_hasCol 14 rfl) rfl (Or.inr rfl)
theorem K_Tab_hasCol : MOk M_Tab_hasCol 1 := ⟨Tb_at 128 (by decide +kernel) rfl, Tb_at 622 (by decide +kernel) rfl, by decide +kernel, by decide +kernel, by decide +kernel⟩
theorem Ks_Tab_hasCol : Cond.instanceMethod yX9_hasCol ∈ Tb := Tb_at 620 (by decide +kernel) rfl
theorem Kv_Tab_hasCol : Cond.selects RX9 yX9_hasCol yX9_hasCol ∈ Tb := Tb_at 621 (by decide +kernel) rfl
/-! ===== BatchShare$Table.write(III)V ===== -/
abbrev M_Tab_write : AMt := (yX9_write, cX9_write, 4, none)
def T_Tab_write : List (Nat × Instr × Nat) := [(0, .aload_n 0, 1), (1, .iload_n 1, 1), (2, .invokevirtual 25, 3), (5, .ifCond .eq 30, 3), (8, .aload_n 0, 1), (9, .iload_n 2, 1), (10, .invokevirtual 29, 3), (13, .ifCond .eq 22, 3), (16, .aload_n 0, 1), (17, .getfield 18, 3), (20, .iload_n 1, 1), (21, .aload_n 0, 1), (22, .getfield 15, 3), (25, .imul, 1), (26, .iload_n 2, 1), (27, .iadd, 1), (28, .aload_n 0, 1), (29, .getfield 9, 3), (32, .isub, 1), (33, .iload_n 3, 1), (34, .iastore, 1), (35, .return_, 1)]
set_option maxRecDepth 20000 in
theorem D_Tab_write : (T_Tab_write.all fun q => decide (decode M_Tab_write.2.1 q.1 = .ok q.2)) = true := by decide +kernel
def Tab_write (v0 : Nat) (v1 : Int) (v2 : Int) (v3 : Int) (h : AH) : Option (Unit × AH) := rc h 10 v0 <| bnd (Tab_hasRow v0 v1 h) fun x2 h1 => if (x2 : Int) = 0 then (some ((), h1)) else (rc h1 10 v0 <| bnd (Tab_hasCol v0 v2 h1) fun x5 h4 => if (x5 : Int) = 0 then (some ((), h4)) else (gR h4 10 v0 2 fun r7 => gI h4 10 v0 1 fun x8 => gI h4 10 v0 0 fun x9 => wI h4 21 r7 (wr ((wr ((wr (v1 * x8)) + v2)) - x9)) v3 fun h10 => some ((), h10)))
set_option maxHeartbeats 4000000 in
set_option maxRecDepth 20000 in
theorem s_Tab_write (v0 : Nat) (v1 : Int) (v2 : Int) (v3 : Int) (h : AH) : CS M_Tab_write 2 21 emV [vr v0, vi v1, vi v2, vi v3] h (Tab_write v0 v1 v2 v3 h) := by
  refine CS.of (by decide) (Nat.le_of_ble_eq_true rfl) ?_
  show Sd M_Tab_write 2 21 emV 0 [(0, vr v0), (1, vi v1), (2, vi v2), (3, vi v3)] [] h _
  unfold Tab_write
  refine Sd_aload_n (pc' := 1) (dc D_Tab_write 0 rfl) rfl 0 rfl rfl ?_
  refine Sd_iload_n (pc' := 2) (dc D_Tab_write 1 rfl) rfl 1 rfl rfl ?_
  refine Sd.callVI (ci := 9) (t := 10) (as := [_]) RX9 (pc' := 5) (dc D_Tab_write 2 rfl) rfl rfl rfl rfl K_Tab_hasRow L_Tab_25 Ks_Tab_hasRow Kv_Tab_hasRow ⟨by decide, by decide⟩ rfl rfl (Nat.le_of_ble_eq_true rfl) (s_Tab_hasRow _ _ _) (fun x2 h1 => ?_)
  refine Sd_if_eq (tgt := 35) (pc' := 8) (dc D_Tab_write 3 rfl) (by decide) rfl (fun _ => ?_) (fun _ => ?_)
  · exact Sd_vret (dc D_Tab_write 21 rfl) rfl
  · refine Sd_aload_n (pc' := 9) (dc D_Tab_write 4 rfl) rfl 0 rfl rfl ?_
    refine Sd_iload_n (pc' := 10) (dc D_Tab_write 5 rfl) rfl 2 rfl rfl ?_
    refine Sd.callVI (ci := 9) (t := 10) (as := [_]) RX9 (pc' := 13) (dc D_Tab_write 6 rfl) rfl rfl rfl rfl K_Tab_hasCol L_Tab_29 Ks_Tab_hasCol Kv_Tab_hasCol ⟨by decide, by decide⟩ rfl rfl (Nat.le_of_ble_eq_true rfl) (s_Tab_hasCol _ _ _) (fun x5 h4 => ?_)
    refine Sd_if_eq (tgt := 35) (pc' := 16) (dc D_Tab_write 7 rfl) (by decide) rfl (fun _ => ?_) (fun _ => ?_)
    · exact Sd_vret (dc D_Tab_write 21 rfl) rfl
    · refine Sd_aload_n (pc' := 17) (dc D_Tab_write 8 rfl) rfl 0 rfl rfl ?_
      refine Sd_getR (pc' := 20) (dc D_Tab_write 9 rfl) rfl F_Tab_18 rfl rfl ?_
      refine Sd_iload_n (pc' := 21) (dc D_Tab_write 10 rfl) rfl 1 rfl rfl ?_
      refine Sd_aload_n (pc' := 22) (dc D_Tab_write 11 rfl) rfl 0 rfl rfl ?_
      refine Sd_getI (pc' := 25) (dc D_Tab_write 12 rfl) rfl F_Tab_15 rfl rfl ?_
      refine Sd_imul (pc' := 26) (dc D_Tab_write 13 rfl) rfl ?_
      refine Sd_iload_n (pc' := 27) (dc D_Tab_write 14 rfl) rfl 2 rfl rfl ?_
      refine Sd_iadd (pc' := 28) (dc D_Tab_write 15 rfl) rfl ?_
      refine Sd_aload_n (pc' := 29) (dc D_Tab_write 16 rfl) rfl 0 rfl rfl ?_
      refine Sd_getI (pc' := 32) (dc D_Tab_write 17 rfl) rfl F_Tab_9 rfl rfl ?_
      refine Sd_isub (pc' := 33) (dc D_Tab_write 18 rfl) rfl ?_
      refine Sd_iload_n (pc' := 34) (dc D_Tab_write 19 rfl) rfl 3 rfl rfl ?_
      refine Sd_iastore (pc' := 35) (dc D_Tab_write 20 rfl) rfl (by decide) ?_
      exact Sd_vret (dc D_Tab_write 21 rfl) rfl
theorem K_Tab_write : MOk M_Tab_write 3 := ⟨Tb_at 128 (by decide +kernel) rfl, Tb_at 614 (by decide +kernel) rfl, by decide +kernel, by decide +kernel, by decide +kernel⟩
theorem Ks_Tab_write : Cond.instanceMethod yX9_write ∈ Tb := Tb_at 612 (by decide +kernel) rfl
theorem Kv_Tab_write : Cond.selects RX9 yX9_write yX9_write ∈ Tb := Tb_at 613 (by decide +kernel) rfl
/-! ===== BatchShare$Table.append(III)V ===== -/
abbrev M_Tab_append : AMt := (yX9_append, cX9_append, 4, none)
def T_Tab_append : List (Nat × Instr × Nat) := [(0, .aload_n 0, 1), (1, .invokevirtual 32, 3), (4, .ifCond .eq 4, 3), (7, .return_, 1), (8, .aload_n 0, 1), (9, .dup, 1), (10, .getfield 22, 3), (13, .iconst 1, 1), (14, .iadd, 1), (15, .putfield 22, 3), (18, .aload_n 0, 1), (19, .aload_n 0, 1), (20, .getfield 22, 3), (23, .iconst 1, 1), (24, .isub, 1), (25, .aload_n 0, 1), (26, .getfield 9, 3), (29, .iload_n 1, 1), (30, .invokevirtual 36, 3), (33, .aload_n 0, 1), (34, .aload_n 0, 1), (35, .getfield 22, 3), (38, .iconst 1, 1), (39, .isub, 1), (40, .aload_n 0, 1), (41, .getfield 9, 3), (44, .iconst 1, 1), (45, .iadd, 1), (46, .iload_n 2, 1), (47, .invokevirtual 36, 3), (50, .aload_n 0, 1), (51, .aload_n 0, 1), (52, .getfield 22, 3), (55, .iconst 1, 1), (56, .isub, 1), (57, .aload_n 0, 1), (58, .getfield 9, 3), (61, .iconst 2, 1), (62, .iadd, 1), (63, .iload_n 3, 1), (64, .invokevirtual 36, 3), (67, .return_, 1)]
set_option maxRecDepth 20000 in
theorem D_Tab_append : (T_Tab_append.all fun q => decide (decode M_Tab_append.2.1 q.1 = .ok q.2)) = true := by decide +kernel
def Tab_append (v0 : Nat) (v1 : Int) (v2 : Int) (v3 : Int) (h : AH) : Option (Unit × AH) := rc h 10 v0 <| bnd (Tab_isFull v0 h) fun x2 h1 => if (x2 : Int) = 0 then (gI h1 10 v0 3 fun x4 => pI h1 10 v0 3 (wr (x4 + 1)) fun h5 => gI h5 10 v0 3 fun x6 => gI h5 10 v0 0 fun x7 => rc h5 10 v0 <| bnd (Tab_write v0 (wr (x6 - 1)) x7 v1 h5) fun _ h8 => gI h8 10 v0 3 fun x11 => gI h8 10 v0 0 fun x12 => rc h8 10 v0 <| bnd (Tab_write v0 (wr (x11 - 1)) (wr (x12 + 1)) v2 h8) fun _ h13 => gI h13 10 v0 3 fun x16 => gI h13 10 v0 0 fun x17 => rc h13 10 v0 <| bnd (Tab_write v0 (wr (x16 - 1)) (wr (x17 + 2)) v3 h13) fun _ h18 => some ((), h18)) else (some ((), h1))
set_option maxHeartbeats 4000000 in
set_option maxRecDepth 20000 in
theorem s_Tab_append (v0 : Nat) (v1 : Int) (v2 : Int) (v3 : Int) (h : AH) : CS M_Tab_append 3 44 emV [vr v0, vi v1, vi v2, vi v3] h (Tab_append v0 v1 v2 v3 h) := by
  refine CS.of (by decide) (Nat.le_of_ble_eq_true rfl) ?_
  show Sd M_Tab_append 3 44 emV 0 [(0, vr v0), (1, vi v1), (2, vi v2), (3, vi v3)] [] h _
  unfold Tab_append
  refine Sd_aload_n (pc' := 1) (dc D_Tab_append 0 rfl) rfl 0 rfl rfl ?_
  refine Sd.callVI (ci := 9) (t := 10) (as := []) RX9 (pc' := 4) (dc D_Tab_append 1 rfl) rfl rfl rfl rfl K_Tab_isFull L_Tab_32 Ks_Tab_isFull Kv_Tab_isFull ⟨by decide, by decide⟩ rfl rfl (Nat.le_of_ble_eq_true rfl) (s_Tab_isFull _ _) (fun x2 h1 => ?_)
  refine Sd_if_eq (tgt := 8) (pc' := 7) (dc D_Tab_append 2 rfl) (by decide) rfl (fun _ => ?_) (fun _ => ?_)
  · refine Sd_aload_n (pc' := 9) (dc D_Tab_append 4 rfl) rfl 0 rfl rfl ?_
    refine Sd_dup (pc' := 10) (dc D_Tab_append 5 rfl) rfl (cat_r _) ?_
    refine Sd_getI (pc' := 13) (dc D_Tab_append 6 rfl) rfl F_Tab_22 rfl rfl ?_
    refine Sd_iconst (pc' := 14) (dc D_Tab_append 7 rfl) rfl ⟨by decide, by decide⟩ ?_
    refine Sd_iadd (pc' := 15) (dc D_Tab_append 8 rfl) rfl ?_
    refine Sd_putI (pc' := 18) (dc D_Tab_append 9 rfl) rfl F_Tab_22 rfl rfl rfl (finOk.no rfl) (by decide) ?_
    refine Sd_aload_n (pc' := 19) (dc D_Tab_append 10 rfl) rfl 0 rfl rfl ?_
    refine Sd_aload_n (pc' := 20) (dc D_Tab_append 11 rfl) rfl 0 rfl rfl ?_
    refine Sd_getI (pc' := 23) (dc D_Tab_append 12 rfl) rfl F_Tab_22 rfl rfl ?_
    refine Sd_iconst (pc' := 24) (dc D_Tab_append 13 rfl) rfl ⟨by decide, by decide⟩ ?_
    refine Sd_isub (pc' := 25) (dc D_Tab_append 14 rfl) rfl ?_
    refine Sd_aload_n (pc' := 26) (dc D_Tab_append 15 rfl) rfl 0 rfl rfl ?_
    refine Sd_getI (pc' := 29) (dc D_Tab_append 16 rfl) rfl F_Tab_9 rfl rfl ?_
    refine Sd_iload_n (pc' := 30) (dc D_Tab_append 17 rfl) rfl 1 rfl rfl ?_
    refine Sd.callVV (ci := 9) (t := 10) (as := [_, _, _]) RX9 (pc' := 33) (dc D_Tab_append 18 rfl) rfl rfl rfl rfl K_Tab_write L_Tab_36 Ks_Tab_write Kv_Tab_write ⟨by decide, by decide⟩ rfl rfl (Nat.le_of_ble_eq_true rfl) (s_Tab_write _ _ _ _ _) (fun _ h8 => ?_)
    refine Sd_aload_n (pc' := 34) (dc D_Tab_append 19 rfl) rfl 0 rfl rfl ?_
    refine Sd_aload_n (pc' := 35) (dc D_Tab_append 20 rfl) rfl 0 rfl rfl ?_
    refine Sd_getI (pc' := 38) (dc D_Tab_append 21 rfl) rfl F_Tab_22 rfl rfl ?_
    refine Sd_iconst (pc' := 39) (dc D_Tab_append 22 rfl) rfl ⟨by decide, by decide⟩ ?_
    refine Sd_isub (pc' := 40) (dc D_Tab_append 23 rfl) rfl ?_
    refine Sd_aload_n (pc' := 41) (dc D_Tab_append 24 rfl) rfl 0 rfl rfl ?_
    refine Sd_getI (pc' := 44) (dc D_Tab_append 25 rfl) rfl F_Tab_9 rfl rfl ?_
    refine Sd_iconst (pc' := 45) (dc D_Tab_append 26 rfl) rfl ⟨by decide, by decide⟩ ?_
    refine Sd_iadd (pc' := 46) (dc D_Tab_append 27 rfl) rfl ?_
    refine Sd_iload_n (pc' := 47) (dc D_Tab_append 28 rfl) rfl 2 rfl rfl ?_
    refine Sd.callVV (ci := 9) (t := 10) (as := [_, _, _]) RX9 (pc' := 50) (dc D_Tab_append 29 rfl) rfl rfl rfl rfl K_Tab_write L_Tab_36 Ks_Tab_write Kv_Tab_write ⟨by decide, by decide⟩ rfl rfl (Nat.le_of_ble_eq_true rfl) (s_Tab_write _ _ _ _ _) (fun _ h13 => ?_)
    refine Sd_aload_n (pc' := 51) (dc D_Tab_append 30 rfl) rfl 0 rfl rfl ?_
    refine Sd_aload_n (pc' := 52) (dc D_Tab_append 31 rfl) rfl 0 rfl rfl ?_
    refine Sd_getI (pc' := 55) (dc D_Tab_append 32 rfl) rfl F_Tab_22 rfl rfl ?_
    refine Sd_iconst (pc' := 56) (dc D_Tab_append 33 rfl) rfl ⟨by decide, by decide⟩ ?_
    refine Sd_isub (pc' := 57) (dc D_Tab_append 34 rfl) rfl ?_
    refine Sd_aload_n (pc' := 58) (dc D_Tab_append 35 rfl) rfl 0 rfl rfl ?_
    refine Sd_getI (pc' := 61) (dc D_Tab_append 36 rfl) rfl F_Tab_9 rfl rfl ?_
    refine Sd_iconst (pc' := 62) (dc D_Tab_append 37 rfl) rfl ⟨by decide, by decide⟩ ?_
    refine Sd_iadd (pc' := 63) (dc D_Tab_append 38 rfl) rfl ?_
    refine Sd_iload_n (pc' := 64) (dc D_Tab_append 39 rfl) rfl 3 rfl rfl ?_
    refine Sd.callVV (ci := 9) (t := 10) (as := [_, _, _]) RX9 (pc' := 67) (dc D_Tab_append 40 rfl) rfl rfl rfl rfl K_Tab_write L_Tab_36 Ks_Tab_write Kv_Tab_write ⟨by decide, by decide⟩ rfl rfl (Nat.le_of_ble_eq_true rfl) (s_Tab_write _ _ _ _ _) (fun _ h18 => ?_)
    exact Sd_vret (dc D_Tab_append 41 rfl) rfl
  · exact Sd_vret (dc D_Tab_append 3 rfl) rfl
theorem K_Tab_append : MOk M_Tab_append 3 := ⟨Tb_at 128 (by decide +kernel) rfl, Tb_at 609 (by decide +kernel) rfl, by decide +kernel, by decide +kernel, by decide +kernel⟩
theorem Ks_Tab_append : Cond.instanceMethod yX9_append ∈ Tb := Tb_at 607 (by decide +kernel) rfl
theorem Kv_Tab_append : Cond.selects RX9 yX9_append yX9_append ∈ Tb := Tb_at 608 (by decide +kernel) rfl
/-! ===== BatchShare$Table.copy(LBatchShare$Table;)V ===== -/
abbrev M_Tab_copy : AMt := (yX9_copy, cX9_copy, 2, none)
def T_Tab_copy : List (Nat × Instr × Nat) := [(0, .aload_n 1, 1), (1, .getfield 18, 3), (4, .iconst 0, 1), (5, .aload_n 0, 1), (6, .getfield 18, 3), (9, .iconst 0, 1), (10, .aload_n 0, 1), (11, .getfield 18, 3), (14, .arraylength, 1), (15, .aload_n 1, 1), (16, .getfield 18, 3), (19, .arraylength, 1), (20, .invokestatic 46, 3), (23, .invokestatic 40, 3), (26, .aload_n 0, 1), (27, .aload_n 1, 1), (28, .getfield 22, 3), (31, .putfield 22, 3), (34, .return_, 1)]
set_option maxRecDepth 20000 in
theorem D_Tab_copy : (T_Tab_copy.all fun q => decide (decode M_Tab_copy.2.1 q.1 = .ok q.2)) = true := by decide +kernel
def Tab_copy (v0 : Nat) (v1 : Nat) (h : AH) : Option (Unit × AH) := gR h 10 v1 2 fun r1 => gR h 10 v0 2 fun r2 => gR h 10 v0 2 fun r3 => aN h 21 r3 fun x4 => gR h 10 v1 2 fun r5 => aN h 21 r5 fun x6 => cp h r1 0 r2 0 (mMin x4 x6) fun h7 => gI h7 10 v1 3 fun x8 => pI h7 10 v0 3 x8 fun h9 => some ((), h9)
set_option maxHeartbeats 4000000 in
set_option maxRecDepth 20000 in
theorem s_Tab_copy (v0 : Nat) (v1 : Nat) (h : AH) : CS M_Tab_copy 1 26 emV [vr v0, vr v1] h (Tab_copy v0 v1 h) := by
  refine CS.of (by decide) (Nat.le_of_ble_eq_true rfl) ?_
  show Sd M_Tab_copy 1 26 emV 0 [(0, vr v0), (1, vr v1)] [] h _
  unfold Tab_copy
  refine Sd_aload_n (pc' := 1) (dc D_Tab_copy 0 rfl) rfl 1 rfl rfl ?_
  refine Sd_getR (pc' := 4) (dc D_Tab_copy 1 rfl) rfl F_Tab_18 rfl rfl ?_
  refine Sd_iconst (pc' := 5) (dc D_Tab_copy 2 rfl) rfl ⟨by decide, by decide⟩ ?_
  refine Sd_aload_n (pc' := 6) (dc D_Tab_copy 3 rfl) rfl 0 rfl rfl ?_
  refine Sd_getR (pc' := 9) (dc D_Tab_copy 4 rfl) rfl F_Tab_18 rfl rfl ?_
  refine Sd_iconst (pc' := 10) (dc D_Tab_copy 5 rfl) rfl ⟨by decide, by decide⟩ ?_
  refine Sd_aload_n (pc' := 11) (dc D_Tab_copy 6 rfl) rfl 0 rfl rfl ?_
  refine Sd_getR (pc' := 14) (dc D_Tab_copy 7 rfl) rfl F_Tab_18 rfl rfl ?_
  refine Sd_alen (t := 21) (j := 0) (pc' := 15) (dc D_Tab_copy 8 rfl) rfl rfl (by decide) (by decide) ?_
  refine Sd_aload_n (pc' := 16) (dc D_Tab_copy 9 rfl) rfl 1 rfl rfl ?_
  refine Sd_getR (pc' := 19) (dc D_Tab_copy 10 rfl) rfl F_Tab_18 rfl rfl ?_
  refine Sd_alen (t := 21) (j := 0) (pc' := 20) (dc D_Tab_copy 11 rfl) rfl rfl (by decide) (by decide) ?_
  refine Sd_mmin (pc' := 23) (dc D_Tab_copy 12 rfl) rfl L_Tab_46 W_mmin1 W_m2 W_mmin3 (by decide) (Nat.le_of_ble_eq_true rfl) ?_
  refine Sd_copy (pc' := 26) (dc D_Tab_copy 13 rfl) rfl L_Tab_40 W_cp2 W_cp3 W_cp4 (by decide) (Nat.le_of_ble_eq_true rfl) ?_
  refine Sd_aload_n (pc' := 27) (dc D_Tab_copy 14 rfl) rfl 0 rfl rfl ?_
  refine Sd_aload_n (pc' := 28) (dc D_Tab_copy 15 rfl) rfl 1 rfl rfl ?_
  refine Sd_getI (pc' := 31) (dc D_Tab_copy 16 rfl) rfl F_Tab_22 rfl rfl ?_
  refine Sd_putI (pc' := 34) (dc D_Tab_copy 17 rfl) rfl F_Tab_22 rfl rfl rfl (finOk.no rfl) (by decide) ?_
  exact Sd_vret (dc D_Tab_copy 18 rfl) rfl
theorem K_Tab_copy : MOk M_Tab_copy 1 := ⟨Tb_at 128 (by decide +kernel) rfl, Tb_at 643 (by decide +kernel) rfl, by decide +kernel, by decide +kernel, by decide +kernel⟩
theorem Ks_Tab_copy : Cond.instanceMethod yX9_copy ∈ Tb := Tb_at 641 (by decide +kernel) rfl
theorem Kv_Tab_copy : Cond.selects RX9 yX9_copy yX9_copy ∈ Tb := Tb_at 642 (by decide +kernel) rfl
/-! ===== BatchShare$Table.at(II)I ===== -/
abbrev M_Tab_at : AMt := (yX9_at, cX9_at, 3, (some .int))
def T_Tab_at : List (Nat × Instr × Nat) := [(0, .aload_n 0, 1), (1, .iload_n 1, 1), (2, .invokevirtual 25, 3), (5, .ifCond .eq 32, 3), (8, .aload_n 0, 1), (9, .iload_n 2, 1), (10, .invokevirtual 29, 3), (13, .ifCond .eq 24, 3), (16, .aload_n 0, 1), (17, .getfield 18, 3), (20, .iload_n 1, 1), (21, .aload_n 0, 1), (22, .getfield 15, 3), (25, .imul, 1), (26, .iload_n 2, 1), (27, .iadd, 1), (28, .aload_n 0, 1), (29, .getfield 9, 3), (32, .isub, 1), (33, .iaload, 1), (34, .goto 4, 3), (37, .iconst (-1), 1), (38, .ireturn, 1)]
set_option maxRecDepth 20000 in
theorem D_Tab_at : (T_Tab_at.all fun q => decide (decode M_Tab_at.2.1 q.1 = .ok q.2)) = true := by decide +kernel
def Tab_at (v0 : Nat) (v1 : Int) (v2 : Int) (h : AH) : Option (Int × AH) := rc h 10 v0 <| bnd (Tab_hasRow v0 v1 h) fun x2 h1 => if (x2 : Int) = 0 then (some ((-1), h1)) else (rc h1 10 v0 <| bnd (Tab_hasCol v0 v2 h1) fun x5 h4 => if (x5 : Int) = 0 then (some ((-1), h4)) else (gR h4 10 v0 2 fun r7 => gI h4 10 v0 1 fun x8 => gI h4 10 v0 0 fun x9 => aI h4 21 r7 (wr ((wr ((wr (v1 * x8)) + v2)) - x9)) fun x10 => some (x10, h4)))
set_option maxHeartbeats 4000000 in
set_option maxRecDepth 20000 in
theorem s_Tab_at (v0 : Nat) (v1 : Int) (v2 : Int) (h : AH) : CS M_Tab_at 2 21 emI [vr v0, vi v1, vi v2] h (Tab_at v0 v1 v2 h) := by
  refine CS.of (by decide) (Nat.le_of_ble_eq_true rfl) ?_
  show Sd M_Tab_at 2 21 emI 0 [(0, vr v0), (1, vi v1), (2, vi v2)] [] h _
  unfold Tab_at
  refine Sd_aload_n (pc' := 1) (dc D_Tab_at 0 rfl) rfl 0 rfl rfl ?_
  refine Sd_iload_n (pc' := 2) (dc D_Tab_at 1 rfl) rfl 1 rfl rfl ?_
  refine Sd.callVI (ci := 9) (t := 10) (as := [_]) RX9 (pc' := 5) (dc D_Tab_at 2 rfl) rfl rfl rfl rfl K_Tab_hasRow L_Tab_25 Ks_Tab_hasRow Kv_Tab_hasRow ⟨by decide, by decide⟩ rfl rfl (Nat.le_of_ble_eq_true rfl) (s_Tab_hasRow _ _ _) (fun x2 h1 => ?_)
  refine Sd_if_eq (tgt := 37) (pc' := 8) (dc D_Tab_at 3 rfl) (by decide) rfl (fun _ => ?_) (fun _ => ?_)
  · refine Sd_iconst (pc' := 38) (dc D_Tab_at 21 rfl) rfl ⟨by decide, by decide⟩ ?_
    exact Sd_iret (dc D_Tab_at 22 rfl) rfl
  · refine Sd_aload_n (pc' := 9) (dc D_Tab_at 4 rfl) rfl 0 rfl rfl ?_
    refine Sd_iload_n (pc' := 10) (dc D_Tab_at 5 rfl) rfl 2 rfl rfl ?_
    refine Sd.callVI (ci := 9) (t := 10) (as := [_]) RX9 (pc' := 13) (dc D_Tab_at 6 rfl) rfl rfl rfl rfl K_Tab_hasCol L_Tab_29 Ks_Tab_hasCol Kv_Tab_hasCol ⟨by decide, by decide⟩ rfl rfl (Nat.le_of_ble_eq_true rfl) (s_Tab_hasCol _ _ _) (fun x5 h4 => ?_)
    refine Sd_if_eq (tgt := 37) (pc' := 16) (dc D_Tab_at 7 rfl) (by decide) rfl (fun _ => ?_) (fun _ => ?_)
    · refine Sd_iconst (pc' := 38) (dc D_Tab_at 21 rfl) rfl ⟨by decide, by decide⟩ ?_
      exact Sd_iret (dc D_Tab_at 22 rfl) rfl
    · refine Sd_aload_n (pc' := 17) (dc D_Tab_at 8 rfl) rfl 0 rfl rfl ?_
      refine Sd_getR (pc' := 20) (dc D_Tab_at 9 rfl) rfl F_Tab_18 rfl rfl ?_
      refine Sd_iload_n (pc' := 21) (dc D_Tab_at 10 rfl) rfl 1 rfl rfl ?_
      refine Sd_aload_n (pc' := 22) (dc D_Tab_at 11 rfl) rfl 0 rfl rfl ?_
      refine Sd_getI (pc' := 25) (dc D_Tab_at 12 rfl) rfl F_Tab_15 rfl rfl ?_
      refine Sd_imul (pc' := 26) (dc D_Tab_at 13 rfl) rfl ?_
      refine Sd_iload_n (pc' := 27) (dc D_Tab_at 14 rfl) rfl 2 rfl rfl ?_
      refine Sd_iadd (pc' := 28) (dc D_Tab_at 15 rfl) rfl ?_
      refine Sd_aload_n (pc' := 29) (dc D_Tab_at 16 rfl) rfl 0 rfl rfl ?_
      refine Sd_getI (pc' := 32) (dc D_Tab_at 17 rfl) rfl F_Tab_9 rfl rfl ?_
      refine Sd_isub (pc' := 33) (dc D_Tab_at 18 rfl) rfl ?_
      refine Sd_iaload (pc' := 34) (dc D_Tab_at 19 rfl) rfl ?_
      refine Sd_goto (tgt := 38) (dc D_Tab_at 20 rfl) (by decide) ?_
      exact Sd_iret (dc D_Tab_at 22 rfl) rfl
theorem K_Tab_at : MOk M_Tab_at 2 := ⟨Tb_at 128 (by decide +kernel) rfl, Tb_at 772 (by decide +kernel) rfl, by decide +kernel, by decide +kernel, by decide +kernel⟩
theorem Ks_Tab_at : Cond.instanceMethod yX9_at ∈ Tb := Tb_at 770 (by decide +kernel) rfl
theorem Kv_Tab_at : Cond.selects RX9 yX9_at yX9_at ∈ Tb := Tb_at 771 (by decide +kernel) rfl
/-! ===== BatchShare$Table.drop(I)V ===== -/
abbrev M_Tab_drop : AMt := (yX9_drop, cX9_drop, 2, none)
def T_Tab_drop : List (Nat × Instr × Nat) := [(0, .aload_n 0, 1), (1, .iload_n 1, 1), (2, .invokevirtual 25, 3), (5, .ifCond .eq 51, 3), (8, .aload_n 0, 1), (9, .getfield 18, 3), (12, .iload_n 1, 1), (13, .iconst 1, 1), (14, .iadd, 1), (15, .aload_n 0, 1), (16, .getfield 15, 3), (19, .imul, 1), (20, .aload_n 0, 1), (21, .getfield 18, 3), (24, .iload_n 1, 1), (25, .aload_n 0, 1), (26, .getfield 15, 3), (29, .imul, 1), (30, .aload_n 0, 1), (31, .getfield 22, 3), (34, .iconst 1, 1), (35, .isub, 1), (36, .iload_n 1, 1), (37, .isub, 1), (38, .aload_n 0, 1), (39, .getfield 15, 3), (42, .imul, 1), (43, .invokestatic 40, 3), (46, .aload_n 0, 1), (47, .dup, 1), (48, .getfield 22, 3), (51, .iconst 1, 1), (52, .isub, 1), (53, .putfield 22, 3), (56, .return_, 1)]
set_option maxRecDepth 20000 in
theorem D_Tab_drop : (T_Tab_drop.all fun q => decide (decode M_Tab_drop.2.1 q.1 = .ok q.2)) = true := by decide +kernel
def Tab_drop (v0 : Nat) (v1 : Int) (h : AH) : Option (Unit × AH) := rc h 10 v0 <| bnd (Tab_hasRow v0 v1 h) fun x2 h1 => if (x2 : Int) = 0 then (some ((), h1)) else (gR h1 10 v0 2 fun r4 => gI h1 10 v0 1 fun x5 => gR h1 10 v0 2 fun r6 => gI h1 10 v0 1 fun x7 => gI h1 10 v0 3 fun x8 => gI h1 10 v0 1 fun x9 => cp h1 r4 (wr ((wr (v1 + 1)) * x5)) r6 (wr (v1 * x7)) (wr ((wr ((wr (x8 - 1)) - v1)) * x9)) fun h10 => gI h10 10 v0 3 fun x11 => pI h10 10 v0 3 (wr (x11 - 1)) fun h12 => some ((), h12))
set_option maxHeartbeats 4000000 in
set_option maxRecDepth 20000 in
theorem s_Tab_drop (v0 : Nat) (v1 : Int) (h : AH) : CS M_Tab_drop 2 26 emV [vr v0, vi v1] h (Tab_drop v0 v1 h) := by
  refine CS.of (by decide) (Nat.le_of_ble_eq_true rfl) ?_
  show Sd M_Tab_drop 2 26 emV 0 [(0, vr v0), (1, vi v1)] [] h _
  unfold Tab_drop
  refine Sd_aload_n (pc' := 1) (dc D_Tab_drop 0 rfl) rfl 0 rfl rfl ?_
  refine Sd_iload_n (pc' := 2) (dc D_Tab_drop 1 rfl) rfl 1 rfl rfl ?_
  refine Sd.callVI (ci := 9) (t := 10) (as := [_]) RX9 (pc' := 5) (dc D_Tab_drop 2 rfl) rfl rfl rfl rfl K_Tab_hasRow L_Tab_25 Ks_Tab_hasRow Kv_Tab_hasRow ⟨by decide, by decide⟩ rfl rfl (Nat.le_of_ble_eq_true rfl) (s_Tab_hasRow _ _ _) (fun x2 h1 => ?_)
  refine Sd_if_eq (tgt := 56) (pc' := 8) (dc D_Tab_drop 3 rfl) (by decide) rfl (fun _ => ?_) (fun _ => ?_)
  · exact Sd_vret (dc D_Tab_drop 34 rfl) rfl
  · refine Sd_aload_n (pc' := 9) (dc D_Tab_drop 4 rfl) rfl 0 rfl rfl ?_
    refine Sd_getR (pc' := 12) (dc D_Tab_drop 5 rfl) rfl F_Tab_18 rfl rfl ?_
    refine Sd_iload_n (pc' := 13) (dc D_Tab_drop 6 rfl) rfl 1 rfl rfl ?_
    refine Sd_iconst (pc' := 14) (dc D_Tab_drop 7 rfl) rfl ⟨by decide, by decide⟩ ?_
    refine Sd_iadd (pc' := 15) (dc D_Tab_drop 8 rfl) rfl ?_
    refine Sd_aload_n (pc' := 16) (dc D_Tab_drop 9 rfl) rfl 0 rfl rfl ?_
    refine Sd_getI (pc' := 19) (dc D_Tab_drop 10 rfl) rfl F_Tab_15 rfl rfl ?_
    refine Sd_imul (pc' := 20) (dc D_Tab_drop 11 rfl) rfl ?_
    refine Sd_aload_n (pc' := 21) (dc D_Tab_drop 12 rfl) rfl 0 rfl rfl ?_
    refine Sd_getR (pc' := 24) (dc D_Tab_drop 13 rfl) rfl F_Tab_18 rfl rfl ?_
    refine Sd_iload_n (pc' := 25) (dc D_Tab_drop 14 rfl) rfl 1 rfl rfl ?_
    refine Sd_aload_n (pc' := 26) (dc D_Tab_drop 15 rfl) rfl 0 rfl rfl ?_
    refine Sd_getI (pc' := 29) (dc D_Tab_drop 16 rfl) rfl F_Tab_15 rfl rfl ?_
    refine Sd_imul (pc' := 30) (dc D_Tab_drop 17 rfl) rfl ?_
    refine Sd_aload_n (pc' := 31) (dc D_Tab_drop 18 rfl) rfl 0 rfl rfl ?_
    refine Sd_getI (pc' := 34) (dc D_Tab_drop 19 rfl) rfl F_Tab_22 rfl rfl ?_
    refine Sd_iconst (pc' := 35) (dc D_Tab_drop 20 rfl) rfl ⟨by decide, by decide⟩ ?_
    refine Sd_isub (pc' := 36) (dc D_Tab_drop 21 rfl) rfl ?_
    refine Sd_iload_n (pc' := 37) (dc D_Tab_drop 22 rfl) rfl 1 rfl rfl ?_
    refine Sd_isub (pc' := 38) (dc D_Tab_drop 23 rfl) rfl ?_
    refine Sd_aload_n (pc' := 39) (dc D_Tab_drop 24 rfl) rfl 0 rfl rfl ?_
    refine Sd_getI (pc' := 42) (dc D_Tab_drop 25 rfl) rfl F_Tab_15 rfl rfl ?_
    refine Sd_imul (pc' := 43) (dc D_Tab_drop 26 rfl) rfl ?_
    refine Sd_copy (pc' := 46) (dc D_Tab_drop 27 rfl) rfl L_Tab_40 W_cp2 W_cp3 W_cp4 (by decide) (Nat.le_of_ble_eq_true rfl) ?_
    refine Sd_aload_n (pc' := 47) (dc D_Tab_drop 28 rfl) rfl 0 rfl rfl ?_
    refine Sd_dup (pc' := 48) (dc D_Tab_drop 29 rfl) rfl (cat_r _) ?_
    refine Sd_getI (pc' := 51) (dc D_Tab_drop 30 rfl) rfl F_Tab_22 rfl rfl ?_
    refine Sd_iconst (pc' := 52) (dc D_Tab_drop 31 rfl) rfl ⟨by decide, by decide⟩ ?_
    refine Sd_isub (pc' := 53) (dc D_Tab_drop 32 rfl) rfl ?_
    refine Sd_putI (pc' := 56) (dc D_Tab_drop 33 rfl) rfl F_Tab_22 rfl rfl rfl (finOk.no rfl) (by decide) ?_
    exact Sd_vret (dc D_Tab_drop 34 rfl) rfl
theorem K_Tab_drop : MOk M_Tab_drop 1 := ⟨Tb_at 128 (by decide +kernel) rfl, Tb_at 1025 (by decide +kernel) rfl, by decide +kernel, by decide +kernel, by decide +kernel⟩
theorem Ks_Tab_drop : Cond.instanceMethod yX9_drop ∈ Tb := Tb_at 1023 (by decide +kernel) rfl
theorem Kv_Tab_drop : Cond.selects RX9 yX9_drop yX9_drop ∈ Tb := Tb_at 1024 (by decide +kernel) rfl
