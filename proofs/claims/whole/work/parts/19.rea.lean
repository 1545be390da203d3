/-! ===== BatchShare$Reader.<init>([I)V ===== -/
abbrev M_Rea_init : AMt := (yX6_init, cX6_init, 2, none)
def T_Rea_init : List (Nat × Instr × Nat) := [(0, .aload_n 0, 1), (1, .invokespecial 3, 3), (4, .aload_n 0, 1), (5, .aload_n 1, 1), (6, .putfield 9, 3), (9, .return_, 1)]
set_option maxRecDepth 20000 in
theorem D_Rea_init : (T_Rea_init.all fun q => decide (decode M_Rea_init.2.1 q.1 = .ok q.2)) = true := by decide +kernel
def Rea_init (v0 : Nat) (v1 : Nat) (h : AH) : Option (Unit × AH) := oi v0 <| pR h 7 v0 0 v1 fun h1 => some ((), h1)
set_option maxHeartbeats 4000000 in
set_option maxRecDepth 20000 in
theorem s_Rea_init (v0 : Nat) (v1 : Nat) (h : AH) : CS M_Rea_init 1 20 emV [vr v0, vr v1] h (Rea_init v0 v1 h) := by
  refine CS.of (by decide) (Nat.le_of_ble_eq_true rfl) ?_
  show Sd M_Rea_init 1 20 emV 0 [(0, vr v0), (1, vr v1)] [] h _
  unfold Rea_init
  refine Sd_aload_n (pc' := 1) (dc D_Rea_init 0 rfl) rfl 0 rfl rfl ?_
  refine Sd_oi (pc' := 4) (dc D_Rea_init 1 rfl) rfl L_Rea_3 W_obj2 W_obj3 (by decide) (Nat.le_of_ble_eq_true rfl) ?_
  refine Sd_aload_n (pc' := 5) (dc D_Rea_init 2 rfl) rfl 0 rfl rfl ?_
  refine Sd_aload_n (pc' := 6) (dc D_Rea_init 3 rfl) rfl 1 rfl rfl ?_
  refine Sd_putR (pc' := 9) (dc D_Rea_init 4 rfl) rfl F_Rea_9 rfl rfl rfl (finOk.yes rfl rfl) (by decide) ?_
  exact Sd_vret (dc D_Rea_init 5 rfl) rfl
theorem K_Rea_init : MOk M_Rea_init 1 := ⟨Tb_at 122 (by decide +kernel) rfl, Tb_at 154 (by decide +kernel) rfl, by decide +kernel, by decide +kernel, by decide +kernel⟩
theorem Ks_Rea_init : Cond.instanceMethod yX6_init ∈ Tb := Tb_at 153 (by decide +kernel) rfl
/-! ===== BatchShare$Reader.open(I)V ===== -/
abbrev M_Rea_open : AMt := (yX6_open, cX6_open, 2, none)
def T_Rea_open : List (Nat × Instr × Nat) := [(0, .aload_n 0, 1), (1, .iload_n 1, 1), (2, .aload_n 0, 1), (3, .getfield 9, 3), (6, .arraylength, 1), (7, .invokestatic 145, 3), (10, .putfield 150, 3), (13, .aload_n 0, 1), (14, .iconst 0, 1), (15, .putfield 153, 3), (18, .aload_n 0, 1), (19, .iconst 0, 1), (20, .putfield 24, 3), (23, .aload_n 0, 1), (24, .iconst 0, 1), (25, .putfield 128, 3), (28, .return_, 1)]
set_option maxRecDepth 20000 in
theorem D_Rea_open : (T_Rea_open.all fun q => decide (decode M_Rea_open.2.1 q.1 = .ok q.2)) = true := by decide +kernel
def Rea_open (v0 : Nat) (v1 : Int) (h : AH) : Option (Unit × AH) := gR h 7 v0 0 fun r1 => aN h 21 r1 fun x2 => pI h 7 v0 1 (mMin v1 x2) fun h3 => pI h3 7 v0 2 0 fun h4 => pI h4 7 v0 3 0 fun h5 => pI h5 7 v0 4 0 fun h6 => some ((), h6)
set_option maxHeartbeats 4000000 in
set_option maxRecDepth 20000 in
theorem s_Rea_open (v0 : Nat) (v1 : Int) (h : AH) : CS M_Rea_open 1 26 emV [vr v0, vi v1] h (Rea_open v0 v1 h) := by
  refine CS.of (by decide) (Nat.le_of_ble_eq_true rfl) ?_
  show Sd M_Rea_open 1 26 emV 0 [(0, vr v0), (1, vi v1)] [] h _
  unfold Rea_open
  refine Sd_aload_n (pc' := 1) (dc D_Rea_open 0 rfl) rfl 0 rfl rfl ?_
  refine Sd_iload_n (pc' := 2) (dc D_Rea_open 1 rfl) rfl 1 rfl rfl ?_
  refine Sd_aload_n (pc' := 3) (dc D_Rea_open 2 rfl) rfl 0 rfl rfl ?_
  refine Sd_getR (pc' := 6) (dc D_Rea_open 3 rfl) rfl F_Rea_9 rfl rfl ?_
  refine Sd_alen (t := 21) (j := 0) (pc' := 7) (dc D_Rea_open 4 rfl) rfl rfl (by decide) (by decide) ?_
  refine Sd_mmin (pc' := 10) (dc D_Rea_open 5 rfl) rfl L_Rea_145 W_mmin1 W_m2 W_mmin3 (by decide) (Nat.le_of_ble_eq_true rfl) ?_
  refine Sd_putI (pc' := 13) (dc D_Rea_open 6 rfl) rfl F_Rea_150 rfl rfl rfl (finOk.no rfl) (by decide) ?_
  refine Sd_aload_n (pc' := 14) (dc D_Rea_open 7 rfl) rfl 0 rfl rfl ?_
  refine Sd_iconst (pc' := 15) (dc D_Rea_open 8 rfl) rfl ⟨by decide, by decide⟩ ?_
  refine Sd_putI (pc' := 18) (dc D_Rea_open 9 rfl) rfl F_Rea_153 rfl rfl rfl (finOk.no rfl) (by decide) ?_
  refine Sd_aload_n (pc' := 19) (dc D_Rea_open 10 rfl) rfl 0 rfl rfl ?_
  refine Sd_iconst (pc' := 20) (dc D_Rea_open 11 rfl) rfl ⟨by decide, by decide⟩ ?_
  refine Sd_putI (pc' := 23) (dc D_Rea_open 12 rfl) rfl F_Rea_24 rfl rfl rfl (finOk.no rfl) (by decide) ?_
  refine Sd_aload_n (pc' := 24) (dc D_Rea_open 13 rfl) rfl 0 rfl rfl ?_
  refine Sd_iconst (pc' := 25) (dc D_Rea_open 14 rfl) rfl ⟨by decide, by decide⟩ ?_
  refine Sd_putI (pc' := 28) (dc D_Rea_open 15 rfl) rfl F_Rea_128 rfl rfl rfl (finOk.no rfl) (by decide) ?_
  exact Sd_vret (dc D_Rea_open 16 rfl) rfl
theorem K_Rea_open : MOk M_Rea_open 1 := ⟨Tb_at 122 (by decide +kernel) rfl, Tb_at 512 (by decide +kernel) rfl, by decide +kernel, by decide +kernel, by decide +kernel⟩
theorem Ks_Rea_open : Cond.instanceMethod yX6_open ∈ Tb := Tb_at 511 (by decide +kernel) rfl
theorem Kv_Rea_open : Cond.selects RX6 yX6_open yX6_open ∈ Tb := Tb_at 1 (by decide +kernel) rfl
/-! ===== BatchShare$Reader.place()I ===== -/
abbrev M_Rea_place : AMt := (yX6_place, cX6_place, 1, (some .int))
def T_Rea_place : List (Nat × Instr × Nat) := [(0, .aload_n 0, 1), (1, .getfield 153, 3), (4, .aload_n 0, 1), (5, .getfield 150, 3), (8, .if_icmp .ge 30, 3), (11, .aload_n 0, 1), (12, .getfield 9, 3), (15, .aload_n 0, 1), (16, .getfield 153, 3), (19, .iaload, 1), (20, .bipush 32, 2), (22, .if_icmp .ne 16, 3), (25, .aload_n 0, 1), (26, .dup, 1), (27, .getfield 153, 3), (30, .iconst 1, 1), (31, .iadd, 1), (32, .putfield 153, 3), (35, .goto (-35), 3), (38, .aload_n 0, 1), (39, .getfield 153, 3), (42, .ireturn, 1)]
set_option maxRecDepth 20000 in
theorem D_Rea_place : (T_Rea_place.all fun q => decide (decode M_Rea_place.2.1 q.1 = .ok q.2)) = true := by decide +kernel
def Rea_place_L0 : Nat → Nat → AH → Option (Int × AH)
  | 0, _, _ => none
  | n + 1, v0, h => gI h 7 v0 2 fun x1 => gI h 7 v0 1 fun x2 => if (x2 : Int) ≤ x1 then (gI h 7 v0 2 fun x3 => some (x3, h)) else (gR h 7 v0 0 fun r4 => gI h 7 v0 2 fun x5 => aI h 21 r4 x5 fun x6 => if ¬ (x6 : Int) = 32 then (gI h 7 v0 2 fun x7 => some (x7, h)) else (gI h 7 v0 2 fun x8 => pI h 7 v0 2 (wr (x8 + 1)) fun h9 => Rea_place_L0 n v0 h9))
set_option maxHeartbeats 4000000 in
set_option maxRecDepth 20000 in
theorem s_Rea_place_L0 : ∀ (n : Nat) (v0 : Nat) (h : AH), Sd M_Rea_place 1 0 emI 0 [(0, vr v0)] [] h (Rea_place_L0 n v0 h)
  | 0, _, _ => Sd.none
  | n + 1, v0, h => by
    rw [Rea_place_L0]
    refine Sd_aload_n (pc' := 1) (dc D_Rea_place 0 rfl) rfl 0 rfl rfl ?_
    refine Sd_getI (pc' := 4) (dc D_Rea_place 1 rfl) rfl F_Rea_153 rfl rfl ?_
    refine Sd_aload_n (pc' := 5) (dc D_Rea_place 2 rfl) rfl 0 rfl rfl ?_
    refine Sd_getI (pc' := 8) (dc D_Rea_place 3 rfl) rfl F_Rea_150 rfl rfl ?_
    refine Sd_icmp_ge (tgt := 38) (pc' := 11) (dc D_Rea_place 4 rfl) (by decide) rfl (fun _ => ?_) (fun _ => ?_)
    · refine Sd_aload_n (pc' := 39) (dc D_Rea_place 19 rfl) rfl 0 rfl rfl ?_
      refine Sd_getI (pc' := 42) (dc D_Rea_place 20 rfl) rfl F_Rea_153 rfl rfl ?_
      exact Sd_iret (dc D_Rea_place 21 rfl) rfl
    · refine Sd_aload_n (pc' := 12) (dc D_Rea_place 5 rfl) rfl 0 rfl rfl ?_
      refine Sd_getR (pc' := 15) (dc D_Rea_place 6 rfl) rfl F_Rea_9 rfl rfl ?_
      refine Sd_aload_n (pc' := 16) (dc D_Rea_place 7 rfl) rfl 0 rfl rfl ?_
      refine Sd_getI (pc' := 19) (dc D_Rea_place 8 rfl) rfl F_Rea_153 rfl rfl ?_
      refine Sd_iaload (pc' := 20) (dc D_Rea_place 9 rfl) rfl ?_
      refine Sd_bipush (pc' := 22) (dc D_Rea_place 10 rfl) rfl ⟨by decide, by decide⟩ (by decide) ?_
      refine Sd_icmp_ne (tgt := 38) (pc' := 25) (dc D_Rea_place 11 rfl) (by decide) rfl (fun _ => ?_) (fun _ => ?_)
      · refine Sd_aload_n (pc' := 39) (dc D_Rea_place 19 rfl) rfl 0 rfl rfl ?_
        refine Sd_getI (pc' := 42) (dc D_Rea_place 20 rfl) rfl F_Rea_153 rfl rfl ?_
        exact Sd_iret (dc D_Rea_place 21 rfl) rfl
      · refine Sd_aload_n (pc' := 26) (dc D_Rea_place 12 rfl) rfl 0 rfl rfl ?_
        refine Sd_dup (pc' := 27) (dc D_Rea_place 13 rfl) rfl (cat_r _) ?_
        refine Sd_getI (pc' := 30) (dc D_Rea_place 14 rfl) rfl F_Rea_153 rfl rfl ?_
        refine Sd_iconst (pc' := 31) (dc D_Rea_place 15 rfl) rfl ⟨by decide, by decide⟩ ?_
        refine Sd_iadd (pc' := 32) (dc D_Rea_place 16 rfl) rfl ?_
        refine Sd_putI (pc' := 35) (dc D_Rea_place 17 rfl) rfl F_Rea_153 rfl rfl rfl (finOk.no rfl) (by decide) ?_
        refine Sd_goto (tgt := 0) (dc D_Rea_place 18 rfl) (by decide) ?_
        exact s_Rea_place_L0 n _ _
def Rea_place (v0 : Nat) (h : AH) : Option (Int × AH) := Rea_place_L0 FU v0 h
set_option maxHeartbeats 4000000 in
set_option maxRecDepth 20000 in
theorem s_Rea_place (v0 : Nat) (h : AH) : CS M_Rea_place 1 0 emI [vr v0] h (Rea_place v0 h) := by
  refine CS.of (by decide) (Nat.le_of_ble_eq_true rfl) ?_
  show Sd M_Rea_place 1 0 emI 0 [(0, vr v0)] [] h _
  unfold Rea_place
  exact s_Rea_place_L0 FU _ _
theorem K_Rea_place : MOk M_Rea_place 0 := ⟨Tb_at 122 (by decide +kernel) rfl, Tb_at 531 (by decide +kernel) rfl, by decide +kernel, by decide +kernel, by decide +kernel⟩
theorem Ks_Rea_place : Cond.instanceMethod yX6_place ∈ Tb := Tb_at 530 (by decide +kernel) rfl
theorem Kv_Rea_place : Cond.selects RX6 yX6_place yX6_place ∈ Tb := Tb_at 3 (by decide +kernel) rfl
/-! ===== BatchShare$Reader.wordLength()I ===== -/
abbrev M_Rea_wordLength : AMt := (yX6_wordLength, cX6_wordLength, 2, (some .int))
def T_Rea_wordLength : List (Nat × Instr × Nat) := [(0, .aload_n 0, 1), (1, .invokevirtual 43, 3), (4, .istore_n 1, 1), (5, .iload_n 1, 1), (6, .aload_n 0, 1), (7, .getfield 150, 3), (10, .if_icmp .ge 31, 3), (13, .aload_n 0, 1), (14, .getfield 9, 3), (17, .iload_n 1, 1), (18, .iaload, 1), (19, .bipush 97, 2), (21, .if_icmp .lt 20, 3), (24, .aload_n 0, 1), (25, .getfield 9, 3), (28, .iload_n 1, 1), (29, .iaload, 1), (30, .bipush 122, 2), (32, .if_icmp .gt 9, 3), (35, .iinc 1 1, 3), (38, .goto (-33), 3), (41, .iload_n 1, 1), (42, .aload_n 0, 1), (43, .getfield 153, 3), (46, .isub, 1), (47, .ireturn, 1)]
set_option maxRecDepth 20000 in
theorem D_Rea_wordLength : (T_Rea_wordLength.all fun q => decide (decode M_Rea_wordLength.2.1 q.1 = .ok q.2)) = true := by decide +kernel
def Rea_wordLength_L5 : Nat → Nat → Int → AH → Option (Int × AH)
  | 0, _, _, _ => none
  | n + 1, v0, v1, h => gI h 7 v0 1 fun x1 => if (x1 : Int) ≤ v1 then (gI h 7 v0 2 fun x2 => some ((wr (v1 - x2)), h)) else (gR h 7 v0 0 fun r3 => aI h 21 r3 v1 fun x4 => if (x4 : Int) < 97 then (gI h 7 v0 2 fun x5 => some ((wr (v1 - x5)), h)) else (gR h 7 v0 0 fun r6 => aI h 21 r6 v1 fun x7 => if (122 : Int) < x7 then (gI h 7 v0 2 fun x8 => some ((wr (v1 - x8)), h)) else (Rea_wordLength_L5 n v0 ((wr (v1 + 1))) h)))
set_option maxHeartbeats 4000000 in
set_option maxRecDepth 20000 in
theorem s_Rea_wordLength_L5 : ∀ (n : Nat) (v0 : Nat) (v1 : Int) (h : AH), Sd M_Rea_wordLength 2 20 emI 5 [(0, vr v0), (1, vi v1)] [] h (Rea_wordLength_L5 n v0 v1 h)
  | 0, _, _, _ => Sd.none
  | n + 1, v0, v1, h => by
    rw [Rea_wordLength_L5]
    refine Sd_iload_n (pc' := 6) (dc D_Rea_wordLength 3 rfl) rfl 1 rfl rfl ?_
    refine Sd_aload_n (pc' := 7) (dc D_Rea_wordLength 4 rfl) rfl 0 rfl rfl ?_
    refine Sd_getI (pc' := 10) (dc D_Rea_wordLength 5 rfl) rfl F_Rea_150 rfl rfl ?_
    refine Sd_icmp_ge (tgt := 41) (pc' := 13) (dc D_Rea_wordLength 6 rfl) (by decide) rfl (fun _ => ?_) (fun _ => ?_)
    · refine Sd_iload_n (pc' := 42) (dc D_Rea_wordLength 21 rfl) rfl 1 rfl rfl ?_
      refine Sd_aload_n (pc' := 43) (dc D_Rea_wordLength 22 rfl) rfl 0 rfl rfl ?_
      refine Sd_getI (pc' := 46) (dc D_Rea_wordLength 23 rfl) rfl F_Rea_153 rfl rfl ?_
      refine Sd_isub (pc' := 47) (dc D_Rea_wordLength 24 rfl) rfl ?_
      exact Sd_iret (dc D_Rea_wordLength 25 rfl) rfl
    · refine Sd_aload_n (pc' := 14) (dc D_Rea_wordLength 7 rfl) rfl 0 rfl rfl ?_
      refine Sd_getR (pc' := 17) (dc D_Rea_wordLength 8 rfl) rfl F_Rea_9 rfl rfl ?_
      refine Sd_iload_n (pc' := 18) (dc D_Rea_wordLength 9 rfl) rfl 1 rfl rfl ?_
      refine Sd_iaload (pc' := 19) (dc D_Rea_wordLength 10 rfl) rfl ?_
      refine Sd_bipush (pc' := 21) (dc D_Rea_wordLength 11 rfl) rfl ⟨by decide, by decide⟩ (by decide) ?_
      refine Sd_icmp_lt (tgt := 41) (pc' := 24) (dc D_Rea_wordLength 12 rfl) (by decide) rfl (fun _ => ?_) (fun _ => ?_)
      · refine Sd_iload_n (pc' := 42) (dc D_Rea_wordLength 21 rfl) rfl 1 rfl rfl ?_
        refine Sd_aload_n (pc' := 43) (dc D_Rea_wordLength 22 rfl) rfl 0 rfl rfl ?_
        refine Sd_getI (pc' := 46) (dc D_Rea_wordLength 23 rfl) rfl F_Rea_153 rfl rfl ?_
        refine Sd_isub (pc' := 47) (dc D_Rea_wordLength 24 rfl) rfl ?_
        exact Sd_iret (dc D_Rea_wordLength 25 rfl) rfl
      · refine Sd_aload_n (pc' := 25) (dc D_Rea_wordLength 13 rfl) rfl 0 rfl rfl ?_
        refine Sd_getR (pc' := 28) (dc D_Rea_wordLength 14 rfl) rfl F_Rea_9 rfl rfl ?_
        refine Sd_iload_n (pc' := 29) (dc D_Rea_wordLength 15 rfl) rfl 1 rfl rfl ?_
        refine Sd_iaload (pc' := 30) (dc D_Rea_wordLength 16 rfl) rfl ?_
        refine Sd_bipush (pc' := 32) (dc D_Rea_wordLength 17 rfl) rfl ⟨by decide, by decide⟩ (by decide) ?_
        refine Sd_icmp_gt (tgt := 41) (pc' := 35) (dc D_Rea_wordLength 18 rfl) (by decide) rfl (fun _ => ?_) (fun _ => ?_)
        · refine Sd_iload_n (pc' := 42) (dc D_Rea_wordLength 21 rfl) rfl 1 rfl rfl ?_
          refine Sd_aload_n (pc' := 43) (dc D_Rea_wordLength 22 rfl) rfl 0 rfl rfl ?_
          refine Sd_getI (pc' := 46) (dc D_Rea_wordLength 23 rfl) rfl F_Rea_153 rfl rfl ?_
          refine Sd_isub (pc' := 47) (dc D_Rea_wordLength 24 rfl) rfl ?_
          exact Sd_iret (dc D_Rea_wordLength 25 rfl) rfl
        · refine Sd_iinc (pc' := 38) (l' := [(1, _), (0, _)]) (dc D_Rea_wordLength 19 rfl) rfl 1 rfl (by decide) rfl ?_
          refine Sd_goto (tgt := 5) (dc D_Rea_wordLength 20 rfl) (by decide) ?_
          refine Sd.sub (l' := [(0, _), (1, _)]) [1, 0] rfl ?_
          exact s_Rea_wordLength_L5 n _ _ _
def Rea_wordLength (v0 : Nat) (h : AH) : Option (Int × AH) := rc h 7 v0 <| bnd (Rea_place v0 h) fun x2 h1 => Rea_wordLength_L5 FU v0 x2 h1
set_option maxHeartbeats 4000000 in
set_option maxRecDepth 20000 in
theorem s_Rea_wordLength (v0 : Nat) (h : AH) : CS M_Rea_wordLength 2 20 emI [vr v0] h (Rea_wordLength v0 h) := by
  refine CS.of (by decide) (Nat.le_of_ble_eq_true rfl) ?_
  show Sd M_Rea_wordLength 2 20 emI 0 [(0, vr v0)] [] h _
  unfold Rea_wordLength
  refine Sd_aload_n (pc' := 1) (dc D_Rea_wordLength 0 rfl) rfl 0 rfl rfl ?_
  refine Sd.callVI (ci := 6) (t := 7) (as := []) RX6 (pc' := 4) (dc D_Rea_wordLength 1 rfl) rfl rfl rfl rfl K_Rea_place L_Rea_43 Ks_Rea_place Kv_Rea_place ⟨by decide, by decide⟩ rfl rfl (Nat.le_of_ble_eq_true rfl) (s_Rea_place _ _) (fun x2 h1 => ?_)
  refine Sd_istore_n (pc' := 5) (l' := [(1, _), (0, _)]) (dc D_Rea_wordLength 2 rfl) rfl rfl (by decide) rfl ?_
  refine Sd.sub (l' := [(0, _), (1, _)]) [1, 0] rfl ?_
  exact s_Rea_wordLength_L5 FU _ _ _
theorem K_Rea_wordLength : MOk M_Rea_wordLength 0 := ⟨Tb_at 122 (by decide +kernel) rfl, Tb_at 540 (by decide +kernel) rfl, by decide +kernel, by decide +kernel, by decide +kernel⟩
theorem Ks_Rea_wordLength : Cond.instanceMethod yX6_wordLength ∈ Tb := Tb_at 539 (by decide +kernel) rfl
theorem Kv_Rea_wordLength : Cond.selects RX6 yX6_wordLength yX6_wordLength ∈ Tb := Tb_at 5 (by decide +kernel) rfl
/-! ===== BatchShare$Reader.takeWord(Ljava/lang/String;)Z ===== -/
abbrev M_Rea_takeWord : AMt := (yX6_takeWord, cX6_takeWord, 3, (some .boolean))
def T_Rea_takeWord : List (Nat × Instr × Nat) := [(0, .aload_n 0, 1), (1, .invokevirtual 156, 3), (4, .aload_n 1, 1), (5, .invokevirtual 159, 3), (8, .if_icmp .eq 5, 3), (11, .iconst 0, 1), (12, .ireturn, 1), (13, .iconst 0, 1), (14, .istore_n 2, 1), (15, .iload_n 2, 1), (16, .aload_n 1, 1), (17, .invokevirtual 159, 3), (20, .if_icmp .ge 30, 3), (23, .aload_n 0, 1), (24, .getfield 9, 3), (27, .aload_n 0, 1), (28, .getfield 153, 3), (31, .iload_n 2, 1), (32, .iadd, 1), (33, .iaload, 1), (34, .aload_n 1, 1), (35, .iload_n 2, 1), (36, .invokevirtual 163, 3), (39, .if_icmp .eq 5, 3), (42, .iconst 0, 1), (43, .ireturn, 1), (44, .iinc 2 1, 3), (47, .goto (-32), 3), (50, .aload_n 0, 1), (51, .dup, 1), (52, .getfield 153, 3), (55, .aload_n 1, 1), (56, .invokevirtual 159, 3), (59, .iadd, 1), (60, .putfield 153, 3), (63, .iconst 1, 1), (64, .ireturn, 1)]
set_option maxRecDepth 20000 in
theorem D_Rea_takeWord : (T_Rea_takeWord.all fun q => decide (decode M_Rea_takeWord.2.1 q.1 = .ok q.2)) = true := by decide +kernel
def Rea_takeWord_L15 : Nat → Nat → Nat → Int → AH → Option (Int × AH)
  | 0, _, _, _, _ => none
  | n + 1, v0, v1, v2, h => sLen v1 fun x1 => if (x1 : Int) ≤ v2 then (gI h 7 v0 2 fun x2 => sLen v1 fun x3 => pI h 7 v0 2 (wr (x2 + x3)) fun h4 => some (1, h4)) else (gR h 7 v0 0 fun r5 => gI h 7 v0 2 fun x6 => aI h 21 r5 (wr (x6 + v2)) fun x7 => sAt v1 v2 fun x8 => if (x7 : Int) = x8 then (Rea_takeWord_L15 n v0 v1 ((wr (v2 + 1))) h) else (some (0, h)))
set_option maxHeartbeats 4000000 in
set_option maxRecDepth 20000 in
theorem s_Rea_takeWord_L15 : ∀ (n : Nat) (v0 : Nat) (v1 : Nat) (v2 : Int) (h : AH), Sd M_Rea_takeWord 6 151 emI 15 [(0, vr v0), (1, vr v1), (2, vi v2)] [] h (Rea_takeWord_L15 n v0 v1 v2 h)
  | 0, _, _, _, _ => Sd.none
  | n + 1, v0, v1, v2, h => by
    rw [Rea_takeWord_L15]
    refine Sd_iload_n (pc' := 16) (dc D_Rea_takeWord 9 rfl) rfl 2 rfl rfl ?_
    refine Sd_aload_n (pc' := 17) (dc D_Rea_takeWord 10 rfl) rfl 1 rfl rfl ?_
    refine Sd_strlen (pc' := 20) (dc D_Rea_takeWord 11 rfl) rfl L_Rea_159 (by decide) (Nat.le_of_ble_eq_true rfl) ?_
    refine Sd_icmp_ge (tgt := 50) (pc' := 23) (dc D_Rea_takeWord 12 rfl) (by decide) rfl (fun _ => ?_) (fun _ => ?_)
    · refine Sd_aload_n (pc' := 51) (dc D_Rea_takeWord 28 rfl) rfl 0 rfl rfl ?_
      refine Sd_dup (pc' := 52) (dc D_Rea_takeWord 29 rfl) rfl (cat_r _) ?_
      refine Sd_getI (pc' := 55) (dc D_Rea_takeWord 30 rfl) rfl F_Rea_153 rfl rfl ?_
      refine Sd_aload_n (pc' := 56) (dc D_Rea_takeWord 31 rfl) rfl 1 rfl rfl ?_
      refine Sd_strlen (pc' := 59) (dc D_Rea_takeWord 32 rfl) rfl L_Rea_159 (by decide) (Nat.le_of_ble_eq_true rfl) ?_
      refine Sd_iadd (pc' := 60) (dc D_Rea_takeWord 33 rfl) rfl ?_
      refine Sd_putI (pc' := 63) (dc D_Rea_takeWord 34 rfl) rfl F_Rea_153 rfl rfl rfl (finOk.no rfl) (by decide) ?_
      refine Sd_iconst (pc' := 64) (dc D_Rea_takeWord 35 rfl) rfl ⟨by decide, by decide⟩ ?_
      exact Sd_zret (dc D_Rea_takeWord 36 rfl) rfl (Or.inr rfl)
    · refine Sd_aload_n (pc' := 24) (dc D_Rea_takeWord 13 rfl) rfl 0 rfl rfl ?_
      refine Sd_getR (pc' := 27) (dc D_Rea_takeWord 14 rfl) rfl F_Rea_9 rfl rfl ?_
      refine Sd_aload_n (pc' := 28) (dc D_Rea_takeWord 15 rfl) rfl 0 rfl rfl ?_
      refine Sd_getI (pc' := 31) (dc D_Rea_takeWord 16 rfl) rfl F_Rea_153 rfl rfl ?_
      refine Sd_iload_n (pc' := 32) (dc D_Rea_takeWord 17 rfl) rfl 2 rfl rfl ?_
      refine Sd_iadd (pc' := 33) (dc D_Rea_takeWord 18 rfl) rfl ?_
      refine Sd_iaload (pc' := 34) (dc D_Rea_takeWord 19 rfl) rfl ?_
      refine Sd_aload_n (pc' := 35) (dc D_Rea_takeWord 20 rfl) rfl 1 rfl rfl ?_
      refine Sd_iload_n (pc' := 36) (dc D_Rea_takeWord 21 rfl) rfl 2 rfl rfl ?_
      refine Sd_strat (pc' := 39) (dc D_Rea_takeWord 22 rfl) rfl L_Rea_163 (by decide) (Nat.le_of_ble_eq_true rfl) ?_
      refine Sd_icmp_eq (tgt := 44) (pc' := 42) (dc D_Rea_takeWord 23 rfl) (by decide) rfl (fun _ => ?_) (fun _ => ?_)
      · refine Sd_iinc (pc' := 47) (l' := [(2, _), (0, _), (1, _)]) (dc D_Rea_takeWord 26 rfl) rfl 2 rfl (by decide) rfl ?_
        refine Sd_goto (tgt := 15) (dc D_Rea_takeWord 27 rfl) (by decide) ?_
        refine Sd.sub (l' := [(0, _), (1, _), (2, _)]) [1, 2, 0] rfl ?_
        exact s_Rea_takeWord_L15 n _ _ _ _
      · refine Sd_iconst (pc' := 43) (dc D_Rea_takeWord 24 rfl) rfl ⟨by decide, by decide⟩ ?_
        exact Sd_zret (dc D_Rea_takeWord 25 rfl) rfl (Or.inl rfl)
def Rea_takeWord (v0 : Nat) (v1 : Nat) (h : AH) : Option (Int × AH) := rc h 7 v0 <| bnd (Rea_wordLength v0 h) fun x2 h1 => sLen v1 fun x4 => if (x2 : Int) = x4 then (Rea_takeWord_L15 FU v0 v1 0 h1) else (some (0, h1))
set_option maxHeartbeats 4000000 in
set_option maxRecDepth 20000 in
theorem s_Rea_takeWord (v0 : Nat) (v1 : Nat) (h : AH) : CS M_Rea_takeWord 6 151 emI [vr v0, vr v1] h (Rea_takeWord v0 v1 h) := by
  refine CS.of (by decide) (Nat.le_of_ble_eq_true rfl) ?_
  show Sd M_Rea_takeWord 6 151 emI 0 [(0, vr v0), (1, vr v1)] [] h _
  unfold Rea_takeWord
  refine Sd_aload_n (pc' := 1) (dc D_Rea_takeWord 0 rfl) rfl 0 rfl rfl ?_
  refine Sd.callVI (ci := 6) (t := 7) (as := []) RX6 (pc' := 4) (dc D_Rea_takeWord 1 rfl) rfl rfl rfl rfl K_Rea_wordLength L_Rea_156 Ks_Rea_wordLength Kv_Rea_wordLength ⟨by decide, by decide⟩ rfl rfl (Nat.le_of_ble_eq_true rfl) (s_Rea_wordLength _ _) (fun x2 h1 => ?_)
  refine Sd_aload_n (pc' := 5) (dc D_Rea_takeWord 2 rfl) rfl 1 rfl rfl ?_
  refine Sd_strlen (pc' := 8) (dc D_Rea_takeWord 3 rfl) rfl L_Rea_159 (by decide) (Nat.le_of_ble_eq_true rfl) ?_
  refine Sd_icmp_eq (tgt := 13) (pc' := 11) (dc D_Rea_takeWord 4 rfl) (by decide) rfl (fun _ => ?_) (fun _ => ?_)
  · refine Sd_iconst (pc' := 14) (dc D_Rea_takeWord 7 rfl) rfl ⟨by decide, by decide⟩ ?_
    refine Sd_istore_n (pc' := 15) (l' := [(2, _), (0, _), (1, _)]) (dc D_Rea_takeWord 8 rfl) rfl rfl (by decide) rfl ?_
    refine Sd.sub (l' := [(0, _), (1, _), (2, _)]) [1, 2, 0] rfl ?_
    exact s_Rea_takeWord_L15 FU _ _ _ _
  · refine Sd_iconst (pc' := 12) (dc D_Rea_takeWord 5 rfl) rfl ⟨by decide, by decide⟩ ?_
    exact Sd_zret (dc D_Rea_takeWord 6 rfl) rfl (Or.inl rfl)
theorem K_Rea_takeWord : MOk M_Rea_takeWord 1 := ⟨Tb_at 122 (by decide +kernel) rfl, Tb_at 536 (by decide +kernel) rfl, by decide +kernel, by decide +kernel, by decide +kernel⟩
theorem Ks_Rea_takeWord : Cond.instanceMethod yX6_takeWord ∈ Tb := Tb_at 535 (by decide +kernel) rfl
theorem Kv_Rea_takeWord : Cond.selects RX6 yX6_takeWord yX6_takeWord ∈ Tb := Tb_at 4 (by decide +kernel) rfl
/-! ===== BatchShare$Reader.fail(II)V ===== -/
abbrev M_Rea_fail : AMt := (yX6_fail, cX6_fail, 3, none)
def T_Rea_fail : List (Nat × Instr × Nat) := [(0, .aload_n 0, 1), (1, .getfield 24, 3), (4, .ifCond .ne 15, 3), (7, .aload_n 0, 1), (8, .iconst 1, 1), (9, .bipush 8, 2), (11, .iload_n 1, 1), (12, .imul, 1), (13, .iadd, 1), (14, .iload_n 2, 1), (15, .iadd, 1), (16, .putfield 24, 3), (19, .return_, 1)]
set_option maxRecDepth 20000 in
theorem D_Rea_fail : (T_Rea_fail.all fun q => decide (decode M_Rea_fail.2.1 q.1 = .ok q.2)) = true := by decide +kernel
def Rea_fail (v0 : Nat) (v1 : Int) (v2 : Int) (h : AH) : Option (Unit × AH) := gI h 7 v0 3 fun x1 => if ¬ (x1 : Int) = 0 then (some ((), h)) else (pI h 7 v0 3 (wr ((wr (1 + (wr (8 * v1)))) + v2)) fun h2 => some ((), h2))
set_option maxHeartbeats 4000000 in
set_option maxRecDepth 20000 in
theorem s_Rea_fail (v0 : Nat) (v1 : Int) (v2 : Int) (h : AH) : CS M_Rea_fail 1 0 emV [vr v0, vi v1, vi v2] h (Rea_fail v0 v1 v2 h) := by
  refine CS.of (by decide) (Nat.le_of_ble_eq_true rfl) ?_
  show Sd M_Rea_fail 1 0 emV 0 [(0, vr v0), (1, vi v1), (2, vi v2)] [] h _
  unfold Rea_fail
  refine Sd_aload_n (pc' := 1) (dc D_Rea_fail 0 rfl) rfl 0 rfl rfl ?_
  refine Sd_getI (pc' := 4) (dc D_Rea_fail 1 rfl) rfl F_Rea_24 rfl rfl ?_
  refine Sd_if_ne (tgt := 19) (pc' := 7) (dc D_Rea_fail 2 rfl) (by decide) rfl (fun _ => ?_) (fun _ => ?_)
  · exact Sd_vret (dc D_Rea_fail 12 rfl) rfl
  · refine Sd_aload_n (pc' := 8) (dc D_Rea_fail 3 rfl) rfl 0 rfl rfl ?_
    refine Sd_iconst (pc' := 9) (dc D_Rea_fail 4 rfl) rfl ⟨by decide, by decide⟩ ?_
    refine Sd_bipush (pc' := 11) (dc D_Rea_fail 5 rfl) rfl ⟨by decide, by decide⟩ (by decide) ?_
    refine Sd_iload_n (pc' := 12) (dc D_Rea_fail 6 rfl) rfl 1 rfl rfl ?_
    refine Sd_imul (pc' := 13) (dc D_Rea_fail 7 rfl) rfl ?_
    refine Sd_iadd (pc' := 14) (dc D_Rea_fail 8 rfl) rfl ?_
    refine Sd_iload_n (pc' := 15) (dc D_Rea_fail 9 rfl) rfl 2 rfl rfl ?_
    refine Sd_iadd (pc' := 16) (dc D_Rea_fail 10 rfl) rfl ?_
    refine Sd_putI (pc' := 19) (dc D_Rea_fail 11 rfl) rfl F_Rea_24 rfl rfl rfl (finOk.no rfl) (by decide) ?_
    exact Sd_vret (dc D_Rea_fail 12 rfl) rfl
theorem K_Rea_fail : MOk M_Rea_fail 2 := ⟨Tb_at 122 (by decide +kernel) rfl, Tb_at 592 (by decide +kernel) rfl, by decide +kernel, by decide +kernel, by decide +kernel⟩
theorem Ks_Rea_fail : Cond.instanceMethod yX6_fail ∈ Tb := Tb_at 591 (by decide +kernel) rfl
theorem Kv_Rea_fail : Cond.selects RX6 yX6_fail yX6_fail ∈ Tb := Tb_at 6 (by decide +kernel) rfl
/-! ===== BatchShare$Reader.takeNumber(I)I ===== -/
abbrev M_Rea_takeNumber : AMt := (yX6_takeNumber, cX6_takeNumber, 4, (some .int))
def T_Rea_takeNumber : List (Nat × Instr × Nat) := [(0, .aload_n 0, 1), (1, .invokevirtual 43, 3), (4, .istore_n 2, 1), (5, .iconst 0, 1), (6, .istore_n 3, 1), (7, .aload_n 0, 1), (8, .getfield 153, 3), (11, .aload_n 0, 1), (12, .getfield 150, 3), (15, .if_icmp .ge 72, 3), (18, .aload_n 0, 1), (19, .getfield 9, 3), (22, .aload_n 0, 1), (23, .getfield 153, 3), (26, .iaload, 1), (27, .bipush 48, 2), (29, .if_icmp .lt 58, 3), (32, .aload_n 0, 1), (33, .getfield 9, 3), (36, .aload_n 0, 1), (37, .getfield 153, 3), (40, .iaload, 1), (41, .bipush 57, 2), (43, .if_icmp .gt 44, 3), (46, .aload_n 0, 1), (47, .getfield 153, 3), (50, .iload_n 2, 1), (51, .isub, 1), (52, .iconst 5, 1), (53, .if_icmp .ge 21, 3), (56, .bipush 10, 2), (58, .iload_n 3, 1), (59, .imul, 1), (60, .aload_n 0, 1), (61, .getfield 9, 3), (64, .aload_n 0, 1), (65, .getfield 153, 3), (68, .iaload, 1), (69, .iadd, 1), (70, .bipush 48, 2), (72, .isub, 1), (73, .istore_n 3, 1), (74, .aload_n 0, 1), (75, .dup, 1), (76, .getfield 153, 3), (79, .iconst 1, 1), (80, .iadd, 1), (81, .putfield 153, 3), (84, .goto (-77), 3), (87, .aload_n 0, 1), (88, .getfield 153, 3), (91, .iload_n 2, 1), (92, .if_icmp .ne 12, 3), (95, .aload_n 0, 1), (96, .iload_n 2, 1), (97, .iconst 0, 1), (98, .invokevirtual 53, 3), (101, .goto 24, 3), (104, .aload_n 0, 1), (105, .getfield 153, 3), (108, .iload_n 2, 1), (109, .isub, 1), (110, .iconst 5, 1), (111, .if_icmp .gt 8, 3), (114, .iload_n 3, 1), (115, .iload_n 1, 1), (116, .if_icmp .le 9, 3), (119, .aload_n 0, 1), (120, .iload_n 2, 1), (121, .iconst 1, 1), (122, .invokevirtual 53, 3), (125, .iload_n 3, 1), (126, .ireturn, 1)]
set_option maxRecDepth 20000 in
theorem D_Rea_takeNumber : (T_Rea_takeNumber.all fun q => decide (decode M_Rea_takeNumber.2.1 q.1 = .ok q.2)) = true := by decide +kernel
def Rea_takeNumber_L87 (v0 : Nat) (v1 : Int) (v2 : Int) (v3 : Int) (h : AH) : Option (Int × AH) := gI h 7 v0 2 fun x1 => if ¬ (x1 : Int) = v2 then (gI h 7 v0 2 fun x2 => if (5 : Int) < (wr (x2 - v2)) then (rc h 7 v0 <| bnd (Rea_fail v0 v2 1 h) fun _ h3 => some (v3, h3)) else (if (v3 : Int) ≤ v1 then (some (v3, h)) else (rc h 7 v0 <| bnd (Rea_fail v0 v2 1 h) fun _ h6 => some (v3, h6)))) else (rc h 7 v0 <| bnd (Rea_fail v0 v2 0 h) fun _ h9 => some (v3, h9))
set_option maxHeartbeats 4000000 in
set_option maxRecDepth 20000 in
theorem s_Rea_takeNumber_L87 (v0 : Nat) (v1 : Int) (v2 : Int) (v3 : Int) (h : AH) : Sd M_Rea_takeNumber 2 22 emI 87 [(0, vr v0), (1, vi v1), (2, vi v2), (3, vi v3)] [] h (Rea_takeNumber_L87 v0 v1 v2 v3 h) := by
  unfold Rea_takeNumber_L87
  refine Sd_aload_n (pc' := 88) (dc D_Rea_takeNumber 49 rfl) rfl 0 rfl rfl ?_
  refine Sd_getI (pc' := 91) (dc D_Rea_takeNumber 50 rfl) rfl F_Rea_153 rfl rfl ?_
  refine Sd_iload_n (pc' := 92) (dc D_Rea_takeNumber 51 rfl) rfl 2 rfl rfl ?_
  refine Sd_icmp_ne (tgt := 104) (pc' := 95) (dc D_Rea_takeNumber 52 rfl) (by decide) rfl (fun _ => ?_) (fun _ => ?_)
  · refine Sd_aload_n (pc' := 105) (dc D_Rea_takeNumber 58 rfl) rfl 0 rfl rfl ?_
    refine Sd_getI (pc' := 108) (dc D_Rea_takeNumber 59 rfl) rfl F_Rea_153 rfl rfl ?_
    refine Sd_iload_n (pc' := 109) (dc D_Rea_takeNumber 60 rfl) rfl 2 rfl rfl ?_
    refine Sd_isub (pc' := 110) (dc D_Rea_takeNumber 61 rfl) rfl ?_
    refine Sd_iconst (pc' := 111) (dc D_Rea_takeNumber 62 rfl) rfl ⟨by decide, by decide⟩ ?_
    refine Sd_icmp_gt (tgt := 119) (pc' := 114) (dc D_Rea_takeNumber 63 rfl) (by decide) rfl (fun _ => ?_) (fun _ => ?_)
    · refine Sd_aload_n (pc' := 120) (dc D_Rea_takeNumber 67 rfl) rfl 0 rfl rfl ?_
      refine Sd_iload_n (pc' := 121) (dc D_Rea_takeNumber 68 rfl) rfl 2 rfl rfl ?_
      refine Sd_iconst (pc' := 122) (dc D_Rea_takeNumber 69 rfl) rfl ⟨by decide, by decide⟩ ?_
      refine Sd.callVV (ci := 6) (t := 7) (as := [_, _]) RX6 (pc' := 125) (dc D_Rea_takeNumber 70 rfl) rfl rfl rfl rfl K_Rea_fail L_Rea_53 Ks_Rea_fail Kv_Rea_fail ⟨by decide, by decide⟩ rfl rfl (Nat.le_of_ble_eq_true rfl) (s_Rea_fail _ _ _ _) (fun _ h3 => ?_)
      refine Sd_iload_n (pc' := 126) (dc D_Rea_takeNumber 71 rfl) rfl 3 rfl rfl ?_
      exact Sd_iret (dc D_Rea_takeNumber 72 rfl) rfl
    · refine Sd_iload_n (pc' := 115) (dc D_Rea_takeNumber 64 rfl) rfl 3 rfl rfl ?_
      refine Sd_iload_n (pc' := 116) (dc D_Rea_takeNumber 65 rfl) rfl 1 rfl rfl ?_
      refine Sd_icmp_le (tgt := 125) (pc' := 119) (dc D_Rea_takeNumber 66 rfl) (by decide) rfl (fun _ => ?_) (fun _ => ?_)
      · refine Sd_iload_n (pc' := 126) (dc D_Rea_takeNumber 71 rfl) rfl 3 rfl rfl ?_
        exact Sd_iret (dc D_Rea_takeNumber 72 rfl) rfl
      · refine Sd_aload_n (pc' := 120) (dc D_Rea_takeNumber 67 rfl) rfl 0 rfl rfl ?_
        refine Sd_iload_n (pc' := 121) (dc D_Rea_takeNumber 68 rfl) rfl 2 rfl rfl ?_
        refine Sd_iconst (pc' := 122) (dc D_Rea_takeNumber 69 rfl) rfl ⟨by decide, by decide⟩ ?_
        refine Sd.callVV (ci := 6) (t := 7) (as := [_, _]) RX6 (pc' := 125) (dc D_Rea_takeNumber 70 rfl) rfl rfl rfl rfl K_Rea_fail L_Rea_53 Ks_Rea_fail Kv_Rea_fail ⟨by decide, by decide⟩ rfl rfl (Nat.le_of_ble_eq_true rfl) (s_Rea_fail _ _ _ _) (fun _ h6 => ?_)
        refine Sd_iload_n (pc' := 126) (dc D_Rea_takeNumber 71 rfl) rfl 3 rfl rfl ?_
        exact Sd_iret (dc D_Rea_takeNumber 72 rfl) rfl
  · refine Sd_aload_n (pc' := 96) (dc D_Rea_takeNumber 53 rfl) rfl 0 rfl rfl ?_
    refine Sd_iload_n (pc' := 97) (dc D_Rea_takeNumber 54 rfl) rfl 2 rfl rfl ?_
    refine Sd_iconst (pc' := 98) (dc D_Rea_takeNumber 55 rfl) rfl ⟨by decide, by decide⟩ ?_
    refine Sd.callVV (ci := 6) (t := 7) (as := [_, _]) RX6 (pc' := 101) (dc D_Rea_takeNumber 56 rfl) rfl rfl rfl rfl K_Rea_fail L_Rea_53 Ks_Rea_fail Kv_Rea_fail ⟨by decide, by decide⟩ rfl rfl (Nat.le_of_ble_eq_true rfl) (s_Rea_fail _ _ _ _) (fun _ h9 => ?_)
    refine Sd_goto (tgt := 125) (dc D_Rea_takeNumber 57 rfl) (by decide) ?_
    refine Sd_iload_n (pc' := 126) (dc D_Rea_takeNumber 71 rfl) rfl 3 rfl rfl ?_
    exact Sd_iret (dc D_Rea_takeNumber 72 rfl) rfl
def Rea_takeNumber_L7 : Nat → Nat → Int → Int → Int → AH → Option (Int × AH)
  | 0, _, _, _, _, _ => none
  | n + 1, v0, v1, v2, v3, h => gI h 7 v0 2 fun x1 => gI h 7 v0 1 fun x2 => if (x2 : Int) ≤ x1 then (Rea_takeNumber_L87 v0 v1 v2 v3 h) else (gR h 7 v0 0 fun r3 => gI h 7 v0 2 fun x4 => aI h 21 r3 x4 fun x5 => if (x5 : Int) < 48 then (Rea_takeNumber_L87 v0 v1 v2 v3 h) else (gR h 7 v0 0 fun r6 => gI h 7 v0 2 fun x7 => aI h 21 r6 x7 fun x8 => if (57 : Int) < x8 then (Rea_takeNumber_L87 v0 v1 v2 v3 h) else (gI h 7 v0 2 fun x9 => if (5 : Int) ≤ (wr (x9 - v2)) then (gI h 7 v0 2 fun x10 => pI h 7 v0 2 (wr (x10 + 1)) fun h11 => Rea_takeNumber_L7 n v0 v1 v2 v3 h11) else (gR h 7 v0 0 fun r12 => gI h 7 v0 2 fun x13 => aI h 21 r12 x13 fun x14 => gI h 7 v0 2 fun x15 => pI h 7 v0 2 (wr (x15 + 1)) fun h16 => Rea_takeNumber_L7 n v0 v1 v2 ((wr ((wr ((wr (10 * v3)) + x14)) - 48))) h16))))
set_option maxHeartbeats 4000000 in
set_option maxRecDepth 20000 in
theorem s_Rea_takeNumber_L7 : ∀ (n : Nat) (v0 : Nat) (v1 : Int) (v2 : Int) (v3 : Int) (h : AH), Sd M_Rea_takeNumber 2 22 emI 7 [(0, vr v0), (1, vi v1), (2, vi v2), (3, vi v3)] [] h (Rea_takeNumber_L7 n v0 v1 v2 v3 h)
  | 0, _, _, _, _, _ => Sd.none
  | n + 1, v0, v1, v2, v3, h => by
    rw [Rea_takeNumber_L7]
    refine Sd_aload_n (pc' := 8) (dc D_Rea_takeNumber 5 rfl) rfl 0 rfl rfl ?_
    refine Sd_getI (pc' := 11) (dc D_Rea_takeNumber 6 rfl) rfl F_Rea_153 rfl rfl ?_
    refine Sd_aload_n (pc' := 12) (dc D_Rea_takeNumber 7 rfl) rfl 0 rfl rfl ?_
    refine Sd_getI (pc' := 15) (dc D_Rea_takeNumber 8 rfl) rfl F_Rea_150 rfl rfl ?_
    refine Sd_icmp_ge (tgt := 87) (pc' := 18) (dc D_Rea_takeNumber 9 rfl) (by decide) rfl (fun _ => ?_) (fun _ => ?_)
    · exact s_Rea_takeNumber_L87 _ _ _ _ _
    · refine Sd_aload_n (pc' := 19) (dc D_Rea_takeNumber 10 rfl) rfl 0 rfl rfl ?_
      refine Sd_getR (pc' := 22) (dc D_Rea_takeNumber 11 rfl) rfl F_Rea_9 rfl rfl ?_
      refine Sd_aload_n (pc' := 23) (dc D_Rea_takeNumber 12 rfl) rfl 0 rfl rfl ?_
      refine Sd_getI (pc' := 26) (dc D_Rea_takeNumber 13 rfl) rfl F_Rea_153 rfl rfl ?_
      refine Sd_iaload (pc' := 27) (dc D_Rea_takeNumber 14 rfl) rfl ?_
      refine Sd_bipush (pc' := 29) (dc D_Rea_takeNumber 15 rfl) rfl ⟨by decide, by decide⟩ (by decide) ?_
      refine Sd_icmp_lt (tgt := 87) (pc' := 32) (dc D_Rea_takeNumber 16 rfl) (by decide) rfl (fun _ => ?_) (fun _ => ?_)
      · exact s_Rea_takeNumber_L87 _ _ _ _ _
      · refine Sd_aload_n (pc' := 33) (dc D_Rea_takeNumber 17 rfl) rfl 0 rfl rfl ?_
        refine Sd_getR (pc' := 36) (dc D_Rea_takeNumber 18 rfl) rfl F_Rea_9 rfl rfl ?_
        refine Sd_aload_n (pc' := 37) (dc D_Rea_takeNumber 19 rfl) rfl 0 rfl rfl ?_
        refine Sd_getI (pc' := 40) (dc D_Rea_takeNumber 20 rfl) rfl F_Rea_153 rfl rfl ?_
        refine Sd_iaload (pc' := 41) (dc D_Rea_takeNumber 21 rfl) rfl ?_
        refine Sd_bipush (pc' := 43) (dc D_Rea_takeNumber 22 rfl) rfl ⟨by decide, by decide⟩ (by decide) ?_
        refine Sd_icmp_gt (tgt := 87) (pc' := 46) (dc D_Rea_takeNumber 23 rfl) (by decide) rfl (fun _ => ?_) (fun _ => ?_)
        · exact s_Rea_takeNumber_L87 _ _ _ _ _
        · refine Sd_aload_n (pc' := 47) (dc D_Rea_takeNumber 24 rfl) rfl 0 rfl rfl ?_
          refine Sd_getI (pc' := 50) (dc D_Rea_takeNumber 25 rfl) rfl F_Rea_153 rfl rfl ?_
          refine Sd_iload_n (pc' := 51) (dc D_Rea_takeNumber 26 rfl) rfl 2 rfl rfl ?_
          refine Sd_isub (pc' := 52) (dc D_Rea_takeNumber 27 rfl) rfl ?_
          refine Sd_iconst (pc' := 53) (dc D_Rea_takeNumber 28 rfl) rfl ⟨by decide, by decide⟩ ?_
          refine Sd_icmp_ge (tgt := 74) (pc' := 56) (dc D_Rea_takeNumber 29 rfl) (by decide) rfl (fun _ => ?_) (fun _ => ?_)
          · refine Sd_aload_n (pc' := 75) (dc D_Rea_takeNumber 42 rfl) rfl 0 rfl rfl ?_
            refine Sd_dup (pc' := 76) (dc D_Rea_takeNumber 43 rfl) rfl (cat_r _) ?_
            refine Sd_getI (pc' := 79) (dc D_Rea_takeNumber 44 rfl) rfl F_Rea_153 rfl rfl ?_
            refine Sd_iconst (pc' := 80) (dc D_Rea_takeNumber 45 rfl) rfl ⟨by decide, by decide⟩ ?_
            refine Sd_iadd (pc' := 81) (dc D_Rea_takeNumber 46 rfl) rfl ?_
            refine Sd_putI (pc' := 84) (dc D_Rea_takeNumber 47 rfl) rfl F_Rea_153 rfl rfl rfl (finOk.no rfl) (by decide) ?_
            refine Sd_goto (tgt := 7) (dc D_Rea_takeNumber 48 rfl) (by decide) ?_
            exact s_Rea_takeNumber_L7 n _ _ _ _ _
          · refine Sd_bipush (pc' := 58) (dc D_Rea_takeNumber 30 rfl) rfl ⟨by decide, by decide⟩ (by decide) ?_
            refine Sd_iload_n (pc' := 59) (dc D_Rea_takeNumber 31 rfl) rfl 3 rfl rfl ?_
            refine Sd_imul (pc' := 60) (dc D_Rea_takeNumber 32 rfl) rfl ?_
            refine Sd_aload_n (pc' := 61) (dc D_Rea_takeNumber 33 rfl) rfl 0 rfl rfl ?_
            refine Sd_getR (pc' := 64) (dc D_Rea_takeNumber 34 rfl) rfl F_Rea_9 rfl rfl ?_
            refine Sd_aload_n (pc' := 65) (dc D_Rea_takeNumber 35 rfl) rfl 0 rfl rfl ?_
            refine Sd_getI (pc' := 68) (dc D_Rea_takeNumber 36 rfl) rfl F_Rea_153 rfl rfl ?_
            refine Sd_iaload (pc' := 69) (dc D_Rea_takeNumber 37 rfl) rfl ?_
            refine Sd_iadd (pc' := 70) (dc D_Rea_takeNumber 38 rfl) rfl ?_
            refine Sd_bipush (pc' := 72) (dc D_Rea_takeNumber 39 rfl) rfl ⟨by decide, by decide⟩ (by decide) ?_
            refine Sd_isub (pc' := 73) (dc D_Rea_takeNumber 40 rfl) rfl ?_
            refine Sd_istore_n (pc' := 74) (l' := [(3, _), (0, _), (1, _), (2, _)]) (dc D_Rea_takeNumber 41 rfl) rfl rfl (by decide) rfl ?_
            refine Sd_aload_n (pc' := 75) (dc D_Rea_takeNumber 42 rfl) rfl 1 rfl rfl ?_
            refine Sd_dup (pc' := 76) (dc D_Rea_takeNumber 43 rfl) rfl (cat_r _) ?_
            refine Sd_getI (pc' := 79) (dc D_Rea_takeNumber 44 rfl) rfl F_Rea_153 rfl rfl ?_
            refine Sd_iconst (pc' := 80) (dc D_Rea_takeNumber 45 rfl) rfl ⟨by decide, by decide⟩ ?_
            refine Sd_iadd (pc' := 81) (dc D_Rea_takeNumber 46 rfl) rfl ?_
            refine Sd_putI (pc' := 84) (dc D_Rea_takeNumber 47 rfl) rfl F_Rea_153 rfl rfl rfl (finOk.no rfl) (by decide) ?_
            refine Sd_goto (tgt := 7) (dc D_Rea_takeNumber 48 rfl) (by decide) ?_
            refine Sd.sub (l' := [(0, _), (1, _), (2, _), (3, _)]) [1, 2, 3, 0] rfl ?_
            exact s_Rea_takeNumber_L7 n _ _ _ _ _
def Rea_takeNumber (v0 : Nat) (v1 : Int) (h : AH) : Option (Int × AH) := rc h 7 v0 <| bnd (Rea_place v0 h) fun x2 h1 => Rea_takeNumber_L7 FU v0 v1 x2 0 h1
set_option maxHeartbeats 4000000 in
set_option maxRecDepth 20000 in
theorem s_Rea_takeNumber (v0 : Nat) (v1 : Int) (h : AH) : CS M_Rea_takeNumber 2 22 emI [vr v0, vi v1] h (Rea_takeNumber v0 v1 h) := by
  refine CS.of (by decide) (Nat.le_of_ble_eq_true rfl) ?_
  show Sd M_Rea_takeNumber 2 22 emI 0 [(0, vr v0), (1, vi v1)] [] h _
  unfold Rea_takeNumber
  refine Sd_aload_n (pc' := 1) (dc D_Rea_takeNumber 0 rfl) rfl 0 rfl rfl ?_
  refine Sd.callVI (ci := 6) (t := 7) (as := []) RX6 (pc' := 4) (dc D_Rea_takeNumber 1 rfl) rfl rfl rfl rfl K_Rea_place L_Rea_43 Ks_Rea_place Kv_Rea_place ⟨by decide, by decide⟩ rfl rfl (Nat.le_of_ble_eq_true rfl) (s_Rea_place _ _) (fun x2 h1 => ?_)
  refine Sd_istore_n (pc' := 5) (l' := [(2, _), (0, _), (1, _)]) (dc D_Rea_takeNumber 2 rfl) rfl rfl (by decide) rfl ?_
  refine Sd_iconst (pc' := 6) (dc D_Rea_takeNumber 3 rfl) rfl ⟨by decide, by decide⟩ ?_
  refine Sd_istore_n (pc' := 7) (l' := [(3, _), (2, _), (0, _), (1, _)]) (dc D_Rea_takeNumber 4 rfl) rfl rfl (by decide) rfl ?_
  refine Sd.sub (l' := [(0, _), (1, _), (2, _), (3, _)]) [2, 3, 1, 0] rfl ?_
  exact s_Rea_takeNumber_L7 FU _ _ _ _ _
theorem K_Rea_takeNumber : MOk M_Rea_takeNumber 1 := ⟨Tb_at 122 (by decide +kernel) rfl, Tb_at 596 (by decide +kernel) rfl, by decide +kernel, by decide +kernel, by decide +kernel⟩
theorem Ks_Rea_takeNumber : Cond.instanceMethod yX6_takeNumber ∈ Tb := Tb_at 595 (by decide +kernel) rfl
theorem Kv_Rea_takeNumber : Cond.selects RX6 yX6_takeNumber yX6_takeNumber ∈ Tb := Tb_at 7 (by decide +kernel) rfl
/-! ===== BatchShare$Reader.readRow(LBatchShare$Table;IZ)V ===== -/
abbrev M_Rea_readRow : AMt := (yX6_readRow, cX6_readRow, 7, none)
def T_Rea_readRow : List (Nat × Instr × Nat) := [(0, .iload_n 3, 1), (1, .ifCond .eq 10, 3), (4, .aload_n 1, 1), (5, .invokevirtual 76, 3), (8, .ifCond .eq 10, 3), (11, .aload_n 0, 1), (12, .iload_n 2, 1), (13, .iconst 4, 1), (14, .invokevirtual 53, 3), (17, .return_, 1), (18, .aload_n 0, 1), (19, .bipush 9, 2), (21, .invokevirtual 57, 3), (24, .istore 4, 2), (26, .aload_n 0, 1), (27, .bipush 9, 2), (29, .invokevirtual 57, 3), (32, .istore 5, 2), (34, .aload_n 1, 1), (35, .getfield 82, 3), (38, .iconst 2, 1), (39, .if_icmp .le 12, 3), (42, .aload_n 0, 1), (43, .bipush 9, 2), (45, .invokevirtual 57, 3), (48, .goto 4, 3), (51, .iconst 0, 1), (52, .istore 6, 2), (54, .aload_n 1, 1), (55, .iload 4, 2), (57, .iload 5, 2), (59, .iload 6, 2), (61, .invokevirtual 85, 3), (64, .return_, 1)]
set_option maxRecDepth 20000 in
theorem D_Rea_readRow : (T_Rea_readRow.all fun q => decide (decode M_Rea_readRow.2.1 q.1 = .ok q.2)) = true := by decide +kernel
def Rea_readRow (v0 : Nat) (v1 : Nat) (v2 : Int) (v3 : Int) (h : AH) : Option (Unit × AH) := if (v3 : Int) = 0 then (rc h 7 v0 <| bnd (Rea_fail v0 v2 4 h) fun _ h1 => some ((), h1)) else (rc h 10 v1 <| bnd (Tab_isFull v1 h) fun x5 h4 => if (x5 : Int) = 0 then (rc h4 7 v0 <| bnd (Rea_takeNumber v0 9 h4) fun x8 h7 => rc h7 7 v0 <| bnd (Rea_takeNumber v0 9 h7) fun x11 h10 => gI h10 10 v1 1 fun x13 => if (x13 : Int) ≤ 2 then (rc h10 10 v1 <| bnd (Tab_append v1 x8 x11 0 h10) fun _ h14 => some ((), h14)) else (rc h10 7 v0 <| bnd (Rea_takeNumber v0 9 h10) fun x18 h17 => rc h17 10 v1 <| bnd (Tab_append v1 x8 x11 x18 h17) fun _ h20 => some ((), h20))) else (rc h4 7 v0 <| bnd (Rea_fail v0 v2 4 h4) fun _ h23 => some ((), h23)))
set_option maxHeartbeats 4000000 in
set_option maxRecDepth 20000 in
theorem s_Rea_readRow (v0 : Nat) (v1 : Nat) (v2 : Int) (v3 : Int) (h : AH) : CS M_Rea_readRow 4 67 emV [vr v0, vr v1, vi v2, vi v3] h (Rea_readRow v0 v1 v2 v3 h) := by
  refine CS.of (by decide) (Nat.le_of_ble_eq_true rfl) ?_
  show Sd M_Rea_readRow 4 67 emV 0 [(0, vr v0), (1, vr v1), (2, vi v2), (3, vi v3)] [] h _
  unfold Rea_readRow
  refine Sd_iload_n (pc' := 1) (dc D_Rea_readRow 0 rfl) rfl 3 rfl rfl ?_
  refine Sd_if_eq (tgt := 11) (pc' := 4) (dc D_Rea_readRow 1 rfl) (by decide) rfl (fun _ => ?_) (fun _ => ?_)
  · refine Sd_aload_n (pc' := 12) (dc D_Rea_readRow 5 rfl) rfl 0 rfl rfl ?_
    refine Sd_iload_n (pc' := 13) (dc D_Rea_readRow 6 rfl) rfl 2 rfl rfl ?_
    refine Sd_iconst (pc' := 14) (dc D_Rea_readRow 7 rfl) rfl ⟨by decide, by decide⟩ ?_
    refine Sd.callVV (ci := 6) (t := 7) (as := [_, _]) RX6 (pc' := 17) (dc D_Rea_readRow 8 rfl) rfl rfl rfl rfl K_Rea_fail L_Rea_53 Ks_Rea_fail Kv_Rea_fail ⟨by decide, by decide⟩ rfl rfl (Nat.le_of_ble_eq_true rfl) (s_Rea_fail _ _ _ _) (fun _ h1 => ?_)
    exact Sd_vret (dc D_Rea_readRow 9 rfl) rfl
  · refine Sd_aload_n (pc' := 5) (dc D_Rea_readRow 2 rfl) rfl 1 rfl rfl ?_
    refine Sd.callVI (ci := 9) (t := 10) (as := []) RX9 (pc' := 8) (dc D_Rea_readRow 3 rfl) rfl rfl rfl rfl K_Tab_isFull L_Rea_76 Ks_Tab_isFull Kv_Tab_isFull ⟨by decide, by decide⟩ rfl rfl (Nat.le_of_ble_eq_true rfl) (s_Tab_isFull _ _) (fun x5 h4 => ?_)
    refine Sd_if_eq (tgt := 18) (pc' := 11) (dc D_Rea_readRow 4 rfl) (by decide) rfl (fun _ => ?_) (fun _ => ?_)
    · refine Sd_aload_n (pc' := 19) (dc D_Rea_readRow 10 rfl) rfl 0 rfl rfl ?_
      refine Sd_bipush (pc' := 21) (dc D_Rea_readRow 11 rfl) rfl ⟨by decide, by decide⟩ (by decide) ?_
      refine Sd.callVI (ci := 6) (t := 7) (as := [_]) RX6 (pc' := 24) (dc D_Rea_readRow 12 rfl) rfl rfl rfl rfl K_Rea_takeNumber L_Rea_57 Ks_Rea_takeNumber Kv_Rea_takeNumber ⟨by decide, by decide⟩ rfl rfl (Nat.le_of_ble_eq_true rfl) (s_Rea_takeNumber _ _ _) (fun x8 h7 => ?_)
      refine Sd_istore (pc' := 26) (l' := [(4, _), (0, _), (1, _), (2, _), (3, _)]) (dc D_Rea_readRow 13 rfl) rfl (by decide) rfl ?_
      refine Sd_aload_n (pc' := 27) (dc D_Rea_readRow 14 rfl) rfl 1 rfl rfl ?_
      refine Sd_bipush (pc' := 29) (dc D_Rea_readRow 15 rfl) rfl ⟨by decide, by decide⟩ (by decide) ?_
      refine Sd.callVI (ci := 6) (t := 7) (as := [_]) RX6 (pc' := 32) (dc D_Rea_readRow 16 rfl) rfl rfl rfl rfl K_Rea_takeNumber L_Rea_57 Ks_Rea_takeNumber Kv_Rea_takeNumber ⟨by decide, by decide⟩ rfl rfl (Nat.le_of_ble_eq_true rfl) (s_Rea_takeNumber _ _ _) (fun x11 h10 => ?_)
      refine Sd_istore (pc' := 34) (l' := [(5, _), (4, _), (0, _), (1, _), (2, _), (3, _)]) (dc D_Rea_readRow 17 rfl) rfl (by decide) rfl ?_
      refine Sd_aload_n (pc' := 35) (dc D_Rea_readRow 18 rfl) rfl 3 rfl rfl ?_
      refine Sd_getI (pc' := 38) (dc D_Rea_readRow 19 rfl) rfl F_Rea_82 rfl rfl ?_
      refine Sd_iconst (pc' := 39) (dc D_Rea_readRow 20 rfl) rfl ⟨by decide, by decide⟩ ?_
      refine Sd_icmp_le (tgt := 51) (pc' := 42) (dc D_Rea_readRow 21 rfl) (by decide) rfl (fun _ => ?_) (fun _ => ?_)
      · refine Sd_iconst (pc' := 52) (dc D_Rea_readRow 26 rfl) rfl ⟨by decide, by decide⟩ ?_
        refine Sd_istore (pc' := 54) (l' := [(6, _), (5, _), (4, _), (0, _), (1, _), (2, _), (3, _)]) (dc D_Rea_readRow 27 rfl) rfl (by decide) rfl ?_
        refine Sd_aload_n (pc' := 55) (dc D_Rea_readRow 28 rfl) rfl 4 rfl rfl ?_
        refine Sd_iload (pc' := 57) (dc D_Rea_readRow 29 rfl) rfl 2 rfl ?_
        refine Sd_iload (pc' := 59) (dc D_Rea_readRow 30 rfl) rfl 1 rfl ?_
        refine Sd_iload (pc' := 61) (dc D_Rea_readRow 31 rfl) rfl 0 rfl ?_
        refine Sd.callVV (ci := 9) (t := 10) (as := [_, _, _]) RX9 (pc' := 64) (dc D_Rea_readRow 32 rfl) rfl rfl rfl rfl K_Tab_append L_Rea_85 Ks_Tab_append Kv_Tab_append ⟨by decide, by decide⟩ rfl rfl (Nat.le_of_ble_eq_true rfl) (s_Tab_append _ _ _ _ _) (fun _ h14 => ?_)
        exact Sd_vret (dc D_Rea_readRow 33 rfl) rfl
      · refine Sd_aload_n (pc' := 43) (dc D_Rea_readRow 22 rfl) rfl 2 rfl rfl ?_
        refine Sd_bipush (pc' := 45) (dc D_Rea_readRow 23 rfl) rfl ⟨by decide, by decide⟩ (by decide) ?_
        refine Sd.callVI (ci := 6) (t := 7) (as := [_]) RX6 (pc' := 48) (dc D_Rea_readRow 24 rfl) rfl rfl rfl rfl K_Rea_takeNumber L_Rea_57 Ks_Rea_takeNumber Kv_Rea_takeNumber ⟨by decide, by decide⟩ rfl rfl (Nat.le_of_ble_eq_true rfl) (s_Rea_takeNumber _ _ _) (fun x18 h17 => ?_)
        refine Sd_goto (tgt := 52) (dc D_Rea_readRow 25 rfl) (by decide) ?_
        refine Sd_istore (pc' := 54) (l' := [(6, _), (5, _), (4, _), (0, _), (1, _), (2, _), (3, _)]) (dc D_Rea_readRow 27 rfl) rfl (by decide) rfl ?_
        refine Sd_aload_n (pc' := 55) (dc D_Rea_readRow 28 rfl) rfl 4 rfl rfl ?_
        refine Sd_iload (pc' := 57) (dc D_Rea_readRow 29 rfl) rfl 2 rfl ?_
        refine Sd_iload (pc' := 59) (dc D_Rea_readRow 30 rfl) rfl 1 rfl ?_
        refine Sd_iload (pc' := 61) (dc D_Rea_readRow 31 rfl) rfl 0 rfl ?_
        refine Sd.callVV (ci := 9) (t := 10) (as := [_, _, _]) RX9 (pc' := 64) (dc D_Rea_readRow 32 rfl) rfl rfl rfl rfl K_Tab_append L_Rea_85 Ks_Tab_append Kv_Tab_append ⟨by decide, by decide⟩ rfl rfl (Nat.le_of_ble_eq_true rfl) (s_Tab_append _ _ _ _ _) (fun _ h20 => ?_)
        exact Sd_vret (dc D_Rea_readRow 33 rfl) rfl
    · refine Sd_aload_n (pc' := 12) (dc D_Rea_readRow 5 rfl) rfl 0 rfl rfl ?_
      refine Sd_iload_n (pc' := 13) (dc D_Rea_readRow 6 rfl) rfl 2 rfl rfl ?_
      refine Sd_iconst (pc' := 14) (dc D_Rea_readRow 7 rfl) rfl ⟨by decide, by decide⟩ ?_
      refine Sd.callVV (ci := 6) (t := 7) (as := [_, _]) RX6 (pc' := 17) (dc D_Rea_readRow 8 rfl) rfl rfl rfl rfl K_Rea_fail L_Rea_53 Ks_Rea_fail Kv_Rea_fail ⟨by decide, by decide⟩ rfl rfl (Nat.le_of_ble_eq_true rfl) (s_Rea_fail _ _ _ _) (fun _ h23 => ?_)
      exact Sd_vret (dc D_Rea_readRow 9 rfl) rfl
theorem K_Rea_readRow : MOk M_Rea_readRow 3 := ⟨Tb_at 122 (by decide +kernel) rfl, Tb_at 601 (by decide +kernel) rfl, by decide +kernel, by decide +kernel, by decide +kernel⟩
theorem Ks_Rea_readRow : Cond.instanceMethod yX6_readRow ∈ Tb := Tb_at 600 (by decide +kernel) rfl
theorem Kv_Rea_readRow : Cond.selects RX6 yX6_readRow yX6_readRow ∈ Tb := Tb_at 8 (by decide +kernel) rfl
/-! ===== BatchShare$Reader.readClause(ILBatchShare$State;)V ===== -/
abbrev M_Rea_readClause : AMt := (yX6_readClause, cX6_readClause, 5, none)
def T_Rea_readClause : List (Nat × Instr × Nat) := [(0, .aload_n 0, 1), (1, .invokevirtual 43, 3), (4, .istore_n 3, 1), (5, .iload_n 1, 1), (6, .ifCond .le 13, 3), (9, .iload_n 1, 1), (10, .bipush 40, 2), (12, .if_icmp .ge 7, 3), (15, .iconst 1, 1), (16, .goto 4, 3), (19, .iconst 0, 1), (20, .istore 4, 2), (22, .aload_n 0, 1), (23, .ldc 47, 2), (25, .invokevirtual 49, 3), (28, .ifCond .eq 27, 3), (31, .iload_n 1, 1), (32, .ifCond .le 10, 3), (35, .aload_n 0, 1), (36, .iload_n 3, 1), (37, .iconst 4, 1), (38, .invokevirtual 53, 3), (41, .return_, 1), (42, .aload_n 2, 1), (43, .aload_n 0, 1), (44, .bipush 99, 2), (46, .invokevirtual 57, 3), (49, .putfield 61, 3), (52, .goto 59, 3), (55, .aload_n 0, 1), (56, .ldc 64, 2), (58, .invokevirtual 49, 3), (61, .ifCond .eq 19, 3), (64, .aload_n 0, 1), (65, .aload_n 2, 1), (66, .getfield 66, 3), (69, .iconst 0, 1), (70, .aaload, 1), (71, .iload_n 3, 1), (72, .iload 4, 2), (74, .invokevirtual 70, 3), (77, .goto 34, 3), (80, .aload_n 0, 1), (81, .ldc 74, 2), (83, .invokevirtual 49, 3), (86, .ifCond .eq 19, 3), (89, .aload_n 0, 1), (90, .aload_n 2, 1), (91, .getfield 66, 3), (94, .iconst 1, 1), (95, .aaload, 1), (96, .iload_n 3, 1), (97, .iload 4, 2), (99, .invokevirtual 70, 3), (102, .goto 9, 3), (105, .aload_n 0, 1), (106, .iload_n 3, 1), (107, .iconst 0, 1), (108, .invokevirtual 53, 3), (111, .return_, 1)]
set_option maxRecDepth 20000 in
theorem D_Rea_readClause : (T_Rea_readClause.all fun q => decide (decode M_Rea_readClause.2.1 q.1 = .ok q.2)) = true := by decide +kernel
def Rea_readClause_L20 (v0 : Nat) (v1 : Int) (v2 : Nat) (v3 : Int) (s0 : Int) (h : AH) : Option (Unit × AH) := rc h 7 v0 <| bnd (Rea_takeWord v0 1 h) fun x2 h1 => if (x2 : Int) = 0 then (rc h1 7 v0 <| bnd (Rea_takeWord v0 2 h1) fun x5 h4 => if (x5 : Int) = 0 then (rc h4 7 v0 <| bnd (Rea_takeWord v0 3 h4) fun x8 h7 => if (x8 : Int) = 0 then (rc h7 7 v0 <| bnd (Rea_fail v0 v3 0 h7) fun _ h10 => some ((), h10)) else (gR h7 9 v2 0 fun r13 => aR h7 34 r13 1 fun r14 => rc h7 7 v0 <| bnd (Rea_readRow v0 r14 v3 s0 h7) fun _ h15 => some ((), h15))) else (gR h4 9 v2 0 fun r18 => aR h4 34 r18 0 fun r19 => rc h4 7 v0 <| bnd (Rea_readRow v0 r19 v3 s0 h4) fun _ h20 => some ((), h20))) else (if (v1 : Int) ≤ 0 then (rc h1 7 v0 <| bnd (Rea_takeNumber v0 99 h1) fun x24 h23 => pI h23 9 v2 3 x24 fun h26 => some ((), h26)) else (rc h1 7 v0 <| bnd (Rea_fail v0 v3 4 h1) fun _ h27 => some ((), h27)))
set_option maxHeartbeats 4000000 in
set_option maxRecDepth 20000 in
theorem s_Rea_readClause_L20 (v0 : Nat) (v1 : Int) (v2 : Nat) (v3 : Int) (s0 : Int) (h : AH) : Sd M_Rea_readClause 7 173 emV 20 [(0, vr v0), (1, vi v1), (2, vr v2), (3, vi v3)] [vi s0] h (Rea_readClause_L20 v0 v1 v2 v3 s0 h) := by
  unfold Rea_readClause_L20
  refine Sd_istore (pc' := 22) (l' := [(4, _), (0, _), (1, _), (2, _), (3, _)]) (dc D_Rea_readClause 11 rfl) rfl (by decide) rfl ?_
  refine Sd_aload_n (pc' := 23) (dc D_Rea_readClause 12 rfl) rfl 1 rfl rfl ?_
  refine Sd_lds (a := 1) (pc' := 25) (dc D_Rea_readClause 13 rfl) rfl (by decide) (List.mem_of_getElem? (i := 0) rfl) ?_
  refine Sd.callVI (ci := 6) (t := 7) (as := [_]) RX6 (pc' := 28) (dc D_Rea_readClause 14 rfl) rfl rfl rfl rfl K_Rea_takeWord L_Rea_49 Ks_Rea_takeWord Kv_Rea_takeWord ⟨by decide, by decide⟩ rfl rfl (Nat.le_of_ble_eq_true rfl) (s_Rea_takeWord _ _ _) (fun x2 h1 => ?_)
  refine Sd_if_eq (tgt := 55) (pc' := 31) (dc D_Rea_readClause 15 rfl) (by decide) rfl (fun _ => ?_) (fun _ => ?_)
  · refine Sd_aload_n (pc' := 56) (dc D_Rea_readClause 29 rfl) rfl 1 rfl rfl ?_
    refine Sd_lds (a := 2) (pc' := 58) (dc D_Rea_readClause 30 rfl) rfl (by decide) (List.mem_of_getElem? (i := 1) rfl) ?_
    refine Sd.callVI (ci := 6) (t := 7) (as := [_]) RX6 (pc' := 61) (dc D_Rea_readClause 31 rfl) rfl rfl rfl rfl K_Rea_takeWord L_Rea_49 Ks_Rea_takeWord Kv_Rea_takeWord ⟨by decide, by decide⟩ rfl rfl (Nat.le_of_ble_eq_true rfl) (s_Rea_takeWord _ _ _) (fun x5 h4 => ?_)
    refine Sd_if_eq (tgt := 80) (pc' := 64) (dc D_Rea_readClause 32 rfl) (by decide) rfl (fun _ => ?_) (fun _ => ?_)
    · refine Sd_aload_n (pc' := 81) (dc D_Rea_readClause 42 rfl) rfl 1 rfl rfl ?_
      refine Sd_lds (a := 3) (pc' := 83) (dc D_Rea_readClause 43 rfl) rfl (by decide) (List.mem_of_getElem? (i := 2) rfl) ?_
      refine Sd.callVI (ci := 6) (t := 7) (as := [_]) RX6 (pc' := 86) (dc D_Rea_readClause 44 rfl) rfl rfl rfl rfl K_Rea_takeWord L_Rea_49 Ks_Rea_takeWord Kv_Rea_takeWord ⟨by decide, by decide⟩ rfl rfl (Nat.le_of_ble_eq_true rfl) (s_Rea_takeWord _ _ _) (fun x8 h7 => ?_)
      refine Sd_if_eq (tgt := 105) (pc' := 89) (dc D_Rea_readClause 45 rfl) (by decide) rfl (fun _ => ?_) (fun _ => ?_)
      · refine Sd_aload_n (pc' := 106) (dc D_Rea_readClause 55 rfl) rfl 1 rfl rfl ?_
        refine Sd_iload_n (pc' := 107) (dc D_Rea_readClause 56 rfl) rfl 4 rfl rfl ?_
        refine Sd_iconst (pc' := 108) (dc D_Rea_readClause 57 rfl) rfl ⟨by decide, by decide⟩ ?_
        refine Sd.callVV (ci := 6) (t := 7) (as := [_, _]) RX6 (pc' := 111) (dc D_Rea_readClause 58 rfl) rfl rfl rfl rfl K_Rea_fail L_Rea_53 Ks_Rea_fail Kv_Rea_fail ⟨by decide, by decide⟩ rfl rfl (Nat.le_of_ble_eq_true rfl) (s_Rea_fail _ _ _ _) (fun _ h10 => ?_)
        exact Sd_vret (dc D_Rea_readClause 59 rfl) rfl
      · refine Sd_aload_n (pc' := 90) (dc D_Rea_readClause 46 rfl) rfl 1 rfl rfl ?_
        refine Sd_aload_n (pc' := 91) (dc D_Rea_readClause 47 rfl) rfl 3 rfl rfl ?_
        refine Sd_getR (pc' := 94) (dc D_Rea_readClause 48 rfl) rfl F_Rea_66 rfl rfl ?_
        refine Sd_iconst (pc' := 95) (dc D_Rea_readClause 49 rfl) rfl ⟨by decide, by decide⟩ ?_
        refine Sd_aaload (t := 34) (j := 6) (C0 := RX9) (pc' := 96) (dc D_Rea_readClause 50 rfl) rfl rfl (by decide) ?_
        refine Sd_iload_n (pc' := 97) (dc D_Rea_readClause 51 rfl) rfl 4 rfl rfl ?_
        refine Sd_iload (pc' := 99) (dc D_Rea_readClause 52 rfl) rfl 0 rfl ?_
        refine Sd.callVV (ci := 6) (t := 7) (as := [_, _, _]) RX6 (pc' := 102) (dc D_Rea_readClause 53 rfl) rfl rfl rfl rfl K_Rea_readRow L_Rea_70 Ks_Rea_readRow Kv_Rea_readRow ⟨by decide, by decide⟩ rfl rfl (Nat.le_of_ble_eq_true rfl) (s_Rea_readRow _ _ _ _ _) (fun _ h15 => ?_)
        refine Sd_goto (tgt := 111) (dc D_Rea_readClause 54 rfl) (by decide) ?_
        exact Sd_vret (dc D_Rea_readClause 59 rfl) rfl
    · refine Sd_aload_n (pc' := 65) (dc D_Rea_readClause 33 rfl) rfl 1 rfl rfl ?_
      refine Sd_aload_n (pc' := 66) (dc D_Rea_readClause 34 rfl) rfl 3 rfl rfl ?_
      refine Sd_getR (pc' := 69) (dc D_Rea_readClause 35 rfl) rfl F_Rea_66 rfl rfl ?_
      refine Sd_iconst (pc' := 70) (dc D_Rea_readClause 36 rfl) rfl ⟨by decide, by decide⟩ ?_
      refine Sd_aaload (t := 34) (j := 6) (C0 := RX9) (pc' := 71) (dc D_Rea_readClause 37 rfl) rfl rfl (by decide) ?_
      refine Sd_iload_n (pc' := 72) (dc D_Rea_readClause 38 rfl) rfl 4 rfl rfl ?_
      refine Sd_iload (pc' := 74) (dc D_Rea_readClause 39 rfl) rfl 0 rfl ?_
      refine Sd.callVV (ci := 6) (t := 7) (as := [_, _, _]) RX6 (pc' := 77) (dc D_Rea_readClause 40 rfl) rfl rfl rfl rfl K_Rea_readRow L_Rea_70 Ks_Rea_readRow Kv_Rea_readRow ⟨by decide, by decide⟩ rfl rfl (Nat.le_of_ble_eq_true rfl) (s_Rea_readRow _ _ _ _ _) (fun _ h20 => ?_)
      refine Sd_goto (tgt := 111) (dc D_Rea_readClause 41 rfl) (by decide) ?_
      exact Sd_vret (dc D_Rea_readClause 59 rfl) rfl
  · refine Sd_iload_n (pc' := 32) (dc D_Rea_readClause 16 rfl) rfl 2 rfl rfl ?_
    refine Sd_if_le (tgt := 42) (pc' := 35) (dc D_Rea_readClause 17 rfl) (by decide) rfl (fun _ => ?_) (fun _ => ?_)
    · refine Sd_aload_n (pc' := 43) (dc D_Rea_readClause 23 rfl) rfl 3 rfl rfl ?_
      refine Sd_aload_n (pc' := 44) (dc D_Rea_readClause 24 rfl) rfl 1 rfl rfl ?_
      refine Sd_bipush (pc' := 46) (dc D_Rea_readClause 25 rfl) rfl ⟨by decide, by decide⟩ (by decide) ?_
      refine Sd.callVI (ci := 6) (t := 7) (as := [_]) RX6 (pc' := 49) (dc D_Rea_readClause 26 rfl) rfl rfl rfl rfl K_Rea_takeNumber L_Rea_57 Ks_Rea_takeNumber Kv_Rea_takeNumber ⟨by decide, by decide⟩ rfl rfl (Nat.le_of_ble_eq_true rfl) (s_Rea_takeNumber _ _ _) (fun x24 h23 => ?_)
      refine Sd_putI (pc' := 52) (dc D_Rea_readClause 27 rfl) rfl F_Rea_61 rfl rfl rfl (finOk.no rfl) (by decide) ?_
      refine Sd_goto (tgt := 111) (dc D_Rea_readClause 28 rfl) (by decide) ?_
      exact Sd_vret (dc D_Rea_readClause 59 rfl) rfl
    · refine Sd_aload_n (pc' := 36) (dc D_Rea_readClause 18 rfl) rfl 1 rfl rfl ?_
      refine Sd_iload_n (pc' := 37) (dc D_Rea_readClause 19 rfl) rfl 4 rfl rfl ?_
      refine Sd_iconst (pc' := 38) (dc D_Rea_readClause 20 rfl) rfl ⟨by decide, by decide⟩ ?_
      refine Sd.callVV (ci := 6) (t := 7) (as := [_, _]) RX6 (pc' := 41) (dc D_Rea_readClause 21 rfl) rfl rfl rfl rfl K_Rea_fail L_Rea_53 Ks_Rea_fail Kv_Rea_fail ⟨by decide, by decide⟩ rfl rfl (Nat.le_of_ble_eq_true rfl) (s_Rea_fail _ _ _ _) (fun _ h27 => ?_)
      exact Sd_vret (dc D_Rea_readClause 22 rfl) rfl
def Rea_readClause (v0 : Nat) (v1 : Int) (v2 : Nat) (h : AH) : Option (Unit × AH) := rc h 7 v0 <| bnd (Rea_place v0 h) fun x2 h1 => if (v1 : Int) ≤ 0 then (Rea_readClause_L20 v0 v1 v2 x2 0 h1) else (if (40 : Int) ≤ v1 then (Rea_readClause_L20 v0 v1 v2 x2 0 h1) else (Rea_readClause_L20 v0 v1 v2 x2 1 h1))
set_option maxHeartbeats 4000000 in
set_option maxRecDepth 20000 in
theorem s_Rea_readClause (v0 : Nat) (v1 : Int) (v2 : Nat) (h : AH) : CS M_Rea_readClause 7 173 emV [vr v0, vi v1, vr v2] h (Rea_readClause v0 v1 v2 h) := by
  refine CS.of (by decide) (Nat.le_of_ble_eq_true rfl) ?_
  show Sd M_Rea_readClause 7 173 emV 0 [(0, vr v0), (1, vi v1), (2, vr v2)] [] h _
  unfold Rea_readClause
  refine Sd_aload_n (pc' := 1) (dc D_Rea_readClause 0 rfl) rfl 0 rfl rfl ?_
  refine Sd.callVI (ci := 6) (t := 7) (as := []) RX6 (pc' := 4) (dc D_Rea_readClause 1 rfl) rfl rfl rfl rfl K_Rea_place L_Rea_43 Ks_Rea_place Kv_Rea_place ⟨by decide, by decide⟩ rfl rfl (Nat.le_of_ble_eq_true rfl) (s_Rea_place _ _) (fun x2 h1 => ?_)
  refine Sd_istore_n (pc' := 5) (l' := [(3, _), (0, _), (1, _), (2, _)]) (dc D_Rea_readClause 2 rfl) rfl rfl (by decide) rfl ?_
  refine Sd_iload_n (pc' := 6) (dc D_Rea_readClause 3 rfl) rfl 2 rfl rfl ?_
  refine Sd_if_le (tgt := 19) (pc' := 9) (dc D_Rea_readClause 4 rfl) (by decide) rfl (fun _ => ?_) (fun _ => ?_)
  · refine Sd_iconst (pc' := 20) (dc D_Rea_readClause 10 rfl) rfl ⟨by decide, by decide⟩ ?_
    refine Sd.sub (l' := [(0, _), (1, _), (2, _), (3, _)]) [1, 2, 3, 0] rfl ?_
    exact s_Rea_readClause_L20 _ _ _ _ _ _
  · refine Sd_iload_n (pc' := 10) (dc D_Rea_readClause 5 rfl) rfl 2 rfl rfl ?_
    refine Sd_bipush (pc' := 12) (dc D_Rea_readClause 6 rfl) rfl ⟨by decide, by decide⟩ (by decide) ?_
    refine Sd_icmp_ge (tgt := 19) (pc' := 15) (dc D_Rea_readClause 7 rfl) (by decide) rfl (fun _ => ?_) (fun _ => ?_)
    · refine Sd_iconst (pc' := 20) (dc D_Rea_readClause 10 rfl) rfl ⟨by decide, by decide⟩ ?_
      refine Sd.sub (l' := [(0, _), (1, _), (2, _), (3, _)]) [1, 2, 3, 0] rfl ?_
      exact s_Rea_readClause_L20 _ _ _ _ _ _
    · refine Sd_iconst (pc' := 16) (dc D_Rea_readClause 8 rfl) rfl ⟨by decide, by decide⟩ ?_
      refine Sd_goto (tgt := 20) (dc D_Rea_readClause 9 rfl) (by decide) ?_
      refine Sd.sub (l' := [(0, _), (1, _), (2, _), (3, _)]) [1, 2, 3, 0] rfl ?_
      exact s_Rea_readClause_L20 _ _ _ _ _ _
theorem K_Rea_readClause : MOk M_Rea_readClause 2 := ⟨Tb_at 122 (by decide +kernel) rfl, Tb_at 527 (by decide +kernel) rfl, by decide +kernel, by decide +kernel, by decide +kernel⟩
theorem Ks_Rea_readClause : Cond.instanceMethod yX6_readClause ∈ Tb := Tb_at 526 (by decide +kernel) rfl
theorem Kv_Rea_readClause : Cond.selects RX6 yX6_readClause yX6_readClause ∈ Tb := Tb_at 2 (by decide +kernel) rfl
/-! ===== BatchShare$Reader.takeByte(C)Z ===== -/
abbrev M_Rea_takeByte : AMt := (yX6_takeByte, cX6_takeByte, 2, (some .boolean))
def T_Rea_takeByte : List (Nat × Instr × Nat) := [(0, .aload_n 0, 1), (1, .invokevirtual 43, 3), (4, .aload_n 0, 1), (5, .getfield 150, 3), (8, .if_icmp .ge 16, 3), (11, .aload_n 0, 1), (12, .getfield 9, 3), (15, .aload_n 0, 1), (16, .getfield 153, 3), (19, .iaload, 1), (20, .iload_n 1, 1), (21, .if_icmp .eq 5, 3), (24, .iconst 0, 1), (25, .ireturn, 1), (26, .aload_n 0, 1), (27, .dup, 1), (28, .getfield 153, 3), (31, .iconst 1, 1), (32, .iadd, 1), (33, .putfield 153, 3), (36, .iconst 1, 1), (37, .ireturn, 1)]
set_option maxRecDepth 20000 in
theorem D_Rea_takeByte : (T_Rea_takeByte.all fun q => decide (decode M_Rea_takeByte.2.1 q.1 = .ok q.2)) = true := by decide +kernel
def Rea_takeByte (v0 : Nat) (v1 : Int) (h : AH) : Option (Int × AH) := rc h 7 v0 <| bnd (Rea_place v0 h) fun x2 h1 => gI h1 7 v0 1 fun x4 => if (x4 : Int) ≤ x2 then (some (0, h1)) else (gR h1 7 v0 0 fun r5 => gI h1 7 v0 2 fun x6 => aI h1 21 r5 x6 fun x7 => if (x7 : Int) = v1 then (gI h1 7 v0 2 fun x8 => pI h1 7 v0 2 (wr (x8 + 1)) fun h9 => some (1, h9)) else (some (0, h1)))
set_option maxHeartbeats 4000000 in
set_option maxRecDepth 20000 in
theorem s_Rea_takeByte (v0 : Nat) (v1 : Int) (h : AH) : CS M_Rea_takeByte 2 20 emI [vr v0, vi v1] h (Rea_takeByte v0 v1 h) := by
  refine CS.of (by decide) (Nat.le_of_ble_eq_true rfl) ?_
  show Sd M_Rea_takeByte 2 20 emI 0 [(0, vr v0), (1, vi v1)] [] h _
  unfold Rea_takeByte
  refine Sd_aload_n (pc' := 1) (dc D_Rea_takeByte 0 rfl) rfl 0 rfl rfl ?_
  refine Sd.callVI (ci := 6) (t := 7) (as := []) RX6 (pc' := 4) (dc D_Rea_takeByte 1 rfl) rfl rfl rfl rfl K_Rea_place L_Rea_43 Ks_Rea_place Kv_Rea_place ⟨by decide, by decide⟩ rfl rfl (Nat.le_of_ble_eq_true rfl) (s_Rea_place _ _) (fun x2 h1 => ?_)
  refine Sd_aload_n (pc' := 5) (dc D_Rea_takeByte 2 rfl) rfl 0 rfl rfl ?_
  refine Sd_getI (pc' := 8) (dc D_Rea_takeByte 3 rfl) rfl F_Rea_150 rfl rfl ?_
  refine Sd_icmp_ge (tgt := 24) (pc' := 11) (dc D_Rea_takeByte 4 rfl) (by decide) rfl (fun _ => ?_) (fun _ => ?_)
  · refine Sd_iconst (pc' := 25) (dc D_Rea_takeByte 12 rfl) rfl ⟨by decide, by decide⟩ ?_
    exact Sd_zret (dc D_Rea_takeByte 13 rfl) rfl (Or.inl rfl)
  · refine Sd_aload_n (pc' := 12) (dc D_Rea_takeByte 5 rfl) rfl 0 rfl rfl ?_
    refine Sd_getR (pc' := 15) (dc D_Rea_takeByte 6 rfl) rfl F_Rea_9 rfl rfl ?_
    refine Sd_aload_n (pc' := 16) (dc D_Rea_takeByte 7 rfl) rfl 0 rfl rfl ?_
    refine Sd_getI (pc' := 19) (dc D_Rea_takeByte 8 rfl) rfl F_Rea_153 rfl rfl ?_
    refine Sd_iaload (pc' := 20) (dc D_Rea_takeByte 9 rfl) rfl ?_
    refine Sd_iload_n (pc' := 21) (dc D_Rea_takeByte 10 rfl) rfl 1 rfl rfl ?_
    refine Sd_icmp_eq (tgt := 26) (pc' := 24) (dc D_Rea_takeByte 11 rfl) (by decide) rfl (fun _ => ?_) (fun _ => ?_)
    · refine Sd_aload_n (pc' := 27) (dc D_Rea_takeByte 14 rfl) rfl 0 rfl rfl ?_
      refine Sd_dup (pc' := 28) (dc D_Rea_takeByte 15 rfl) rfl (cat_r _) ?_
      refine Sd_getI (pc' := 31) (dc D_Rea_takeByte 16 rfl) rfl F_Rea_153 rfl rfl ?_
      refine Sd_iconst (pc' := 32) (dc D_Rea_takeByte 17 rfl) rfl ⟨by decide, by decide⟩ ?_
      refine Sd_iadd (pc' := 33) (dc D_Rea_takeByte 18 rfl) rfl ?_
      refine Sd_putI (pc' := 36) (dc D_Rea_takeByte 19 rfl) rfl F_Rea_153 rfl rfl rfl (finOk.no rfl) (by decide) ?_
      refine Sd_iconst (pc' := 37) (dc D_Rea_takeByte 20 rfl) rfl ⟨by decide, by decide⟩ ?_
      exact Sd_zret (dc D_Rea_takeByte 21 rfl) rfl (Or.inr rfl)
    · refine Sd_iconst (pc' := 25) (dc D_Rea_takeByte 12 rfl) rfl ⟨by decide, by decide⟩ ?_
      exact Sd_zret (dc D_Rea_takeByte 13 rfl) rfl (Or.inl rfl)
theorem K_Rea_takeByte : MOk M_Rea_takeByte 1 := ⟨Tb_at 122 (by decide +kernel) rfl, Tb_at 627 (by decide +kernel) rfl, by decide +kernel, by decide +kernel, by decide +kernel⟩
theorem Ks_Rea_takeByte : Cond.instanceMethod yX6_takeByte ∈ Tb := Tb_at 626 (by decide +kernel) rfl
theorem Kv_Rea_takeByte : Cond.selects RX6 yX6_takeByte yX6_takeByte ∈ Tb := Tb_at 9 (by decide +kernel) rfl
/-! ===== BatchShare$Reader.close()V ===== -/
abbrev M_Rea_close : AMt := (yX6_close, cX6_close, 1, none)
def T_Rea_close : List (Nat × Instr × Nat) := [(0, .aload_n 0, 1), (1, .invokevirtual 43, 3), (4, .aload_n 0, 1), (5, .getfield 150, 3), (8, .if_icmp .ge 12, 3), (11, .aload_n 0, 1), (12, .aload_n 0, 1), (13, .getfield 153, 3), (16, .iconst 0, 1), (17, .invokevirtual 53, 3), (20, .return_, 1)]
set_option maxRecDepth 20000 in
theorem D_Rea_close : (T_Rea_close.all fun q => decide (decode M_Rea_close.2.1 q.1 = .ok q.2)) = true := by decide +kernel
def Rea_close (v0 : Nat) (h : AH) : Option (Unit × AH) := rc h 7 v0 <| bnd (Rea_place v0 h) fun x2 h1 => gI h1 7 v0 1 fun x4 => if (x4 : Int) ≤ x2 then (some ((), h1)) else (gI h1 7 v0 2 fun x5 => rc h1 7 v0 <| bnd (Rea_fail v0 x5 0 h1) fun _ h6 => some ((), h6))
set_option maxHeartbeats 4000000 in
set_option maxRecDepth 20000 in
theorem s_Rea_close (v0 : Nat) (h : AH) : CS M_Rea_close 2 22 emV [vr v0] h (Rea_close v0 h) := by
  refine CS.of (by decide) (Nat.le_of_ble_eq_true rfl) ?_
  show Sd M_Rea_close 2 22 emV 0 [(0, vr v0)] [] h _
  unfold Rea_close
  refine Sd_aload_n (pc' := 1) (dc D_Rea_close 0 rfl) rfl 0 rfl rfl ?_
  refine Sd.callVI (ci := 6) (t := 7) (as := []) RX6 (pc' := 4) (dc D_Rea_close 1 rfl) rfl rfl rfl rfl K_Rea_place L_Rea_43 Ks_Rea_place Kv_Rea_place ⟨by decide, by decide⟩ rfl rfl (Nat.le_of_ble_eq_true rfl) (s_Rea_place _ _) (fun x2 h1 => ?_)
  refine Sd_aload_n (pc' := 5) (dc D_Rea_close 2 rfl) rfl 0 rfl rfl ?_
  refine Sd_getI (pc' := 8) (dc D_Rea_close 3 rfl) rfl F_Rea_150 rfl rfl ?_
  refine Sd_icmp_ge (tgt := 20) (pc' := 11) (dc D_Rea_close 4 rfl) (by decide) rfl (fun _ => ?_) (fun _ => ?_)
  · exact Sd_vret (dc D_Rea_close 10 rfl) rfl
  · refine Sd_aload_n (pc' := 12) (dc D_Rea_close 5 rfl) rfl 0 rfl rfl ?_
    refine Sd_aload_n (pc' := 13) (dc D_Rea_close 6 rfl) rfl 0 rfl rfl ?_
    refine Sd_getI (pc' := 16) (dc D_Rea_close 7 rfl) rfl F_Rea_153 rfl rfl ?_
    refine Sd_iconst (pc' := 17) (dc D_Rea_close 8 rfl) rfl ⟨by decide, by decide⟩ ?_
    refine Sd.callVV (ci := 6) (t := 7) (as := [_, _]) RX6 (pc' := 20) (dc D_Rea_close 9 rfl) rfl rfl rfl rfl K_Rea_fail L_Rea_53 Ks_Rea_fail Kv_Rea_fail ⟨by decide, by decide⟩ rfl rfl (Nat.le_of_ble_eq_true rfl) (s_Rea_fail _ _ _ _) (fun _ h6 => ?_)
    exact Sd_vret (dc D_Rea_close 10 rfl) rfl
theorem K_Rea_close : MOk M_Rea_close 0 := ⟨Tb_at 122 (by decide +kernel) rfl, Tb_at 631 (by decide +kernel) rfl, by decide +kernel, by decide +kernel, by decide +kernel⟩
theorem Ks_Rea_close : Cond.instanceMethod yX6_close ∈ Tb := Tb_at 630 (by decide +kernel) rfl
theorem Kv_Rea_close : Cond.selects RX6 yX6_close yX6_close ∈ Tb := Tb_at 10 (by decide +kernel) rfl
/-! ===== BatchShare$Reader.readBase(ILBatchShare$State;)I ===== -/
abbrev M_Rea_readBase : AMt := (yX6_readBase, cX6_readBase, 4, (some .int))
def T_Rea_readBase : List (Nat × Instr × Nat) := [(0, .aload_n 0, 1), (1, .iload_n 1, 1), (2, .invokevirtual 15, 3), (5, .aload_n 2, 1), (6, .invokevirtual 19, 3), (9, .iconst 0, 1), (10, .istore_n 3, 1), (11, .iload_n 3, 1), (12, .bipush 40, 2), (14, .if_icmp .gt 41, 3), (17, .aload_n 0, 1), (18, .getfield 24, 3), (21, .ifCond .ne 34, 3), (24, .aload_n 0, 1), (25, .iload_n 3, 1), (26, .aload_n 2, 1), (27, .invokevirtual 28, 3), (30, .aload_n 0, 1), (31, .getfield 24, 3), (34, .ifCond .ne 21, 3), (37, .aload_n 0, 1), (38, .bipush 59, 2), (40, .invokevirtual 32, 3), (43, .ifCond .ne 6, 3), (46, .goto 9, 3), (49, .iinc 3 1, 3), (52, .goto (-41), 3), (55, .aload_n 0, 1), (56, .invokevirtual 36, 3), (59, .aload_n 2, 1), (60, .iconst 1, 1), (61, .putfield 39, 3), (64, .aload_n 0, 1), (65, .getfield 24, 3), (68, .ireturn, 1)]
set_option maxRecDepth 20000 in
theorem D_Rea_readBase : (T_Rea_readBase.all fun q => decide (decode M_Rea_readBase.2.1 q.1 = .ok q.2)) = true := by decide +kernel
def Rea_readBase_L11 : Nat → Nat → Nat → Int → AH → Option (Int × AH)
  | 0, _, _, _, _ => none
  | n + 1, v0, v2, v3, h => if (40 : Int) < v3 then (rc h 7 v0 <| bnd (Rea_close v0 h) fun _ h1 => pZ h1 9 v2 2 1 fun h4 => gI h4 7 v0 3 fun x5 => some (x5, h4)) else (gI h 7 v0 3 fun x6 => if ¬ (x6 : Int) = 0 then (rc h 7 v0 <| bnd (Rea_close v0 h) fun _ h7 => pZ h7 9 v2 2 1 fun h10 => gI h10 7 v0 3 fun x11 => some (x11, h10)) else (rc h 7 v0 <| bnd (Rea_readClause v0 v3 v2 h) fun _ h12 => gI h12 7 v0 3 fun x15 => if ¬ (x15 : Int) = 0 then (rc h12 7 v0 <| bnd (Rea_close v0 h12) fun _ h16 => pZ h16 9 v2 2 1 fun h19 => gI h19 7 v0 3 fun x20 => some (x20, h19)) else (rc h12 7 v0 <| bnd (Rea_takeByte v0 59 h12) fun x22 h21 => if ¬ (x22 : Int) = 0 then (Rea_readBase_L11 n v0 v2 ((wr (v3 + 1))) h21) else (rc h21 7 v0 <| bnd (Rea_close v0 h21) fun _ h24 => pZ h24 9 v2 2 1 fun h27 => gI h27 7 v0 3 fun x28 => some (x28, h27)))))
set_option maxHeartbeats 4000000 in
set_option maxRecDepth 20000 in
theorem s_Rea_readBase_L11 : ∀ (n : Nat) (v0 : Nat) (v2 : Nat) (v3 : Int) (h : AH), Sd M_Rea_readBase 8 197 emI 11 [(0, vr v0), (2, vr v2), (3, vi v3)] [] h (Rea_readBase_L11 n v0 v2 v3 h)
  | 0, _, _, _, _ => Sd.none
  | n + 1, v0, v2, v3, h => by
    rw [Rea_readBase_L11]
    refine Sd_iload_n (pc' := 12) (dc D_Rea_readBase 7 rfl) rfl 2 rfl rfl ?_
    refine Sd_bipush (pc' := 14) (dc D_Rea_readBase 8 rfl) rfl ⟨by decide, by decide⟩ (by decide) ?_
    refine Sd_icmp_gt (tgt := 55) (pc' := 17) (dc D_Rea_readBase 9 rfl) (by decide) rfl (fun _ => ?_) (fun _ => ?_)
    · refine Sd_aload_n (pc' := 56) (dc D_Rea_readBase 27 rfl) rfl 0 rfl rfl ?_
      refine Sd.callVV (ci := 6) (t := 7) (as := []) RX6 (pc' := 59) (dc D_Rea_readBase 28 rfl) rfl rfl rfl rfl K_Rea_close L_Rea_36 Ks_Rea_close Kv_Rea_close ⟨by decide, by decide⟩ rfl rfl (Nat.le_of_ble_eq_true rfl) (s_Rea_close _ _) (fun _ h1 => ?_)
      refine Sd_aload_n (pc' := 60) (dc D_Rea_readBase 29 rfl) rfl 1 rfl rfl ?_
      refine Sd_iconst (pc' := 61) (dc D_Rea_readBase 30 rfl) rfl ⟨by decide, by decide⟩ ?_
      refine Sd_putZ (pc' := 64) (dc D_Rea_readBase 31 rfl) rfl F_Rea_39 rfl rfl rfl (finOk.no rfl) (by decide) ?_
      refine Sd_aload_n (pc' := 65) (dc D_Rea_readBase 32 rfl) rfl 0 rfl rfl ?_
      refine Sd_getI (pc' := 68) (dc D_Rea_readBase 33 rfl) rfl F_Rea_24 rfl rfl ?_
      exact Sd_iret (dc D_Rea_readBase 34 rfl) rfl
    · refine Sd_aload_n (pc' := 18) (dc D_Rea_readBase 10 rfl) rfl 0 rfl rfl ?_
      refine Sd_getI (pc' := 21) (dc D_Rea_readBase 11 rfl) rfl F_Rea_24 rfl rfl ?_
      refine Sd_if_ne (tgt := 55) (pc' := 24) (dc D_Rea_readBase 12 rfl) (by decide) rfl (fun _ => ?_) (fun _ => ?_)
      · refine Sd_aload_n (pc' := 56) (dc D_Rea_readBase 27 rfl) rfl 0 rfl rfl ?_
        refine Sd.callVV (ci := 6) (t := 7) (as := []) RX6 (pc' := 59) (dc D_Rea_readBase 28 rfl) rfl rfl rfl rfl K_Rea_close L_Rea_36 Ks_Rea_close Kv_Rea_close ⟨by decide, by decide⟩ rfl rfl (Nat.le_of_ble_eq_true rfl) (s_Rea_close _ _) (fun _ h7 => ?_)
        refine Sd_aload_n (pc' := 60) (dc D_Rea_readBase 29 rfl) rfl 1 rfl rfl ?_
        refine Sd_iconst (pc' := 61) (dc D_Rea_readBase 30 rfl) rfl ⟨by decide, by decide⟩ ?_
        refine Sd_putZ (pc' := 64) (dc D_Rea_readBase 31 rfl) rfl F_Rea_39 rfl rfl rfl (finOk.no rfl) (by decide) ?_
        refine Sd_aload_n (pc' := 65) (dc D_Rea_readBase 32 rfl) rfl 0 rfl rfl ?_
        refine Sd_getI (pc' := 68) (dc D_Rea_readBase 33 rfl) rfl F_Rea_24 rfl rfl ?_
        exact Sd_iret (dc D_Rea_readBase 34 rfl) rfl
      · refine Sd_aload_n (pc' := 25) (dc D_Rea_readBase 13 rfl) rfl 0 rfl rfl ?_
        refine Sd_iload_n (pc' := 26) (dc D_Rea_readBase 14 rfl) rfl 2 rfl rfl ?_
        refine Sd_aload_n (pc' := 27) (dc D_Rea_readBase 15 rfl) rfl 1 rfl rfl ?_
        refine Sd.callVV (ci := 6) (t := 7) (as := [_, _]) RX6 (pc' := 30) (dc D_Rea_readBase 16 rfl) rfl rfl rfl rfl K_Rea_readClause L_Rea_28 Ks_Rea_readClause Kv_Rea_readClause ⟨by decide, by decide⟩ rfl rfl (Nat.le_of_ble_eq_true rfl) (s_Rea_readClause _ _ _ _) (fun _ h12 => ?_)
        refine Sd_aload_n (pc' := 31) (dc D_Rea_readBase 17 rfl) rfl 0 rfl rfl ?_
        refine Sd_getI (pc' := 34) (dc D_Rea_readBase 18 rfl) rfl F_Rea_24 rfl rfl ?_
        refine Sd_if_ne (tgt := 55) (pc' := 37) (dc D_Rea_readBase 19 rfl) (by decide) rfl (fun _ => ?_) (fun _ => ?_)
        · refine Sd_aload_n (pc' := 56) (dc D_Rea_readBase 27 rfl) rfl 0 rfl rfl ?_
          refine Sd.callVV (ci := 6) (t := 7) (as := []) RX6 (pc' := 59) (dc D_Rea_readBase 28 rfl) rfl rfl rfl rfl K_Rea_close L_Rea_36 Ks_Rea_close Kv_Rea_close ⟨by decide, by decide⟩ rfl rfl (Nat.le_of_ble_eq_true rfl) (s_Rea_close _ _) (fun _ h16 => ?_)
          refine Sd_aload_n (pc' := 60) (dc D_Rea_readBase 29 rfl) rfl 1 rfl rfl ?_
          refine Sd_iconst (pc' := 61) (dc D_Rea_readBase 30 rfl) rfl ⟨by decide, by decide⟩ ?_
          refine Sd_putZ (pc' := 64) (dc D_Rea_readBase 31 rfl) rfl F_Rea_39 rfl rfl rfl (finOk.no rfl) (by decide) ?_
          refine Sd_aload_n (pc' := 65) (dc D_Rea_readBase 32 rfl) rfl 0 rfl rfl ?_
          refine Sd_getI (pc' := 68) (dc D_Rea_readBase 33 rfl) rfl F_Rea_24 rfl rfl ?_
          exact Sd_iret (dc D_Rea_readBase 34 rfl) rfl
        · refine Sd_aload_n (pc' := 38) (dc D_Rea_readBase 20 rfl) rfl 0 rfl rfl ?_
          refine Sd_bipush (pc' := 40) (dc D_Rea_readBase 21 rfl) rfl ⟨by decide, by decide⟩ (by decide) ?_
          refine Sd.callVI (ci := 6) (t := 7) (as := [_]) RX6 (pc' := 43) (dc D_Rea_readBase 22 rfl) rfl rfl rfl rfl K_Rea_takeByte L_Rea_32 Ks_Rea_takeByte Kv_Rea_takeByte ⟨by decide, by decide⟩ rfl rfl (Nat.le_of_ble_eq_true rfl) (s_Rea_takeByte _ _ _) (fun x22 h21 => ?_)
          refine Sd_if_ne (tgt := 49) (pc' := 46) (dc D_Rea_readBase 23 rfl) (by decide) rfl (fun _ => ?_) (fun _ => ?_)
          · refine Sd_iinc (pc' := 52) (l' := [(3, _), (0, _), (2, _)]) (dc D_Rea_readBase 25 rfl) rfl 2 rfl (by decide) rfl ?_
            refine Sd_goto (tgt := 11) (dc D_Rea_readBase 26 rfl) (by decide) ?_
            refine Sd.sub (l' := [(0, _), (2, _), (3, _)]) [1, 2, 0] rfl ?_
            exact s_Rea_readBase_L11 n _ _ _ _
          · refine Sd_goto (tgt := 55) (dc D_Rea_readBase 24 rfl) (by decide) ?_
            refine Sd_aload_n (pc' := 56) (dc D_Rea_readBase 27 rfl) rfl 0 rfl rfl ?_
            refine Sd.callVV (ci := 6) (t := 7) (as := []) RX6 (pc' := 59) (dc D_Rea_readBase 28 rfl) rfl rfl rfl rfl K_Rea_close L_Rea_36 Ks_Rea_close Kv_Rea_close ⟨by decide, by decide⟩ rfl rfl (Nat.le_of_ble_eq_true rfl) (s_Rea_close _ _) (fun _ h24 => ?_)
            refine Sd_aload_n (pc' := 60) (dc D_Rea_readBase 29 rfl) rfl 1 rfl rfl ?_
            refine Sd_iconst (pc' := 61) (dc D_Rea_readBase 30 rfl) rfl ⟨by decide, by decide⟩ ?_
            refine Sd_putZ (pc' := 64) (dc D_Rea_readBase 31 rfl) rfl F_Rea_39 rfl rfl rfl (finOk.no rfl) (by decide) ?_
            refine Sd_aload_n (pc' := 65) (dc D_Rea_readBase 32 rfl) rfl 0 rfl rfl ?_
            refine Sd_getI (pc' := 68) (dc D_Rea_readBase 33 rfl) rfl F_Rea_24 rfl rfl ?_
            exact Sd_iret (dc D_Rea_readBase 34 rfl) rfl
def Rea_readBase (v0 : Nat) (v1 : Int) (v2 : Nat) (h : AH) : Option (Int × AH) := rc h 7 v0 <| bnd (Rea_open v0 v1 h) fun _ h1 => rc h1 9 v2 <| bnd (Sta_clear v2 h1) fun _ h4 => Rea_readBase_L11 FU v0 v2 0 h4
set_option maxHeartbeats 4000000 in
set_option maxRecDepth 20000 in
theorem s_Rea_readBase (v0 : Nat) (v1 : Int) (v2 : Nat) (h : AH) : CS M_Rea_readBase 8 197 emI [vr v0, vi v1, vr v2] h (Rea_readBase v0 v1 v2 h) := by
  refine CS.of (by decide) (Nat.le_of_ble_eq_true rfl) ?_
  show Sd M_Rea_readBase 8 197 emI 0 [(0, vr v0), (1, vi v1), (2, vr v2)] [] h _
  unfold Rea_readBase
  refine Sd_aload_n (pc' := 1) (dc D_Rea_readBase 0 rfl) rfl 0 rfl rfl ?_
  refine Sd_iload_n (pc' := 2) (dc D_Rea_readBase 1 rfl) rfl 1 rfl rfl ?_
  refine Sd.callVV (ci := 6) (t := 7) (as := [_]) RX6 (pc' := 5) (dc D_Rea_readBase 2 rfl) rfl rfl rfl rfl K_Rea_open L_Rea_15 Ks_Rea_open Kv_Rea_open ⟨by decide, by decide⟩ rfl rfl (Nat.le_of_ble_eq_true rfl) (s_Rea_open _ _ _) (fun _ h1 => ?_)
  refine Sd_aload_n (pc' := 6) (dc D_Rea_readBase 3 rfl) rfl 2 rfl rfl ?_
  refine Sd.callVV (ci := 8) (t := 9) (as := []) RX8 (pc' := 9) (dc D_Rea_readBase 4 rfl) rfl rfl rfl rfl K_Sta_clear L_Rea_19 Ks_Sta_clear Kv_Sta_clear ⟨by decide, by decide⟩ rfl rfl (Nat.le_of_ble_eq_true rfl) (s_Sta_clear _ _) (fun _ h4 => ?_)
  refine Sd_iconst (pc' := 10) (dc D_Rea_readBase 5 rfl) rfl ⟨by decide, by decide⟩ ?_
  refine Sd_istore_n (pc' := 11) (l' := [(3, _), (0, _), (1, _), (2, _)]) (dc D_Rea_readBase 6 rfl) rfl rfl (by decide) rfl ?_
  refine Sd.sub (l' := [(0, _), (2, _), (3, _)]) [1, 3, 0] rfl ?_
  exact s_Rea_readBase_L11 FU _ _ _ _
theorem K_Rea_readBase : MOk M_Rea_readBase 2 := ⟨Tb_at 122 (by decide +kernel) rfl, Tb_at 508 (by decide +kernel) rfl, by decide +kernel, by decide +kernel, by decide +kernel⟩
theorem Ks_Rea_readBase : Cond.instanceMethod yX6_readBase ∈ Tb := Tb_at 506 (by decide +kernel) rfl
theorem Kv_Rea_readBase : Cond.selects RX6 yX6_readBase yX6_readBase ∈ Tb := Tb_at 507 (by decide +kernel) rfl
/-! ===== BatchShare$Reader.takeCol(II)I ===== -/
abbrev M_Rea_takeCol : AMt := (yX6_takeCol, cX6_takeCol, 4, (some .int))
def T_Rea_takeCol : List (Nat × Instr × Nat) := [(0, .aload_n 0, 1), (1, .invokevirtual 156, 3), (4, .iconst 1, 1), (5, .if_icmp .ne 17, 3), (8, .aload_n 0, 1), (9, .getfield 9, 3), (12, .aload_n 0, 1), (13, .getfield 153, 3), (16, .iaload, 1), (17, .bipush 101, 2), (19, .if_icmp .le 14, 3), (22, .aload_n 0, 1), (23, .aload_n 0, 1), (24, .getfield 153, 3), (27, .iconst 0, 1), (28, .invokevirtual 53, 3), (31, .iload_n 1, 1), (32, .ireturn, 1), (33, .aload_n 0, 1), (34, .getfield 9, 3), (37, .aload_n 0, 1), (38, .getfield 153, 3), (41, .iaload, 1), (42, .bipush 97, 2), (44, .isub, 1), (45, .istore_n 3, 1), (46, .iload_n 3, 1), (47, .iload_n 1, 1), (48, .if_icmp .lt 8, 3), (51, .iload_n 3, 1), (52, .iload_n 2, 1), (53, .if_icmp .le 14, 3), (56, .aload_n 0, 1), (57, .aload_n 0, 1), (58, .getfield 153, 3), (61, .iconst 2, 1), (62, .invokevirtual 53, 3), (65, .iload_n 1, 1), (66, .ireturn, 1), (67, .aload_n 0, 1), (68, .dup, 1), (69, .getfield 153, 3), (72, .iconst 1, 1), (73, .iadd, 1), (74, .putfield 153, 3), (77, .iload_n 3, 1), (78, .ireturn, 1)]
set_option maxRecDepth 20000 in
theorem D_Rea_takeCol : (T_Rea_takeCol.all fun q => decide (decode M_Rea_takeCol.2.1 q.1 = .ok q.2)) = true := by decide +kernel
def Rea_takeCol (v0 : Nat) (v1 : Int) (v2 : Int) (h : AH) : Option (Int × AH) := rc h 7 v0 <| bnd (Rea_wordLength v0 h) fun x2 h1 => if ¬ (x2 : Int) = 1 then (gI h1 7 v0 2 fun x4 => rc h1 7 v0 <| bnd (Rea_fail v0 x4 0 h1) fun _ h5 => some (v1, h5)) else (gR h1 7 v0 0 fun r8 => gI h1 7 v0 2 fun x9 => aI h1 21 r8 x9 fun x10 => if (x10 : Int) ≤ 101 then (gR h1 7 v0 0 fun r11 => gI h1 7 v0 2 fun x12 => aI h1 21 r11 x12 fun x13 => if ((wr (x13 - 97)) : Int) < v1 then (gI h1 7 v0 2 fun x14 => rc h1 7 v0 <| bnd (Rea_fail v0 x14 2 h1) fun _ h15 => some (v1, h15)) else (if ((wr (x13 - 97)) : Int) ≤ v2 then (gI h1 7 v0 2 fun x18 => pI h1 7 v0 2 (wr (x18 + 1)) fun h19 => some ((wr (x13 - 97)), h19)) else (gI h1 7 v0 2 fun x20 => rc h1 7 v0 <| bnd (Rea_fail v0 x20 2 h1) fun _ h21 => some (v1, h21)))) else (gI h1 7 v0 2 fun x24 => rc h1 7 v0 <| bnd (Rea_fail v0 x24 0 h1) fun _ h25 => some (v1, h25)))
set_option maxHeartbeats 4000000 in
set_option maxRecDepth 20000 in
theorem s_Rea_takeCol (v0 : Nat) (v1 : Int) (v2 : Int) (h : AH) : CS M_Rea_takeCol 3 41 emI [vr v0, vi v1, vi v2] h (Rea_takeCol v0 v1 v2 h) := by
  refine CS.of (by decide) (Nat.le_of_ble_eq_true rfl) ?_
  show Sd M_Rea_takeCol 3 41 emI 0 [(0, vr v0), (1, vi v1), (2, vi v2)] [] h _
  unfold Rea_takeCol
  refine Sd_aload_n (pc' := 1) (dc D_Rea_takeCol 0 rfl) rfl 0 rfl rfl ?_
  refine Sd.callVI (ci := 6) (t := 7) (as := []) RX6 (pc' := 4) (dc D_Rea_takeCol 1 rfl) rfl rfl rfl rfl K_Rea_wordLength L_Rea_156 Ks_Rea_wordLength Kv_Rea_wordLength ⟨by decide, by decide⟩ rfl rfl (Nat.le_of_ble_eq_true rfl) (s_Rea_wordLength _ _) (fun x2 h1 => ?_)
  refine Sd_iconst (pc' := 5) (dc D_Rea_takeCol 2 rfl) rfl ⟨by decide, by decide⟩ ?_
  refine Sd_icmp_ne (tgt := 22) (pc' := 8) (dc D_Rea_takeCol 3 rfl) (by decide) rfl (fun _ => ?_) (fun _ => ?_)
  · refine Sd_aload_n (pc' := 23) (dc D_Rea_takeCol 11 rfl) rfl 0 rfl rfl ?_
    refine Sd_aload_n (pc' := 24) (dc D_Rea_takeCol 12 rfl) rfl 0 rfl rfl ?_
    refine Sd_getI (pc' := 27) (dc D_Rea_takeCol 13 rfl) rfl F_Rea_153 rfl rfl ?_
    refine Sd_iconst (pc' := 28) (dc D_Rea_takeCol 14 rfl) rfl ⟨by decide, by decide⟩ ?_
    refine Sd.callVV (ci := 6) (t := 7) (as := [_, _]) RX6 (pc' := 31) (dc D_Rea_takeCol 15 rfl) rfl rfl rfl rfl K_Rea_fail L_Rea_53 Ks_Rea_fail Kv_Rea_fail ⟨by decide, by decide⟩ rfl rfl (Nat.le_of_ble_eq_true rfl) (s_Rea_fail _ _ _ _) (fun _ h5 => ?_)
    refine Sd_iload_n (pc' := 32) (dc D_Rea_takeCol 16 rfl) rfl 1 rfl rfl ?_
    exact Sd_iret (dc D_Rea_takeCol 17 rfl) rfl
  · refine Sd_aload_n (pc' := 9) (dc D_Rea_takeCol 4 rfl) rfl 0 rfl rfl ?_
    refine Sd_getR (pc' := 12) (dc D_Rea_takeCol 5 rfl) rfl F_Rea_9 rfl rfl ?_
    refine Sd_aload_n (pc' := 13) (dc D_Rea_takeCol 6 rfl) rfl 0 rfl rfl ?_
    refine Sd_getI (pc' := 16) (dc D_Rea_takeCol 7 rfl) rfl F_Rea_153 rfl rfl ?_
    refine Sd_iaload (pc' := 17) (dc D_Rea_takeCol 8 rfl) rfl ?_
    refine Sd_bipush (pc' := 19) (dc D_Rea_takeCol 9 rfl) rfl ⟨by decide, by decide⟩ (by decide) ?_
    refine Sd_icmp_le (tgt := 33) (pc' := 22) (dc D_Rea_takeCol 10 rfl) (by decide) rfl (fun _ => ?_) (fun _ => ?_)
    · refine Sd_aload_n (pc' := 34) (dc D_Rea_takeCol 18 rfl) rfl 0 rfl rfl ?_
      refine Sd_getR (pc' := 37) (dc D_Rea_takeCol 19 rfl) rfl F_Rea_9 rfl rfl ?_
      refine Sd_aload_n (pc' := 38) (dc D_Rea_takeCol 20 rfl) rfl 0 rfl rfl ?_
      refine Sd_getI (pc' := 41) (dc D_Rea_takeCol 21 rfl) rfl F_Rea_153 rfl rfl ?_
      refine Sd_iaload (pc' := 42) (dc D_Rea_takeCol 22 rfl) rfl ?_
      refine Sd_bipush (pc' := 44) (dc D_Rea_takeCol 23 rfl) rfl ⟨by decide, by decide⟩ (by decide) ?_
      refine Sd_isub (pc' := 45) (dc D_Rea_takeCol 24 rfl) rfl ?_
      refine Sd_istore_n (pc' := 46) (l' := [(3, _), (0, _), (1, _), (2, _)]) (dc D_Rea_takeCol 25 rfl) rfl rfl (by decide) rfl ?_
      refine Sd_iload_n (pc' := 47) (dc D_Rea_takeCol 26 rfl) rfl 0 rfl rfl ?_
      refine Sd_iload_n (pc' := 48) (dc D_Rea_takeCol 27 rfl) rfl 2 rfl rfl ?_
      refine Sd_icmp_lt (tgt := 56) (pc' := 51) (dc D_Rea_takeCol 28 rfl) (by decide) rfl (fun _ => ?_) (fun _ => ?_)
      · refine Sd_aload_n (pc' := 57) (dc D_Rea_takeCol 32 rfl) rfl 1 rfl rfl ?_
        refine Sd_aload_n (pc' := 58) (dc D_Rea_takeCol 33 rfl) rfl 1 rfl rfl ?_
        refine Sd_getI (pc' := 61) (dc D_Rea_takeCol 34 rfl) rfl F_Rea_153 rfl rfl ?_
        refine Sd_iconst (pc' := 62) (dc D_Rea_takeCol 35 rfl) rfl ⟨by decide, by decide⟩ ?_
        refine Sd.callVV (ci := 6) (t := 7) (as := [_, _]) RX6 (pc' := 65) (dc D_Rea_takeCol 36 rfl) rfl rfl rfl rfl K_Rea_fail L_Rea_53 Ks_Rea_fail Kv_Rea_fail ⟨by decide, by decide⟩ rfl rfl (Nat.le_of_ble_eq_true rfl) (s_Rea_fail _ _ _ _) (fun _ h15 => ?_)
        refine Sd_iload_n (pc' := 66) (dc D_Rea_takeCol 37 rfl) rfl 2 rfl rfl ?_
        exact Sd_iret (dc D_Rea_takeCol 38 rfl) rfl
      · refine Sd_iload_n (pc' := 52) (dc D_Rea_takeCol 29 rfl) rfl 0 rfl rfl ?_
        refine Sd_iload_n (pc' := 53) (dc D_Rea_takeCol 30 rfl) rfl 3 rfl rfl ?_
        refine Sd_icmp_le (tgt := 67) (pc' := 56) (dc D_Rea_takeCol 31 rfl) (by decide) rfl (fun _ => ?_) (fun _ => ?_)
        · refine Sd_aload_n (pc' := 68) (dc D_Rea_takeCol 39 rfl) rfl 1 rfl rfl ?_
          refine Sd_dup (pc' := 69) (dc D_Rea_takeCol 40 rfl) rfl (cat_r _) ?_
          refine Sd_getI (pc' := 72) (dc D_Rea_takeCol 41 rfl) rfl F_Rea_153 rfl rfl ?_
          refine Sd_iconst (pc' := 73) (dc D_Rea_takeCol 42 rfl) rfl ⟨by decide, by decide⟩ ?_
          refine Sd_iadd (pc' := 74) (dc D_Rea_takeCol 43 rfl) rfl ?_
          refine Sd_putI (pc' := 77) (dc D_Rea_takeCol 44 rfl) rfl F_Rea_153 rfl rfl rfl (finOk.no rfl) (by decide) ?_
          refine Sd_iload_n (pc' := 78) (dc D_Rea_takeCol 45 rfl) rfl 0 rfl rfl ?_
          exact Sd_iret (dc D_Rea_takeCol 46 rfl) rfl
        · refine Sd_aload_n (pc' := 57) (dc D_Rea_takeCol 32 rfl) rfl 1 rfl rfl ?_
          refine Sd_aload_n (pc' := 58) (dc D_Rea_takeCol 33 rfl) rfl 1 rfl rfl ?_
          refine Sd_getI (pc' := 61) (dc D_Rea_takeCol 34 rfl) rfl F_Rea_153 rfl rfl ?_
          refine Sd_iconst (pc' := 62) (dc D_Rea_takeCol 35 rfl) rfl ⟨by decide, by decide⟩ ?_
          refine Sd.callVV (ci := 6) (t := 7) (as := [_, _]) RX6 (pc' := 65) (dc D_Rea_takeCol 36 rfl) rfl rfl rfl rfl K_Rea_fail L_Rea_53 Ks_Rea_fail Kv_Rea_fail ⟨by decide, by decide⟩ rfl rfl (Nat.le_of_ble_eq_true rfl) (s_Rea_fail _ _ _ _) (fun _ h21 => ?_)
          refine Sd_iload_n (pc' := 66) (dc D_Rea_takeCol 37 rfl) rfl 2 rfl rfl ?_
          exact Sd_iret (dc D_Rea_takeCol 38 rfl) rfl
    · refine Sd_aload_n (pc' := 23) (dc D_Rea_takeCol 11 rfl) rfl 0 rfl rfl ?_
      refine Sd_aload_n (pc' := 24) (dc D_Rea_takeCol 12 rfl) rfl 0 rfl rfl ?_
      refine Sd_getI (pc' := 27) (dc D_Rea_takeCol 13 rfl) rfl F_Rea_153 rfl rfl ?_
      refine Sd_iconst (pc' := 28) (dc D_Rea_takeCol 14 rfl) rfl ⟨by decide, by decide⟩ ?_
      refine Sd.callVV (ci := 6) (t := 7) (as := [_, _]) RX6 (pc' := 31) (dc D_Rea_takeCol 15 rfl) rfl rfl rfl rfl K_Rea_fail L_Rea_53 Ks_Rea_fail Kv_Rea_fail ⟨by decide, by decide⟩ rfl rfl (Nat.le_of_ble_eq_true rfl) (s_Rea_fail _ _ _ _) (fun _ h25 => ?_)
      refine Sd_iload_n (pc' := 32) (dc D_Rea_takeCol 16 rfl) rfl 1 rfl rfl ?_
      exact Sd_iret (dc D_Rea_takeCol 17 rfl) rfl
theorem K_Rea_takeCol : MOk M_Rea_takeCol 2 := ⟨Tb_at 122 (by decide +kernel) rfl, Tb_at 707 (by decide +kernel) rfl, by decide +kernel, by decide +kernel, by decide +kernel⟩
theorem Ks_Rea_takeCol : Cond.instanceMethod yX6_takeCol ∈ Tb := Tb_at 706 (by decide +kernel) rfl
theorem Kv_Rea_takeCol : Cond.selects RX6 yX6_takeCol yX6_takeCol ∈ Tb := Tb_at 12 (by decide +kernel) rfl
/-! ===== BatchShare$Reader.readSource(LBatchShare$Query;)V ===== -/
abbrev M_Rea_readSource : AMt := (yX6_readSource, cX6_readSource, 4, none)
def T_Rea_readSource : List (Nat × Instr × Nat) := [(0, .aload_n 0, 1), (1, .ldc 64, 2), (3, .invokevirtual 49, 3), (6, .ifCond .eq 13, 3), (9, .aload_n 1, 1), (10, .iconst 0, 1), (11, .iconst (-1), 1), (12, .iconst (-1), 1), (13, .invokevirtual 108, 3), (16, .goto 82, 3), (19, .aload_n 0, 1), (20, .ldc 74, 2), (22, .invokevirtual 49, 3), (25, .ifCond .eq 13, 3), (28, .aload_n 1, 1), (29, .iconst 1, 1), (30, .iconst (-1), 1), (31, .iconst (-1), 1), (32, .invokevirtual 108, 3), (35, .goto 63, 3), (38, .aload_n 0, 1), (39, .ldc 111, 2), (41, .invokevirtual 49, 3), (44, .ifCond .eq 45, 3), (47, .aload_n 0, 1), (48, .iconst 0, 1), (49, .iconst 2, 1), (50, .invokevirtual 113, 3), (53, .istore_n 2, 1), (54, .aload_n 0, 1), (55, .bipush 61, 2), (57, .invokevirtual 32, 3), (60, .ifCond .ne 12, 3), (63, .aload_n 0, 1), (64, .aload_n 0, 1), (65, .invokevirtual 43, 3), (68, .iconst 0, 1), (69, .invokevirtual 53, 3), (72, .aload_n 0, 1), (73, .iconst 3, 1), (74, .iconst 4, 1), (75, .invokevirtual 113, 3), (78, .istore_n 3, 1), (79, .aload_n 1, 1), (80, .iconst 2, 1), (81, .iload_n 2, 1), (82, .iload_n 3, 1), (83, .invokevirtual 108, 3), (86, .goto 12, 3), (89, .aload_n 0, 1), (90, .aload_n 0, 1), (91, .invokevirtual 43, 3), (94, .iconst 0, 1), (95, .invokevirtual 53, 3), (98, .return_, 1)]
set_option maxRecDepth 20000 in
theorem D_Rea_readSource : (T_Rea_readSource.all fun q => decide (decode M_Rea_readSource.2.1 q.1 = .ok q.2)) = true := by decide +kernel
def Rea_readSource_L72 (v0 : Nat) (v1 : Nat) (v2 : Int) (h : AH) : Option (Unit × AH) := rc h 7 v0 <| bnd (Rea_takeCol v0 3 4 h) fun x2 h1 => rc h1 6 v1 <| bnd (Que_begin v1 2 v2 x2 h1) fun _ h4 => some ((), h4)
set_option maxHeartbeats 4000000 in
set_option maxRecDepth 20000 in
theorem s_Rea_readSource_L72 (v0 : Nat) (v1 : Nat) (v2 : Int) (h : AH) : Sd M_Rea_readSource 7 173 emV 72 [(0, vr v0), (1, vr v1), (2, vi v2)] [] h (Rea_readSource_L72 v0 v1 v2 h) := by
  unfold Rea_readSource_L72
  refine Sd_aload_n (pc' := 73) (dc D_Rea_readSource 38 rfl) rfl 0 rfl rfl ?_
  refine Sd_iconst (pc' := 74) (dc D_Rea_readSource 39 rfl) rfl ⟨by decide, by decide⟩ ?_
  refine Sd_iconst (pc' := 75) (dc D_Rea_readSource 40 rfl) rfl ⟨by decide, by decide⟩ ?_
  refine Sd.callVI (ci := 6) (t := 7) (as := [_, _]) RX6 (pc' := 78) (dc D_Rea_readSource 41 rfl) rfl rfl rfl rfl K_Rea_takeCol L_Rea_113 Ks_Rea_takeCol Kv_Rea_takeCol ⟨by decide, by decide⟩ rfl rfl (Nat.le_of_ble_eq_true rfl) (s_Rea_takeCol _ _ _ _) (fun x2 h1 => ?_)
  refine Sd_istore_n (pc' := 79) (l' := [(3, _), (0, _), (1, _), (2, _)]) (dc D_Rea_readSource 42 rfl) rfl rfl (by decide) rfl ?_
  refine Sd_aload_n (pc' := 80) (dc D_Rea_readSource 43 rfl) rfl 2 rfl rfl ?_
  refine Sd_iconst (pc' := 81) (dc D_Rea_readSource 44 rfl) rfl ⟨by decide, by decide⟩ ?_
  refine Sd_iload_n (pc' := 82) (dc D_Rea_readSource 45 rfl) rfl 3 rfl rfl ?_
  refine Sd_iload_n (pc' := 83) (dc D_Rea_readSource 46 rfl) rfl 0 rfl rfl ?_
  refine Sd.callVV (ci := 5) (t := 6) (as := [_, _, _]) RX5 (pc' := 86) (dc D_Rea_readSource 47 rfl) rfl rfl rfl rfl K_Que_begin L_Rea_108 Ks_Que_begin Kv_Que_begin ⟨by decide, by decide⟩ rfl rfl (Nat.le_of_ble_eq_true rfl) (s_Que_begin _ _ _ _ _) (fun _ h4 => ?_)
  refine Sd_goto (tgt := 98) (dc D_Rea_readSource 48 rfl) (by decide) ?_
  exact Sd_vret (dc D_Rea_readSource 54 rfl) rfl
def Rea_readSource (v0 : Nat) (v1 : Nat) (h : AH) : Option (Unit × AH) := rc h 7 v0 <| bnd (Rea_takeWord v0 2 h) fun x2 h1 => if (x2 : Int) = 0 then (rc h1 7 v0 <| bnd (Rea_takeWord v0 3 h1) fun x5 h4 => if (x5 : Int) = 0 then (rc h4 7 v0 <| bnd (Rea_takeWord v0 4 h4) fun x8 h7 => if (x8 : Int) = 0 then (rc h7 7 v0 <| bnd (Rea_place v0 h7) fun x11 h10 => rc h10 7 v0 <| bnd (Rea_fail v0 x11 0 h10) fun _ h13 => some ((), h13)) else (rc h7 7 v0 <| bnd (Rea_takeCol v0 0 2 h7) fun x17 h16 => rc h16 7 v0 <| bnd (Rea_takeByte v0 61 h16) fun x20 h19 => if ¬ (x20 : Int) = 0 then (Rea_readSource_L72 v0 v1 x17 h19) else (rc h19 7 v0 <| bnd (Rea_place v0 h19) fun x23 h22 => rc h22 7 v0 <| bnd (Rea_fail v0 x23 0 h22) fun _ h25 => Rea_readSource_L72 v0 v1 x17 h25))) else (rc h4 6 v1 <| bnd (Que_begin v1 1 (-1) (-1) h4) fun _ h28 => some ((), h28))) else (rc h1 6 v1 <| bnd (Que_begin v1 0 (-1) (-1) h1) fun _ h31 => some ((), h31))
set_option maxHeartbeats 4000000 in
set_option maxRecDepth 20000 in
theorem s_Rea_readSource (v0 : Nat) (v1 : Nat) (h : AH) : CS M_Rea_readSource 7 173 emV [vr v0, vr v1] h (Rea_readSource v0 v1 h) := by
  refine CS.of (by decide) (Nat.le_of_ble_eq_true rfl) ?_
  show Sd M_Rea_readSource 7 173 emV 0 [(0, vr v0), (1, vr v1)] [] h _
  unfold Rea_readSource
  refine Sd_aload_n (pc' := 1) (dc D_Rea_readSource 0 rfl) rfl 0 rfl rfl ?_
  refine Sd_lds (a := 2) (pc' := 3) (dc D_Rea_readSource 1 rfl) rfl (by decide) (List.mem_of_getElem? (i := 1) rfl) ?_
  refine Sd.callVI (ci := 6) (t := 7) (as := [_]) RX6 (pc' := 6) (dc D_Rea_readSource 2 rfl) rfl rfl rfl rfl K_Rea_takeWord L_Rea_49 Ks_Rea_takeWord Kv_Rea_takeWord ⟨by decide, by decide⟩ rfl rfl (Nat.le_of_ble_eq_true rfl) (s_Rea_takeWord _ _ _) (fun x2 h1 => ?_)
  refine Sd_if_eq (tgt := 19) (pc' := 9) (dc D_Rea_readSource 3 rfl) (by decide) rfl (fun _ => ?_) (fun _ => ?_)
  · refine Sd_aload_n (pc' := 20) (dc D_Rea_readSource 10 rfl) rfl 0 rfl rfl ?_
    refine Sd_lds (a := 3) (pc' := 22) (dc D_Rea_readSource 11 rfl) rfl (by decide) (List.mem_of_getElem? (i := 2) rfl) ?_
    refine Sd.callVI (ci := 6) (t := 7) (as := [_]) RX6 (pc' := 25) (dc D_Rea_readSource 12 rfl) rfl rfl rfl rfl K_Rea_takeWord L_Rea_49 Ks_Rea_takeWord Kv_Rea_takeWord ⟨by decide, by decide⟩ rfl rfl (Nat.le_of_ble_eq_true rfl) (s_Rea_takeWord _ _ _) (fun x5 h4 => ?_)
    refine Sd_if_eq (tgt := 38) (pc' := 28) (dc D_Rea_readSource 13 rfl) (by decide) rfl (fun _ => ?_) (fun _ => ?_)
    · refine Sd_aload_n (pc' := 39) (dc D_Rea_readSource 20 rfl) rfl 0 rfl rfl ?_
      refine Sd_lds (a := 4) (pc' := 41) (dc D_Rea_readSource 21 rfl) rfl (by decide) (List.mem_of_getElem? (i := 3) rfl) ?_
      refine Sd.callVI (ci := 6) (t := 7) (as := [_]) RX6 (pc' := 44) (dc D_Rea_readSource 22 rfl) rfl rfl rfl rfl K_Rea_takeWord L_Rea_49 Ks_Rea_takeWord Kv_Rea_takeWord ⟨by decide, by decide⟩ rfl rfl (Nat.le_of_ble_eq_true rfl) (s_Rea_takeWord _ _ _) (fun x8 h7 => ?_)
      refine Sd_if_eq (tgt := 89) (pc' := 47) (dc D_Rea_readSource 23 rfl) (by decide) rfl (fun _ => ?_) (fun _ => ?_)
      · refine Sd_aload_n (pc' := 90) (dc D_Rea_readSource 49 rfl) rfl 0 rfl rfl ?_
        refine Sd_aload_n (pc' := 91) (dc D_Rea_readSource 50 rfl) rfl 0 rfl rfl ?_
        refine Sd.callVI (ci := 6) (t := 7) (as := []) RX6 (pc' := 94) (dc D_Rea_readSource 51 rfl) rfl rfl rfl rfl K_Rea_place L_Rea_43 Ks_Rea_place Kv_Rea_place ⟨by decide, by decide⟩ rfl rfl (Nat.le_of_ble_eq_true rfl) (s_Rea_place _ _) (fun x11 h10 => ?_)
        refine Sd_iconst (pc' := 95) (dc D_Rea_readSource 52 rfl) rfl ⟨by decide, by decide⟩ ?_
        refine Sd.callVV (ci := 6) (t := 7) (as := [_, _]) RX6 (pc' := 98) (dc D_Rea_readSource 53 rfl) rfl rfl rfl rfl K_Rea_fail L_Rea_53 Ks_Rea_fail Kv_Rea_fail ⟨by decide, by decide⟩ rfl rfl (Nat.le_of_ble_eq_true rfl) (s_Rea_fail _ _ _ _) (fun _ h13 => ?_)
        exact Sd_vret (dc D_Rea_readSource 54 rfl) rfl
      · refine Sd_aload_n (pc' := 48) (dc D_Rea_readSource 24 rfl) rfl 0 rfl rfl ?_
        refine Sd_iconst (pc' := 49) (dc D_Rea_readSource 25 rfl) rfl ⟨by decide, by decide⟩ ?_
        refine Sd_iconst (pc' := 50) (dc D_Rea_readSource 26 rfl) rfl ⟨by decide, by decide⟩ ?_
        refine Sd.callVI (ci := 6) (t := 7) (as := [_, _]) RX6 (pc' := 53) (dc D_Rea_readSource 27 rfl) rfl rfl rfl rfl K_Rea_takeCol L_Rea_113 Ks_Rea_takeCol Kv_Rea_takeCol ⟨by decide, by decide⟩ rfl rfl (Nat.le_of_ble_eq_true rfl) (s_Rea_takeCol _ _ _ _) (fun x17 h16 => ?_)
        refine Sd_istore_n (pc' := 54) (l' := [(2, _), (0, _), (1, _)]) (dc D_Rea_readSource 28 rfl) rfl rfl (by decide) rfl ?_
        refine Sd_aload_n (pc' := 55) (dc D_Rea_readSource 29 rfl) rfl 1 rfl rfl ?_
        refine Sd_bipush (pc' := 57) (dc D_Rea_readSource 30 rfl) rfl ⟨by decide, by decide⟩ (by decide) ?_
        refine Sd.callVI (ci := 6) (t := 7) (as := [_]) RX6 (pc' := 60) (dc D_Rea_readSource 31 rfl) rfl rfl rfl rfl K_Rea_takeByte L_Rea_32 Ks_Rea_takeByte Kv_Rea_takeByte ⟨by decide, by decide⟩ rfl rfl (Nat.le_of_ble_eq_true rfl) (s_Rea_takeByte _ _ _) (fun x20 h19 => ?_)
        refine Sd_if_ne (tgt := 72) (pc' := 63) (dc D_Rea_readSource 32 rfl) (by decide) rfl (fun _ => ?_) (fun _ => ?_)
        · refine Sd.sub (l' := [(0, _), (1, _), (2, _)]) [1, 2, 0] rfl ?_
          exact s_Rea_readSource_L72 _ _ _ _
        · refine Sd_aload_n (pc' := 64) (dc D_Rea_readSource 33 rfl) rfl 1 rfl rfl ?_
          refine Sd_aload_n (pc' := 65) (dc D_Rea_readSource 34 rfl) rfl 1 rfl rfl ?_
          refine Sd.callVI (ci := 6) (t := 7) (as := []) RX6 (pc' := 68) (dc D_Rea_readSource 35 rfl) rfl rfl rfl rfl K_Rea_place L_Rea_43 Ks_Rea_place Kv_Rea_place ⟨by decide, by decide⟩ rfl rfl (Nat.le_of_ble_eq_true rfl) (s_Rea_place _ _) (fun x23 h22 => ?_)
          refine Sd_iconst (pc' := 69) (dc D_Rea_readSource 36 rfl) rfl ⟨by decide, by decide⟩ ?_
          refine Sd.callVV (ci := 6) (t := 7) (as := [_, _]) RX6 (pc' := 72) (dc D_Rea_readSource 37 rfl) rfl rfl rfl rfl K_Rea_fail L_Rea_53 Ks_Rea_fail Kv_Rea_fail ⟨by decide, by decide⟩ rfl rfl (Nat.le_of_ble_eq_true rfl) (s_Rea_fail _ _ _ _) (fun _ h25 => ?_)
          refine Sd.sub (l' := [(0, _), (1, _), (2, _)]) [1, 2, 0] rfl ?_
          exact s_Rea_readSource_L72 _ _ _ _
    · refine Sd_aload_n (pc' := 29) (dc D_Rea_readSource 14 rfl) rfl 1 rfl rfl ?_
      refine Sd_iconst (pc' := 30) (dc D_Rea_readSource 15 rfl) rfl ⟨by decide, by decide⟩ ?_
      refine Sd_iconst (pc' := 31) (dc D_Rea_readSource 16 rfl) rfl ⟨by decide, by decide⟩ ?_
      refine Sd_iconst (pc' := 32) (dc D_Rea_readSource 17 rfl) rfl ⟨by decide, by decide⟩ ?_
      refine Sd.callVV (ci := 5) (t := 6) (as := [_, _, _]) RX5 (pc' := 35) (dc D_Rea_readSource 18 rfl) rfl rfl rfl rfl K_Que_begin L_Rea_108 Ks_Que_begin Kv_Que_begin ⟨by decide, by decide⟩ rfl rfl (Nat.le_of_ble_eq_true rfl) (s_Que_begin _ _ _ _ _) (fun _ h28 => ?_)
      refine Sd_goto (tgt := 98) (dc D_Rea_readSource 19 rfl) (by decide) ?_
      exact Sd_vret (dc D_Rea_readSource 54 rfl) rfl
  · refine Sd_aload_n (pc' := 10) (dc D_Rea_readSource 4 rfl) rfl 1 rfl rfl ?_
    refine Sd_iconst (pc' := 11) (dc D_Rea_readSource 5 rfl) rfl ⟨by decide, by decide⟩ ?_
    refine Sd_iconst (pc' := 12) (dc D_Rea_readSource 6 rfl) rfl ⟨by decide, by decide⟩ ?_
    refine Sd_iconst (pc' := 13) (dc D_Rea_readSource 7 rfl) rfl ⟨by decide, by decide⟩ ?_
    refine Sd.callVV (ci := 5) (t := 6) (as := [_, _, _]) RX5 (pc' := 16) (dc D_Rea_readSource 8 rfl) rfl rfl rfl rfl K_Que_begin L_Rea_108 Ks_Que_begin Kv_Que_begin ⟨by decide, by decide⟩ rfl rfl (Nat.le_of_ble_eq_true rfl) (s_Que_begin _ _ _ _ _) (fun _ h31 => ?_)
    refine Sd_goto (tgt := 98) (dc D_Rea_readSource 9 rfl) (by decide) ?_
    exact Sd_vret (dc D_Rea_readSource 54 rfl) rfl
theorem K_Rea_readSource : MOk M_Rea_readSource 1 := ⟨Tb_at 122 (by decide +kernel) rfl, Tb_at 674 (by decide +kernel) rfl, by decide +kernel, by decide +kernel, by decide +kernel⟩
theorem Ks_Rea_readSource : Cond.instanceMethod yX6_readSource ∈ Tb := Tb_at 673 (by decide +kernel) rfl
theorem Kv_Rea_readSource : Cond.selects RX6 yX6_readSource yX6_readSource ∈ Tb := Tb_at 11 (by decide +kernel) rfl
/-! ===== BatchShare$Reader.takeSigns()I ===== -/
abbrev M_Rea_takeSigns : AMt := (yX6_takeSigns, cX6_takeSigns, 2, (some .int))
def T_Rea_takeSigns : List (Nat × Instr × Nat) := [(0, .aload_n 0, 1), (1, .bipush 61, 2), (3, .invokevirtual 32, 3), (6, .ifCond .eq 5, 3), (9, .iconst 2, 1), (10, .ireturn, 1), (11, .aload_n 0, 1), (12, .bipush 60, 2), (14, .invokevirtual 32, 3), (17, .ifCond .eq 7, 3), (20, .iconst 1, 1), (21, .goto 17, 3), (24, .aload_n 0, 1), (25, .bipush 62, 2), (27, .invokevirtual 32, 3), (30, .ifCond .eq 7, 3), (33, .iconst 4, 1), (34, .goto 4, 3), (37, .iconst 0, 1), (38, .istore_n 1, 1), (39, .iload_n 1, 1), (40, .ifCond .ne 15, 3), (43, .aload_n 0, 1), (44, .aload_n 0, 1), (45, .getfield 153, 3), (48, .iconst 0, 1), (49, .invokevirtual 53, 3), (52, .goto 42, 3), (55, .aload_n 0, 1), (56, .getfield 153, 3), (59, .aload_n 0, 1), (60, .getfield 150, 3), (63, .if_icmp .ge 31, 3), (66, .aload_n 0, 1), (67, .getfield 9, 3), (70, .aload_n 0, 1), (71, .getfield 153, 3), (74, .iaload, 1), (75, .bipush 61, 2), (77, .if_icmp .ne 17, 3), (80, .aload_n 0, 1), (81, .dup, 1), (82, .getfield 153, 3), (85, .iconst 1, 1), (86, .iadd, 1), (87, .putfield 153, 3), (90, .iload_n 1, 1), (91, .iconst 2, 1), (92, .ior, 1), (93, .istore_n 1, 1), (94, .iload_n 1, 1), (95, .ireturn, 1)]
set_option maxRecDepth 20000 in
theorem D_Rea_takeSigns : (T_Rea_takeSigns.all fun q => decide (decode M_Rea_takeSigns.2.1 q.1 = .ok q.2)) = true := by decide +kernel
def Rea_takeSigns_L38 (v0 : Nat) (s0 : Int) (h : AH) : Option (Int × AH) := if ¬ (s0 : Int) = 0 then (gI h 7 v0 2 fun x1 => gI h 7 v0 1 fun x2 => if (x2 : Int) ≤ x1 then (some (s0, h)) else (gR h 7 v0 0 fun r3 => gI h 7 v0 2 fun x4 => aI h 21 r3 x4 fun x5 => if ¬ (x5 : Int) = 61 then (some (s0, h)) else (gI h 7 v0 2 fun x6 => pI h 7 v0 2 (wr (x6 + 1)) fun h7 => some ((iOr s0 2), h7)))) else (gI h 7 v0 2 fun x8 => rc h 7 v0 <| bnd (Rea_fail v0 x8 0 h) fun _ h9 => some (s0, h9))
set_option maxHeartbeats 4000000 in
set_option maxRecDepth 20000 in
theorem s_Rea_takeSigns_L38 (v0 : Nat) (s0 : Int) (h : AH) : Sd M_Rea_takeSigns 3 41 emI 38 [(0, vr v0)] [vi s0] h (Rea_takeSigns_L38 v0 s0 h) := by
  unfold Rea_takeSigns_L38
  refine Sd_istore_n (pc' := 39) (l' := [(1, _), (0, _)]) (dc D_Rea_takeSigns 19 rfl) rfl rfl (by decide) rfl ?_
  refine Sd_iload_n (pc' := 40) (dc D_Rea_takeSigns 20 rfl) rfl 0 rfl rfl ?_
  refine Sd_if_ne (tgt := 55) (pc' := 43) (dc D_Rea_takeSigns 21 rfl) (by decide) rfl (fun _ => ?_) (fun _ => ?_)
  · refine Sd_aload_n (pc' := 56) (dc D_Rea_takeSigns 28 rfl) rfl 1 rfl rfl ?_
    refine Sd_getI (pc' := 59) (dc D_Rea_takeSigns 29 rfl) rfl F_Rea_153 rfl rfl ?_
    refine Sd_aload_n (pc' := 60) (dc D_Rea_takeSigns 30 rfl) rfl 1 rfl rfl ?_
    refine Sd_getI (pc' := 63) (dc D_Rea_takeSigns 31 rfl) rfl F_Rea_150 rfl rfl ?_
    refine Sd_icmp_ge (tgt := 94) (pc' := 66) (dc D_Rea_takeSigns 32 rfl) (by decide) rfl (fun _ => ?_) (fun _ => ?_)
    · refine Sd_iload_n (pc' := 95) (dc D_Rea_takeSigns 50 rfl) rfl 0 rfl rfl ?_
      exact Sd_iret (dc D_Rea_takeSigns 51 rfl) rfl
    · refine Sd_aload_n (pc' := 67) (dc D_Rea_takeSigns 33 rfl) rfl 1 rfl rfl ?_
      refine Sd_getR (pc' := 70) (dc D_Rea_takeSigns 34 rfl) rfl F_Rea_9 rfl rfl ?_
      refine Sd_aload_n (pc' := 71) (dc D_Rea_takeSigns 35 rfl) rfl 1 rfl rfl ?_
      refine Sd_getI (pc' := 74) (dc D_Rea_takeSigns 36 rfl) rfl F_Rea_153 rfl rfl ?_
      refine Sd_iaload (pc' := 75) (dc D_Rea_takeSigns 37 rfl) rfl ?_
      refine Sd_bipush (pc' := 77) (dc D_Rea_takeSigns 38 rfl) rfl ⟨by decide, by decide⟩ (by decide) ?_
      refine Sd_icmp_ne (tgt := 94) (pc' := 80) (dc D_Rea_takeSigns 39 rfl) (by decide) rfl (fun _ => ?_) (fun _ => ?_)
      · refine Sd_iload_n (pc' := 95) (dc D_Rea_takeSigns 50 rfl) rfl 0 rfl rfl ?_
        exact Sd_iret (dc D_Rea_takeSigns 51 rfl) rfl
      · refine Sd_aload_n (pc' := 81) (dc D_Rea_takeSigns 40 rfl) rfl 1 rfl rfl ?_
        refine Sd_dup (pc' := 82) (dc D_Rea_takeSigns 41 rfl) rfl (cat_r _) ?_
        refine Sd_getI (pc' := 85) (dc D_Rea_takeSigns 42 rfl) rfl F_Rea_153 rfl rfl ?_
        refine Sd_iconst (pc' := 86) (dc D_Rea_takeSigns 43 rfl) rfl ⟨by decide, by decide⟩ ?_
        refine Sd_iadd (pc' := 87) (dc D_Rea_takeSigns 44 rfl) rfl ?_
        refine Sd_putI (pc' := 90) (dc D_Rea_takeSigns 45 rfl) rfl F_Rea_153 rfl rfl rfl (finOk.no rfl) (by decide) ?_
        refine Sd_iload_n (pc' := 91) (dc D_Rea_takeSigns 46 rfl) rfl 0 rfl rfl ?_
        refine Sd_iconst (pc' := 92) (dc D_Rea_takeSigns 47 rfl) rfl ⟨by decide, by decide⟩ ?_
        refine Sd_ior (pc' := 93) (dc D_Rea_takeSigns 48 rfl) rfl ?_
        refine Sd_istore_n (pc' := 94) (l' := [(1, _), (0, _)]) (dc D_Rea_takeSigns 49 rfl) rfl rfl (by decide) rfl ?_
        refine Sd_iload_n (pc' := 95) (dc D_Rea_takeSigns 50 rfl) rfl 0 rfl rfl ?_
        exact Sd_iret (dc D_Rea_takeSigns 51 rfl) rfl
  · refine Sd_aload_n (pc' := 44) (dc D_Rea_takeSigns 22 rfl) rfl 1 rfl rfl ?_
    refine Sd_aload_n (pc' := 45) (dc D_Rea_takeSigns 23 rfl) rfl 1 rfl rfl ?_
    refine Sd_getI (pc' := 48) (dc D_Rea_takeSigns 24 rfl) rfl F_Rea_153 rfl rfl ?_
    refine Sd_iconst (pc' := 49) (dc D_Rea_takeSigns 25 rfl) rfl ⟨by decide, by decide⟩ ?_
    refine Sd.callVV (ci := 6) (t := 7) (as := [_, _]) RX6 (pc' := 52) (dc D_Rea_takeSigns 26 rfl) rfl rfl rfl rfl K_Rea_fail L_Rea_53 Ks_Rea_fail Kv_Rea_fail ⟨by decide, by decide⟩ rfl rfl (Nat.le_of_ble_eq_true rfl) (s_Rea_fail _ _ _ _) (fun _ h9 => ?_)
    refine Sd_goto (tgt := 94) (dc D_Rea_takeSigns 27 rfl) (by decide) ?_
    refine Sd_iload_n (pc' := 95) (dc D_Rea_takeSigns 50 rfl) rfl 0 rfl rfl ?_
    exact Sd_iret (dc D_Rea_takeSigns 51 rfl) rfl
def Rea_takeSigns (v0 : Nat) (h : AH) : Option (Int × AH) := rc h 7 v0 <| bnd (Rea_takeByte v0 61 h) fun x2 h1 => if (x2 : Int) = 0 then (rc h1 7 v0 <| bnd (Rea_takeByte v0 60 h1) fun x5 h4 => if (x5 : Int) = 0 then (rc h4 7 v0 <| bnd (Rea_takeByte v0 62 h4) fun x8 h7 => if (x8 : Int) = 0 then (Rea_takeSigns_L38 v0 0 h7) else (Rea_takeSigns_L38 v0 4 h7)) else (Rea_takeSigns_L38 v0 1 h4)) else (some (2, h1))
set_option maxHeartbeats 4000000 in
set_option maxRecDepth 20000 in
theorem s_Rea_takeSigns (v0 : Nat) (h : AH) : CS M_Rea_takeSigns 3 41 emI [vr v0] h (Rea_takeSigns v0 h) := by
  refine CS.of (by decide) (Nat.le_of_ble_eq_true rfl) ?_
  show Sd M_Rea_takeSigns 3 41 emI 0 [(0, vr v0)] [] h _
  unfold Rea_takeSigns
  refine Sd_aload_n (pc' := 1) (dc D_Rea_takeSigns 0 rfl) rfl 0 rfl rfl ?_
  refine Sd_bipush (pc' := 3) (dc D_Rea_takeSigns 1 rfl) rfl ⟨by decide, by decide⟩ (by decide) ?_
  refine Sd.callVI (ci := 6) (t := 7) (as := [_]) RX6 (pc' := 6) (dc D_Rea_takeSigns 2 rfl) rfl rfl rfl rfl K_Rea_takeByte L_Rea_32 Ks_Rea_takeByte Kv_Rea_takeByte ⟨by decide, by decide⟩ rfl rfl (Nat.le_of_ble_eq_true rfl) (s_Rea_takeByte _ _ _) (fun x2 h1 => ?_)
  refine Sd_if_eq (tgt := 11) (pc' := 9) (dc D_Rea_takeSigns 3 rfl) (by decide) rfl (fun _ => ?_) (fun _ => ?_)
  · refine Sd_aload_n (pc' := 12) (dc D_Rea_takeSigns 6 rfl) rfl 0 rfl rfl ?_
    refine Sd_bipush (pc' := 14) (dc D_Rea_takeSigns 7 rfl) rfl ⟨by decide, by decide⟩ (by decide) ?_
    refine Sd.callVI (ci := 6) (t := 7) (as := [_]) RX6 (pc' := 17) (dc D_Rea_takeSigns 8 rfl) rfl rfl rfl rfl K_Rea_takeByte L_Rea_32 Ks_Rea_takeByte Kv_Rea_takeByte ⟨by decide, by decide⟩ rfl rfl (Nat.le_of_ble_eq_true rfl) (s_Rea_takeByte _ _ _) (fun x5 h4 => ?_)
    refine Sd_if_eq (tgt := 24) (pc' := 20) (dc D_Rea_takeSigns 9 rfl) (by decide) rfl (fun _ => ?_) (fun _ => ?_)
    · refine Sd_aload_n (pc' := 25) (dc D_Rea_takeSigns 12 rfl) rfl 0 rfl rfl ?_
      refine Sd_bipush (pc' := 27) (dc D_Rea_takeSigns 13 rfl) rfl ⟨by decide, by decide⟩ (by decide) ?_
      refine Sd.callVI (ci := 6) (t := 7) (as := [_]) RX6 (pc' := 30) (dc D_Rea_takeSigns 14 rfl) rfl rfl rfl rfl K_Rea_takeByte L_Rea_32 Ks_Rea_takeByte Kv_Rea_takeByte ⟨by decide, by decide⟩ rfl rfl (Nat.le_of_ble_eq_true rfl) (s_Rea_takeByte _ _ _) (fun x8 h7 => ?_)
      refine Sd_if_eq (tgt := 37) (pc' := 33) (dc D_Rea_takeSigns 15 rfl) (by decide) rfl (fun _ => ?_) (fun _ => ?_)
      · refine Sd_iconst (pc' := 38) (dc D_Rea_takeSigns 18 rfl) rfl ⟨by decide, by decide⟩ ?_
        exact s_Rea_takeSigns_L38 _ _ _
      · refine Sd_iconst (pc' := 34) (dc D_Rea_takeSigns 16 rfl) rfl ⟨by decide, by decide⟩ ?_
        refine Sd_goto (tgt := 38) (dc D_Rea_takeSigns 17 rfl) (by decide) ?_
        exact s_Rea_takeSigns_L38 _ _ _
    · refine Sd_iconst (pc' := 21) (dc D_Rea_takeSigns 10 rfl) rfl ⟨by decide, by decide⟩ ?_
      refine Sd_goto (tgt := 38) (dc D_Rea_takeSigns 11 rfl) (by decide) ?_
      exact s_Rea_takeSigns_L38 _ _ _
  · refine Sd_iconst (pc' := 10) (dc D_Rea_takeSigns 4 rfl) rfl ⟨by decide, by decide⟩ ?_
    exact Sd_iret (dc D_Rea_takeSigns 5 rfl) rfl
theorem K_Rea_takeSigns : MOk M_Rea_takeSigns 0 := ⟨Tb_at 122 (by decide +kernel) rfl, Tb_at 722 (by decide +kernel) rfl, by decide +kernel, by decide +kernel, by decide +kernel⟩
theorem Ks_Rea_takeSigns : Cond.instanceMethod yX6_takeSigns ∈ Tb := Tb_at 721 (by decide +kernel) rfl
theorem Kv_Rea_takeSigns : Cond.selects RX6 yX6_takeSigns yX6_takeSigns ∈ Tb := Tb_at 15 (by decide +kernel) rfl
/-! ===== BatchShare$Reader.readTest(LBatchShare$Query;)V ===== -/
abbrev M_Rea_readTest : AMt := (yX6_readTest, cX6_readTest, 6, none)
def T_Rea_readTest : List (Nat × Instr × Nat) := [(0, .aload_n 0, 1), (1, .invokevirtual 43, 3), (4, .istore_n 2, 1), (5, .aload_n 0, 1), (6, .aload_n 1, 1), (7, .invokevirtual 122, 3), (10, .aload_n 1, 1), (11, .invokevirtual 125, 3), (14, .invokevirtual 113, 3), (17, .istore_n 3, 1), (18, .aload_n 0, 1), (19, .getfield 128, 3), (22, .bipush 12, 2), (24, .if_icmp .lt 9, 3), (27, .aload_n 0, 1), (28, .iload_n 2, 1), (29, .iconst 4, 1), (30, .invokevirtual 53, 3), (33, .aload_n 0, 1), (34, .dup, 1), (35, .getfield 128, 3), (38, .iconst 1, 1), (39, .iadd, 1), (40, .putfield 128, 3), (43, .aload_n 0, 1), (44, .invokevirtual 131, 3), (47, .istore 4, 2), (49, .aload_n 0, 1), (50, .bipush 9, 2), (52, .invokevirtual 57, 3), (55, .istore 5, 2), (57, .aload_n 0, 1), (58, .getfield 24, 3), (61, .ifCond .ne 12, 3), (64, .aload_n 1, 1), (65, .iload_n 3, 1), (66, .iload 4, 2), (68, .iload 5, 2), (70, .invokevirtual 134, 3), (73, .return_, 1)]
set_option maxRecDepth 20000 in
theorem D_Rea_readTest : (T_Rea_readTest.all fun q => decide (decode M_Rea_readTest.2.1 q.1 = .ok q.2)) = true := by decide +kernel
def Rea_readTest_L33 (v0 : Nat) (v1 : Nat) (v3 : Int) (h : AH) : Option (Unit × AH) := gI h 7 v0 4 fun x1 => pI h 7 v0 4 (wr (x1 + 1)) fun h2 => rc h2 7 v0 <| bnd (Rea_takeSigns v0 h2) fun x4 h3 => rc h3 7 v0 <| bnd (Rea_takeNumber v0 9 h3) fun x7 h6 => gI h6 7 v0 3 fun x9 => if ¬ (x9 : Int) = 0 then (some ((), h6)) else (rc h6 6 v1 <| bnd (Que_narrow v1 v3 x4 x7 h6) fun _ h10 => some ((), h10))
set_option maxHeartbeats 4000000 in
set_option maxRecDepth 20000 in
theorem s_Rea_readTest_L33 (v0 : Nat) (v1 : Nat) (v3 : Int) (h : AH) : Sd M_Rea_readTest 4 64 emV 33 [(0, vr v0), (1, vr v1), (3, vi v3)] [] h (Rea_readTest_L33 v0 v1 v3 h) := by
  unfold Rea_readTest_L33
  refine Sd_aload_n (pc' := 34) (dc D_Rea_readTest 18 rfl) rfl 0 rfl rfl ?_
  refine Sd_dup (pc' := 35) (dc D_Rea_readTest 19 rfl) rfl (cat_r _) ?_
  refine Sd_getI (pc' := 38) (dc D_Rea_readTest 20 rfl) rfl F_Rea_128 rfl rfl ?_
  refine Sd_iconst (pc' := 39) (dc D_Rea_readTest 21 rfl) rfl ⟨by decide, by decide⟩ ?_
  refine Sd_iadd (pc' := 40) (dc D_Rea_readTest 22 rfl) rfl ?_
  refine Sd_putI (pc' := 43) (dc D_Rea_readTest 23 rfl) rfl F_Rea_128 rfl rfl rfl (finOk.no rfl) (by decide) ?_
  refine Sd_aload_n (pc' := 44) (dc D_Rea_readTest 24 rfl) rfl 0 rfl rfl ?_
  refine Sd.callVI (ci := 6) (t := 7) (as := []) RX6 (pc' := 47) (dc D_Rea_readTest 25 rfl) rfl rfl rfl rfl K_Rea_takeSigns L_Rea_131 Ks_Rea_takeSigns Kv_Rea_takeSigns ⟨by decide, by decide⟩ rfl rfl (Nat.le_of_ble_eq_true rfl) (s_Rea_takeSigns _ _) (fun x4 h3 => ?_)
  refine Sd_istore (pc' := 49) (l' := [(4, _), (0, _), (1, _), (3, _)]) (dc D_Rea_readTest 26 rfl) rfl (by decide) rfl ?_
  refine Sd_aload_n (pc' := 50) (dc D_Rea_readTest 27 rfl) rfl 1 rfl rfl ?_
  refine Sd_bipush (pc' := 52) (dc D_Rea_readTest 28 rfl) rfl ⟨by decide, by decide⟩ (by decide) ?_
  refine Sd.callVI (ci := 6) (t := 7) (as := [_]) RX6 (pc' := 55) (dc D_Rea_readTest 29 rfl) rfl rfl rfl rfl K_Rea_takeNumber L_Rea_57 Ks_Rea_takeNumber Kv_Rea_takeNumber ⟨by decide, by decide⟩ rfl rfl (Nat.le_of_ble_eq_true rfl) (s_Rea_takeNumber _ _ _) (fun x7 h6 => ?_)
  refine Sd_istore (pc' := 57) (l' := [(5, _), (4, _), (0, _), (1, _), (3, _)]) (dc D_Rea_readTest 30 rfl) rfl (by decide) rfl ?_
  refine Sd_aload_n (pc' := 58) (dc D_Rea_readTest 31 rfl) rfl 2 rfl rfl ?_
  refine Sd_getI (pc' := 61) (dc D_Rea_readTest 32 rfl) rfl F_Rea_24 rfl rfl ?_
  refine Sd_if_ne (tgt := 73) (pc' := 64) (dc D_Rea_readTest 33 rfl) (by decide) rfl (fun _ => ?_) (fun _ => ?_)
  · exact Sd_vret (dc D_Rea_readTest 39 rfl) rfl
  · refine Sd_aload_n (pc' := 65) (dc D_Rea_readTest 34 rfl) rfl 3 rfl rfl ?_
    refine Sd_iload_n (pc' := 66) (dc D_Rea_readTest 35 rfl) rfl 4 rfl rfl ?_
    refine Sd_iload (pc' := 68) (dc D_Rea_readTest 36 rfl) rfl 1 rfl ?_
    refine Sd_iload (pc' := 70) (dc D_Rea_readTest 37 rfl) rfl 0 rfl ?_
    refine Sd.callVV (ci := 5) (t := 6) (as := [_, _, _]) RX5 (pc' := 73) (dc D_Rea_readTest 38 rfl) rfl rfl rfl rfl K_Que_narrow L_Rea_134 Ks_Que_narrow Kv_Que_narrow ⟨by decide, by decide⟩ rfl rfl (Nat.le_of_ble_eq_true rfl) (s_Que_narrow _ _ _ _ _) (fun _ h10 => ?_)
    exact Sd_vret (dc D_Rea_readTest 39 rfl) rfl
def Rea_readTest (v0 : Nat) (v1 : Nat) (h : AH) : Option (Unit × AH) := rc h 7 v0 <| bnd (Rea_place v0 h) fun x2 h1 => rc h1 6 v1 <| bnd (Que_firstCol v1 h1) fun x5 h4 => rc h4 6 v1 <| bnd (Que_lastCol v1 h4) fun x8 h7 => rc h7 7 v0 <| bnd (Rea_takeCol v0 x5 x8 h7) fun x11 h10 => gI h10 7 v0 4 fun x13 => if (x13 : Int) < 12 then (Rea_readTest_L33 v0 v1 x11 h10) else (rc h10 7 v0 <| bnd (Rea_fail v0 x2 4 h10) fun _ h14 => Rea_readTest_L33 v0 v1 x11 h14)
set_option maxHeartbeats 4000000 in
set_option maxRecDepth 20000 in
theorem s_Rea_readTest (v0 : Nat) (v1 : Nat) (h : AH) : CS M_Rea_readTest 4 64 emV [vr v0, vr v1] h (Rea_readTest v0 v1 h) := by
  refine CS.of (by decide) (Nat.le_of_ble_eq_true rfl) ?_
  show Sd M_Rea_readTest 4 64 emV 0 [(0, vr v0), (1, vr v1)] [] h _
  unfold Rea_readTest
  refine Sd_aload_n (pc' := 1) (dc D_Rea_readTest 0 rfl) rfl 0 rfl rfl ?_
  refine Sd.callVI (ci := 6) (t := 7) (as := []) RX6 (pc' := 4) (dc D_Rea_readTest 1 rfl) rfl rfl rfl rfl K_Rea_place L_Rea_43 Ks_Rea_place Kv_Rea_place ⟨by decide, by decide⟩ rfl rfl (Nat.le_of_ble_eq_true rfl) (s_Rea_place _ _) (fun x2 h1 => ?_)
  refine Sd_istore_n (pc' := 5) (l' := [(2, _), (0, _), (1, _)]) (dc D_Rea_readTest 2 rfl) rfl rfl (by decide) rfl ?_
  refine Sd_aload_n (pc' := 6) (dc D_Rea_readTest 3 rfl) rfl 1 rfl rfl ?_
  refine Sd_aload_n (pc' := 7) (dc D_Rea_readTest 4 rfl) rfl 2 rfl rfl ?_
  refine Sd.callVI (ci := 5) (t := 6) (as := []) RX5 (pc' := 10) (dc D_Rea_readTest 5 rfl) rfl rfl rfl rfl K_Que_firstCol L_Rea_122 Ks_Que_firstCol Kv_Que_firstCol ⟨by decide, by decide⟩ rfl rfl (Nat.le_of_ble_eq_true rfl) (s_Que_firstCol _ _) (fun x5 h4 => ?_)
  refine Sd_aload_n (pc' := 11) (dc D_Rea_readTest 6 rfl) rfl 2 rfl rfl ?_
  refine Sd.callVI (ci := 5) (t := 6) (as := []) RX5 (pc' := 14) (dc D_Rea_readTest 7 rfl) rfl rfl rfl rfl K_Que_lastCol L_Rea_125 Ks_Que_lastCol Kv_Que_lastCol ⟨by decide, by decide⟩ rfl rfl (Nat.le_of_ble_eq_true rfl) (s_Que_lastCol _ _) (fun x8 h7 => ?_)
  refine Sd.callVI (ci := 6) (t := 7) (as := [_, _]) RX6 (pc' := 17) (dc D_Rea_readTest 8 rfl) rfl rfl rfl rfl K_Rea_takeCol L_Rea_113 Ks_Rea_takeCol Kv_Rea_takeCol ⟨by decide, by decide⟩ rfl rfl (Nat.le_of_ble_eq_true rfl) (s_Rea_takeCol _ _ _ _) (fun x11 h10 => ?_)
  refine Sd_istore_n (pc' := 18) (l' := [(3, _), (2, _), (0, _), (1, _)]) (dc D_Rea_readTest 9 rfl) rfl rfl (by decide) rfl ?_
  refine Sd_aload_n (pc' := 19) (dc D_Rea_readTest 10 rfl) rfl 2 rfl rfl ?_
  refine Sd_getI (pc' := 22) (dc D_Rea_readTest 11 rfl) rfl F_Rea_128 rfl rfl ?_
  refine Sd_bipush (pc' := 24) (dc D_Rea_readTest 12 rfl) rfl ⟨by decide, by decide⟩ (by decide) ?_
  refine Sd_icmp_lt (tgt := 33) (pc' := 27) (dc D_Rea_readTest 13 rfl) (by decide) rfl (fun _ => ?_) (fun _ => ?_)
  · refine Sd.sub (l' := [(0, _), (1, _), (3, _)]) [2, 3, 0] rfl ?_
    exact s_Rea_readTest_L33 _ _ _ _
  · refine Sd_aload_n (pc' := 28) (dc D_Rea_readTest 14 rfl) rfl 2 rfl rfl ?_
    refine Sd_iload_n (pc' := 29) (dc D_Rea_readTest 15 rfl) rfl 1 rfl rfl ?_
    refine Sd_iconst (pc' := 30) (dc D_Rea_readTest 16 rfl) rfl ⟨by decide, by decide⟩ ?_
    refine Sd.callVV (ci := 6) (t := 7) (as := [_, _]) RX6 (pc' := 33) (dc D_Rea_readTest 17 rfl) rfl rfl rfl rfl K_Rea_fail L_Rea_53 Ks_Rea_fail Kv_Rea_fail ⟨by decide, by decide⟩ rfl rfl (Nat.le_of_ble_eq_true rfl) (s_Rea_fail _ _ _ _) (fun _ h14 => ?_)
    refine Sd.sub (l' := [(0, _), (1, _), (3, _)]) [2, 3, 0] rfl ?_
    exact s_Rea_readTest_L33 _ _ _ _
theorem K_Rea_readTest : MOk M_Rea_readTest 1 := ⟨Tb_at 122 (by decide +kernel) rfl, Tb_at 716 (by decide +kernel) rfl, by decide +kernel, by decide +kernel, by decide +kernel⟩
theorem Ks_Rea_readTest : Cond.instanceMethod yX6_readTest ∈ Tb := Tb_at 715 (by decide +kernel) rfl
theorem Kv_Rea_readTest : Cond.selects RX6 yX6_readTest yX6_readTest ∈ Tb := Tb_at 14 (by decide +kernel) rfl
/-! ===== BatchShare$Reader.readTests(LBatchShare$Query;)V ===== -/
abbrev M_Rea_readTests : AMt := (yX6_readTests, cX6_readTests, 3, none)
def T_Rea_readTests : List (Nat × Instr × Nat) := [(0, .iconst 0, 1), (1, .istore_n 2, 1), (2, .iload_n 2, 1), (3, .bipush 12, 2), (5, .if_icmp .gt 38, 3), (8, .aload_n 0, 1), (9, .getfield 24, 3), (12, .ifCond .ne 31, 3), (15, .aload_n 0, 1), (16, .aload_n 1, 1), (17, .invokevirtual 117, 3), (20, .aload_n 0, 1), (21, .getfield 24, 3), (24, .ifCond .ne 12, 3), (27, .aload_n 0, 1), (28, .ldc 120, 2), (30, .invokevirtual 49, 3), (33, .ifCond .ne 4, 3), (36, .return_, 1), (37, .iinc 2 1, 3), (40, .goto (-38), 3), (43, .return_, 1)]
set_option maxRecDepth 20000 in
theorem D_Rea_readTests : (T_Rea_readTests.all fun q => decide (decode M_Rea_readTests.2.1 q.1 = .ok q.2)) = true := by decide +kernel
def Rea_readTests_L2 : Nat → Nat → Nat → Int → AH → Option (Unit × AH)
  | 0, _, _, _, _ => none
  | n + 1, v0, v1, v2, h => if (12 : Int) < v2 then (some ((), h)) else (gI h 7 v0 3 fun x1 => if ¬ (x1 : Int) = 0 then (some ((), h)) else (rc h 7 v0 <| bnd (Rea_readTest v0 v1 h) fun _ h2 => gI h2 7 v0 3 fun x5 => if ¬ (x5 : Int) = 0 then (some ((), h2)) else (rc h2 7 v0 <| bnd (Rea_takeWord v0 6 h2) fun x7 h6 => if ¬ (x7 : Int) = 0 then (Rea_readTests_L2 n v0 v1 ((wr (v2 + 1))) h6) else (some ((), h6)))))
set_option maxHeartbeats 4000000 in
set_option maxRecDepth 20000 in
theorem s_Rea_readTests_L2 : ∀ (n : Nat) (v0 : Nat) (v1 : Nat) (v2 : Int) (h : AH), Sd M_Rea_readTests 7 173 emV 2 [(0, vr v0), (1, vr v1), (2, vi v2)] [] h (Rea_readTests_L2 n v0 v1 v2 h)
  | 0, _, _, _, _ => Sd.none
  | n + 1, v0, v1, v2, h => by
    rw [Rea_readTests_L2]
    refine Sd_iload_n (pc' := 3) (dc D_Rea_readTests 2 rfl) rfl 2 rfl rfl ?_
    refine Sd_bipush (pc' := 5) (dc D_Rea_readTests 3 rfl) rfl ⟨by decide, by decide⟩ (by decide) ?_
    refine Sd_icmp_gt (tgt := 43) (pc' := 8) (dc D_Rea_readTests 4 rfl) (by decide) rfl (fun _ => ?_) (fun _ => ?_)
    · exact Sd_vret (dc D_Rea_readTests 21 rfl) rfl
    · refine Sd_aload_n (pc' := 9) (dc D_Rea_readTests 5 rfl) rfl 0 rfl rfl ?_
      refine Sd_getI (pc' := 12) (dc D_Rea_readTests 6 rfl) rfl F_Rea_24 rfl rfl ?_
      refine Sd_if_ne (tgt := 43) (pc' := 15) (dc D_Rea_readTests 7 rfl) (by decide) rfl (fun _ => ?_) (fun _ => ?_)
      · exact Sd_vret (dc D_Rea_readTests 21 rfl) rfl
      · refine Sd_aload_n (pc' := 16) (dc D_Rea_readTests 8 rfl) rfl 0 rfl rfl ?_
        refine Sd_aload_n (pc' := 17) (dc D_Rea_readTests 9 rfl) rfl 1 rfl rfl ?_
        refine Sd.callVV (ci := 6) (t := 7) (as := [_]) RX6 (pc' := 20) (dc D_Rea_readTests 10 rfl) rfl rfl rfl rfl K_Rea_readTest L_Rea_117 Ks_Rea_readTest Kv_Rea_readTest ⟨by decide, by decide⟩ rfl rfl (Nat.le_of_ble_eq_true rfl) (s_Rea_readTest _ _ _) (fun _ h2 => ?_)
        refine Sd_aload_n (pc' := 21) (dc D_Rea_readTests 11 rfl) rfl 0 rfl rfl ?_
        refine Sd_getI (pc' := 24) (dc D_Rea_readTests 12 rfl) rfl F_Rea_24 rfl rfl ?_
        refine Sd_if_ne (tgt := 36) (pc' := 27) (dc D_Rea_readTests 13 rfl) (by decide) rfl (fun _ => ?_) (fun _ => ?_)
        · exact Sd_vret (dc D_Rea_readTests 18 rfl) rfl
        · refine Sd_aload_n (pc' := 28) (dc D_Rea_readTests 14 rfl) rfl 0 rfl rfl ?_
          refine Sd_lds (a := 6) (pc' := 30) (dc D_Rea_readTests 15 rfl) rfl (by decide) (List.mem_of_getElem? (i := 5) rfl) ?_
          refine Sd.callVI (ci := 6) (t := 7) (as := [_]) RX6 (pc' := 33) (dc D_Rea_readTests 16 rfl) rfl rfl rfl rfl K_Rea_takeWord L_Rea_49 Ks_Rea_takeWord Kv_Rea_takeWord ⟨by decide, by decide⟩ rfl rfl (Nat.le_of_ble_eq_true rfl) (s_Rea_takeWord _ _ _) (fun x7 h6 => ?_)
          refine Sd_if_ne (tgt := 37) (pc' := 36) (dc D_Rea_readTests 17 rfl) (by decide) rfl (fun _ => ?_) (fun _ => ?_)
          · refine Sd_iinc (pc' := 40) (l' := [(2, _), (0, _), (1, _)]) (dc D_Rea_readTests 19 rfl) rfl 2 rfl (by decide) rfl ?_
            refine Sd_goto (tgt := 2) (dc D_Rea_readTests 20 rfl) (by decide) ?_
            refine Sd.sub (l' := [(0, _), (1, _), (2, _)]) [1, 2, 0] rfl ?_
            exact s_Rea_readTests_L2 n _ _ _ _
          · exact Sd_vret (dc D_Rea_readTests 18 rfl) rfl
def Rea_readTests (v0 : Nat) (v1 : Nat) (h : AH) : Option (Unit × AH) := Rea_readTests_L2 FU v0 v1 0 h
set_option maxHeartbeats 4000000 in
set_option maxRecDepth 20000 in
theorem s_Rea_readTests (v0 : Nat) (v1 : Nat) (h : AH) : CS M_Rea_readTests 7 173 emV [vr v0, vr v1] h (Rea_readTests v0 v1 h) := by
  refine CS.of (by decide) (Nat.le_of_ble_eq_true rfl) ?_
  show Sd M_Rea_readTests 7 173 emV 0 [(0, vr v0), (1, vr v1)] [] h _
  unfold Rea_readTests
  refine Sd_iconst (pc' := 1) (dc D_Rea_readTests 0 rfl) rfl ⟨by decide, by decide⟩ ?_
  refine Sd_istore_n (pc' := 2) (l' := [(2, _), (0, _), (1, _)]) (dc D_Rea_readTests 1 rfl) rfl rfl (by decide) rfl ?_
  refine Sd.sub (l' := [(0, _), (1, _), (2, _)]) [1, 2, 0] rfl ?_
  exact s_Rea_readTests_L2 FU _ _ _ _
theorem K_Rea_readTests : MOk M_Rea_readTests 1 := ⟨Tb_at 122 (by decide +kernel) rfl, Tb_at 712 (by decide +kernel) rfl, by decide +kernel, by decide +kernel, by decide +kernel⟩
theorem Ks_Rea_readTests : Cond.instanceMethod yX6_readTests ∈ Tb := Tb_at 711 (by decide +kernel) rfl
theorem Kv_Rea_readTests : Cond.selects RX6 yX6_readTests yX6_readTests ∈ Tb := Tb_at 13 (by decide +kernel) rfl
/-! ===== BatchShare$Reader.readShown(LBatchShare$Query;)V ===== -/
abbrev M_Rea_readShown : AMt := (yX6_readShown, cX6_readShown, 5, none)
def T_Rea_readShown : List (Nat × Instr × Nat) := [(0, .aload_n 1, 1), (1, .invokevirtual 137, 3), (4, .iconst 0, 1), (5, .istore_n 2, 1), (6, .iload_n 2, 1), (7, .iconst 5, 1), (8, .if_icmp .gt 71, 3), (11, .aload_n 0, 1), (12, .getfield 24, 3), (15, .ifCond .ne 64, 3), (18, .aload_n 0, 1), (19, .invokevirtual 43, 3), (22, .istore_n 3, 1), (23, .aload_n 0, 1), (24, .aload_n 1, 1), (25, .invokevirtual 122, 3), (28, .aload_n 1, 1), (29, .invokevirtual 125, 3), (32, .invokevirtual 113, 3), (35, .istore 4, 2), (37, .aload_n 1, 1), (38, .invokevirtual 140, 3), (41, .ifCond .eq 9, 3), (44, .aload_n 0, 1), (45, .iload_n 3, 1), (46, .iconst 4, 1), (47, .invokevirtual 53, 3), (50, .aload_n 1, 1), (51, .iload 4, 2), (53, .invokevirtual 143, 3), (56, .aload_n 0, 1), (57, .getfield 24, 3), (60, .ifCond .ne 12, 3), (63, .aload_n 0, 1), (64, .bipush 44, 2), (66, .invokevirtual 32, 3), (69, .ifCond .ne 4, 3), (72, .return_, 1), (73, .iinc 2 1, 3), (76, .goto (-70), 3), (79, .return_, 1)]
set_option maxRecDepth 20000 in
theorem D_Rea_readShown : (T_Rea_readShown.all fun q => decide (decode M_Rea_readShown.2.1 q.1 = .ok q.2)) = true := by decide +kernel
def Rea_readShown_L50 (k6 : Nat → Nat → Int → AH → Option (Unit × AH)) (v0 : Nat) (v1 : Nat) (v2 : Int) (v4 : Int) (h : AH) : Option (Unit × AH) := rc h 6 v1 <| bnd (Que_show v1 v4 h) fun _ h1 => gI h1 7 v0 3 fun x4 => if ¬ (x4 : Int) = 0 then (some ((), h1)) else (rc h1 7 v0 <| bnd (Rea_takeByte v0 44 h1) fun x6 h5 => if ¬ (x6 : Int) = 0 then (k6 v0 v1 ((wr (v2 + 1))) h5) else (some ((), h5)))
set_option maxHeartbeats 4000000 in
set_option maxRecDepth 20000 in
theorem s_Rea_readShown_L50 (k6 : Nat → Nat → Int → AH → Option (Unit × AH)) (hk6 : ∀ v0 v1 v2 h, Sd M_Rea_readShown 4 64 emV 6 [(0, vr v0), (1, vr v1), (2, vi v2)] [] h (k6 v0 v1 v2 h)) (v0 : Nat) (v1 : Nat) (v2 : Int) (v4 : Int) (h : AH) : Sd M_Rea_readShown 4 64 emV 50 [(0, vr v0), (1, vr v1), (2, vi v2), (4, vi v4)] [] h (Rea_readShown_L50 k6 v0 v1 v2 v4 h) := by
  unfold Rea_readShown_L50
  refine Sd_aload_n (pc' := 51) (dc D_Rea_readShown 27 rfl) rfl 1 rfl rfl ?_
  refine Sd_iload (pc' := 53) (dc D_Rea_readShown 28 rfl) rfl 3 rfl ?_
  refine Sd.callVV (ci := 5) (t := 6) (as := [_]) RX5 (pc' := 56) (dc D_Rea_readShown 29 rfl) rfl rfl rfl rfl K_Que_show L_Rea_143 Ks_Que_show Kv_Que_show ⟨by decide, by decide⟩ rfl rfl (Nat.le_of_ble_eq_true rfl) (s_Que_show _ _ _) (fun _ h1 => ?_)
  refine Sd_aload_n (pc' := 57) (dc D_Rea_readShown 30 rfl) rfl 0 rfl rfl ?_
  refine Sd_getI (pc' := 60) (dc D_Rea_readShown 31 rfl) rfl F_Rea_24 rfl rfl ?_
  refine Sd_if_ne (tgt := 72) (pc' := 63) (dc D_Rea_readShown 32 rfl) (by decide) rfl (fun _ => ?_) (fun _ => ?_)
  · exact Sd_vret (dc D_Rea_readShown 37 rfl) rfl
  · refine Sd_aload_n (pc' := 64) (dc D_Rea_readShown 33 rfl) rfl 0 rfl rfl ?_
    refine Sd_bipush (pc' := 66) (dc D_Rea_readShown 34 rfl) rfl ⟨by decide, by decide⟩ (by decide) ?_
    refine Sd.callVI (ci := 6) (t := 7) (as := [_]) RX6 (pc' := 69) (dc D_Rea_readShown 35 rfl) rfl rfl rfl rfl K_Rea_takeByte L_Rea_32 Ks_Rea_takeByte Kv_Rea_takeByte ⟨by decide, by decide⟩ rfl rfl (Nat.le_of_ble_eq_true rfl) (s_Rea_takeByte _ _ _) (fun x6 h5 => ?_)
    refine Sd_if_ne (tgt := 73) (pc' := 72) (dc D_Rea_readShown 36 rfl) (by decide) rfl (fun _ => ?_) (fun _ => ?_)
    · refine Sd_iinc (pc' := 76) (l' := [(2, _), (0, _), (1, _), (4, _)]) (dc D_Rea_readShown 38 rfl) rfl 2 rfl (by decide) rfl ?_
      refine Sd_goto (tgt := 6) (dc D_Rea_readShown 39 rfl) (by decide) ?_
      refine Sd.sub (l' := [(0, _), (1, _), (2, _)]) [1, 2, 0] rfl ?_
      exact hk6 _ _ _ _
    · exact Sd_vret (dc D_Rea_readShown 37 rfl) rfl
def Rea_readShown_L6 : Nat → Nat → Nat → Int → AH → Option (Unit × AH)
  | 0, _, _, _, _ => none
  | n + 1, v0, v1, v2, h => if (5 : Int) < v2 then (some ((), h)) else (gI h 7 v0 3 fun x1 => if ¬ (x1 : Int) = 0 then (some ((), h)) else (rc h 7 v0 <| bnd (Rea_place v0 h) fun x3 h2 => rc h2 6 v1 <| bnd (Que_firstCol v1 h2) fun x6 h5 => rc h5 6 v1 <| bnd (Que_lastCol v1 h5) fun x9 h8 => rc h8 7 v0 <| bnd (Rea_takeCol v0 x6 x9 h8) fun x12 h11 => rc h11 6 v1 <| bnd (Que_showsAllItCan v1 h11) fun x15 h14 => if (x15 : Int) = 0 then (Rea_readShown_L50 (Rea_readShown_L6 n) v0 v1 v2 x12 h14) else (rc h14 7 v0 <| bnd (Rea_fail v0 x3 4 h14) fun _ h17 => Rea_readShown_L50 (Rea_readShown_L6 n) v0 v1 v2 x12 h17)))
set_option maxHeartbeats 4000000 in
set_option maxRecDepth 20000 in
theorem s_Rea_readShown_L6 : ∀ (n : Nat) (v0 : Nat) (v1 : Nat) (v2 : Int) (h : AH), Sd M_Rea_readShown 4 64 emV 6 [(0, vr v0), (1, vr v1), (2, vi v2)] [] h (Rea_readShown_L6 n v0 v1 v2 h)
  | 0, _, _, _, _ => Sd.none
  | n + 1, v0, v1, v2, h => by
    rw [Rea_readShown_L6]
    refine Sd_iload_n (pc' := 7) (dc D_Rea_readShown 4 rfl) rfl 2 rfl rfl ?_
    refine Sd_iconst (pc' := 8) (dc D_Rea_readShown 5 rfl) rfl ⟨by decide, by decide⟩ ?_
    refine Sd_icmp_gt (tgt := 79) (pc' := 11) (dc D_Rea_readShown 6 rfl) (by decide) rfl (fun _ => ?_) (fun _ => ?_)
    · exact Sd_vret (dc D_Rea_readShown 40 rfl) rfl
    · refine Sd_aload_n (pc' := 12) (dc D_Rea_readShown 7 rfl) rfl 0 rfl rfl ?_
      refine Sd_getI (pc' := 15) (dc D_Rea_readShown 8 rfl) rfl F_Rea_24 rfl rfl ?_
      refine Sd_if_ne (tgt := 79) (pc' := 18) (dc D_Rea_readShown 9 rfl) (by decide) rfl (fun _ => ?_) (fun _ => ?_)
      · exact Sd_vret (dc D_Rea_readShown 40 rfl) rfl
      · refine Sd_aload_n (pc' := 19) (dc D_Rea_readShown 10 rfl) rfl 0 rfl rfl ?_
        refine Sd.callVI (ci := 6) (t := 7) (as := []) RX6 (pc' := 22) (dc D_Rea_readShown 11 rfl) rfl rfl rfl rfl K_Rea_place L_Rea_43 Ks_Rea_place Kv_Rea_place ⟨by decide, by decide⟩ rfl rfl (Nat.le_of_ble_eq_true rfl) (s_Rea_place _ _) (fun x3 h2 => ?_)
        refine Sd_istore_n (pc' := 23) (l' := [(3, _), (0, _), (1, _), (2, _)]) (dc D_Rea_readShown 12 rfl) rfl rfl (by decide) rfl ?_
        refine Sd_aload_n (pc' := 24) (dc D_Rea_readShown 13 rfl) rfl 1 rfl rfl ?_
        refine Sd_aload_n (pc' := 25) (dc D_Rea_readShown 14 rfl) rfl 2 rfl rfl ?_
        refine Sd.callVI (ci := 5) (t := 6) (as := []) RX5 (pc' := 28) (dc D_Rea_readShown 15 rfl) rfl rfl rfl rfl K_Que_firstCol L_Rea_122 Ks_Que_firstCol Kv_Que_firstCol ⟨by decide, by decide⟩ rfl rfl (Nat.le_of_ble_eq_true rfl) (s_Que_firstCol _ _) (fun x6 h5 => ?_)
        refine Sd_aload_n (pc' := 29) (dc D_Rea_readShown 16 rfl) rfl 2 rfl rfl ?_
        refine Sd.callVI (ci := 5) (t := 6) (as := []) RX5 (pc' := 32) (dc D_Rea_readShown 17 rfl) rfl rfl rfl rfl K_Que_lastCol L_Rea_125 Ks_Que_lastCol Kv_Que_lastCol ⟨by decide, by decide⟩ rfl rfl (Nat.le_of_ble_eq_true rfl) (s_Que_lastCol _ _) (fun x9 h8 => ?_)
        refine Sd.callVI (ci := 6) (t := 7) (as := [_, _]) RX6 (pc' := 35) (dc D_Rea_readShown 18 rfl) rfl rfl rfl rfl K_Rea_takeCol L_Rea_113 Ks_Rea_takeCol Kv_Rea_takeCol ⟨by decide, by decide⟩ rfl rfl (Nat.le_of_ble_eq_true rfl) (s_Rea_takeCol _ _ _ _) (fun x12 h11 => ?_)
        refine Sd_istore (pc' := 37) (l' := [(4, _), (3, _), (0, _), (1, _), (2, _)]) (dc D_Rea_readShown 19 rfl) rfl (by decide) rfl ?_
        refine Sd_aload_n (pc' := 38) (dc D_Rea_readShown 20 rfl) rfl 3 rfl rfl ?_
        refine Sd.callVI (ci := 5) (t := 6) (as := []) RX5 (pc' := 41) (dc D_Rea_readShown 21 rfl) rfl rfl rfl rfl K_Que_showsAllItCan L_Rea_140 Ks_Que_showsAllItCan Kv_Que_showsAllItCan ⟨by decide, by decide⟩ rfl rfl (Nat.le_of_ble_eq_true rfl) (s_Que_showsAllItCan _ _) (fun x15 h14 => ?_)
        refine Sd_if_eq (tgt := 50) (pc' := 44) (dc D_Rea_readShown 22 rfl) (by decide) rfl (fun _ => ?_) (fun _ => ?_)
        · refine Sd.sub (l' := [(0, _), (1, _), (2, _), (4, _)]) [2, 3, 4, 0] rfl ?_
          exact s_Rea_readShown_L50 (Rea_readShown_L6 n) (s_Rea_readShown_L6 n) _ _ _ _ _
        · refine Sd_aload_n (pc' := 45) (dc D_Rea_readShown 23 rfl) rfl 2 rfl rfl ?_
          refine Sd_iload_n (pc' := 46) (dc D_Rea_readShown 24 rfl) rfl 1 rfl rfl ?_
          refine Sd_iconst (pc' := 47) (dc D_Rea_readShown 25 rfl) rfl ⟨by decide, by decide⟩ ?_
          refine Sd.callVV (ci := 6) (t := 7) (as := [_, _]) RX6 (pc' := 50) (dc D_Rea_readShown 26 rfl) rfl rfl rfl rfl K_Rea_fail L_Rea_53 Ks_Rea_fail Kv_Rea_fail ⟨by decide, by decide⟩ rfl rfl (Nat.le_of_ble_eq_true rfl) (s_Rea_fail _ _ _ _) (fun _ h17 => ?_)
          refine Sd.sub (l' := [(0, _), (1, _), (2, _), (4, _)]) [2, 3, 4, 0] rfl ?_
          exact s_Rea_readShown_L50 (Rea_readShown_L6 n) (s_Rea_readShown_L6 n) _ _ _ _ _
def Rea_readShown (v0 : Nat) (v1 : Nat) (h : AH) : Option (Unit × AH) := rc h 6 v1 <| bnd (Que_showNothing v1 h) fun _ h1 => Rea_readShown_L6 FU v0 v1 0 h1
set_option maxHeartbeats 4000000 in
set_option maxRecDepth 20000 in
theorem s_Rea_readShown (v0 : Nat) (v1 : Nat) (h : AH) : CS M_Rea_readShown 4 64 emV [vr v0, vr v1] h (Rea_readShown v0 v1 h) := by
  refine CS.of (by decide) (Nat.le_of_ble_eq_true rfl) ?_
  show Sd M_Rea_readShown 4 64 emV 0 [(0, vr v0), (1, vr v1)] [] h _
  unfold Rea_readShown
  refine Sd_aload_n (pc' := 1) (dc D_Rea_readShown 0 rfl) rfl 1 rfl rfl ?_
  refine Sd.callVV (ci := 5) (t := 6) (as := []) RX5 (pc' := 4) (dc D_Rea_readShown 1 rfl) rfl rfl rfl rfl K_Que_showNothing L_Rea_137 Ks_Que_showNothing Kv_Que_showNothing ⟨by decide, by decide⟩ rfl rfl (Nat.le_of_ble_eq_true rfl) (s_Que_showNothing _ _) (fun _ h1 => ?_)
  refine Sd_iconst (pc' := 5) (dc D_Rea_readShown 2 rfl) rfl ⟨by decide, by decide⟩ ?_
  refine Sd_istore_n (pc' := 6) (l' := [(2, _), (0, _), (1, _)]) (dc D_Rea_readShown 3 rfl) rfl rfl (by decide) rfl ?_
  refine Sd.sub (l' := [(0, _), (1, _), (2, _)]) [1, 2, 0] rfl ?_
  exact s_Rea_readShown_L6 FU _ _ _ _
theorem K_Rea_readShown : MOk M_Rea_readShown 1 := ⟨Tb_at 122 (by decide +kernel) rfl, Tb_at 736 (by decide +kernel) rfl, by decide +kernel, by decide +kernel, by decide +kernel⟩
theorem Ks_Rea_readShown : Cond.instanceMethod yX6_readShown ∈ Tb := Tb_at 735 (by decide +kernel) rfl
theorem Kv_Rea_readShown : Cond.selects RX6 yX6_readShown yX6_readShown ∈ Tb := Tb_at 16 (by decide +kernel) rfl
/-! ===== BatchShare$Reader.readQuery(ILBatchShare$Query;)I ===== -/
abbrev M_Rea_readQuery : AMt := (yX6_readQuery, cX6_readQuery, 4, (some .int))
def T_Rea_readQuery : List (Nat × Instr × Nat) := [(0, .aload_n 0, 1), (1, .iload_n 1, 1), (2, .invokevirtual 15, 3), (5, .aload_n 0, 1), (6, .aload_n 2, 1), (7, .invokevirtual 89, 3), (10, .iconst 0, 1), (11, .istore_n 3, 1), (12, .iload_n 3, 1), (13, .sipush 400, 3), (16, .if_icmp .ge 47, 3), (19, .aload_n 0, 1), (20, .getfield 24, 3), (23, .ifCond .ne 40, 3), (26, .aload_n 0, 1), (27, .ldc 93, 2), (29, .invokevirtual 49, 3), (32, .ifCond .eq 11, 3), (35, .aload_n 0, 1), (36, .aload_n 2, 1), (37, .invokevirtual 95, 3), (40, .goto 17, 3), (43, .aload_n 0, 1), (44, .ldc 98, 2), (46, .invokevirtual 49, 3), (49, .ifCond .eq 14, 3), (52, .aload_n 0, 1), (53, .aload_n 2, 1), (54, .invokevirtual 100, 3), (57, .iinc 3 1, 3), (60, .goto (-48), 3), (63, .aload_n 0, 1), (64, .invokevirtual 36, 3), (67, .aload_n 2, 1), (68, .invokevirtual 103, 3), (71, .aload_n 0, 1), (72, .getfield 24, 3), (75, .ireturn, 1)]
set_option maxRecDepth 20000 in
theorem D_Rea_readQuery : (T_Rea_readQuery.all fun q => decide (decode M_Rea_readQuery.2.1 q.1 = .ok q.2)) = true := by decide +kernel
def Rea_readQuery_L63 (v0 : Nat) (v2 : Nat) (h : AH) : Option (Int × AH) := rc h 7 v0 <| bnd (Rea_close v0 h) fun _ h1 => rc h1 6 v2 <| bnd (Que_finish v2 h1) fun _ h4 => gI h4 7 v0 3 fun x7 => some (x7, h4)
set_option maxHeartbeats 4000000 in
set_option maxRecDepth 20000 in
theorem s_Rea_readQuery_L63 (v0 : Nat) (v2 : Nat) (h : AH) : Sd M_Rea_readQuery 8 196 emI 63 [(0, vr v0), (2, vr v2)] [] h (Rea_readQuery_L63 v0 v2 h) := by
  unfold Rea_readQuery_L63
  refine Sd_aload_n (pc' := 64) (dc D_Rea_readQuery 31 rfl) rfl 0 rfl rfl ?_
  refine Sd.callVV (ci := 6) (t := 7) (as := []) RX6 (pc' := 67) (dc D_Rea_readQuery 32 rfl) rfl rfl rfl rfl K_Rea_close L_Rea_36 Ks_Rea_close Kv_Rea_close ⟨by decide, by decide⟩ rfl rfl (Nat.le_of_ble_eq_true rfl) (s_Rea_close _ _) (fun _ h1 => ?_)
  refine Sd_aload_n (pc' := 68) (dc D_Rea_readQuery 33 rfl) rfl 1 rfl rfl ?_
  refine Sd.callVV (ci := 5) (t := 6) (as := []) RX5 (pc' := 71) (dc D_Rea_readQuery 34 rfl) rfl rfl rfl rfl K_Que_finish L_Rea_103 Ks_Que_finish Kv_Que_finish ⟨by decide, by decide⟩ rfl rfl (Nat.le_of_ble_eq_true rfl) (s_Que_finish _ _) (fun _ h4 => ?_)
  refine Sd_aload_n (pc' := 72) (dc D_Rea_readQuery 35 rfl) rfl 0 rfl rfl ?_
  refine Sd_getI (pc' := 75) (dc D_Rea_readQuery 36 rfl) rfl F_Rea_24 rfl rfl ?_
  exact Sd_iret (dc D_Rea_readQuery 37 rfl) rfl
def Rea_readQuery_L12 : Nat → Nat → Nat → Int → AH → Option (Int × AH)
  | 0, _, _, _, _ => none
  | n + 1, v0, v2, v3, h => if (400 : Int) ≤ v3 then (Rea_readQuery_L63 v0 v2 h) else (gI h 7 v0 3 fun x1 => if ¬ (x1 : Int) = 0 then (Rea_readQuery_L63 v0 v2 h) else (rc h 7 v0 <| bnd (Rea_takeWord v0 5 h) fun x3 h2 => if (x3 : Int) = 0 then (rc h2 7 v0 <| bnd (Rea_takeWord v0 7 h2) fun x6 h5 => if (x6 : Int) = 0 then (Rea_readQuery_L63 v0 v2 h5) else (rc h5 7 v0 <| bnd (Rea_readShown v0 v2 h5) fun _ h8 => Rea_readQuery_L12 n v0 v2 ((wr (v3 + 1))) h8)) else (rc h2 7 v0 <| bnd (Rea_readTests v0 v2 h2) fun _ h11 => Rea_readQuery_L12 n v0 v2 ((wr (v3 + 1))) h11)))
set_option maxHeartbeats 4000000 in
set_option maxRecDepth 20000 in
theorem s_Rea_readQuery_L12 : ∀ (n : Nat) (v0 : Nat) (v2 : Nat) (v3 : Int) (h : AH), Sd M_Rea_readQuery 8 196 emI 12 [(0, vr v0), (2, vr v2), (3, vi v3)] [] h (Rea_readQuery_L12 n v0 v2 v3 h)
  | 0, _, _, _, _ => Sd.none
  | n + 1, v0, v2, v3, h => by
    rw [Rea_readQuery_L12]
    refine Sd_iload_n (pc' := 13) (dc D_Rea_readQuery 8 rfl) rfl 2 rfl rfl ?_
    refine Sd_sipush (pc' := 16) (dc D_Rea_readQuery 9 rfl) rfl ⟨by decide, by decide⟩ (by decide) ?_
    refine Sd_icmp_ge (tgt := 63) (pc' := 19) (dc D_Rea_readQuery 10 rfl) (by decide) rfl (fun _ => ?_) (fun _ => ?_)
    · refine Sd.sub (l' := [(0, _), (2, _)]) [0, 1] rfl ?_
      exact s_Rea_readQuery_L63 _ _ _
    · refine Sd_aload_n (pc' := 20) (dc D_Rea_readQuery 11 rfl) rfl 0 rfl rfl ?_
      refine Sd_getI (pc' := 23) (dc D_Rea_readQuery 12 rfl) rfl F_Rea_24 rfl rfl ?_
      refine Sd_if_ne (tgt := 63) (pc' := 26) (dc D_Rea_readQuery 13 rfl) (by decide) rfl (fun _ => ?_) (fun _ => ?_)
      · refine Sd.sub (l' := [(0, _), (2, _)]) [0, 1] rfl ?_
        exact s_Rea_readQuery_L63 _ _ _
      · refine Sd_aload_n (pc' := 27) (dc D_Rea_readQuery 14 rfl) rfl 0 rfl rfl ?_
        refine Sd_lds (a := 5) (pc' := 29) (dc D_Rea_readQuery 15 rfl) rfl (by decide) (List.mem_of_getElem? (i := 4) rfl) ?_
        refine Sd.callVI (ci := 6) (t := 7) (as := [_]) RX6 (pc' := 32) (dc D_Rea_readQuery 16 rfl) rfl rfl rfl rfl K_Rea_takeWord L_Rea_49 Ks_Rea_takeWord Kv_Rea_takeWord ⟨by decide, by decide⟩ rfl rfl (Nat.le_of_ble_eq_true rfl) (s_Rea_takeWord _ _ _) (fun x3 h2 => ?_)
        refine Sd_if_eq (tgt := 43) (pc' := 35) (dc D_Rea_readQuery 17 rfl) (by decide) rfl (fun _ => ?_) (fun _ => ?_)
        · refine Sd_aload_n (pc' := 44) (dc D_Rea_readQuery 22 rfl) rfl 0 rfl rfl ?_
          refine Sd_lds (a := 7) (pc' := 46) (dc D_Rea_readQuery 23 rfl) rfl (by decide) (List.mem_of_getElem? (i := 6) rfl) ?_
          refine Sd.callVI (ci := 6) (t := 7) (as := [_]) RX6 (pc' := 49) (dc D_Rea_readQuery 24 rfl) rfl rfl rfl rfl K_Rea_takeWord L_Rea_49 Ks_Rea_takeWord Kv_Rea_takeWord ⟨by decide, by decide⟩ rfl rfl (Nat.le_of_ble_eq_true rfl) (s_Rea_takeWord _ _ _) (fun x6 h5 => ?_)
          refine Sd_if_eq (tgt := 63) (pc' := 52) (dc D_Rea_readQuery 25 rfl) (by decide) rfl (fun _ => ?_) (fun _ => ?_)
          · refine Sd.sub (l' := [(0, _), (2, _)]) [0, 1] rfl ?_
            exact s_Rea_readQuery_L63 _ _ _
          · refine Sd_aload_n (pc' := 53) (dc D_Rea_readQuery 26 rfl) rfl 0 rfl rfl ?_
            refine Sd_aload_n (pc' := 54) (dc D_Rea_readQuery 27 rfl) rfl 1 rfl rfl ?_
            refine Sd.callVV (ci := 6) (t := 7) (as := [_]) RX6 (pc' := 57) (dc D_Rea_readQuery 28 rfl) rfl rfl rfl rfl K_Rea_readShown L_Rea_100 Ks_Rea_readShown Kv_Rea_readShown ⟨by decide, by decide⟩ rfl rfl (Nat.le_of_ble_eq_true rfl) (s_Rea_readShown _ _ _) (fun _ h8 => ?_)
            refine Sd_iinc (pc' := 60) (l' := [(3, _), (0, _), (2, _)]) (dc D_Rea_readQuery 29 rfl) rfl 2 rfl (by decide) rfl ?_
            refine Sd_goto (tgt := 12) (dc D_Rea_readQuery 30 rfl) (by decide) ?_
            refine Sd.sub (l' := [(0, _), (2, _), (3, _)]) [1, 2, 0] rfl ?_
            exact s_Rea_readQuery_L12 n _ _ _ _
        · refine Sd_aload_n (pc' := 36) (dc D_Rea_readQuery 18 rfl) rfl 0 rfl rfl ?_
          refine Sd_aload_n (pc' := 37) (dc D_Rea_readQuery 19 rfl) rfl 1 rfl rfl ?_
          refine Sd.callVV (ci := 6) (t := 7) (as := [_]) RX6 (pc' := 40) (dc D_Rea_readQuery 20 rfl) rfl rfl rfl rfl K_Rea_readTests L_Rea_95 Ks_Rea_readTests Kv_Rea_readTests ⟨by decide, by decide⟩ rfl rfl (Nat.le_of_ble_eq_true rfl) (s_Rea_readTests _ _ _) (fun _ h11 => ?_)
          refine Sd_goto (tgt := 57) (dc D_Rea_readQuery 21 rfl) (by decide) ?_
          refine Sd_iinc (pc' := 60) (l' := [(3, _), (0, _), (2, _)]) (dc D_Rea_readQuery 29 rfl) rfl 2 rfl (by decide) rfl ?_
          refine Sd_goto (tgt := 12) (dc D_Rea_readQuery 30 rfl) (by decide) ?_
          refine Sd.sub (l' := [(0, _), (2, _), (3, _)]) [1, 2, 0] rfl ?_
          exact s_Rea_readQuery_L12 n _ _ _ _
def Rea_readQuery (v0 : Nat) (v1 : Int) (v2 : Nat) (h : AH) : Option (Int × AH) := rc h 7 v0 <| bnd (Rea_open v0 v1 h) fun _ h1 => rc h1 7 v0 <| bnd (Rea_readSource v0 v2 h1) fun _ h4 => Rea_readQuery_L12 FU v0 v2 0 h4
set_option maxHeartbeats 4000000 in
set_option maxRecDepth 20000 in
theorem s_Rea_readQuery (v0 : Nat) (v1 : Int) (v2 : Nat) (h : AH) : CS M_Rea_readQuery 8 196 emI [vr v0, vi v1, vr v2] h (Rea_readQuery v0 v1 v2 h) := by
  refine CS.of (by decide) (Nat.le_of_ble_eq_true rfl) ?_
  show Sd M_Rea_readQuery 8 196 emI 0 [(0, vr v0), (1, vi v1), (2, vr v2)] [] h _
  unfold Rea_readQuery
  refine Sd_aload_n (pc' := 1) (dc D_Rea_readQuery 0 rfl) rfl 0 rfl rfl ?_
  refine Sd_iload_n (pc' := 2) (dc D_Rea_readQuery 1 rfl) rfl 1 rfl rfl ?_
  refine Sd.callVV (ci := 6) (t := 7) (as := [_]) RX6 (pc' := 5) (dc D_Rea_readQuery 2 rfl) rfl rfl rfl rfl K_Rea_open L_Rea_15 Ks_Rea_open Kv_Rea_open ⟨by decide, by decide⟩ rfl rfl (Nat.le_of_ble_eq_true rfl) (s_Rea_open _ _ _) (fun _ h1 => ?_)
  refine Sd_aload_n (pc' := 6) (dc D_Rea_readQuery 3 rfl) rfl 0 rfl rfl ?_
  refine Sd_aload_n (pc' := 7) (dc D_Rea_readQuery 4 rfl) rfl 2 rfl rfl ?_
  refine Sd.callVV (ci := 6) (t := 7) (as := [_]) RX6 (pc' := 10) (dc D_Rea_readQuery 5 rfl) rfl rfl rfl rfl K_Rea_readSource L_Rea_89 Ks_Rea_readSource Kv_Rea_readSource ⟨by decide, by decide⟩ rfl rfl (Nat.le_of_ble_eq_true rfl) (s_Rea_readSource _ _ _) (fun _ h4 => ?_)
  refine Sd_iconst (pc' := 11) (dc D_Rea_readQuery 6 rfl) rfl ⟨by decide, by decide⟩ ?_
  refine Sd_istore_n (pc' := 12) (l' := [(3, _), (0, _), (1, _), (2, _)]) (dc D_Rea_readQuery 7 rfl) rfl rfl (by decide) rfl ?_
  refine Sd.sub (l' := [(0, _), (2, _), (3, _)]) [1, 3, 0] rfl ?_
  exact s_Rea_readQuery_L12 FU _ _ _ _
theorem K_Rea_readQuery : MOk M_Rea_readQuery 2 := ⟨Tb_at 122 (by decide +kernel) rfl, Tb_at 670 (by decide +kernel) rfl, by decide +kernel, by decide +kernel, by decide +kernel⟩
theorem Ks_Rea_readQuery : Cond.instanceMethod yX6_readQuery ∈ Tb := Tb_at 668 (by decide +kernel) rfl
theorem Kv_Rea_readQuery : Cond.selects RX6 yX6_readQuery yX6_readQuery ∈ Tb := Tb_at 669 (by decide +kernel) rfl
