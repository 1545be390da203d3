/-! ===== java/util/Arrays.fill([II)V ===== -/
abbrev M_Ary_fill : AMt := (yJ7_fill_53178, cJ7_fill_53178, 4, none)
def T_Ary_fill : List (Nat × Instr × Nat) := [(0, .iconst 0, 1), (1, .istore_n 2, 1), (2, .aload_n 0, 1), (3, .arraylength, 1), (4, .istore_n 3, 1), (5, .iload_n 2, 1), (6, .iload_n 3, 1), (7, .if_icmp .ge 13, 3), (10, .aload_n 0, 1), (11, .iload_n 2, 1), (12, .iload_n 1, 1), (13, .iastore, 1), (14, .iinc 2 1, 3), (17, .goto (-12), 3), (20, .return_, 1)]
set_option maxRecDepth 20000 in
theorem D_Ary_fill : (T_Ary_fill.all fun q => decide (decode M_Ary_fill.2.1 q.1 = .ok q.2)) = true := by decide +kernel
def Ary_fill_L5 : Nat → Nat → Int → Int → Int → AH → Option (Unit × AH)
  | 0, _, _, _, _, _ => none
  | n + 1, v0, v1, v2, v3, h => if (v3 : Int) ≤ v2 then (some ((), h)) else (wI h 21 v0 v2 v1 fun h1 => Ary_fill_L5 n v0 v1 ((wr (v2 + 1))) v3 h1)
set_option maxHeartbeats 4000000 in
set_option maxRecDepth 20000 in
theorem s_Ary_fill_L5 : ∀ (n : Nat) (v0 : Nat) (v1 : Int) (v2 : Int) (v3 : Int) (h : AH), Sd M_Ary_fill 1 0 emV 5 [(0, vr v0), (1, vi v1), (2, vi v2), (3, vi v3)] [] h (Ary_fill_L5 n v0 v1 v2 v3 h)
  | 0, _, _, _, _, _ => Sd.none
  | n + 1, v0, v1, v2, v3, h => by
    rw [Ary_fill_L5]
    refine Sd_iload_n (pc' := 6) (dc D_Ary_fill 5 rfl) rfl 2 rfl rfl ?_
    refine Sd_iload_n (pc' := 7) (dc D_Ary_fill 6 rfl) rfl 3 rfl rfl ?_
    refine Sd_icmp_ge (tgt := 20) (pc' := 10) (dc D_Ary_fill 7 rfl) (by decide) rfl (fun _ => ?_) (fun _ => ?_)
    · exact Sd_vret (dc D_Ary_fill 14 rfl) rfl
    · refine Sd_aload_n (pc' := 11) (dc D_Ary_fill 8 rfl) rfl 0 rfl rfl ?_
      refine Sd_iload_n (pc' := 12) (dc D_Ary_fill 9 rfl) rfl 2 rfl rfl ?_
      refine Sd_iload_n (pc' := 13) (dc D_Ary_fill 10 rfl) rfl 1 rfl rfl ?_
      refine Sd_iastore (pc' := 14) (dc D_Ary_fill 11 rfl) rfl (by decide) ?_
      refine Sd_iinc (pc' := 17) (l' := [(2, _), (0, _), (1, _), (3, _)]) (dc D_Ary_fill 12 rfl) rfl 2 rfl (by decide) rfl ?_
      refine Sd_goto (tgt := 5) (dc D_Ary_fill 13 rfl) (by decide) ?_
      refine Sd.sub (l' := [(0, _), (1, _), (2, _), (3, _)]) [1, 2, 0, 3] rfl ?_
      exact s_Ary_fill_L5 n _ _ _ _ _
def Ary_fill (v0 : Nat) (v1 : Int) (h : AH) : Option (Unit × AH) := aN h 21 v0 fun x1 => Ary_fill_L5 FU v0 v1 0 x1 h
set_option maxHeartbeats 4000000 in
set_option maxRecDepth 20000 in
theorem s_Ary_fill (v0 : Nat) (v1 : Int) (h : AH) : CS M_Ary_fill 1 0 emV [vr v0, vi v1] h (Ary_fill v0 v1 h) := by
  refine CS.of (by decide) (Nat.le_of_ble_eq_true rfl) ?_
  show Sd M_Ary_fill 1 0 emV 0 [(0, vr v0), (1, vi v1)] [] h _
  unfold Ary_fill
  refine Sd_iconst (pc' := 1) (dc D_Ary_fill 0 rfl) rfl ⟨by decide, by decide⟩ ?_
  refine Sd_istore_n (pc' := 2) (l' := [(2, _), (0, _), (1, _)]) (dc D_Ary_fill 1 rfl) rfl rfl (by decide) rfl ?_
  refine Sd_aload_n (pc' := 3) (dc D_Ary_fill 2 rfl) rfl 1 rfl rfl ?_
  refine Sd_alen (t := 21) (j := 0) (pc' := 4) (dc D_Ary_fill 3 rfl) rfl rfl (by decide) (by decide) ?_
  refine Sd_istore_n (pc' := 5) (l' := [(3, _), (2, _), (0, _), (1, _)]) (dc D_Ary_fill 4 rfl) rfl rfl (by decide) rfl ?_
  refine Sd.sub (l' := [(0, _), (1, _), (2, _), (3, _)]) [2, 3, 1, 0] rfl ?_
  exact s_Ary_fill_L5 FU _ _ _ _ _
theorem K_Ary_fill : MOk M_Ary_fill 2 := ⟨Tb_at 140 (by decide +kernel) rfl, Tb_at 856 (by decide +kernel) rfl, by decide +kernel, by decide +kernel, by decide +kernel⟩
theorem Ks_Ary_fill : Cond.static yJ7_fill_53178 ∈ Tb := Tb_at 855 (by decide +kernel) rfl
/-! ===== java/lang/Integer.bitCount(I)I ===== -/
abbrev M_Itg_bitCount : AMt := (yJ6_bitCount_0f7a4, cJ6_bitCount_0f7a4, 1, (some .int))
def T_Itg_bitCount : List (Nat × Instr × Nat) := [(0, .iload_n 0, 1), (1, .iload_n 0, 1), (2, .iconst 1, 1), (3, .iushr, 1), (4, .ldc_w 265, 3), (7, .iand, 1), (8, .isub, 1), (9, .istore_n 0, 1), (10, .iload_n 0, 1), (11, .ldc_w 266, 3), (14, .iand, 1), (15, .iload_n 0, 1), (16, .iconst 2, 1), (17, .iushr, 1), (18, .ldc_w 266, 3), (21, .iand, 1), (22, .iadd, 1), (23, .istore_n 0, 1), (24, .iload_n 0, 1), (25, .iload_n 0, 1), (26, .iconst 4, 1), (27, .iushr, 1), (28, .iadd, 1), (29, .ldc_w 267, 3), (32, .iand, 1), (33, .istore_n 0, 1), (34, .iload_n 0, 1), (35, .iload_n 0, 1), (36, .bipush 8, 2), (38, .iushr, 1), (39, .iadd, 1), (40, .istore_n 0, 1), (41, .iload_n 0, 1), (42, .iload_n 0, 1), (43, .bipush 16, 2), (45, .iushr, 1), (46, .iadd, 1), (47, .istore_n 0, 1), (48, .iload_n 0, 1), (49, .bipush 63, 2), (51, .iand, 1), (52, .ireturn, 1)]
set_option maxRecDepth 20000 in
theorem D_Itg_bitCount : (T_Itg_bitCount.all fun q => decide (decode M_Itg_bitCount.2.1 q.1 = .ok q.2)) = true := by decide +kernel
def Itg_bitCount (v0 : Int) (h : AH) : Option (Int × AH) := some ((iAnd (wr ((wr ((iAnd (wr ((wr ((iAnd (wr (v0 - (iAnd (iUshr v0 1) 1431655765))) 858993459) + (iAnd (iUshr (wr (v0 - (iAnd (iUshr v0 1) 1431655765))) 2) 858993459))) + (iUshr (wr ((iAnd (wr (v0 - (iAnd (iUshr v0 1) 1431655765))) 858993459) + (iAnd (iUshr (wr (v0 - (iAnd (iUshr v0 1) 1431655765))) 2) 858993459))) 4))) 252645135) + (iUshr (iAnd (wr ((wr ((iAnd (wr (v0 - (iAnd (iUshr v0 1) 1431655765))) 858993459) + (iAnd (iUshr (wr (v0 - (iAnd (iUshr v0 1) 1431655765))) 2) 858993459))) + (iUshr (wr ((iAnd (wr (v0 - (iAnd (iUshr v0 1) 1431655765))) 858993459) + (iAnd (iUshr (wr (v0 - (iAnd (iUshr v0 1) 1431655765))) 2) 858993459))) 4))) 252645135) 8))) + (iUshr (wr ((iAnd (wr ((wr ((iAnd (wr (v0 - (iAnd (iUshr v0 1) 1431655765))) 858993459) + (iAnd (iUshr (wr (v0 - (iAnd (iUshr v0 1) 1431655765))) 2) 858993459))) + (iUshr (wr ((iAnd (wr (v0 - (iAnd (iUshr v0 1) 1431655765))) 858993459) + (iAnd (iUshr (wr (v0 - (iAnd (iUshr v0 1) 1431655765))) 2) 858993459))) 4))) 252645135) + (iUshr (iAnd (wr ((wr ((iAnd (wr (v0 - (iAnd (iUshr v0 1) 1431655765))) 858993459) + (iAnd (iUshr (wr (v0 - (iAnd (iUshr v0 1) 1431655765))) 2) 858993459))) + (iUshr (wr ((iAnd (wr (v0 - (iAnd (iUshr v0 1) 1431655765))) 858993459) + (iAnd (iUshr (wr (v0 - (iAnd (iUshr v0 1) 1431655765))) 2) 858993459))) 4))) 252645135) 8))) 16))) 63), h)
set_option maxHeartbeats 4000000 in
set_option maxRecDepth 20000 in
theorem s_Itg_bitCount (v0 : Int) (h : AH) : CS M_Itg_bitCount 1 0 emI [vi v0] h (Itg_bitCount v0 h) := by
  refine CS.of (by decide) (Nat.le_of_ble_eq_true rfl) ?_
  show Sd M_Itg_bitCount 1 0 emI 0 [(0, vi v0)] [] h _
  unfold Itg_bitCount
  refine Sd_iload_n (pc' := 1) (dc D_Itg_bitCount 0 rfl) rfl 0 rfl rfl ?_
  refine Sd_iload_n (pc' := 2) (dc D_Itg_bitCount 1 rfl) rfl 0 rfl rfl ?_
  refine Sd_iconst (pc' := 3) (dc D_Itg_bitCount 2 rfl) rfl ⟨by decide, by decide⟩ ?_
  refine Sd_iushr (pc' := 4) (dc D_Itg_bitCount 3 rfl) rfl ?_
  refine Sd_ldcw (n := 1431655765) (pc' := 7) (dc D_Itg_bitCount 4 rfl) rfl ⟨by decide, by decide⟩ Q_Itg_265 ?_
  refine Sd_iand (pc' := 8) (dc D_Itg_bitCount 5 rfl) rfl ?_
  refine Sd_isub (pc' := 9) (dc D_Itg_bitCount 6 rfl) rfl ?_
  refine Sd_istore_n (pc' := 10) (l' := [(0, _)]) (dc D_Itg_bitCount 7 rfl) rfl rfl (by decide) rfl ?_
  refine Sd_iload_n (pc' := 11) (dc D_Itg_bitCount 8 rfl) rfl 0 rfl rfl ?_
  refine Sd_ldcw (n := 858993459) (pc' := 14) (dc D_Itg_bitCount 9 rfl) rfl ⟨by decide, by decide⟩ Q_Itg_266 ?_
  refine Sd_iand (pc' := 15) (dc D_Itg_bitCount 10 rfl) rfl ?_
  refine Sd_iload_n (pc' := 16) (dc D_Itg_bitCount 11 rfl) rfl 0 rfl rfl ?_
  refine Sd_iconst (pc' := 17) (dc D_Itg_bitCount 12 rfl) rfl ⟨by decide, by decide⟩ ?_
  refine Sd_iushr (pc' := 18) (dc D_Itg_bitCount 13 rfl) rfl ?_
  refine Sd_ldcw (n := 858993459) (pc' := 21) (dc D_Itg_bitCount 14 rfl) rfl ⟨by decide, by decide⟩ Q_Itg_266 ?_
  refine Sd_iand (pc' := 22) (dc D_Itg_bitCount 15 rfl) rfl ?_
  refine Sd_iadd (pc' := 23) (dc D_Itg_bitCount 16 rfl) rfl ?_
  refine Sd_istore_n (pc' := 24) (l' := [(0, _)]) (dc D_Itg_bitCount 17 rfl) rfl rfl (by decide) rfl ?_
  refine Sd_iload_n (pc' := 25) (dc D_Itg_bitCount 18 rfl) rfl 0 rfl rfl ?_
  refine Sd_iload_n (pc' := 26) (dc D_Itg_bitCount 19 rfl) rfl 0 rfl rfl ?_
  refine Sd_iconst (pc' := 27) (dc D_Itg_bitCount 20 rfl) rfl ⟨by decide, by decide⟩ ?_
  refine Sd_iushr (pc' := 28) (dc D_Itg_bitCount 21 rfl) rfl ?_
  refine Sd_iadd (pc' := 29) (dc D_Itg_bitCount 22 rfl) rfl ?_
  refine Sd_ldcw (n := 252645135) (pc' := 32) (dc D_Itg_bitCount 23 rfl) rfl ⟨by decide, by decide⟩ Q_Itg_267 ?_
  refine Sd_iand (pc' := 33) (dc D_Itg_bitCount 24 rfl) rfl ?_
  refine Sd_istore_n (pc' := 34) (l' := [(0, _)]) (dc D_Itg_bitCount 25 rfl) rfl rfl (by decide) rfl ?_
  refine Sd_iload_n (pc' := 35) (dc D_Itg_bitCount 26 rfl) rfl 0 rfl rfl ?_
  refine Sd_iload_n (pc' := 36) (dc D_Itg_bitCount 27 rfl) rfl 0 rfl rfl ?_
  refine Sd_bipush (pc' := 38) (dc D_Itg_bitCount 28 rfl) rfl ⟨by decide, by decide⟩ (by decide) ?_
  refine Sd_iushr (pc' := 39) (dc D_Itg_bitCount 29 rfl) rfl ?_
  refine Sd_iadd (pc' := 40) (dc D_Itg_bitCount 30 rfl) rfl ?_
  refine Sd_istore_n (pc' := 41) (l' := [(0, _)]) (dc D_Itg_bitCount 31 rfl) rfl rfl (by decide) rfl ?_
  refine Sd_iload_n (pc' := 42) (dc D_Itg_bitCount 32 rfl) rfl 0 rfl rfl ?_
  refine Sd_iload_n (pc' := 43) (dc D_Itg_bitCount 33 rfl) rfl 0 rfl rfl ?_
  refine Sd_bipush (pc' := 45) (dc D_Itg_bitCount 34 rfl) rfl ⟨by decide, by decide⟩ (by decide) ?_
  refine Sd_iushr (pc' := 46) (dc D_Itg_bitCount 35 rfl) rfl ?_
  refine Sd_iadd (pc' := 47) (dc D_Itg_bitCount 36 rfl) rfl ?_
  refine Sd_istore_n (pc' := 48) (l' := [(0, _)]) (dc D_Itg_bitCount 37 rfl) rfl rfl (by decide) rfl ?_
  refine Sd_iload_n (pc' := 49) (dc D_Itg_bitCount 38 rfl) rfl 0 rfl rfl ?_
  refine Sd_bipush (pc' := 51) (dc D_Itg_bitCount 39 rfl) rfl ⟨by decide, by decide⟩ (by decide) ?_
  refine Sd_iand (pc' := 52) (dc D_Itg_bitCount 40 rfl) rfl ?_
  exact Sd_iret (dc D_Itg_bitCount 41 rfl) rfl
theorem K_Itg_bitCount : MOk M_Itg_bitCount 1 := ⟨Tb_at 141 (by decide +kernel) rfl, Tb_at 1042 (by decide +kernel) rfl, by decide +kernel, by decide +kernel, by decide +kernel⟩
theorem Ks_Itg_bitCount : Cond.static yJ6_bitCount_0f7a4 ∈ Tb := Tb_at 1041 (by decide +kernel) rfl
