/-! ===== BatchShareModel.answersTo(II)I ===== -/
abbrev M_Mod_answersTo : AMt := (yX12_answersTo, cX12_answersTo, 8, (some .int))
def T_Mod_answersTo : List (Nat × Instr × Nat) := [(0, .aload_n 0, 1), (1, .getfield 28, 3), (4, .iload_n 1, 1), (5, .iaload, 1), (6, .iconst 1, 1), (7, .if_icmp .ne 7, 3), (10, .iconst 1, 1), (11, .goto 9, 3), (14, .aload_n 0, 1), (15, .getfield 9, 3), (18, .iconst 2, 1), (19, .iaload, 1), (20, .istore_n 3, 1), (21, .aload_n 0, 1), (22, .getfield 28, 3), (25, .iload_n 1, 1), (26, .iaload, 1), (27, .ifCond .ne 7, 3), (30, .iconst 1, 1), (31, .goto 9, 3), (34, .aload_n 0, 1), (35, .getfield 9, 3), (38, .iconst 3, 1), (39, .iaload, 1), (40, .istore 4, 2), (42, .iconst 0, 1), (43, .istore 5, 2), (45, .iconst 0, 1), (46, .istore 6, 2), (48, .iload 6, 2), (50, .iload_n 3, 1), (51, .if_icmp .ge 86, 3), (54, .aload_n 0, 1), (55, .iload_n 1, 1), (56, .invokevirtual 99, 3), (59, .ifCond .ne 78, 3), (62, .iconst 0, 1), (63, .istore 7, 2), (65, .iload 7, 2), (67, .iload 4, 2), (69, .if_icmp .ge 62, 3), (72, .aload_n 0, 1), (73, .iload_n 1, 1), (74, .iload 6, 2), (76, .iload 7, 2), (78, .invokevirtual 280, 3), (81, .ifCond .eq 44, 3), (84, .aload_n 0, 1), (85, .iload 5, 2), (87, .iload_n 2, 1), (88, .if_icmp .ne 8, 3), (91, .iload 6, 2), (93, .goto 7, 3), (96, .aload_n 0, 1), (97, .getfield 283, 3), (100, .putfield 283, 3), (103, .aload_n 0, 1), (104, .iload 5, 2), (106, .iload_n 2, 1), (107, .if_icmp .ne 8, 3), (110, .iload 7, 2), (112, .goto 7, 3), (115, .aload_n 0, 1), (116, .getfield 286, 3), (119, .putfield 286, 3), (122, .iinc 5 1, 3), (125, .iinc 7 1, 3), (128, .goto (-63), 3), (131, .iinc 6 1, 3), (134, .goto (-86), 3), (137, .iload 5, 2), (139, .ireturn, 1)]
set_option maxRecDepth 20000 in
theorem D_Mod_answersTo : (T_Mod_answersTo.all fun q => decide (decode M_Mod_answersTo.2.1 q.1 = .ok q.2)) = true := by decide +kernel
def Mod_answersTo_L100 (k48 : Nat → Int → Int → Int → Int → Int → Int → AH → Option (Int × AH)) (k65 : Nat → Int → Int → Int → Int → Int → Int → Int → AH → Option (Int × AH)) (v0 : Nat) (v1 : Int) (v2 : Int) (v3 : Int) (v4 : Int) (v5 : Int) (v6 : Int) (v7 : Int) (s0 : Int) (s1 : Nat) (h : AH) : Option (Int × AH) := pI h 13 s1 24 s0 fun h1 => if ¬ (v5 : Int) = v2 then (gI h1 13 v0 25 fun x2 => pI h1 13 v0 25 x2 fun h3 => k65 v0 v1 v2 v3 v4 ((wr (v5 + 1))) v6 ((wr (v7 + 1))) h3) else (pI h1 13 v0 25 v7 fun h4 => k65 v0 v1 v2 v3 v4 ((wr (v5 + 1))) v6 ((wr (v7 + 1))) h4)
set_option maxHeartbeats 4000000 in
set_option maxRecDepth 20000 in
theorem s_Mod_answersTo_L100 (k48 : Nat → Int → Int → Int → Int → Int → Int → AH → Option (Int × AH)) (hk48 : ∀ v0 v1 v2 v3 v4 v5 v6 h, Sd M_Mod_answersTo 4 75 emI 48 [(0, vr v0), (1, vi v1), (2, vi v2), (3, vi v3), (4, vi v4), (5, vi v5), (6, vi v6)] [] h (k48 v0 v1 v2 v3 v4 v5 v6 h)) (k65 : Nat → Int → Int → Int → Int → Int → Int → Int → AH → Option (Int × AH)) (hk65 : ∀ v0 v1 v2 v3 v4 v5 v6 v7 h, Sd M_Mod_answersTo 4 75 emI 65 [(0, vr v0), (1, vi v1), (2, vi v2), (3, vi v3), (4, vi v4), (5, vi v5), (6, vi v6), (7, vi v7)] [] h (k65 v0 v1 v2 v3 v4 v5 v6 v7 h)) (v0 : Nat) (v1 : Int) (v2 : Int) (v3 : Int) (v4 : Int) (v5 : Int) (v6 : Int) (v7 : Int) (s0 : Int) (s1 : Nat) (h : AH) : Sd M_Mod_answersTo 4 75 emI 100 [(0, vr v0), (1, vi v1), (2, vi v2), (3, vi v3), (4, vi v4), (5, vi v5), (6, vi v6), (7, vi v7)] [vi s0, vr s1] h (Mod_answersTo_L100 k48 k65 v0 v1 v2 v3 v4 v5 v6 v7 s0 s1 h) := by
  unfold Mod_answersTo_L100
  refine Sd_putI (pc' := 103) (dc D_Mod_answersTo 55 rfl) rfl F_Mod_283 rfl rfl rfl (finOk.no rfl) (by decide) ?_
  refine Sd_aload_n (pc' := 104) (dc D_Mod_answersTo 56 rfl) rfl 0 rfl rfl ?_
  refine Sd_iload (pc' := 106) (dc D_Mod_answersTo 57 rfl) rfl 5 rfl ?_
  refine Sd_iload_n (pc' := 107) (dc D_Mod_answersTo 58 rfl) rfl 2 rfl rfl ?_
  refine Sd_icmp_ne (tgt := 115) (pc' := 110) (dc D_Mod_answersTo 59 rfl) (by decide) rfl (fun _ => ?_) (fun _ => ?_)
  · refine Sd_aload_n (pc' := 116) (dc D_Mod_answersTo 62 rfl) rfl 0 rfl rfl ?_
    refine Sd_getI (pc' := 119) (dc D_Mod_answersTo 63 rfl) rfl F_Mod_286 rfl rfl ?_
    refine Sd_putI (pc' := 122) (dc D_Mod_answersTo 64 rfl) rfl F_Mod_286 rfl rfl rfl (finOk.no rfl) (by decide) ?_
    refine Sd_iinc (pc' := 125) (l' := [(5, _), (0, _), (1, _), (2, _), (3, _), (4, _), (6, _), (7, _)]) (dc D_Mod_answersTo 65 rfl) rfl 5 rfl (by decide) rfl ?_
    refine Sd_iinc (pc' := 128) (l' := [(7, _), (5, _), (0, _), (1, _), (2, _), (3, _), (4, _), (6, _)]) (dc D_Mod_answersTo 66 rfl) rfl 7 rfl (by decide) rfl ?_
    refine Sd_goto (tgt := 65) (dc D_Mod_answersTo 67 rfl) (by decide) ?_
    refine Sd.sub (l' := [(0, _), (1, _), (2, _), (3, _), (4, _), (5, _), (6, _), (7, _)]) [2, 3, 4, 5, 6, 1, 7, 0] rfl ?_
    exact hk65 _ _ _ _ _ _ _ _ _
  · refine Sd_iload (pc' := 112) (dc D_Mod_answersTo 60 rfl) rfl 7 rfl ?_
    refine Sd_goto (tgt := 119) (dc D_Mod_answersTo 61 rfl) (by decide) ?_
    refine Sd_putI (pc' := 122) (dc D_Mod_answersTo 64 rfl) rfl F_Mod_286 rfl rfl rfl (finOk.no rfl) (by decide) ?_
    refine Sd_iinc (pc' := 125) (l' := [(5, _), (0, _), (1, _), (2, _), (3, _), (4, _), (6, _), (7, _)]) (dc D_Mod_answersTo 65 rfl) rfl 5 rfl (by decide) rfl ?_
    refine Sd_iinc (pc' := 128) (l' := [(7, _), (5, _), (0, _), (1, _), (2, _), (3, _), (4, _), (6, _)]) (dc D_Mod_answersTo 66 rfl) rfl 7 rfl (by decide) rfl ?_
    refine Sd_goto (tgt := 65) (dc D_Mod_answersTo 67 rfl) (by decide) ?_
    refine Sd.sub (l' := [(0, _), (1, _), (2, _), (3, _), (4, _), (5, _), (6, _), (7, _)]) [2, 3, 4, 5, 6, 1, 7, 0] rfl ?_
    exact hk65 _ _ _ _ _ _ _ _ _
def Mod_answersTo_L65 (k48 : Nat → Int → Int → Int → Int → Int → Int → AH → Option (Int × AH)) : Nat → Nat → Int → Int → Int → Int → Int → Int → Int → AH → Option (Int × AH)
  | 0, _, _, _, _, _, _, _, _, _ => none
  | n + 1, v0, v1, v2, v3, v4, v5, v6, v7, h => if (v4 : Int) ≤ v7 then (k48 v0 v1 v2 v3 v4 v5 ((wr (v6 + 1))) h) else (rc h 13 v0 <| bnd (Mod_isAnswer v0 v1 v6 v7 h) fun x2 h1 => if (x2 : Int) = 0 then (Mod_answersTo_L65 k48 n v0 v1 v2 v3 v4 v5 v6 ((wr (v7 + 1))) h1) else (if ¬ (v5 : Int) = v2 then (gI h1 13 v0 24 fun x4 => Mod_answersTo_L100 k48 (Mod_answersTo_L65 k48 n) v0 v1 v2 v3 v4 v5 v6 v7 x4 v0 h1) else (Mod_answersTo_L100 k48 (Mod_answersTo_L65 k48 n) v0 v1 v2 v3 v4 v5 v6 v7 v6 v0 h1)))
set_option maxHeartbeats 4000000 in
set_option maxRecDepth 20000 in
theorem s_Mod_answersTo_L65 (k48 : Nat → Int → Int → Int → Int → Int → Int → AH → Option (Int × AH)) (hk48 : ∀ v0 v1 v2 v3 v4 v5 v6 h, Sd M_Mod_answersTo 4 75 emI 48 [(0, vr v0), (1, vi v1), (2, vi v2), (3, vi v3), (4, vi v4), (5, vi v5), (6, vi v6)] [] h (k48 v0 v1 v2 v3 v4 v5 v6 h)) : ∀ (n : Nat) (v0 : Nat) (v1 : Int) (v2 : Int) (v3 : Int) (v4 : Int) (v5 : Int) (v6 : Int) (v7 : Int) (h : AH), Sd M_Mod_answersTo 4 75 emI 65 [(0, vr v0), (1, vi v1), (2, vi v2), (3, vi v3), (4, vi v4), (5, vi v5), (6, vi v6), (7, vi v7)] [] h (Mod_answersTo_L65 k48 n v0 v1 v2 v3 v4 v5 v6 v7 h)
  | 0, _, _, _, _, _, _, _, _, _ => Sd.none
  | n + 1, v0, v1, v2, v3, v4, v5, v6, v7, h => by
    rw [Mod_answersTo_L65]
    refine Sd_iload (pc' := 67) (dc D_Mod_answersTo 38 rfl) rfl 7 rfl ?_
    refine Sd_iload (pc' := 69) (dc D_Mod_answersTo 39 rfl) rfl 4 rfl ?_
    refine Sd_icmp_ge (tgt := 131) (pc' := 72) (dc D_Mod_answersTo 40 rfl) (by decide) rfl (fun _ => ?_) (fun _ => ?_)
    · refine Sd_iinc (pc' := 134) (l' := [(6, _), (0, _), (1, _), (2, _), (3, _), (4, _), (5, _), (7, _)]) (dc D_Mod_answersTo 68 rfl) rfl 6 rfl (by decide) rfl ?_
      refine Sd_goto (tgt := 48) (dc D_Mod_answersTo 69 rfl) (by decide) ?_
      refine Sd.sub (l' := [(0, _), (1, _), (2, _), (3, _), (4, _), (5, _), (6, _)]) [1, 2, 3, 4, 5, 6, 0] rfl ?_
      exact hk48 _ _ _ _ _ _ _ _
    · refine Sd_aload_n (pc' := 73) (dc D_Mod_answersTo 41 rfl) rfl 0 rfl rfl ?_
      refine Sd_iload_n (pc' := 74) (dc D_Mod_answersTo 42 rfl) rfl 1 rfl rfl ?_
      refine Sd_iload (pc' := 76) (dc D_Mod_answersTo 43 rfl) rfl 6 rfl ?_
      refine Sd_iload (pc' := 78) (dc D_Mod_answersTo 44 rfl) rfl 7 rfl ?_
      refine Sd.callVI (ci := 12) (t := 13) (as := [_, _, _]) RX12 (pc' := 81) (dc D_Mod_answersTo 45 rfl) rfl rfl rfl rfl K_Mod_isAnswer L_Mod_280 Ks_Mod_isAnswer Kv_Mod_isAnswer ⟨by decide, by decide⟩ rfl rfl (Nat.le_of_ble_eq_true rfl) (s_Mod_isAnswer _ _ _ _ _) (fun x2 h1 => ?_)
      refine Sd_if_eq (tgt := 125) (pc' := 84) (dc D_Mod_answersTo 46 rfl) (by decide) rfl (fun _ => ?_) (fun _ => ?_)
      · refine Sd_iinc (pc' := 128) (l' := [(7, _), (0, _), (1, _), (2, _), (3, _), (4, _), (5, _), (6, _)]) (dc D_Mod_answersTo 66 rfl) rfl 7 rfl (by decide) rfl ?_
        refine Sd_goto (tgt := 65) (dc D_Mod_answersTo 67 rfl) (by decide) ?_
        refine Sd.sub (l' := [(0, _), (1, _), (2, _), (3, _), (4, _), (5, _), (6, _), (7, _)]) [1, 2, 3, 4, 5, 6, 7, 0] rfl ?_
        exact s_Mod_answersTo_L65 k48 hk48 n _ _ _ _ _ _ _ _ _
      · refine Sd_aload_n (pc' := 85) (dc D_Mod_answersTo 47 rfl) rfl 0 rfl rfl ?_
        refine Sd_iload (pc' := 87) (dc D_Mod_answersTo 48 rfl) rfl 5 rfl ?_
        refine Sd_iload_n (pc' := 88) (dc D_Mod_answersTo 49 rfl) rfl 2 rfl rfl ?_
        refine Sd_icmp_ne (tgt := 96) (pc' := 91) (dc D_Mod_answersTo 50 rfl) (by decide) rfl (fun _ => ?_) (fun _ => ?_)
        · refine Sd_aload_n (pc' := 97) (dc D_Mod_answersTo 53 rfl) rfl 0 rfl rfl ?_
          refine Sd_getI (pc' := 100) (dc D_Mod_answersTo 54 rfl) rfl F_Mod_283 rfl rfl ?_
          exact s_Mod_answersTo_L100 k48 hk48 (Mod_answersTo_L65 k48 n) (s_Mod_answersTo_L65 k48 hk48 n) _ _ _ _ _ _ _ _ _ _ _
        · refine Sd_iload (pc' := 93) (dc D_Mod_answersTo 51 rfl) rfl 6 rfl ?_
          refine Sd_goto (tgt := 100) (dc D_Mod_answersTo 52 rfl) (by decide) ?_
          exact s_Mod_answersTo_L100 k48 hk48 (Mod_answersTo_L65 k48 n) (s_Mod_answersTo_L65 k48 hk48 n) _ _ _ _ _ _ _ _ _ _ _
def Mod_answersTo_L48 : Nat → Nat → Int → Int → Int → Int → Int → Int → AH → Option (Int × AH)
  | 0, _, _, _, _, _, _, _, _ => none
  | n + 1, v0, v1, v2, v3, v4, v5, v6, h => if (v3 : Int) ≤ v6 then (some (v5, h)) else (rc h 13 v0 <| bnd (Mod_isVoid v0 v1 h) fun x2 h1 => if ¬ (x2 : Int) = 0 then (some (v5, h1)) else (Mod_answersTo_L65 (Mod_answersTo_L48 n) FU v0 v1 v2 v3 v4 v5 v6 0 h1))
set_option maxHeartbeats 4000000 in
set_option maxRecDepth 20000 in
theorem s_Mod_answersTo_L48 : ∀ (n : Nat) (v0 : Nat) (v1 : Int) (v2 : Int) (v3 : Int) (v4 : Int) (v5 : Int) (v6 : Int) (h : AH), Sd M_Mod_answersTo 4 75 emI 48 [(0, vr v0), (1, vi v1), (2, vi v2), (3, vi v3), (4, vi v4), (5, vi v5), (6, vi v6)] [] h (Mod_answersTo_L48 n v0 v1 v2 v3 v4 v5 v6 h)
  | 0, _, _, _, _, _, _, _, _ => Sd.none
  | n + 1, v0, v1, v2, v3, v4, v5, v6, h => by
    rw [Mod_answersTo_L48]
    refine Sd_iload (pc' := 50) (dc D_Mod_answersTo 29 rfl) rfl 6 rfl ?_
    refine Sd_iload_n (pc' := 51) (dc D_Mod_answersTo 30 rfl) rfl 3 rfl rfl ?_
    refine Sd_icmp_ge (tgt := 137) (pc' := 54) (dc D_Mod_answersTo 31 rfl) (by decide) rfl (fun _ => ?_) (fun _ => ?_)
    · refine Sd_iload (pc' := 139) (dc D_Mod_answersTo 70 rfl) rfl 5 rfl ?_
      exact Sd_iret (dc D_Mod_answersTo 71 rfl) rfl
    · refine Sd_aload_n (pc' := 55) (dc D_Mod_answersTo 32 rfl) rfl 0 rfl rfl ?_
      refine Sd_iload_n (pc' := 56) (dc D_Mod_answersTo 33 rfl) rfl 1 rfl rfl ?_
      refine Sd.callVI (ci := 12) (t := 13) (as := [_]) RX12 (pc' := 59) (dc D_Mod_answersTo 34 rfl) rfl rfl rfl rfl K_Mod_isVoid L_Mod_99 Ks_Mod_isVoid Kv_Mod_isVoid ⟨by decide, by decide⟩ rfl rfl (Nat.le_of_ble_eq_true rfl) (s_Mod_isVoid _ _ _) (fun x2 h1 => ?_)
      refine Sd_if_ne (tgt := 137) (pc' := 62) (dc D_Mod_answersTo 35 rfl) (by decide) rfl (fun _ => ?_) (fun _ => ?_)
      · refine Sd_iload (pc' := 139) (dc D_Mod_answersTo 70 rfl) rfl 5 rfl ?_
        exact Sd_iret (dc D_Mod_answersTo 71 rfl) rfl
      · refine Sd_iconst (pc' := 63) (dc D_Mod_answersTo 36 rfl) rfl ⟨by decide, by decide⟩ ?_
        refine Sd_istore (pc' := 65) (l' := [(7, _), (0, _), (1, _), (2, _), (3, _), (4, _), (5, _), (6, _)]) (dc D_Mod_answersTo 37 rfl) rfl (by decide) rfl ?_
        refine Sd.sub (l' := [(0, _), (1, _), (2, _), (3, _), (4, _), (5, _), (6, _), (7, _)]) [1, 2, 3, 4, 5, 6, 7, 0] rfl ?_
        exact s_Mod_answersTo_L65 (Mod_answersTo_L48 n) (s_Mod_answersTo_L48 n) FU _ _ _ _ _ _ _ _ _
def Mod_answersTo_L20 (v0 : Nat) (v1 : Int) (v2 : Int) (s0 : Int) (h : AH) : Option (Int × AH) := gR h 13 v0 11 fun r1 => aI h 21 r1 v1 fun x2 => if ¬ (x2 : Int) = 0 then (gR h 13 v0 1 fun r3 => aI h 21 r3 3 fun x4 => Mod_answersTo_L48 FU v0 v1 v2 s0 x4 0 0 h) else (Mod_answersTo_L48 FU v0 v1 v2 s0 1 0 0 h)
set_option maxHeartbeats 4000000 in
set_option maxRecDepth 20000 in
theorem s_Mod_answersTo_L20 (v0 : Nat) (v1 : Int) (v2 : Int) (s0 : Int) (h : AH) : Sd M_Mod_answersTo 4 75 emI 20 [(0, vr v0), (1, vi v1), (2, vi v2)] [vi s0] h (Mod_answersTo_L20 v0 v1 v2 s0 h) := by
  unfold Mod_answersTo_L20
  refine Sd_istore_n (pc' := 21) (l' := [(3, _), (0, _), (1, _), (2, _)]) (dc D_Mod_answersTo 12 rfl) rfl rfl (by decide) rfl ?_
  refine Sd_aload_n (pc' := 22) (dc D_Mod_answersTo 13 rfl) rfl 1 rfl rfl ?_
  refine Sd_getR (pc' := 25) (dc D_Mod_answersTo 14 rfl) rfl F_Mod_28 rfl rfl ?_
  refine Sd_iload_n (pc' := 26) (dc D_Mod_answersTo 15 rfl) rfl 2 rfl rfl ?_
  refine Sd_iaload (pc' := 27) (dc D_Mod_answersTo 16 rfl) rfl ?_
  refine Sd_if_ne (tgt := 34) (pc' := 30) (dc D_Mod_answersTo 17 rfl) (by decide) rfl (fun _ => ?_) (fun _ => ?_)
  · refine Sd_aload_n (pc' := 35) (dc D_Mod_answersTo 20 rfl) rfl 1 rfl rfl ?_
    refine Sd_getR (pc' := 38) (dc D_Mod_answersTo 21 rfl) rfl F_Mod_9 rfl rfl ?_
    refine Sd_iconst (pc' := 39) (dc D_Mod_answersTo 22 rfl) rfl ⟨by decide, by decide⟩ ?_
    refine Sd_iaload (pc' := 40) (dc D_Mod_answersTo 23 rfl) rfl ?_
    refine Sd_istore (pc' := 42) (l' := [(4, _), (3, _), (0, _), (1, _), (2, _)]) (dc D_Mod_answersTo 24 rfl) rfl (by decide) rfl ?_
    refine Sd_iconst (pc' := 43) (dc D_Mod_answersTo 25 rfl) rfl ⟨by decide, by decide⟩ ?_
    refine Sd_istore (pc' := 45) (l' := [(5, _), (4, _), (3, _), (0, _), (1, _), (2, _)]) (dc D_Mod_answersTo 26 rfl) rfl (by decide) rfl ?_
    refine Sd_iconst (pc' := 46) (dc D_Mod_answersTo 27 rfl) rfl ⟨by decide, by decide⟩ ?_
    refine Sd_istore (pc' := 48) (l' := [(6, _), (5, _), (4, _), (3, _), (0, _), (1, _), (2, _)]) (dc D_Mod_answersTo 28 rfl) rfl (by decide) rfl ?_
    refine Sd.sub (l' := [(0, _), (1, _), (2, _), (3, _), (4, _), (5, _), (6, _)]) [4, 5, 6, 3, 2, 1, 0] rfl ?_
    exact s_Mod_answersTo_L48 FU _ _ _ _ _ _ _ _
  · refine Sd_iconst (pc' := 31) (dc D_Mod_answersTo 18 rfl) rfl ⟨by decide, by decide⟩ ?_
    refine Sd_goto (tgt := 40) (dc D_Mod_answersTo 19 rfl) (by decide) ?_
    refine Sd_istore (pc' := 42) (l' := [(4, _), (3, _), (0, _), (1, _), (2, _)]) (dc D_Mod_answersTo 24 rfl) rfl (by decide) rfl ?_
    refine Sd_iconst (pc' := 43) (dc D_Mod_answersTo 25 rfl) rfl ⟨by decide, by decide⟩ ?_
    refine Sd_istore (pc' := 45) (l' := [(5, _), (4, _), (3, _), (0, _), (1, _), (2, _)]) (dc D_Mod_answersTo 26 rfl) rfl (by decide) rfl ?_
    refine Sd_iconst (pc' := 46) (dc D_Mod_answersTo 27 rfl) rfl ⟨by decide, by decide⟩ ?_
    refine Sd_istore (pc' := 48) (l' := [(6, _), (5, _), (4, _), (3, _), (0, _), (1, _), (2, _)]) (dc D_Mod_answersTo 28 rfl) rfl (by decide) rfl ?_
    refine Sd.sub (l' := [(0, _), (1, _), (2, _), (3, _), (4, _), (5, _), (6, _)]) [4, 5, 6, 3, 2, 1, 0] rfl ?_
    exact s_Mod_answersTo_L48 FU _ _ _ _ _ _ _ _
def Mod_answersTo (v0 : Nat) (v1 : Int) (v2 : Int) (h : AH) : Option (Int × AH) := gR h 13 v0 11 fun r1 => aI h 21 r1 v1 fun x2 => if ¬ (x2 : Int) = 1 then (gR h 13 v0 1 fun r3 => aI h 21 r3 2 fun x4 => Mod_answersTo_L20 v0 v1 v2 x4 h) else (Mod_answersTo_L20 v0 v1 v2 1 h)
set_option maxHeartbeats 4000000 in
set_option maxRecDepth 20000 in
theorem s_Mod_answersTo (v0 : Nat) (v1 : Int) (v2 : Int) (h : AH) : CS M_Mod_answersTo 4 75 emI [vr v0, vi v1, vi v2] h (Mod_answersTo v0 v1 v2 h) := by
  refine CS.of (by decide) (Nat.le_of_ble_eq_true rfl) ?_
  show Sd M_Mod_answersTo 4 75 emI 0 [(0, vr v0), (1, vi v1), (2, vi v2)] [] h _
  unfold Mod_answersTo
  refine Sd_aload_n (pc' := 1) (dc D_Mod_answersTo 0 rfl) rfl 0 rfl rfl ?_
  refine Sd_getR (pc' := 4) (dc D_Mod_answersTo 1 rfl) rfl F_Mod_28 rfl rfl ?_
  refine Sd_iload_n (pc' := 5) (dc D_Mod_answersTo 2 rfl) rfl 1 rfl rfl ?_
  refine Sd_iaload (pc' := 6) (dc D_Mod_answersTo 3 rfl) rfl ?_
  refine Sd_iconst (pc' := 7) (dc D_Mod_answersTo 4 rfl) rfl ⟨by decide, by decide⟩ ?_
  refine Sd_icmp_ne (tgt := 14) (pc' := 10) (dc D_Mod_answersTo 5 rfl) (by decide) rfl (fun _ => ?_) (fun _ => ?_)
  · refine Sd_aload_n (pc' := 15) (dc D_Mod_answersTo 8 rfl) rfl 0 rfl rfl ?_
    refine Sd_getR (pc' := 18) (dc D_Mod_answersTo 9 rfl) rfl F_Mod_9 rfl rfl ?_
    refine Sd_iconst (pc' := 19) (dc D_Mod_answersTo 10 rfl) rfl ⟨by decide, by decide⟩ ?_
    refine Sd_iaload (pc' := 20) (dc D_Mod_answersTo 11 rfl) rfl ?_
    exact s_Mod_answersTo_L20 _ _ _ _ _
  · refine Sd_iconst (pc' := 11) (dc D_Mod_answersTo 6 rfl) rfl ⟨by decide, by decide⟩ ?_
    refine Sd_goto (tgt := 20) (dc D_Mod_answersTo 7 rfl) (by decide) ?_
    exact s_Mod_answersTo_L20 _ _ _ _ _
theorem K_Mod_answersTo : MOk M_Mod_answersTo 2 := ⟨Tb_at 133 (by decide +kernel) rfl, Tb_at 1551 (by decide +kernel) rfl, by decide +kernel, by decide +kernel, by decide +kernel⟩
theorem Ks_Mod_answersTo : Cond.instanceMethod yX12_answersTo ∈ Tb := Tb_at 1550 (by decide +kernel) rfl
theorem Kv_Mod_answersTo : Cond.selects RX12 yX12_answersTo yX12_answersTo ∈ Tb := Tb_at 66 (by decide +kernel) rfl
/-! ===== BatchShareModel.answer(III)I ===== -/
abbrev M_Mod_answer : AMt := (yX12_answer, cX12_answer, 6, (some .int))
def T_Mod_answer : List (Nat × Instr × Nat) := [(0, .aload_n 0, 1), (1, .iload_n 1, 1), (2, .invokevirtual 255, 3), (5, .ifCond .eq 8, 3), (8, .iload_n 2, 1), (9, .iconst (-1), 1), (10, .if_icmp .ge 6, 3), (13, .bipush (-2), 2), (15, .ireturn, 1), (16, .aload_n 0, 1), (17, .iload_n 1, 1), (18, .iload_n 2, 1), (19, .invokevirtual 289, 3), (22, .istore 4, 2), (24, .iload_n 2, 1), (25, .iconst (-1), 1), (26, .if_icmp .ne 6, 3), (29, .iload 4, 2), (31, .ireturn, 1), (32, .iload_n 2, 1), (33, .iload 4, 2), (35, .if_icmp .ge 21, 3), (38, .iload_n 3, 1), (39, .i2l, 1), (40, .lconst 0, 1), (41, .aload_n 0, 1), (42, .getfield 43, 3), (45, .iload_n 1, 1), (46, .iaload, 1), (47, .iconst 1, 1), (48, .isub, 1), (49, .i2l, 1), (50, .invokestatic 88, 3), (53, .ifCond .ne 6, 3), (56, .bipush (-2), 2), (58, .ireturn, 1), (59, .aload_n 0, 1), (60, .getfield 46, 3), (63, .iconst 5, 1), (64, .iload_n 1, 1), (65, .imul, 1), (66, .iload_n 3, 1), (67, .iadd, 1), (68, .iaload, 1), (69, .istore 5, 2), (71, .aload_n 0, 1), (72, .iload 5, 2), (74, .iconst 3, 1), (75, .if_icmp .ge 10, 3), (78, .aload_n 0, 1), (79, .getfield 283, 3), (82, .goto 7, 3), (85, .aload_n 0, 1), (86, .getfield 286, 3), (89, .iload 5, 2), (91, .invokevirtual 252, 3), (94, .ireturn, 1)]
set_option maxRecDepth 20000 in
theorem D_Mod_answer : (T_Mod_answer.all fun q => decide (decode M_Mod_answer.2.1 q.1 = .ok q.2)) = true := by decide +kernel
def Mod_answer (v0 : Nat) (v1 : Int) (v2 : Int) (v3 : Int) (h : AH) : Option (Int × AH) := rc h 13 v0 <| bnd (Mod_isQuery v0 v1 h) fun x2 h1 => if (x2 : Int) = 0 then (some ((-2), h1)) else (if ((-1) : Int) ≤ v2 then (rc h1 13 v0 <| bnd (Mod_answersTo v0 v1 v2 h1) fun x5 h4 => if ¬ (v2 : Int) = (-1) then (if (x5 : Int) ≤ v2 then (some ((-2), h4)) else (gR h4 13 v0 16 fun r7 => aI h4 21 r7 v1 fun x8 => bnd (Mod_in v3 0 (wr (x8 - 1)) h4) fun x10 h9 => if ¬ (x10 : Int) = 0 then (gR h9 13 v0 17 fun r12 => aI h9 21 r12 (wr ((wr (5 * v1)) + v3)) fun x13 => if (3 : Int) ≤ x13 then (gI h9 13 v0 25 fun x14 => rc h9 13 v0 <| bnd (Mod_numberAt v0 x14 x13 h9) fun x16 h15 => some (x16, h15)) else (gI h9 13 v0 24 fun x18 => rc h9 13 v0 <| bnd (Mod_numberAt v0 x18 x13 h9) fun x20 h19 => some (x20, h19))) else (some ((-2), h9)))) else (some (x5, h4))) else (some ((-2), h1)))
set_option maxHeartbeats 4000000 in
set_option maxRecDepth 20000 in
theorem s_Mod_answer (v0 : Nat) (v1 : Int) (v2 : Int) (v3 : Int) (h : AH) : CS M_Mod_answer 5 102 emI [vr v0, vi v1, vi v2, vi v3] h (Mod_answer v0 v1 v2 v3 h) := by
  refine CS.of (by decide) (Nat.le_of_ble_eq_true rfl) ?_
  show Sd M_Mod_answer 5 102 emI 0 [(0, vr v0), (1, vi v1), (2, vi v2), (3, vi v3)] [] h _
  unfold Mod_answer
  refine Sd_aload_n (pc' := 1) (dc D_Mod_answer 0 rfl) rfl 0 rfl rfl ?_
  refine Sd_iload_n (pc' := 2) (dc D_Mod_answer 1 rfl) rfl 1 rfl rfl ?_
  refine Sd.callVI (ci := 12) (t := 13) (as := [_]) RX12 (pc' := 5) (dc D_Mod_answer 2 rfl) rfl rfl rfl rfl K_Mod_isQuery L_Mod_255 Ks_Mod_isQuery Kv_Mod_isQuery ⟨by decide, by decide⟩ rfl rfl (Nat.le_of_ble_eq_true rfl) (s_Mod_isQuery _ _ _) (fun x2 h1 => ?_)
  refine Sd_if_eq (tgt := 13) (pc' := 8) (dc D_Mod_answer 3 rfl) (by decide) rfl (fun _ => ?_) (fun _ => ?_)
  · refine Sd_bipush (pc' := 15) (dc D_Mod_answer 7 rfl) rfl ⟨by decide, by decide⟩ (by decide) ?_
    exact Sd_iret (dc D_Mod_answer 8 rfl) rfl
  · refine Sd_iload_n (pc' := 9) (dc D_Mod_answer 4 rfl) rfl 2 rfl rfl ?_
    refine Sd_iconst (pc' := 10) (dc D_Mod_answer 5 rfl) rfl ⟨by decide, by decide⟩ ?_
    refine Sd_icmp_ge (tgt := 16) (pc' := 13) (dc D_Mod_answer 6 rfl) (by decide) rfl (fun _ => ?_) (fun _ => ?_)
    · refine Sd_aload_n (pc' := 17) (dc D_Mod_answer 9 rfl) rfl 0 rfl rfl ?_
      refine Sd_iload_n (pc' := 18) (dc D_Mod_answer 10 rfl) rfl 1 rfl rfl ?_
      refine Sd_iload_n (pc' := 19) (dc D_Mod_answer 11 rfl) rfl 2 rfl rfl ?_
      refine Sd.callVI (ci := 12) (t := 13) (as := [_, _]) RX12 (pc' := 22) (dc D_Mod_answer 12 rfl) rfl rfl rfl rfl K_Mod_answersTo L_Mod_289 Ks_Mod_answersTo Kv_Mod_answersTo ⟨by decide, by decide⟩ rfl rfl (Nat.le_of_ble_eq_true rfl) (s_Mod_answersTo _ _ _ _) (fun x5 h4 => ?_)
      refine Sd_istore (pc' := 24) (l' := [(4, _), (0, _), (1, _), (2, _), (3, _)]) (dc D_Mod_answer 13 rfl) rfl (by decide) rfl ?_
      refine Sd_iload_n (pc' := 25) (dc D_Mod_answer 14 rfl) rfl 3 rfl rfl ?_
      refine Sd_iconst (pc' := 26) (dc D_Mod_answer 15 rfl) rfl ⟨by decide, by decide⟩ ?_
      refine Sd_icmp_ne (tgt := 32) (pc' := 29) (dc D_Mod_answer 16 rfl) (by decide) rfl (fun _ => ?_) (fun _ => ?_)
      · refine Sd_iload_n (pc' := 33) (dc D_Mod_answer 19 rfl) rfl 3 rfl rfl ?_
        refine Sd_iload (pc' := 35) (dc D_Mod_answer 20 rfl) rfl 0 rfl ?_
        refine Sd_icmp_ge (tgt := 56) (pc' := 38) (dc D_Mod_answer 21 rfl) (by decide) rfl (fun _ => ?_) (fun _ => ?_)
        · refine Sd_bipush (pc' := 58) (dc D_Mod_answer 34 rfl) rfl ⟨by decide, by decide⟩ (by decide) ?_
          exact Sd_iret (dc D_Mod_answer 35 rfl) rfl
        · refine Sd_iload_n (pc' := 39) (dc D_Mod_answer 22 rfl) rfl 4 rfl rfl ?_
          refine Sd_i2l (pc' := 40) (dc D_Mod_answer 23 rfl) rfl ?_
          refine Sd_lconst (z := 0) (pc' := 41) (dc D_Mod_answer 24 rfl) rfl ⟨by decide, by decide⟩ (by decide) ?_
          refine Sd_aload_n (pc' := 42) (dc D_Mod_answer 25 rfl) rfl 1 rfl rfl ?_
          refine Sd_getR (pc' := 45) (dc D_Mod_answer 26 rfl) rfl F_Mod_43 rfl rfl ?_
          refine Sd_iload_n (pc' := 46) (dc D_Mod_answer 27 rfl) rfl 2 rfl rfl ?_
          refine Sd_iaload (pc' := 47) (dc D_Mod_answer 28 rfl) rfl ?_
          refine Sd_iconst (pc' := 48) (dc D_Mod_answer 29 rfl) rfl ⟨by decide, by decide⟩ ?_
          refine Sd_isub (pc' := 49) (dc D_Mod_answer 30 rfl) rfl ?_
          refine Sd_i2l (pc' := 50) (dc D_Mod_answer 31 rfl) rfl ?_
          refine Sd.callSI (as := [_, _, _]) (pc' := 53) (dc D_Mod_answer 32 rfl) rfl K_Mod_in L_Mod_88 Ks_Mod_in ⟨by decide, by decide⟩ rfl rfl (Nat.le_of_ble_eq_true rfl) (s_Mod_in _ _ _ _) (fun x10 h9 => ?_)
          refine Sd_if_ne (tgt := 59) (pc' := 56) (dc D_Mod_answer 33 rfl) (by decide) rfl (fun _ => ?_) (fun _ => ?_)
          · refine Sd_aload_n (pc' := 60) (dc D_Mod_answer 36 rfl) rfl 1 rfl rfl ?_
            refine Sd_getR (pc' := 63) (dc D_Mod_answer 37 rfl) rfl F_Mod_46 rfl rfl ?_
            refine Sd_iconst (pc' := 64) (dc D_Mod_answer 38 rfl) rfl ⟨by decide, by decide⟩ ?_
            refine Sd_iload_n (pc' := 65) (dc D_Mod_answer 39 rfl) rfl 2 rfl rfl ?_
            refine Sd_imul (pc' := 66) (dc D_Mod_answer 40 rfl) rfl ?_
            refine Sd_iload_n (pc' := 67) (dc D_Mod_answer 41 rfl) rfl 4 rfl rfl ?_
            refine Sd_iadd (pc' := 68) (dc D_Mod_answer 42 rfl) rfl ?_
            refine Sd_iaload (pc' := 69) (dc D_Mod_answer 43 rfl) rfl ?_
            refine Sd_istore (pc' := 71) (l' := [(5, _), (4, _), (0, _), (1, _), (2, _), (3, _)]) (dc D_Mod_answer 44 rfl) rfl (by decide) rfl ?_
            refine Sd_aload_n (pc' := 72) (dc D_Mod_answer 45 rfl) rfl 2 rfl rfl ?_
            refine Sd_iload (pc' := 74) (dc D_Mod_answer 46 rfl) rfl 0 rfl ?_
            refine Sd_iconst (pc' := 75) (dc D_Mod_answer 47 rfl) rfl ⟨by decide, by decide⟩ ?_
            refine Sd_icmp_ge (tgt := 85) (pc' := 78) (dc D_Mod_answer 48 rfl) (by decide) rfl (fun _ => ?_) (fun _ => ?_)
            · refine Sd_aload_n (pc' := 86) (dc D_Mod_answer 52 rfl) rfl 2 rfl rfl ?_
              refine Sd_getI (pc' := 89) (dc D_Mod_answer 53 rfl) rfl F_Mod_286 rfl rfl ?_
              refine Sd_iload (pc' := 91) (dc D_Mod_answer 54 rfl) rfl 0 rfl ?_
              refine Sd.callVI (ci := 12) (t := 13) (as := [_, _]) RX12 (pc' := 94) (dc D_Mod_answer 55 rfl) rfl rfl rfl rfl K_Mod_numberAt L_Mod_252 Ks_Mod_numberAt Kv_Mod_numberAt ⟨by decide, by decide⟩ rfl rfl (Nat.le_of_ble_eq_true rfl) (s_Mod_numberAt _ _ _ _) (fun x16 h15 => ?_)
              exact Sd_iret (dc D_Mod_answer 56 rfl) rfl
            · refine Sd_aload_n (pc' := 79) (dc D_Mod_answer 49 rfl) rfl 2 rfl rfl ?_
              refine Sd_getI (pc' := 82) (dc D_Mod_answer 50 rfl) rfl F_Mod_283 rfl rfl ?_
              refine Sd_goto (tgt := 89) (dc D_Mod_answer 51 rfl) (by decide) ?_
              refine Sd_iload (pc' := 91) (dc D_Mod_answer 54 rfl) rfl 0 rfl ?_
              refine Sd.callVI (ci := 12) (t := 13) (as := [_, _]) RX12 (pc' := 94) (dc D_Mod_answer 55 rfl) rfl rfl rfl rfl K_Mod_numberAt L_Mod_252 Ks_Mod_numberAt Kv_Mod_numberAt ⟨by decide, by decide⟩ rfl rfl (Nat.le_of_ble_eq_true rfl) (s_Mod_numberAt _ _ _ _) (fun x20 h19 => ?_)
              exact Sd_iret (dc D_Mod_answer 56 rfl) rfl
          · refine Sd_bipush (pc' := 58) (dc D_Mod_answer 34 rfl) rfl ⟨by decide, by decide⟩ (by decide) ?_
            exact Sd_iret (dc D_Mod_answer 35 rfl) rfl
      · refine Sd_iload (pc' := 31) (dc D_Mod_answer 17 rfl) rfl 0 rfl ?_
        exact Sd_iret (dc D_Mod_answer 18 rfl) rfl
    · refine Sd_bipush (pc' := 15) (dc D_Mod_answer 7 rfl) rfl ⟨by decide, by decide⟩ (by decide) ?_
      exact Sd_iret (dc D_Mod_answer 8 rfl) rfl
theorem K_Mod_answer : MOk M_Mod_answer 3 := ⟨Tb_at 133 (by decide +kernel) rfl, Tb_at 1547 (by decide +kernel) rfl, by decide +kernel, by decide +kernel, by decide +kernel⟩
theorem Ks_Mod_answer : Cond.instanceMethod yX12_answer ∈ Tb := Tb_at 1545 (by decide +kernel) rfl
theorem Kv_Mod_answer : Cond.selects RX12 yX12_answer yX12_answer ∈ Tb := Tb_at 1546 (by decide +kernel) rfl
/-! ===== BatchShareModel.laysPart(II)V ===== -/
abbrev M_Mod_laysPart : AMt := (yX12_laysPart, cX12_laysPart, 5, none)
def T_Mod_laysPart : List (Nat × Instr × Nat) := [(0, .aload_n 0, 1), (1, .getfield 53, 3), (4, .iconst 0, 1), (5, .iload_n 2, 1), (6, .iastore, 1), (7, .aload_n 0, 1), (8, .getfield 53, 3), (11, .iconst 1, 1), (12, .iload_n 2, 1), (13, .iconst 2, 1), (14, .if_icmp .ne 12, 3), (17, .aload_n 0, 1), (18, .getfield 31, 3), (21, .iload_n 1, 1), (22, .iaload, 1), (23, .goto 4, 3), (26, .iconst (-1), 1), (27, .iastore, 1), (28, .aload_n 0, 1), (29, .getfield 53, 3), (32, .iconst 2, 1), (33, .iload_n 2, 1), (34, .iconst 2, 1), (35, .if_icmp .ne 12, 3), (38, .aload_n 0, 1), (39, .getfield 34, 3), (42, .iload_n 1, 1), (43, .iaload, 1), (44, .goto 4, 3), (47, .iconst (-1), 1), (48, .iastore, 1), (49, .iconst 0, 1), (50, .istore_n 3, 1), (51, .iload_n 3, 1), (52, .iconst 5, 1), (53, .if_icmp .ge 75, 3), (56, .iload_n 2, 1), (57, .iload_n 3, 1), (58, .invokestatic 194, 3), (61, .istore 4, 2), (63, .aload_n 0, 1), (64, .getfield 53, 3), (67, .iconst 3, 1), (68, .iconst 2, 1), (69, .iload_n 3, 1), (70, .imul, 1), (71, .iadd, 1), (72, .iload 4, 2), (74, .ifCond .eq 16, 3), (77, .aload_n 0, 1), (78, .getfield 37, 3), (81, .iconst 5, 1), (82, .iload_n 1, 1), (83, .imul, 1), (84, .iload_n 3, 1), (85, .iadd, 1), (86, .iaload, 1), (87, .goto 4, 3), (90, .iconst 0, 1), (91, .iastore, 1), (92, .aload_n 0, 1), (93, .getfield 53, 3), (96, .iconst 4, 1), (97, .iconst 2, 1), (98, .iload_n 3, 1), (99, .imul, 1), (100, .iadd, 1), (101, .iload 4, 2), (103, .ifCond .eq 16, 3), (106, .aload_n 0, 1), (107, .getfield 40, 3), (110, .iconst 5, 1), (111, .iload_n 1, 1), (112, .imul, 1), (113, .iload_n 3, 1), (114, .iadd, 1), (115, .iaload, 1), (116, .goto 5, 3), (119, .bipush 9, 2), (121, .iastore, 1), (122, .iinc 3 1, 3), (125, .goto (-74), 3), (128, .return_, 1)]
set_option maxRecDepth 20000 in
theorem D_Mod_laysPart : (T_Mod_laysPart.all fun q => decide (decode M_Mod_laysPart.2.1 q.1 = .ok q.2)) = true := by decide +kernel
def Mod_laysPart_L91 (k51 : Nat → Int → Int → Int → AH → Option (Unit × AH)) (v0 : Nat) (v1 : Int) (v2 : Int) (v3 : Int) (v4 : Int) (s0 : Int) (s1 : Int) (s2 : Nat) (h : AH) : Option (Unit × AH) := wI h 21 s2 s1 s0 fun h1 => gR h1 13 v0 26 fun r2 => if (v4 : Int) = 0 then (wI h1 21 r2 (wr (4 + (wr (2 * v3)))) 9 fun h3 => k51 v0 v1 v2 ((wr (v3 + 1))) h3) else (gR h1 13 v0 15 fun r4 => aI h1 21 r4 (wr ((wr (5 * v1)) + v3)) fun x5 => wI h1 21 r2 (wr (4 + (wr (2 * v3)))) x5 fun h6 => k51 v0 v1 v2 ((wr (v3 + 1))) h6)
set_option maxHeartbeats 4000000 in
set_option maxRecDepth 20000 in
theorem s_Mod_laysPart_L91 (k51 : Nat → Int → Int → Int → AH → Option (Unit × AH)) (hk51 : ∀ v0 v1 v2 v3 h, Sd M_Mod_laysPart 2 21 emV 51 [(0, vr v0), (1, vi v1), (2, vi v2), (3, vi v3)] [] h (k51 v0 v1 v2 v3 h)) (v0 : Nat) (v1 : Int) (v2 : Int) (v3 : Int) (v4 : Int) (s0 : Int) (s1 : Int) (s2 : Nat) (h : AH) : Sd M_Mod_laysPart 2 21 emV 91 [(0, vr v0), (1, vi v1), (2, vi v2), (3, vi v3), (4, vi v4)] [vi s0, vi s1, vr s2] h (Mod_laysPart_L91 k51 v0 v1 v2 v3 v4 s0 s1 s2 h) := by
  unfold Mod_laysPart_L91
  refine Sd_iastore (pc' := 92) (dc D_Mod_laysPart 59 rfl) rfl (by decide) ?_
  refine Sd_aload_n (pc' := 93) (dc D_Mod_laysPart 60 rfl) rfl 0 rfl rfl ?_
  refine Sd_getR (pc' := 96) (dc D_Mod_laysPart 61 rfl) rfl F_Mod_53 rfl rfl ?_
  refine Sd_iconst (pc' := 97) (dc D_Mod_laysPart 62 rfl) rfl ⟨by decide, by decide⟩ ?_
  refine Sd_iconst (pc' := 98) (dc D_Mod_laysPart 63 rfl) rfl ⟨by decide, by decide⟩ ?_
  refine Sd_iload_n (pc' := 99) (dc D_Mod_laysPart 64 rfl) rfl 3 rfl rfl ?_
  refine Sd_imul (pc' := 100) (dc D_Mod_laysPart 65 rfl) rfl ?_
  refine Sd_iadd (pc' := 101) (dc D_Mod_laysPart 66 rfl) rfl ?_
  refine Sd_iload (pc' := 103) (dc D_Mod_laysPart 67 rfl) rfl 4 rfl ?_
  refine Sd_if_eq (tgt := 119) (pc' := 106) (dc D_Mod_laysPart 68 rfl) (by decide) rfl (fun _ => ?_) (fun _ => ?_)
  · refine Sd_bipush (pc' := 121) (dc D_Mod_laysPart 78 rfl) rfl ⟨by decide, by decide⟩ (by decide) ?_
    refine Sd_iastore (pc' := 122) (dc D_Mod_laysPart 79 rfl) rfl (by decide) ?_
    refine Sd_iinc (pc' := 125) (l' := [(3, _), (0, _), (1, _), (2, _), (4, _)]) (dc D_Mod_laysPart 80 rfl) rfl 3 rfl (by decide) rfl ?_
    refine Sd_goto (tgt := 51) (dc D_Mod_laysPart 81 rfl) (by decide) ?_
    refine Sd.sub (l' := [(0, _), (1, _), (2, _), (3, _)]) [1, 2, 3, 0] rfl ?_
    exact hk51 _ _ _ _ _
  · refine Sd_aload_n (pc' := 107) (dc D_Mod_laysPart 69 rfl) rfl 0 rfl rfl ?_
    refine Sd_getR (pc' := 110) (dc D_Mod_laysPart 70 rfl) rfl F_Mod_40 rfl rfl ?_
    refine Sd_iconst (pc' := 111) (dc D_Mod_laysPart 71 rfl) rfl ⟨by decide, by decide⟩ ?_
    refine Sd_iload_n (pc' := 112) (dc D_Mod_laysPart 72 rfl) rfl 1 rfl rfl ?_
    refine Sd_imul (pc' := 113) (dc D_Mod_laysPart 73 rfl) rfl ?_
    refine Sd_iload_n (pc' := 114) (dc D_Mod_laysPart 74 rfl) rfl 3 rfl rfl ?_
    refine Sd_iadd (pc' := 115) (dc D_Mod_laysPart 75 rfl) rfl ?_
    refine Sd_iaload (pc' := 116) (dc D_Mod_laysPart 76 rfl) rfl ?_
    refine Sd_goto (tgt := 121) (dc D_Mod_laysPart 77 rfl) (by decide) ?_
    refine Sd_iastore (pc' := 122) (dc D_Mod_laysPart 79 rfl) rfl (by decide) ?_
    refine Sd_iinc (pc' := 125) (l' := [(3, _), (0, _), (1, _), (2, _), (4, _)]) (dc D_Mod_laysPart 80 rfl) rfl 3 rfl (by decide) rfl ?_
    refine Sd_goto (tgt := 51) (dc D_Mod_laysPart 81 rfl) (by decide) ?_
    refine Sd.sub (l' := [(0, _), (1, _), (2, _), (3, _)]) [1, 2, 3, 0] rfl ?_
    exact hk51 _ _ _ _ _
def Mod_laysPart_L51 : Nat → Nat → Int → Int → Int → AH → Option (Unit × AH)
  | 0, _, _, _, _, _ => none
  | n + 1, v0, v1, v2, v3, h => if (5 : Int) ≤ v3 then (some ((), h)) else (bnd (Mod_isOf v2 v3 h) fun x2 h1 => gR h1 13 v0 26 fun r4 => if (x2 : Int) = 0 then (Mod_laysPart_L91 (Mod_laysPart_L51 n) v0 v1 v2 v3 x2 0 ((wr (3 + (wr (2 * v3))))) r4 h1) else (gR h1 13 v0 14 fun r5 => aI h1 21 r5 (wr ((wr (5 * v1)) + v3)) fun x6 => Mod_laysPart_L91 (Mod_laysPart_L51 n) v0 v1 v2 v3 x2 x6 ((wr (3 + (wr (2 * v3))))) r4 h1))
set_option maxHeartbeats 4000000 in
set_option maxRecDepth 20000 in
theorem s_Mod_laysPart_L51 : ∀ (n : Nat) (v0 : Nat) (v1 : Int) (v2 : Int) (v3 : Int) (h : AH), Sd M_Mod_laysPart 2 21 emV 51 [(0, vr v0), (1, vi v1), (2, vi v2), (3, vi v3)] [] h (Mod_laysPart_L51 n v0 v1 v2 v3 h)
  | 0, _, _, _, _, _ => Sd.none
  | n + 1, v0, v1, v2, v3, h => by
    rw [Mod_laysPart_L51]
    refine Sd_iload_n (pc' := 52) (dc D_Mod_laysPart 33 rfl) rfl 3 rfl rfl ?_
    refine Sd_iconst (pc' := 53) (dc D_Mod_laysPart 34 rfl) rfl ⟨by decide, by decide⟩ ?_
    refine Sd_icmp_ge (tgt := 128) (pc' := 56) (dc D_Mod_laysPart 35 rfl) (by decide) rfl (fun _ => ?_) (fun _ => ?_)
    · exact Sd_vret (dc D_Mod_laysPart 82 rfl) rfl
    · refine Sd_iload_n (pc' := 57) (dc D_Mod_laysPart 36 rfl) rfl 2 rfl rfl ?_
      refine Sd_iload_n (pc' := 58) (dc D_Mod_laysPart 37 rfl) rfl 3 rfl rfl ?_
      refine Sd.callSI (as := [_, _]) (pc' := 61) (dc D_Mod_laysPart 38 rfl) rfl K_Mod_isOf L_Mod_194 Ks_Mod_isOf ⟨by decide, by decide⟩ rfl rfl (Nat.le_of_ble_eq_true rfl) (s_Mod_isOf _ _ _) (fun x2 h1 => ?_)
      refine Sd_istore (pc' := 63) (l' := [(4, _), (0, _), (1, _), (2, _), (3, _)]) (dc D_Mod_laysPart 39 rfl) rfl (by decide) rfl ?_
      refine Sd_aload_n (pc' := 64) (dc D_Mod_laysPart 40 rfl) rfl 1 rfl rfl ?_
      refine Sd_getR (pc' := 67) (dc D_Mod_laysPart 41 rfl) rfl F_Mod_53 rfl rfl ?_
      refine Sd_iconst (pc' := 68) (dc D_Mod_laysPart 42 rfl) rfl ⟨by decide, by decide⟩ ?_
      refine Sd_iconst (pc' := 69) (dc D_Mod_laysPart 43 rfl) rfl ⟨by decide, by decide⟩ ?_
      refine Sd_iload_n (pc' := 70) (dc D_Mod_laysPart 44 rfl) rfl 4 rfl rfl ?_
      refine Sd_imul (pc' := 71) (dc D_Mod_laysPart 45 rfl) rfl ?_
      refine Sd_iadd (pc' := 72) (dc D_Mod_laysPart 46 rfl) rfl ?_
      refine Sd_iload (pc' := 74) (dc D_Mod_laysPart 47 rfl) rfl 0 rfl ?_
      refine Sd_if_eq (tgt := 90) (pc' := 77) (dc D_Mod_laysPart 48 rfl) (by decide) rfl (fun _ => ?_) (fun _ => ?_)
      · refine Sd_iconst (pc' := 91) (dc D_Mod_laysPart 58 rfl) rfl ⟨by decide, by decide⟩ ?_
        refine Sd.sub (l' := [(0, _), (1, _), (2, _), (3, _), (4, _)]) [1, 2, 3, 4, 0] rfl ?_
        exact s_Mod_laysPart_L91 (Mod_laysPart_L51 n) (s_Mod_laysPart_L51 n) _ _ _ _ _ _ _ _ _
      · refine Sd_aload_n (pc' := 78) (dc D_Mod_laysPart 49 rfl) rfl 1 rfl rfl ?_
        refine Sd_getR (pc' := 81) (dc D_Mod_laysPart 50 rfl) rfl F_Mod_37 rfl rfl ?_
        refine Sd_iconst (pc' := 82) (dc D_Mod_laysPart 51 rfl) rfl ⟨by decide, by decide⟩ ?_
        refine Sd_iload_n (pc' := 83) (dc D_Mod_laysPart 52 rfl) rfl 2 rfl rfl ?_
        refine Sd_imul (pc' := 84) (dc D_Mod_laysPart 53 rfl) rfl ?_
        refine Sd_iload_n (pc' := 85) (dc D_Mod_laysPart 54 rfl) rfl 4 rfl rfl ?_
        refine Sd_iadd (pc' := 86) (dc D_Mod_laysPart 55 rfl) rfl ?_
        refine Sd_iaload (pc' := 87) (dc D_Mod_laysPart 56 rfl) rfl ?_
        refine Sd_goto (tgt := 91) (dc D_Mod_laysPart 57 rfl) (by decide) ?_
        refine Sd.sub (l' := [(0, _), (1, _), (2, _), (3, _), (4, _)]) [1, 2, 3, 4, 0] rfl ?_
        exact s_Mod_laysPart_L91 (Mod_laysPart_L51 n) (s_Mod_laysPart_L51 n) _ _ _ _ _ _ _ _ _
def Mod_laysPart_L27 (v0 : Nat) (v1 : Int) (v2 : Int) (s0 : Int) (s1 : Int) (s2 : Nat) (h : AH) : Option (Unit × AH) := wI h 21 s2 s1 s0 fun h1 => gR h1 13 v0 26 fun r2 => if ¬ (v2 : Int) = 2 then (wI h1 21 r2 2 (-1) fun h3 => Mod_laysPart_L51 FU v0 v1 v2 0 h3) else (gR h1 13 v0 13 fun r4 => aI h1 21 r4 v1 fun x5 => wI h1 21 r2 2 x5 fun h6 => Mod_laysPart_L51 FU v0 v1 v2 0 h6)
set_option maxHeartbeats 4000000 in
set_option maxRecDepth 20000 in
theorem s_Mod_laysPart_L27 (v0 : Nat) (v1 : Int) (v2 : Int) (s0 : Int) (s1 : Int) (s2 : Nat) (h : AH) : Sd M_Mod_laysPart 2 21 emV 27 [(0, vr v0), (1, vi v1), (2, vi v2)] [vi s0, vi s1, vr s2] h (Mod_laysPart_L27 v0 v1 v2 s0 s1 s2 h) := by
  unfold Mod_laysPart_L27
  refine Sd_iastore (pc' := 28) (dc D_Mod_laysPart 17 rfl) rfl (by decide) ?_
  refine Sd_aload_n (pc' := 29) (dc D_Mod_laysPart 18 rfl) rfl 0 rfl rfl ?_
  refine Sd_getR (pc' := 32) (dc D_Mod_laysPart 19 rfl) rfl F_Mod_53 rfl rfl ?_
  refine Sd_iconst (pc' := 33) (dc D_Mod_laysPart 20 rfl) rfl ⟨by decide, by decide⟩ ?_
  refine Sd_iload_n (pc' := 34) (dc D_Mod_laysPart 21 rfl) rfl 2 rfl rfl ?_
  refine Sd_iconst (pc' := 35) (dc D_Mod_laysPart 22 rfl) rfl ⟨by decide, by decide⟩ ?_
  refine Sd_icmp_ne (tgt := 47) (pc' := 38) (dc D_Mod_laysPart 23 rfl) (by decide) rfl (fun _ => ?_) (fun _ => ?_)
  · refine Sd_iconst (pc' := 48) (dc D_Mod_laysPart 29 rfl) rfl ⟨by decide, by decide⟩ ?_
    refine Sd_iastore (pc' := 49) (dc D_Mod_laysPart 30 rfl) rfl (by decide) ?_
    refine Sd_iconst (pc' := 50) (dc D_Mod_laysPart 31 rfl) rfl ⟨by decide, by decide⟩ ?_
    refine Sd_istore_n (pc' := 51) (l' := [(3, _), (0, _), (1, _), (2, _)]) (dc D_Mod_laysPart 32 rfl) rfl rfl (by decide) rfl ?_
    refine Sd.sub (l' := [(0, _), (1, _), (2, _), (3, _)]) [1, 2, 3, 0] rfl ?_
    exact s_Mod_laysPart_L51 FU _ _ _ _ _
  · refine Sd_aload_n (pc' := 39) (dc D_Mod_laysPart 24 rfl) rfl 0 rfl rfl ?_
    refine Sd_getR (pc' := 42) (dc D_Mod_laysPart 25 rfl) rfl F_Mod_34 rfl rfl ?_
    refine Sd_iload_n (pc' := 43) (dc D_Mod_laysPart 26 rfl) rfl 1 rfl rfl ?_
    refine Sd_iaload (pc' := 44) (dc D_Mod_laysPart 27 rfl) rfl ?_
    refine Sd_goto (tgt := 48) (dc D_Mod_laysPart 28 rfl) (by decide) ?_
    refine Sd_iastore (pc' := 49) (dc D_Mod_laysPart 30 rfl) rfl (by decide) ?_
    refine Sd_iconst (pc' := 50) (dc D_Mod_laysPart 31 rfl) rfl ⟨by decide, by decide⟩ ?_
    refine Sd_istore_n (pc' := 51) (l' := [(3, _), (0, _), (1, _), (2, _)]) (dc D_Mod_laysPart 32 rfl) rfl rfl (by decide) rfl ?_
    refine Sd.sub (l' := [(0, _), (1, _), (2, _), (3, _)]) [1, 2, 3, 0] rfl ?_
    exact s_Mod_laysPart_L51 FU _ _ _ _ _
def Mod_laysPart (v0 : Nat) (v1 : Int) (v2 : Int) (h : AH) : Option (Unit × AH) := gR h 13 v0 26 fun r1 => wI h 21 r1 0 v2 fun h2 => gR h2 13 v0 26 fun r3 => if ¬ (v2 : Int) = 2 then (Mod_laysPart_L27 v0 v1 v2 (-1) 1 r3 h2) else (gR h2 13 v0 12 fun r4 => aI h2 21 r4 v1 fun x5 => Mod_laysPart_L27 v0 v1 v2 x5 1 r3 h2)
set_option maxHeartbeats 4000000 in
set_option maxRecDepth 20000 in
theorem s_Mod_laysPart (v0 : Nat) (v1 : Int) (v2 : Int) (h : AH) : CS M_Mod_laysPart 2 21 emV [vr v0, vi v1, vi v2] h (Mod_laysPart v0 v1 v2 h) := by
  refine CS.of (by decide) (Nat.le_of_ble_eq_true rfl) ?_
  show Sd M_Mod_laysPart 2 21 emV 0 [(0, vr v0), (1, vi v1), (2, vi v2)] [] h _
  unfold Mod_laysPart
  refine Sd_aload_n (pc' := 1) (dc D_Mod_laysPart 0 rfl) rfl 0 rfl rfl ?_
  refine Sd_getR (pc' := 4) (dc D_Mod_laysPart 1 rfl) rfl F_Mod_53 rfl rfl ?_
  refine Sd_iconst (pc' := 5) (dc D_Mod_laysPart 2 rfl) rfl ⟨by decide, by decide⟩ ?_
  refine Sd_iload_n (pc' := 6) (dc D_Mod_laysPart 3 rfl) rfl 2 rfl rfl ?_
  refine Sd_iastore (pc' := 7) (dc D_Mod_laysPart 4 rfl) rfl (by decide) ?_
  refine Sd_aload_n (pc' := 8) (dc D_Mod_laysPart 5 rfl) rfl 0 rfl rfl ?_
  refine Sd_getR (pc' := 11) (dc D_Mod_laysPart 6 rfl) rfl F_Mod_53 rfl rfl ?_
  refine Sd_iconst (pc' := 12) (dc D_Mod_laysPart 7 rfl) rfl ⟨by decide, by decide⟩ ?_
  refine Sd_iload_n (pc' := 13) (dc D_Mod_laysPart 8 rfl) rfl 2 rfl rfl ?_
  refine Sd_iconst (pc' := 14) (dc D_Mod_laysPart 9 rfl) rfl ⟨by decide, by decide⟩ ?_
  refine Sd_icmp_ne (tgt := 26) (pc' := 17) (dc D_Mod_laysPart 10 rfl) (by decide) rfl (fun _ => ?_) (fun _ => ?_)
  · refine Sd_iconst (pc' := 27) (dc D_Mod_laysPart 16 rfl) rfl ⟨by decide, by decide⟩ ?_
    exact s_Mod_laysPart_L27 _ _ _ _ _ _ _
  · refine Sd_aload_n (pc' := 18) (dc D_Mod_laysPart 11 rfl) rfl 0 rfl rfl ?_
    refine Sd_getR (pc' := 21) (dc D_Mod_laysPart 12 rfl) rfl F_Mod_31 rfl rfl ?_
    refine Sd_iload_n (pc' := 22) (dc D_Mod_laysPart 13 rfl) rfl 1 rfl rfl ?_
    refine Sd_iaload (pc' := 23) (dc D_Mod_laysPart 14 rfl) rfl ?_
    refine Sd_goto (tgt := 27) (dc D_Mod_laysPart 15 rfl) (by decide) ?_
    exact s_Mod_laysPart_L27 _ _ _ _ _ _ _
theorem K_Mod_laysPart : MOk M_Mod_laysPart 2 := ⟨Tb_at 133 (by decide +kernel) rfl, Tb_at 1579 (by decide +kernel) rfl, by decide +kernel, by decide +kernel, by decide +kernel⟩
theorem Ks_Mod_laysPart : Cond.instanceMethod yX12_laysPart ∈ Tb := Tb_at 1578 (by decide +kernel) rfl
theorem Kv_Mod_laysPart : Cond.selects RX12 yX12_laysPart yX12_laysPart ∈ Tb := Tb_at 72 (by decide +kernel) rfl
/-! ===== BatchShareModel.hasKind(II)Z ===== -/
abbrev M_Mod_hasKind : AMt := (yX12_hasKind, cX12_hasKind, 3, (some .boolean))
def T_Mod_hasKind : List (Nat × Instr × Nat) := [(0, .aload_n 0, 1), (1, .getfield 28, 3), (4, .iload_n 1, 1), (5, .iaload, 1), (6, .iconst 2, 1), (7, .if_icmp .eq 13, 3), (10, .aload_n 0, 1), (11, .getfield 28, 3), (14, .iload_n 1, 1), (15, .iaload, 1), (16, .iload_n 2, 1), (17, .if_icmp .ne 7, 3), (20, .iconst 1, 1), (21, .goto 4, 3), (24, .iconst 0, 1), (25, .ireturn, 1)]
set_option maxRecDepth 20000 in
theorem D_Mod_hasKind : (T_Mod_hasKind.all fun q => decide (decode M_Mod_hasKind.2.1 q.1 = .ok q.2)) = true := by decide +kernel
def Mod_hasKind (v0 : Nat) (v1 : Int) (v2 : Int) (h : AH) : Option (Int × AH) := gR h 13 v0 11 fun r1 => aI h 21 r1 v1 fun x2 => if (x2 : Int) = 2 then (some (1, h)) else (gR h 13 v0 11 fun r3 => aI h 21 r3 v1 fun x4 => if ¬ (x4 : Int) = v2 then (some (0, h)) else (some (1, h)))
set_option maxHeartbeats 4000000 in
set_option maxRecDepth 20000 in
theorem s_Mod_hasKind (v0 : Nat) (v1 : Int) (v2 : Int) (h : AH) : CS M_Mod_hasKind 1 0 emI [vr v0, vi v1, vi v2] h (Mod_hasKind v0 v1 v2 h) := by
  refine CS.of (by decide) (Nat.le_of_ble_eq_true rfl) ?_
  show Sd M_Mod_hasKind 1 0 emI 0 [(0, vr v0), (1, vi v1), (2, vi v2)] [] h _
  unfold Mod_hasKind
  refine Sd_aload_n (pc' := 1) (dc D_Mod_hasKind 0 rfl) rfl 0 rfl rfl ?_
  refine Sd_getR (pc' := 4) (dc D_Mod_hasKind 1 rfl) rfl F_Mod_28 rfl rfl ?_
  refine Sd_iload_n (pc' := 5) (dc D_Mod_hasKind 2 rfl) rfl 1 rfl rfl ?_
  refine Sd_iaload (pc' := 6) (dc D_Mod_hasKind 3 rfl) rfl ?_
  refine Sd_iconst (pc' := 7) (dc D_Mod_hasKind 4 rfl) rfl ⟨by decide, by decide⟩ ?_
  refine Sd_icmp_eq (tgt := 20) (pc' := 10) (dc D_Mod_hasKind 5 rfl) (by decide) rfl (fun _ => ?_) (fun _ => ?_)
  · refine Sd_iconst (pc' := 21) (dc D_Mod_hasKind 12 rfl) rfl ⟨by decide, by decide⟩ ?_
    refine Sd_goto (tgt := 25) (dc D_Mod_hasKind 13 rfl) (by decide) ?_
    exact Sd_zret (dc D_Mod_hasKind 15 rfl) rfl (Or.inr rfl)
  · refine Sd_aload_n (pc' := 11) (dc D_Mod_hasKind 6 rfl) rfl 0 rfl rfl ?_
    refine Sd_getR (pc' := 14) (dc D_Mod_hasKind 7 rfl) rfl F_Mod_28 rfl rfl ?_
    refine Sd_iload_n (pc' := 15) (dc D_Mod_hasKind 8 rfl) rfl 1 rfl rfl ?_
    refine Sd_iaload (pc' := 16) (dc D_Mod_hasKind 9 rfl) rfl ?_
    refine Sd_iload_n (pc' := 17) (dc D_Mod_hasKind 10 rfl) rfl 2 rfl rfl ?_
    refine Sd_icmp_ne (tgt := 24) (pc' := 20) (dc D_Mod_hasKind 11 rfl) (by decide) rfl (fun _ => ?_) (fun _ => ?_)
    · refine Sd_iconst (pc' := 25) (dc D_Mod_hasKind 14 rfl) rfl ⟨by decide, by decide⟩ ?_
      exact Sd_zret (dc D_Mod_hasKind 15 rfl) rfl (Or.inl rfl)
    · refine Sd_iconst (pc' := 21) (dc D_Mod_hasKind 12 rfl) rfl ⟨by decide, by decide⟩ ?_
      refine Sd_goto (tgt := 25) (dc D_Mod_hasKind 13 rfl) (by decide) ?_
      exact Sd_zret (dc D_Mod_hasKind 15 rfl) rfl (Or.inr rfl)
theorem K_Mod_hasKind : MOk M_Mod_hasKind 2 := ⟨Tb_at 133 (by decide +kernel) rfl, Tb_at 1575 (by decide +kernel) rfl, by decide +kernel, by decide +kernel, by decide +kernel⟩
theorem Ks_Mod_hasKind : Cond.instanceMethod yX12_hasKind ∈ Tb := Tb_at 1574 (by decide +kernel) rfl
theorem Kv_Mod_hasKind : Cond.selects RX12 yX12_hasKind yX12_hasKind ∈ Tb := Tb_at 71 (by decide +kernel) rfl
/-! ===== BatchShareModel.isInPart([IIII)Z ===== -/
abbrev M_Mod_isInPart : AMt := (yX12_isInPart, cX12_isInPart, 8, (some .boolean))
def T_Mod_isInPart : List (Nat × Instr × Nat) := [(0, .iload_n 3, 1), (1, .ifCond .ne 7, 3), (4, .iconst 0, 1), (5, .goto 4, 3), (8, .iconst 3, 1), (9, .istore 5, 2), (11, .iload_n 3, 1), (12, .ifCond .ne 7, 3), (15, .iconst 3, 1), (16, .goto 4, 3), (19, .iconst 5, 1), (20, .istore 6, 2), (22, .iload 5, 2), (24, .istore 7, 2), (26, .iload 7, 2), (28, .iload 6, 2), (30, .if_icmp .ge 48, 3), (33, .aload_n 0, 1), (34, .iload 4, 2), (36, .iload 7, 2), (38, .invokevirtual 252, 3), (41, .i2l, 1), (42, .aload_n 1, 1), (43, .iload_n 2, 1), (44, .iconst 3, 1), (45, .iadd, 1), (46, .iconst 2, 1), (47, .iload 7, 2), (49, .imul, 1), (50, .iadd, 1), (51, .iaload, 1), (52, .i2l, 1), (53, .aload_n 1, 1), (54, .iload_n 2, 1), (55, .iconst 4, 1), (56, .iadd, 1), (57, .iconst 2, 1), (58, .iload 7, 2), (60, .imul, 1), (61, .iadd, 1), (62, .iaload, 1), (63, .i2l, 1), (64, .invokestatic 88, 3), (67, .ifCond .ne 5, 3), (70, .iconst 0, 1), (71, .ireturn, 1), (72, .iinc 7 1, 3), (75, .goto (-49), 3), (78, .iconst 1, 1), (79, .ireturn, 1)]
set_option maxRecDepth 20000 in
theorem D_Mod_isInPart : (T_Mod_isInPart.all fun q => decide (decode M_Mod_isInPart.2.1 q.1 = .ok q.2)) = true := by decide +kernel
def Mod_isInPart_L26 : Nat → Nat → Nat → Int → Int → Int → Int → AH → Option (Int × AH)
  | 0, _, _, _, _, _, _, _ => none
  | n + 1, v0, v1, v2, v4, v6, v7, h => if (v6 : Int) ≤ v7 then (some (1, h)) else (rc h 13 v0 <| bnd (Mod_numberAt v0 v4 v7 h) fun x2 h1 => aI h1 21 v1 (wr ((wr (v2 + 3)) + (wr (2 * v7)))) fun x4 => aI h1 21 v1 (wr ((wr (v2 + 4)) + (wr (2 * v7)))) fun x5 => bnd (Mod_in x2 x4 x5 h1) fun x7 h6 => if ¬ (x7 : Int) = 0 then (Mod_isInPart_L26 n v0 v1 v2 v4 v6 ((wr (v7 + 1))) h6) else (some (0, h6)))
set_option maxHeartbeats 4000000 in
set_option maxRecDepth 20000 in
theorem s_Mod_isInPart_L26 : ∀ (n : Nat) (v0 : Nat) (v1 : Nat) (v2 : Int) (v4 : Int) (v6 : Int) (v7 : Int) (h : AH), Sd M_Mod_isInPart 2 25 emI 26 [(0, vr v0), (1, vr v1), (2, vi v2), (4, vi v4), (6, vi v6), (7, vi v7)] [] h (Mod_isInPart_L26 n v0 v1 v2 v4 v6 v7 h)
  | 0, _, _, _, _, _, _, _ => Sd.none
  | n + 1, v0, v1, v2, v4, v6, v7, h => by
    rw [Mod_isInPart_L26]
    refine Sd_iload (pc' := 28) (dc D_Mod_isInPart 14 rfl) rfl 5 rfl ?_
    refine Sd_iload (pc' := 30) (dc D_Mod_isInPart 15 rfl) rfl 4 rfl ?_
    refine Sd_icmp_ge (tgt := 78) (pc' := 33) (dc D_Mod_isInPart 16 rfl) (by decide) rfl (fun _ => ?_) (fun _ => ?_)
    · refine Sd_iconst (pc' := 79) (dc D_Mod_isInPart 48 rfl) rfl ⟨by decide, by decide⟩ ?_
      exact Sd_zret (dc D_Mod_isInPart 49 rfl) rfl (Or.inr rfl)
    · refine Sd_aload_n (pc' := 34) (dc D_Mod_isInPart 17 rfl) rfl 0 rfl rfl ?_
      refine Sd_iload (pc' := 36) (dc D_Mod_isInPart 18 rfl) rfl 3 rfl ?_
      refine Sd_iload (pc' := 38) (dc D_Mod_isInPart 19 rfl) rfl 5 rfl ?_
      refine Sd.callVI (ci := 12) (t := 13) (as := [_, _]) RX12 (pc' := 41) (dc D_Mod_isInPart 20 rfl) rfl rfl rfl rfl K_Mod_numberAt L_Mod_252 Ks_Mod_numberAt Kv_Mod_numberAt ⟨by decide, by decide⟩ rfl rfl (Nat.le_of_ble_eq_true rfl) (s_Mod_numberAt _ _ _ _) (fun x2 h1 => ?_)
      refine Sd_i2l (pc' := 42) (dc D_Mod_isInPart 21 rfl) rfl ?_
      refine Sd_aload_n (pc' := 43) (dc D_Mod_isInPart 22 rfl) rfl 1 rfl rfl ?_
      refine Sd_iload_n (pc' := 44) (dc D_Mod_isInPart 23 rfl) rfl 2 rfl rfl ?_
      refine Sd_iconst (pc' := 45) (dc D_Mod_isInPart 24 rfl) rfl ⟨by decide, by decide⟩ ?_
      refine Sd_iadd (pc' := 46) (dc D_Mod_isInPart 25 rfl) rfl ?_
      refine Sd_iconst (pc' := 47) (dc D_Mod_isInPart 26 rfl) rfl ⟨by decide, by decide⟩ ?_
      refine Sd_iload (pc' := 49) (dc D_Mod_isInPart 27 rfl) rfl 5 rfl ?_
      refine Sd_imul (pc' := 50) (dc D_Mod_isInPart 28 rfl) rfl ?_
      refine Sd_iadd (pc' := 51) (dc D_Mod_isInPart 29 rfl) rfl ?_
      refine Sd_iaload (pc' := 52) (dc D_Mod_isInPart 30 rfl) rfl ?_
      refine Sd_i2l (pc' := 53) (dc D_Mod_isInPart 31 rfl) rfl ?_
      refine Sd_aload_n (pc' := 54) (dc D_Mod_isInPart 32 rfl) rfl 1 rfl rfl ?_
      refine Sd_iload_n (pc' := 55) (dc D_Mod_isInPart 33 rfl) rfl 2 rfl rfl ?_
      refine Sd_iconst (pc' := 56) (dc D_Mod_isInPart 34 rfl) rfl ⟨by decide, by decide⟩ ?_
      refine Sd_iadd (pc' := 57) (dc D_Mod_isInPart 35 rfl) rfl ?_
      refine Sd_iconst (pc' := 58) (dc D_Mod_isInPart 36 rfl) rfl ⟨by decide, by decide⟩ ?_
      refine Sd_iload (pc' := 60) (dc D_Mod_isInPart 37 rfl) rfl 5 rfl ?_
      refine Sd_imul (pc' := 61) (dc D_Mod_isInPart 38 rfl) rfl ?_
      refine Sd_iadd (pc' := 62) (dc D_Mod_isInPart 39 rfl) rfl ?_
      refine Sd_iaload (pc' := 63) (dc D_Mod_isInPart 40 rfl) rfl ?_
      refine Sd_i2l (pc' := 64) (dc D_Mod_isInPart 41 rfl) rfl ?_
      refine Sd.callSI (as := [_, _, _]) (pc' := 67) (dc D_Mod_isInPart 42 rfl) rfl K_Mod_in L_Mod_88 Ks_Mod_in ⟨by decide, by decide⟩ rfl rfl (Nat.le_of_ble_eq_true rfl) (s_Mod_in _ _ _ _) (fun x7 h6 => ?_)
      refine Sd_if_ne (tgt := 72) (pc' := 70) (dc D_Mod_isInPart 43 rfl) (by decide) rfl (fun _ => ?_) (fun _ => ?_)
      · refine Sd_iinc (pc' := 75) (l' := [(7, _), (0, _), (1, _), (2, _), (4, _), (6, _)]) (dc D_Mod_isInPart 46 rfl) rfl 5 rfl (by decide) rfl ?_
        refine Sd_goto (tgt := 26) (dc D_Mod_isInPart 47 rfl) (by decide) ?_
        refine Sd.sub (l' := [(0, _), (1, _), (2, _), (4, _), (6, _), (7, _)]) [1, 2, 3, 4, 5, 0] rfl ?_
        exact s_Mod_isInPart_L26 n _ _ _ _ _ _ _
      · refine Sd_iconst (pc' := 71) (dc D_Mod_isInPart 44 rfl) rfl ⟨by decide, by decide⟩ ?_
        exact Sd_zret (dc D_Mod_isInPart 45 rfl) rfl (Or.inl rfl)
def Mod_isInPart_L9 (v0 : Nat) (v1 : Nat) (v2 : Int) (v3 : Int) (v4 : Int) (s0 : Int) (h : AH) : Option (Int × AH) := if ¬ (v3 : Int) = 0 then (Mod_isInPart_L26 FU v0 v1 v2 v4 5 s0 h) else (Mod_isInPart_L26 FU v0 v1 v2 v4 3 s0 h)
set_option maxHeartbeats 4000000 in
set_option maxRecDepth 20000 in
theorem s_Mod_isInPart_L9 (v0 : Nat) (v1 : Nat) (v2 : Int) (v3 : Int) (v4 : Int) (s0 : Int) (h : AH) : Sd M_Mod_isInPart 2 25 emI 9 [(0, vr v0), (1, vr v1), (2, vi v2), (3, vi v3), (4, vi v4)] [vi s0] h (Mod_isInPart_L9 v0 v1 v2 v3 v4 s0 h) := by
  unfold Mod_isInPart_L9
  refine Sd_istore (pc' := 11) (l' := [(5, _), (0, _), (1, _), (2, _), (3, _), (4, _)]) (dc D_Mod_isInPart 5 rfl) rfl (by decide) rfl ?_
  refine Sd_iload_n (pc' := 12) (dc D_Mod_isInPart 6 rfl) rfl 4 rfl rfl ?_
  refine Sd_if_ne (tgt := 19) (pc' := 15) (dc D_Mod_isInPart 7 rfl) (by decide) rfl (fun _ => ?_) (fun _ => ?_)
  · refine Sd_iconst (pc' := 20) (dc D_Mod_isInPart 10 rfl) rfl ⟨by decide, by decide⟩ ?_
    refine Sd_istore (pc' := 22) (l' := [(6, _), (5, _), (0, _), (1, _), (2, _), (3, _), (4, _)]) (dc D_Mod_isInPart 11 rfl) rfl (by decide) rfl ?_
    refine Sd_iload (pc' := 24) (dc D_Mod_isInPart 12 rfl) rfl 1 rfl ?_
    refine Sd_istore (pc' := 26) (l' := [(7, _), (6, _), (5, _), (0, _), (1, _), (2, _), (3, _), (4, _)]) (dc D_Mod_isInPart 13 rfl) rfl (by decide) rfl ?_
    refine Sd.sub (l' := [(0, _), (1, _), (2, _), (4, _), (6, _), (7, _)]) [3, 4, 5, 7, 1, 0] rfl ?_
    exact s_Mod_isInPart_L26 FU _ _ _ _ _ _ _
  · refine Sd_iconst (pc' := 16) (dc D_Mod_isInPart 8 rfl) rfl ⟨by decide, by decide⟩ ?_
    refine Sd_goto (tgt := 20) (dc D_Mod_isInPart 9 rfl) (by decide) ?_
    refine Sd_istore (pc' := 22) (l' := [(6, _), (5, _), (0, _), (1, _), (2, _), (3, _), (4, _)]) (dc D_Mod_isInPart 11 rfl) rfl (by decide) rfl ?_
    refine Sd_iload (pc' := 24) (dc D_Mod_isInPart 12 rfl) rfl 1 rfl ?_
    refine Sd_istore (pc' := 26) (l' := [(7, _), (6, _), (5, _), (0, _), (1, _), (2, _), (3, _), (4, _)]) (dc D_Mod_isInPart 13 rfl) rfl (by decide) rfl ?_
    refine Sd.sub (l' := [(0, _), (1, _), (2, _), (4, _), (6, _), (7, _)]) [3, 4, 5, 7, 1, 0] rfl ?_
    exact s_Mod_isInPart_L26 FU _ _ _ _ _ _ _
def Mod_isInPart (v0 : Nat) (v1 : Nat) (v2 : Int) (v3 : Int) (v4 : Int) (h : AH) : Option (Int × AH) := if ¬ (v3 : Int) = 0 then (Mod_isInPart_L9 v0 v1 v2 v3 v4 3 h) else (Mod_isInPart_L9 v0 v1 v2 v3 v4 0 h)
set_option maxHeartbeats 4000000 in
set_option maxRecDepth 20000 in
theorem s_Mod_isInPart (v0 : Nat) (v1 : Nat) (v2 : Int) (v3 : Int) (v4 : Int) (h : AH) : CS M_Mod_isInPart 2 25 emI [vr v0, vr v1, vi v2, vi v3, vi v4] h (Mod_isInPart v0 v1 v2 v3 v4 h) := by
  refine CS.of (by decide) (Nat.le_of_ble_eq_true rfl) ?_
  show Sd M_Mod_isInPart 2 25 emI 0 [(0, vr v0), (1, vr v1), (2, vi v2), (3, vi v3), (4, vi v4)] [] h _
  unfold Mod_isInPart
  refine Sd_iload_n (pc' := 1) (dc D_Mod_isInPart 0 rfl) rfl 3 rfl rfl ?_
  refine Sd_if_ne (tgt := 8) (pc' := 4) (dc D_Mod_isInPart 1 rfl) (by decide) rfl (fun _ => ?_) (fun _ => ?_)
  · refine Sd_iconst (pc' := 9) (dc D_Mod_isInPart 4 rfl) rfl ⟨by decide, by decide⟩ ?_
    exact s_Mod_isInPart_L9 _ _ _ _ _ _ _
  · refine Sd_iconst (pc' := 5) (dc D_Mod_isInPart 2 rfl) rfl ⟨by decide, by decide⟩ ?_
    refine Sd_goto (tgt := 9) (dc D_Mod_isInPart 3 rfl) (by decide) ?_
    exact s_Mod_isInPart_L9 _ _ _ _ _ _ _
theorem K_Mod_isInPart : MOk M_Mod_isInPart 4 := ⟨Tb_at 133 (by decide +kernel) rfl, Tb_at 1598 (by decide +kernel) rfl, by decide +kernel, by decide +kernel, by decide +kernel⟩
theorem Ks_Mod_isInPart : Cond.instanceMethod yX12_isInPart ∈ Tb := Tb_at 1597 (by decide +kernel) rfl
theorem Kv_Mod_isInPart : Cond.selects RX12 yX12_isInPart yX12_isInPart ∈ Tb := Tb_at 76 (by decide +kernel) rfl
/-! ===== BatchShareModel.rowsIn([III)I ===== -/
abbrev M_Mod_rowsIn : AMt := (yX12_rowsIn, cX12_rowsIn, 6, (some .int))
def T_Mod_rowsIn : List (Nat × Instr × Nat) := [(0, .iconst 0, 1), (1, .istore 4, 2), (3, .iconst 0, 1), (4, .istore 5, 2), (6, .iload 5, 2), (8, .aload_n 0, 1), (9, .iload_n 3, 1), (10, .invokevirtual 92, 3), (13, .if_icmp .ge 31, 3), (16, .iload 4, 2), (18, .aload_n 0, 1), (19, .aload_n 1, 1), (20, .iload_n 2, 1), (21, .iload_n 3, 1), (22, .iload 5, 2), (24, .invokevirtual 292, 3), (27, .ifCond .eq 7, 3), (30, .iconst 1, 1), (31, .goto 4, 3), (34, .iconst 0, 1), (35, .iadd, 1), (36, .istore 4, 2), (38, .iinc 5 1, 3), (41, .goto (-35), 3), (44, .iload 4, 2), (46, .ireturn, 1)]
set_option maxRecDepth 20000 in
theorem D_Mod_rowsIn : (T_Mod_rowsIn.all fun q => decide (decode M_Mod_rowsIn.2.1 q.1 = .ok q.2)) = true := by decide +kernel
def Mod_rowsIn_L6 : Nat → Nat → Nat → Int → Int → Int → Int → AH → Option (Int × AH)
  | 0, _, _, _, _, _, _, _ => none
  | n + 1, v0, v1, v2, v3, v4, v5, h => rc h 13 v0 <| bnd (Mod_manyOf v0 v3 h) fun x2 h1 => if (x2 : Int) ≤ v5 then (some (v4, h1)) else (rc h1 13 v0 <| bnd (Mod_isInPart v0 v1 v2 v3 v5 h1) fun x5 h4 => if (x5 : Int) = 0 then (Mod_rowsIn_L6 n v0 v1 v2 v3 ((wr (v4 + 0))) ((wr (v5 + 1))) h4) else (Mod_rowsIn_L6 n v0 v1 v2 v3 ((wr (v4 + 1))) ((wr (v5 + 1))) h4))
set_option maxHeartbeats 4000000 in
set_option maxRecDepth 20000 in
theorem s_Mod_rowsIn_L6 : ∀ (n : Nat) (v0 : Nat) (v1 : Nat) (v2 : Int) (v3 : Int) (v4 : Int) (v5 : Int) (h : AH), Sd M_Mod_rowsIn 3 52 emI 6 [(0, vr v0), (1, vr v1), (2, vi v2), (3, vi v3), (4, vi v4), (5, vi v5)] [] h (Mod_rowsIn_L6 n v0 v1 v2 v3 v4 v5 h)
  | 0, _, _, _, _, _, _, _ => Sd.none
  | n + 1, v0, v1, v2, v3, v4, v5, h => by
    rw [Mod_rowsIn_L6]
    refine Sd_iload (pc' := 8) (dc D_Mod_rowsIn 4 rfl) rfl 5 rfl ?_
    refine Sd_aload_n (pc' := 9) (dc D_Mod_rowsIn 5 rfl) rfl 0 rfl rfl ?_
    refine Sd_iload_n (pc' := 10) (dc D_Mod_rowsIn 6 rfl) rfl 3 rfl rfl ?_
    refine Sd.callVI (ci := 12) (t := 13) (as := [_]) RX12 (pc' := 13) (dc D_Mod_rowsIn 7 rfl) rfl rfl rfl rfl K_Mod_manyOf L_Mod_92 Ks_Mod_manyOf Kv_Mod_manyOf ⟨by decide, by decide⟩ rfl rfl (Nat.le_of_ble_eq_true rfl) (s_Mod_manyOf _ _ _) (fun x2 h1 => ?_)
    refine Sd_icmp_ge (tgt := 44) (pc' := 16) (dc D_Mod_rowsIn 8 rfl) (by decide) rfl (fun _ => ?_) (fun _ => ?_)
    · refine Sd_iload (pc' := 46) (dc D_Mod_rowsIn 24 rfl) rfl 4 rfl ?_
      exact Sd_iret (dc D_Mod_rowsIn 25 rfl) rfl
    · refine Sd_iload (pc' := 18) (dc D_Mod_rowsIn 9 rfl) rfl 4 rfl ?_
      refine Sd_aload_n (pc' := 19) (dc D_Mod_rowsIn 10 rfl) rfl 0 rfl rfl ?_
      refine Sd_aload_n (pc' := 20) (dc D_Mod_rowsIn 11 rfl) rfl 1 rfl rfl ?_
      refine Sd_iload_n (pc' := 21) (dc D_Mod_rowsIn 12 rfl) rfl 2 rfl rfl ?_
      refine Sd_iload_n (pc' := 22) (dc D_Mod_rowsIn 13 rfl) rfl 3 rfl rfl ?_
      refine Sd_iload (pc' := 24) (dc D_Mod_rowsIn 14 rfl) rfl 5 rfl ?_
      refine Sd.callVI (ci := 12) (t := 13) (as := [_, _, _, _]) RX12 (pc' := 27) (dc D_Mod_rowsIn 15 rfl) rfl rfl rfl rfl K_Mod_isInPart L_Mod_292 Ks_Mod_isInPart Kv_Mod_isInPart ⟨by decide, by decide⟩ rfl rfl (Nat.le_of_ble_eq_true rfl) (s_Mod_isInPart _ _ _ _ _ _) (fun x5 h4 => ?_)
      refine Sd_if_eq (tgt := 34) (pc' := 30) (dc D_Mod_rowsIn 16 rfl) (by decide) rfl (fun _ => ?_) (fun _ => ?_)
      · refine Sd_iconst (pc' := 35) (dc D_Mod_rowsIn 19 rfl) rfl ⟨by decide, by decide⟩ ?_
        refine Sd_iadd (pc' := 36) (dc D_Mod_rowsIn 20 rfl) rfl ?_
        refine Sd_istore (pc' := 38) (l' := [(4, _), (0, _), (1, _), (2, _), (3, _), (5, _)]) (dc D_Mod_rowsIn 21 rfl) rfl (by decide) rfl ?_
        refine Sd_iinc (pc' := 41) (l' := [(5, _), (4, _), (0, _), (1, _), (2, _), (3, _)]) (dc D_Mod_rowsIn 22 rfl) rfl 5 rfl (by decide) rfl ?_
        refine Sd_goto (tgt := 6) (dc D_Mod_rowsIn 23 rfl) (by decide) ?_
        refine Sd.sub (l' := [(0, _), (1, _), (2, _), (3, _), (4, _), (5, _)]) [2, 3, 4, 5, 1, 0] rfl ?_
        exact s_Mod_rowsIn_L6 n _ _ _ _ _ _ _
      · refine Sd_iconst (pc' := 31) (dc D_Mod_rowsIn 17 rfl) rfl ⟨by decide, by decide⟩ ?_
        refine Sd_goto (tgt := 35) (dc D_Mod_rowsIn 18 rfl) (by decide) ?_
        refine Sd_iadd (pc' := 36) (dc D_Mod_rowsIn 20 rfl) rfl ?_
        refine Sd_istore (pc' := 38) (l' := [(4, _), (0, _), (1, _), (2, _), (3, _), (5, _)]) (dc D_Mod_rowsIn 21 rfl) rfl (by decide) rfl ?_
        refine Sd_iinc (pc' := 41) (l' := [(5, _), (4, _), (0, _), (1, _), (2, _), (3, _)]) (dc D_Mod_rowsIn 22 rfl) rfl 5 rfl (by decide) rfl ?_
        refine Sd_goto (tgt := 6) (dc D_Mod_rowsIn 23 rfl) (by decide) ?_
        refine Sd.sub (l' := [(0, _), (1, _), (2, _), (3, _), (4, _), (5, _)]) [2, 3, 4, 5, 1, 0] rfl ?_
        exact s_Mod_rowsIn_L6 n _ _ _ _ _ _ _
def Mod_rowsIn (v0 : Nat) (v1 : Nat) (v2 : Int) (v3 : Int) (h : AH) : Option (Int × AH) := Mod_rowsIn_L6 FU v0 v1 v2 v3 0 0 h
set_option maxHeartbeats 4000000 in
set_option maxRecDepth 20000 in
theorem s_Mod_rowsIn (v0 : Nat) (v1 : Nat) (v2 : Int) (v3 : Int) (h : AH) : CS M_Mod_rowsIn 3 52 emI [vr v0, vr v1, vi v2, vi v3] h (Mod_rowsIn v0 v1 v2 v3 h) := by
  refine CS.of (by decide) (Nat.le_of_ble_eq_true rfl) ?_
  show Sd M_Mod_rowsIn 3 52 emI 0 [(0, vr v0), (1, vr v1), (2, vi v2), (3, vi v3)] [] h _
  unfold Mod_rowsIn
  refine Sd_iconst (pc' := 1) (dc D_Mod_rowsIn 0 rfl) rfl ⟨by decide, by decide⟩ ?_
  refine Sd_istore (pc' := 3) (l' := [(4, _), (0, _), (1, _), (2, _), (3, _)]) (dc D_Mod_rowsIn 1 rfl) rfl (by decide) rfl ?_
  refine Sd_iconst (pc' := 4) (dc D_Mod_rowsIn 2 rfl) rfl ⟨by decide, by decide⟩ ?_
  refine Sd_istore (pc' := 6) (l' := [(5, _), (4, _), (0, _), (1, _), (2, _), (3, _)]) (dc D_Mod_rowsIn 3 rfl) rfl (by decide) rfl ?_
  refine Sd.sub (l' := [(0, _), (1, _), (2, _), (3, _), (4, _), (5, _)]) [2, 3, 4, 5, 1, 0] rfl ?_
  exact s_Mod_rowsIn_L6 FU _ _ _ _ _ _ _
theorem K_Mod_rowsIn : MOk M_Mod_rowsIn 3 := ⟨Tb_at 133 (by decide +kernel) rfl, Tb_at 1594 (by decide +kernel) rfl, by decide +kernel, by decide +kernel, by decide +kernel⟩
theorem Ks_Mod_rowsIn : Cond.instanceMethod yX12_rowsIn ∈ Tb := Tb_at 1593 (by decide +kernel) rfl
theorem Kv_Mod_rowsIn : Cond.selects RX12 yX12_rowsIn yX12_rowsIn ∈ Tb := Tb_at 75 (by decide +kernel) rfl
/-! ===== BatchShareModel.rowsNow([II)I ===== -/
abbrev M_Mod_rowsNow : AMt := (yX12_rowsNow, cX12_rowsNow, 7, (some .int))
def T_Mod_rowsNow : List (Nat × Instr × Nat) := [(0, .aload_n 1, 1), (1, .iload_n 2, 1), (2, .iaload, 1), (3, .iconst 2, 1), (4, .if_icmp .ge 13, 3), (7, .aload_n 0, 1), (8, .aload_n 1, 1), (9, .iload_n 2, 1), (10, .aload_n 1, 1), (11, .iload_n 2, 1), (12, .iaload, 1), (13, .invokevirtual 296, 3), (16, .ireturn, 1), (17, .iconst 0, 1), (18, .istore_n 3, 1), (19, .iconst 0, 1), (20, .istore 4, 2), (22, .iload 4, 2), (24, .aload_n 0, 1), (25, .getfield 9, 3), (28, .iconst 2, 1), (29, .iaload, 1), (30, .if_icmp .ge 98, 3), (33, .iconst 0, 1), (34, .istore 5, 2), (36, .iload 5, 2), (38, .aload_n 0, 1), (39, .getfield 9, 3), (42, .iconst 3, 1), (43, .iaload, 1), (44, .if_icmp .ge 78, 3), (47, .aload_n 0, 1), (48, .iload 4, 2), (50, .aload_n 1, 1), (51, .iload_n 2, 1), (52, .iconst 1, 1), (53, .iadd, 1), (54, .iaload, 1), (55, .invokevirtual 252, 3), (58, .aload_n 0, 1), (59, .iload 5, 2), (61, .aload_n 1, 1), (62, .iload_n 2, 1), (63, .iconst 2, 1), (64, .iadd, 1), (65, .iaload, 1), (66, .invokevirtual 252, 3), (69, .if_icmp .ne 7, 3), (72, .iconst 1, 1), (73, .goto 4, 3), (76, .iconst 0, 1), (77, .istore 6, 2), (79, .iload_n 3, 1), (80, .iload 6, 2), (82, .ifCond .eq 31, 3), (85, .aload_n 0, 1), (86, .aload_n 1, 1), (87, .iload_n 2, 1), (88, .iconst 0, 1), (89, .iload 4, 2), (91, .invokevirtual 292, 3), (94, .ifCond .eq 19, 3), (97, .aload_n 0, 1), (98, .aload_n 1, 1), (99, .iload_n 2, 1), (100, .iconst 1, 1), (101, .iload 5, 2), (103, .invokevirtual 292, 3), (106, .ifCond .eq 7, 3), (109, .iconst 1, 1), (110, .goto 4, 3), (113, .iconst 0, 1), (114, .iadd, 1), (115, .istore_n 3, 1), (116, .iinc 5 1, 3), (119, .goto (-83), 3), (122, .iinc 4 1, 3), (125, .goto (-103), 3), (128, .iload_n 3, 1), (129, .ireturn, 1)]
set_option maxRecDepth 20000 in
theorem D_Mod_rowsNow : (T_Mod_rowsNow.all fun q => decide (decode M_Mod_rowsNow.2.1 q.1 = .ok q.2)) = true := by decide +kernel
def Mod_rowsNow_L77 (k22 : Nat → Nat → Int → Int → Int → AH → Option (Int × AH)) (k36 : Nat → Nat → Int → Int → Int → Int → AH → Option (Int × AH)) (v0 : Nat) (v1 : Nat) (v2 : Int) (v3 : Int) (v4 : Int) (v5 : Int) (s0 : Int) (h : AH) : Option (Int × AH) := if (s0 : Int) = 0 then (k36 v0 v1 v2 ((wr (v3 + 0))) v4 ((wr (v5 + 1))) h) else (rc h 13 v0 <| bnd (Mod_isInPart v0 v1 v2 0 v4 h) fun x2 h1 => if (x2 : Int) = 0 then (k36 v0 v1 v2 ((wr (v3 + 0))) v4 ((wr (v5 + 1))) h1) else (rc h1 13 v0 <| bnd (Mod_isInPart v0 v1 v2 1 v5 h1) fun x5 h4 => if (x5 : Int) = 0 then (k36 v0 v1 v2 ((wr (v3 + 0))) v4 ((wr (v5 + 1))) h4) else (k36 v0 v1 v2 ((wr (v3 + 1))) v4 ((wr (v5 + 1))) h4)))
set_option maxHeartbeats 4000000 in
set_option maxRecDepth 20000 in
theorem s_Mod_rowsNow_L77 (k22 : Nat → Nat → Int → Int → Int → AH → Option (Int × AH)) (hk22 : ∀ v0 v1 v2 v3 v4 h, Sd M_Mod_rowsNow 4 77 emI 22 [(0, vr v0), (1, vr v1), (2, vi v2), (3, vi v3), (4, vi v4)] [] h (k22 v0 v1 v2 v3 v4 h)) (k36 : Nat → Nat → Int → Int → Int → Int → AH → Option (Int × AH)) (hk36 : ∀ v0 v1 v2 v3 v4 v5 h, Sd M_Mod_rowsNow 4 77 emI 36 [(0, vr v0), (1, vr v1), (2, vi v2), (3, vi v3), (4, vi v4), (5, vi v5)] [] h (k36 v0 v1 v2 v3 v4 v5 h)) (v0 : Nat) (v1 : Nat) (v2 : Int) (v3 : Int) (v4 : Int) (v5 : Int) (s0 : Int) (h : AH) : Sd M_Mod_rowsNow 4 77 emI 77 [(0, vr v0), (1, vr v1), (2, vi v2), (3, vi v3), (4, vi v4), (5, vi v5)] [vi s0] h (Mod_rowsNow_L77 k22 k36 v0 v1 v2 v3 v4 v5 s0 h) := by
  unfold Mod_rowsNow_L77
  refine Sd_istore (pc' := 79) (l' := [(6, _), (0, _), (1, _), (2, _), (3, _), (4, _), (5, _)]) (dc D_Mod_rowsNow 51 rfl) rfl (by decide) rfl ?_
  refine Sd_iload_n (pc' := 80) (dc D_Mod_rowsNow 52 rfl) rfl 4 rfl rfl ?_
  refine Sd_iload (pc' := 82) (dc D_Mod_rowsNow 53 rfl) rfl 0 rfl ?_
  refine Sd_if_eq (tgt := 113) (pc' := 85) (dc D_Mod_rowsNow 54 rfl) (by decide) rfl (fun _ => ?_) (fun _ => ?_)
  · refine Sd_iconst (pc' := 114) (dc D_Mod_rowsNow 71 rfl) rfl ⟨by decide, by decide⟩ ?_
    refine Sd_iadd (pc' := 115) (dc D_Mod_rowsNow 72 rfl) rfl ?_
    refine Sd_istore_n (pc' := 116) (l' := [(3, _), (6, _), (0, _), (1, _), (2, _), (4, _), (5, _)]) (dc D_Mod_rowsNow 73 rfl) rfl rfl (by decide) rfl ?_
    refine Sd_iinc (pc' := 119) (l' := [(5, _), (3, _), (6, _), (0, _), (1, _), (2, _), (4, _)]) (dc D_Mod_rowsNow 74 rfl) rfl 6 rfl (by decide) rfl ?_
    refine Sd_goto (tgt := 36) (dc D_Mod_rowsNow 75 rfl) (by decide) ?_
    refine Sd.sub (l' := [(0, _), (1, _), (2, _), (3, _), (4, _), (5, _)]) [3, 4, 5, 1, 6, 0] rfl ?_
    exact hk36 _ _ _ _ _ _ _
  · refine Sd_aload_n (pc' := 86) (dc D_Mod_rowsNow 55 rfl) rfl 1 rfl rfl ?_
    refine Sd_aload_n (pc' := 87) (dc D_Mod_rowsNow 56 rfl) rfl 2 rfl rfl ?_
    refine Sd_iload_n (pc' := 88) (dc D_Mod_rowsNow 57 rfl) rfl 3 rfl rfl ?_
    refine Sd_iconst (pc' := 89) (dc D_Mod_rowsNow 58 rfl) rfl ⟨by decide, by decide⟩ ?_
    refine Sd_iload (pc' := 91) (dc D_Mod_rowsNow 59 rfl) rfl 5 rfl ?_
    refine Sd.callVI (ci := 12) (t := 13) (as := [_, _, _, _]) RX12 (pc' := 94) (dc D_Mod_rowsNow 60 rfl) rfl rfl rfl rfl K_Mod_isInPart L_Mod_292 Ks_Mod_isInPart Kv_Mod_isInPart ⟨by decide, by decide⟩ rfl rfl (Nat.le_of_ble_eq_true rfl) (s_Mod_isInPart _ _ _ _ _ _) (fun x2 h1 => ?_)
    refine Sd_if_eq (tgt := 113) (pc' := 97) (dc D_Mod_rowsNow 61 rfl) (by decide) rfl (fun _ => ?_) (fun _ => ?_)
    · refine Sd_iconst (pc' := 114) (dc D_Mod_rowsNow 71 rfl) rfl ⟨by decide, by decide⟩ ?_
      refine Sd_iadd (pc' := 115) (dc D_Mod_rowsNow 72 rfl) rfl ?_
      refine Sd_istore_n (pc' := 116) (l' := [(3, _), (6, _), (0, _), (1, _), (2, _), (4, _), (5, _)]) (dc D_Mod_rowsNow 73 rfl) rfl rfl (by decide) rfl ?_
      refine Sd_iinc (pc' := 119) (l' := [(5, _), (3, _), (6, _), (0, _), (1, _), (2, _), (4, _)]) (dc D_Mod_rowsNow 74 rfl) rfl 6 rfl (by decide) rfl ?_
      refine Sd_goto (tgt := 36) (dc D_Mod_rowsNow 75 rfl) (by decide) ?_
      refine Sd.sub (l' := [(0, _), (1, _), (2, _), (3, _), (4, _), (5, _)]) [3, 4, 5, 1, 6, 0] rfl ?_
      exact hk36 _ _ _ _ _ _ _
    · refine Sd_aload_n (pc' := 98) (dc D_Mod_rowsNow 62 rfl) rfl 1 rfl rfl ?_
      refine Sd_aload_n (pc' := 99) (dc D_Mod_rowsNow 63 rfl) rfl 2 rfl rfl ?_
      refine Sd_iload_n (pc' := 100) (dc D_Mod_rowsNow 64 rfl) rfl 3 rfl rfl ?_
      refine Sd_iconst (pc' := 101) (dc D_Mod_rowsNow 65 rfl) rfl ⟨by decide, by decide⟩ ?_
      refine Sd_iload (pc' := 103) (dc D_Mod_rowsNow 66 rfl) rfl 6 rfl ?_
      refine Sd.callVI (ci := 12) (t := 13) (as := [_, _, _, _]) RX12 (pc' := 106) (dc D_Mod_rowsNow 67 rfl) rfl rfl rfl rfl K_Mod_isInPart L_Mod_292 Ks_Mod_isInPart Kv_Mod_isInPart ⟨by decide, by decide⟩ rfl rfl (Nat.le_of_ble_eq_true rfl) (s_Mod_isInPart _ _ _ _ _ _) (fun x5 h4 => ?_)
      refine Sd_if_eq (tgt := 113) (pc' := 109) (dc D_Mod_rowsNow 68 rfl) (by decide) rfl (fun _ => ?_) (fun _ => ?_)
      · refine Sd_iconst (pc' := 114) (dc D_Mod_rowsNow 71 rfl) rfl ⟨by decide, by decide⟩ ?_
        refine Sd_iadd (pc' := 115) (dc D_Mod_rowsNow 72 rfl) rfl ?_
        refine Sd_istore_n (pc' := 116) (l' := [(3, _), (6, _), (0, _), (1, _), (2, _), (4, _), (5, _)]) (dc D_Mod_rowsNow 73 rfl) rfl rfl (by decide) rfl ?_
        refine Sd_iinc (pc' := 119) (l' := [(5, _), (3, _), (6, _), (0, _), (1, _), (2, _), (4, _)]) (dc D_Mod_rowsNow 74 rfl) rfl 6 rfl (by decide) rfl ?_
        refine Sd_goto (tgt := 36) (dc D_Mod_rowsNow 75 rfl) (by decide) ?_
        refine Sd.sub (l' := [(0, _), (1, _), (2, _), (3, _), (4, _), (5, _)]) [3, 4, 5, 1, 6, 0] rfl ?_
        exact hk36 _ _ _ _ _ _ _
      · refine Sd_iconst (pc' := 110) (dc D_Mod_rowsNow 69 rfl) rfl ⟨by decide, by decide⟩ ?_
        refine Sd_goto (tgt := 114) (dc D_Mod_rowsNow 70 rfl) (by decide) ?_
        refine Sd_iadd (pc' := 115) (dc D_Mod_rowsNow 72 rfl) rfl ?_
        refine Sd_istore_n (pc' := 116) (l' := [(3, _), (6, _), (0, _), (1, _), (2, _), (4, _), (5, _)]) (dc D_Mod_rowsNow 73 rfl) rfl rfl (by decide) rfl ?_
        refine Sd_iinc (pc' := 119) (l' := [(5, _), (3, _), (6, _), (0, _), (1, _), (2, _), (4, _)]) (dc D_Mod_rowsNow 74 rfl) rfl 6 rfl (by decide) rfl ?_
        refine Sd_goto (tgt := 36) (dc D_Mod_rowsNow 75 rfl) (by decide) ?_
        refine Sd.sub (l' := [(0, _), (1, _), (2, _), (3, _), (4, _), (5, _)]) [3, 4, 5, 1, 6, 0] rfl ?_
        exact hk36 _ _ _ _ _ _ _
def Mod_rowsNow_L36 (k22 : Nat → Nat → Int → Int → Int → AH → Option (Int × AH)) : Nat → Nat → Nat → Int → Int → Int → Int → AH → Option (Int × AH)
  | 0, _, _, _, _, _, _, _ => none
  | n + 1, v0, v1, v2, v3, v4, v5, h => gR h 13 v0 1 fun r1 => aI h 21 r1 3 fun x2 => if (x2 : Int) ≤ v5 then (k22 v0 v1 v2 v3 ((wr (v4 + 1))) h) else (aI h 21 v1 (wr (v2 + 1)) fun x3 => rc h 13 v0 <| bnd (Mod_numberAt v0 v4 x3 h) fun x5 h4 => aI h4 21 v1 (wr (v2 + 2)) fun x7 => rc h4 13 v0 <| bnd (Mod_numberAt v0 v5 x7 h4) fun x9 h8 => if ¬ (x5 : Int) = x9 then (Mod_rowsNow_L77 k22 (Mod_rowsNow_L36 k22 n) v0 v1 v2 v3 v4 v5 0 h8) else (Mod_rowsNow_L77 k22 (Mod_rowsNow_L36 k22 n) v0 v1 v2 v3 v4 v5 1 h8))
set_option maxHeartbeats 4000000 in
set_option maxRecDepth 20000 in
theorem s_Mod_rowsNow_L36 (k22 : Nat → Nat → Int → Int → Int → AH → Option (Int × AH)) (hk22 : ∀ v0 v1 v2 v3 v4 h, Sd M_Mod_rowsNow 4 77 emI 22 [(0, vr v0), (1, vr v1), (2, vi v2), (3, vi v3), (4, vi v4)] [] h (k22 v0 v1 v2 v3 v4 h)) : ∀ (n : Nat) (v0 : Nat) (v1 : Nat) (v2 : Int) (v3 : Int) (v4 : Int) (v5 : Int) (h : AH), Sd M_Mod_rowsNow 4 77 emI 36 [(0, vr v0), (1, vr v1), (2, vi v2), (3, vi v3), (4, vi v4), (5, vi v5)] [] h (Mod_rowsNow_L36 k22 n v0 v1 v2 v3 v4 v5 h)
  | 0, _, _, _, _, _, _, _ => Sd.none
  | n + 1, v0, v1, v2, v3, v4, v5, h => by
    rw [Mod_rowsNow_L36]
    refine Sd_iload (pc' := 38) (dc D_Mod_rowsNow 25 rfl) rfl 5 rfl ?_
    refine Sd_aload_n (pc' := 39) (dc D_Mod_rowsNow 26 rfl) rfl 0 rfl rfl ?_
    refine Sd_getR (pc' := 42) (dc D_Mod_rowsNow 27 rfl) rfl F_Mod_9 rfl rfl ?_
    refine Sd_iconst (pc' := 43) (dc D_Mod_rowsNow 28 rfl) rfl ⟨by decide, by decide⟩ ?_
    refine Sd_iaload (pc' := 44) (dc D_Mod_rowsNow 29 rfl) rfl ?_
    refine Sd_icmp_ge (tgt := 122) (pc' := 47) (dc D_Mod_rowsNow 30 rfl) (by decide) rfl (fun _ => ?_) (fun _ => ?_)
    · refine Sd_iinc (pc' := 125) (l' := [(4, _), (0, _), (1, _), (2, _), (3, _), (5, _)]) (dc D_Mod_rowsNow 76 rfl) rfl 4 rfl (by decide) rfl ?_
      refine Sd_goto (tgt := 22) (dc D_Mod_rowsNow 77 rfl) (by decide) ?_
      refine Sd.sub (l' := [(0, _), (1, _), (2, _), (3, _), (4, _)]) [1, 2, 3, 4, 0] rfl ?_
      exact hk22 _ _ _ _ _ _
    · refine Sd_aload_n (pc' := 48) (dc D_Mod_rowsNow 31 rfl) rfl 0 rfl rfl ?_
      refine Sd_iload (pc' := 50) (dc D_Mod_rowsNow 32 rfl) rfl 4 rfl ?_
      refine Sd_aload_n (pc' := 51) (dc D_Mod_rowsNow 33 rfl) rfl 1 rfl rfl ?_
      refine Sd_iload_n (pc' := 52) (dc D_Mod_rowsNow 34 rfl) rfl 2 rfl rfl ?_
      refine Sd_iconst (pc' := 53) (dc D_Mod_rowsNow 35 rfl) rfl ⟨by decide, by decide⟩ ?_
      refine Sd_iadd (pc' := 54) (dc D_Mod_rowsNow 36 rfl) rfl ?_
      refine Sd_iaload (pc' := 55) (dc D_Mod_rowsNow 37 rfl) rfl ?_
      refine Sd.callVI (ci := 12) (t := 13) (as := [_, _]) RX12 (pc' := 58) (dc D_Mod_rowsNow 38 rfl) rfl rfl rfl rfl K_Mod_numberAt L_Mod_252 Ks_Mod_numberAt Kv_Mod_numberAt ⟨by decide, by decide⟩ rfl rfl (Nat.le_of_ble_eq_true rfl) (s_Mod_numberAt _ _ _ _) (fun x5 h4 => ?_)
      refine Sd_aload_n (pc' := 59) (dc D_Mod_rowsNow 39 rfl) rfl 0 rfl rfl ?_
      refine Sd_iload (pc' := 61) (dc D_Mod_rowsNow 40 rfl) rfl 5 rfl ?_
      refine Sd_aload_n (pc' := 62) (dc D_Mod_rowsNow 41 rfl) rfl 1 rfl rfl ?_
      refine Sd_iload_n (pc' := 63) (dc D_Mod_rowsNow 42 rfl) rfl 2 rfl rfl ?_
      refine Sd_iconst (pc' := 64) (dc D_Mod_rowsNow 43 rfl) rfl ⟨by decide, by decide⟩ ?_
      refine Sd_iadd (pc' := 65) (dc D_Mod_rowsNow 44 rfl) rfl ?_
      refine Sd_iaload (pc' := 66) (dc D_Mod_rowsNow 45 rfl) rfl ?_
      refine Sd.callVI (ci := 12) (t := 13) (as := [_, _]) RX12 (pc' := 69) (dc D_Mod_rowsNow 46 rfl) rfl rfl rfl rfl K_Mod_numberAt L_Mod_252 Ks_Mod_numberAt Kv_Mod_numberAt ⟨by decide, by decide⟩ rfl rfl (Nat.le_of_ble_eq_true rfl) (s_Mod_numberAt _ _ _ _) (fun x9 h8 => ?_)
      refine Sd_icmp_ne (tgt := 76) (pc' := 72) (dc D_Mod_rowsNow 47 rfl) (by decide) rfl (fun _ => ?_) (fun _ => ?_)
      · refine Sd_iconst (pc' := 77) (dc D_Mod_rowsNow 50 rfl) rfl ⟨by decide, by decide⟩ ?_
        exact s_Mod_rowsNow_L77 k22 hk22 (Mod_rowsNow_L36 k22 n) (s_Mod_rowsNow_L36 k22 hk22 n) _ _ _ _ _ _ _ _
      · refine Sd_iconst (pc' := 73) (dc D_Mod_rowsNow 48 rfl) rfl ⟨by decide, by decide⟩ ?_
        refine Sd_goto (tgt := 77) (dc D_Mod_rowsNow 49 rfl) (by decide) ?_
        exact s_Mod_rowsNow_L77 k22 hk22 (Mod_rowsNow_L36 k22 n) (s_Mod_rowsNow_L36 k22 hk22 n) _ _ _ _ _ _ _ _
def Mod_rowsNow_L22 : Nat → Nat → Nat → Int → Int → Int → AH → Option (Int × AH)
  | 0, _, _, _, _, _, _ => none
  | n + 1, v0, v1, v2, v3, v4, h => gR h 13 v0 1 fun r1 => aI h 21 r1 2 fun x2 => if (x2 : Int) ≤ v4 then (some (v3, h)) else (Mod_rowsNow_L36 (Mod_rowsNow_L22 n) FU v0 v1 v2 v3 v4 0 h)
set_option maxHeartbeats 4000000 in
set_option maxRecDepth 20000 in
theorem s_Mod_rowsNow_L22 : ∀ (n : Nat) (v0 : Nat) (v1 : Nat) (v2 : Int) (v3 : Int) (v4 : Int) (h : AH), Sd M_Mod_rowsNow 4 77 emI 22 [(0, vr v0), (1, vr v1), (2, vi v2), (3, vi v3), (4, vi v4)] [] h (Mod_rowsNow_L22 n v0 v1 v2 v3 v4 h)
  | 0, _, _, _, _, _, _ => Sd.none
  | n + 1, v0, v1, v2, v3, v4, h => by
    rw [Mod_rowsNow_L22]
    refine Sd_iload (pc' := 24) (dc D_Mod_rowsNow 17 rfl) rfl 4 rfl ?_
    refine Sd_aload_n (pc' := 25) (dc D_Mod_rowsNow 18 rfl) rfl 0 rfl rfl ?_
    refine Sd_getR (pc' := 28) (dc D_Mod_rowsNow 19 rfl) rfl F_Mod_9 rfl rfl ?_
    refine Sd_iconst (pc' := 29) (dc D_Mod_rowsNow 20 rfl) rfl ⟨by decide, by decide⟩ ?_
    refine Sd_iaload (pc' := 30) (dc D_Mod_rowsNow 21 rfl) rfl ?_
    refine Sd_icmp_ge (tgt := 128) (pc' := 33) (dc D_Mod_rowsNow 22 rfl) (by decide) rfl (fun _ => ?_) (fun _ => ?_)
    · refine Sd_iload_n (pc' := 129) (dc D_Mod_rowsNow 78 rfl) rfl 3 rfl rfl ?_
      exact Sd_iret (dc D_Mod_rowsNow 79 rfl) rfl
    · refine Sd_iconst (pc' := 34) (dc D_Mod_rowsNow 23 rfl) rfl ⟨by decide, by decide⟩ ?_
      refine Sd_istore (pc' := 36) (l' := [(5, _), (0, _), (1, _), (2, _), (3, _), (4, _)]) (dc D_Mod_rowsNow 24 rfl) rfl (by decide) rfl ?_
      refine Sd.sub (l' := [(0, _), (1, _), (2, _), (3, _), (4, _), (5, _)]) [1, 2, 3, 4, 5, 0] rfl ?_
      exact s_Mod_rowsNow_L36 (Mod_rowsNow_L22 n) (s_Mod_rowsNow_L22 n) FU _ _ _ _ _ _ _
def Mod_rowsNow (v0 : Nat) (v1 : Nat) (v2 : Int) (h : AH) : Option (Int × AH) := aI h 21 v1 v2 fun x1 => if (2 : Int) ≤ x1 then (Mod_rowsNow_L22 FU v0 v1 v2 0 0 h) else (aI h 21 v1 v2 fun x2 => rc h 13 v0 <| bnd (Mod_rowsIn v0 v1 v2 x2 h) fun x4 h3 => some (x4, h3))
set_option maxHeartbeats 4000000 in
set_option maxRecDepth 20000 in
theorem s_Mod_rowsNow (v0 : Nat) (v1 : Nat) (v2 : Int) (h : AH) : CS M_Mod_rowsNow 4 77 emI [vr v0, vr v1, vi v2] h (Mod_rowsNow v0 v1 v2 h) := by
  refine CS.of (by decide) (Nat.le_of_ble_eq_true rfl) ?_
  show Sd M_Mod_rowsNow 4 77 emI 0 [(0, vr v0), (1, vr v1), (2, vi v2)] [] h _
  unfold Mod_rowsNow
  refine Sd_aload_n (pc' := 1) (dc D_Mod_rowsNow 0 rfl) rfl 1 rfl rfl ?_
  refine Sd_iload_n (pc' := 2) (dc D_Mod_rowsNow 1 rfl) rfl 2 rfl rfl ?_
  refine Sd_iaload (pc' := 3) (dc D_Mod_rowsNow 2 rfl) rfl ?_
  refine Sd_iconst (pc' := 4) (dc D_Mod_rowsNow 3 rfl) rfl ⟨by decide, by decide⟩ ?_
  refine Sd_icmp_ge (tgt := 17) (pc' := 7) (dc D_Mod_rowsNow 4 rfl) (by decide) rfl (fun _ => ?_) (fun _ => ?_)
  · refine Sd_iconst (pc' := 18) (dc D_Mod_rowsNow 13 rfl) rfl ⟨by decide, by decide⟩ ?_
    refine Sd_istore_n (pc' := 19) (l' := [(3, _), (0, _), (1, _), (2, _)]) (dc D_Mod_rowsNow 14 rfl) rfl rfl (by decide) rfl ?_
    refine Sd_iconst (pc' := 20) (dc D_Mod_rowsNow 15 rfl) rfl ⟨by decide, by decide⟩ ?_
    refine Sd_istore (pc' := 22) (l' := [(4, _), (3, _), (0, _), (1, _), (2, _)]) (dc D_Mod_rowsNow 16 rfl) rfl (by decide) rfl ?_
    refine Sd.sub (l' := [(0, _), (1, _), (2, _), (3, _), (4, _)]) [2, 3, 4, 1, 0] rfl ?_
    exact s_Mod_rowsNow_L22 FU _ _ _ _ _ _
  · refine Sd_aload_n (pc' := 8) (dc D_Mod_rowsNow 5 rfl) rfl 0 rfl rfl ?_
    refine Sd_aload_n (pc' := 9) (dc D_Mod_rowsNow 6 rfl) rfl 1 rfl rfl ?_
    refine Sd_iload_n (pc' := 10) (dc D_Mod_rowsNow 7 rfl) rfl 2 rfl rfl ?_
    refine Sd_aload_n (pc' := 11) (dc D_Mod_rowsNow 8 rfl) rfl 1 rfl rfl ?_
    refine Sd_iload_n (pc' := 12) (dc D_Mod_rowsNow 9 rfl) rfl 2 rfl rfl ?_
    refine Sd_iaload (pc' := 13) (dc D_Mod_rowsNow 10 rfl) rfl ?_
    refine Sd.callVI (ci := 12) (t := 13) (as := [_, _, _]) RX12 (pc' := 16) (dc D_Mod_rowsNow 11 rfl) rfl rfl rfl rfl K_Mod_rowsIn L_Mod_296 Ks_Mod_rowsIn Kv_Mod_rowsIn ⟨by decide, by decide⟩ rfl rfl (Nat.le_of_ble_eq_true rfl) (s_Mod_rowsIn _ _ _ _ _) (fun x4 h3 => ?_)
    exact Sd_iret (dc D_Mod_rowsNow 12 rfl) rfl
theorem K_Mod_rowsNow : MOk M_Mod_rowsNow 2 := ⟨Tb_at 133 (by decide +kernel) rfl, Tb_at 1590 (by decide +kernel) rfl, by decide +kernel, by decide +kernel, by decide +kernel⟩
theorem Ks_Mod_rowsNow : Cond.instanceMethod yX12_rowsNow ∈ Tb := Tb_at 1589 (by decide +kernel) rfl
theorem Kv_Mod_rowsNow : Cond.selects RX12 yX12_rowsNow yX12_rowsNow ∈ Tb := Tb_at 74 (by decide +kernel) rfl
/-! ===== BatchShareModel.makeNow([II)I ===== -/
abbrev M_Mod_makeNow : AMt := (yX12_makeNow, cX12_makeNow, 4, (some .int))
def T_Mod_makeNow : List (Nat × Instr × Nat) := [(0, .aload_n 1, 1), (1, .iload_n 2, 1), (2, .iaload, 1), (3, .istore_n 3, 1), (4, .iload_n 3, 1), (5, .iconst 2, 1), (6, .if_icmp .ge 9, 3), (9, .aload_n 0, 1), (10, .iload_n 3, 1), (11, .invokevirtual 92, 3), (14, .ireturn, 1), (15, .aload_n 0, 1), (16, .getfield 9, 3), (19, .iconst 2, 1), (20, .iaload, 1), (21, .aload_n 0, 1), (22, .getfield 9, 3), (25, .iconst 3, 1), (26, .iaload, 1), (27, .iadd, 1), (28, .aload_n 0, 1), (29, .aload_n 1, 1), (30, .iload_n 2, 1), (31, .iconst 0, 1), (32, .invokevirtual 296, 3), (35, .aload_n 0, 1), (36, .aload_n 1, 1), (37, .iload_n 2, 1), (38, .iconst 1, 1), (39, .invokevirtual 296, 3), (42, .imul, 1), (43, .iadd, 1), (44, .ireturn, 1)]
set_option maxRecDepth 20000 in
theorem D_Mod_makeNow : (T_Mod_makeNow.all fun q => decide (decode M_Mod_makeNow.2.1 q.1 = .ok q.2)) = true := by decide +kernel
def Mod_makeNow (v0 : Nat) (v1 : Nat) (v2 : Int) (h : AH) : Option (Int × AH) := aI h 21 v1 v2 fun x1 => if (2 : Int) ≤ x1 then (gR h 13 v0 1 fun r2 => aI h 21 r2 2 fun x3 => gR h 13 v0 1 fun r4 => aI h 21 r4 3 fun x5 => rc h 13 v0 <| bnd (Mod_rowsIn v0 v1 v2 0 h) fun x7 h6 => rc h6 13 v0 <| bnd (Mod_rowsIn v0 v1 v2 1 h6) fun x10 h9 => some ((wr ((wr (x3 + x5)) + (wr (x7 * x10)))), h9)) else (rc h 13 v0 <| bnd (Mod_manyOf v0 x1 h) fun x13 h12 => some (x13, h12))
set_option maxHeartbeats 4000000 in
set_option maxRecDepth 20000 in
theorem s_Mod_makeNow (v0 : Nat) (v1 : Nat) (v2 : Int) (h : AH) : CS M_Mod_makeNow 4 77 emI [vr v0, vr v1, vi v2] h (Mod_makeNow v0 v1 v2 h) := by
  refine CS.of (by decide) (Nat.le_of_ble_eq_true rfl) ?_
  show Sd M_Mod_makeNow 4 77 emI 0 [(0, vr v0), (1, vr v1), (2, vi v2)] [] h _
  unfold Mod_makeNow
  refine Sd_aload_n (pc' := 1) (dc D_Mod_makeNow 0 rfl) rfl 1 rfl rfl ?_
  refine Sd_iload_n (pc' := 2) (dc D_Mod_makeNow 1 rfl) rfl 2 rfl rfl ?_
  refine Sd_iaload (pc' := 3) (dc D_Mod_makeNow 2 rfl) rfl ?_
  refine Sd_istore_n (pc' := 4) (l' := [(3, _), (0, _), (1, _), (2, _)]) (dc D_Mod_makeNow 3 rfl) rfl rfl (by decide) rfl ?_
  refine Sd_iload_n (pc' := 5) (dc D_Mod_makeNow 4 rfl) rfl 0 rfl rfl ?_
  refine Sd_iconst (pc' := 6) (dc D_Mod_makeNow 5 rfl) rfl ⟨by decide, by decide⟩ ?_
  refine Sd_icmp_ge (tgt := 15) (pc' := 9) (dc D_Mod_makeNow 6 rfl) (by decide) rfl (fun _ => ?_) (fun _ => ?_)
  · refine Sd_aload_n (pc' := 16) (dc D_Mod_makeNow 11 rfl) rfl 1 rfl rfl ?_
    refine Sd_getR (pc' := 19) (dc D_Mod_makeNow 12 rfl) rfl F_Mod_9 rfl rfl ?_
    refine Sd_iconst (pc' := 20) (dc D_Mod_makeNow 13 rfl) rfl ⟨by decide, by decide⟩ ?_
    refine Sd_iaload (pc' := 21) (dc D_Mod_makeNow 14 rfl) rfl ?_
    refine Sd_aload_n (pc' := 22) (dc D_Mod_makeNow 15 rfl) rfl 1 rfl rfl ?_
    refine Sd_getR (pc' := 25) (dc D_Mod_makeNow 16 rfl) rfl F_Mod_9 rfl rfl ?_
    refine Sd_iconst (pc' := 26) (dc D_Mod_makeNow 17 rfl) rfl ⟨by decide, by decide⟩ ?_
    refine Sd_iaload (pc' := 27) (dc D_Mod_makeNow 18 rfl) rfl ?_
    refine Sd_iadd (pc' := 28) (dc D_Mod_makeNow 19 rfl) rfl ?_
    refine Sd_aload_n (pc' := 29) (dc D_Mod_makeNow 20 rfl) rfl 1 rfl rfl ?_
    refine Sd_aload_n (pc' := 30) (dc D_Mod_makeNow 21 rfl) rfl 2 rfl rfl ?_
    refine Sd_iload_n (pc' := 31) (dc D_Mod_makeNow 22 rfl) rfl 3 rfl rfl ?_
    refine Sd_iconst (pc' := 32) (dc D_Mod_makeNow 23 rfl) rfl ⟨by decide, by decide⟩ ?_
    refine Sd.callVI (ci := 12) (t := 13) (as := [_, _, _]) RX12 (pc' := 35) (dc D_Mod_makeNow 24 rfl) rfl rfl rfl rfl K_Mod_rowsIn L_Mod_296 Ks_Mod_rowsIn Kv_Mod_rowsIn ⟨by decide, by decide⟩ rfl rfl (Nat.le_of_ble_eq_true rfl) (s_Mod_rowsIn _ _ _ _ _) (fun x7 h6 => ?_)
    refine Sd_aload_n (pc' := 36) (dc D_Mod_makeNow 25 rfl) rfl 1 rfl rfl ?_
    refine Sd_aload_n (pc' := 37) (dc D_Mod_makeNow 26 rfl) rfl 2 rfl rfl ?_
    refine Sd_iload_n (pc' := 38) (dc D_Mod_makeNow 27 rfl) rfl 3 rfl rfl ?_
    refine Sd_iconst (pc' := 39) (dc D_Mod_makeNow 28 rfl) rfl ⟨by decide, by decide⟩ ?_
    refine Sd.callVI (ci := 12) (t := 13) (as := [_, _, _]) RX12 (pc' := 42) (dc D_Mod_makeNow 29 rfl) rfl rfl rfl rfl K_Mod_rowsIn L_Mod_296 Ks_Mod_rowsIn Kv_Mod_rowsIn ⟨by decide, by decide⟩ rfl rfl (Nat.le_of_ble_eq_true rfl) (s_Mod_rowsIn _ _ _ _ _) (fun x10 h9 => ?_)
    refine Sd_imul (pc' := 43) (dc D_Mod_makeNow 30 rfl) rfl ?_
    refine Sd_iadd (pc' := 44) (dc D_Mod_makeNow 31 rfl) rfl ?_
    exact Sd_iret (dc D_Mod_makeNow 32 rfl) rfl
  · refine Sd_aload_n (pc' := 10) (dc D_Mod_makeNow 7 rfl) rfl 1 rfl rfl ?_
    refine Sd_iload_n (pc' := 11) (dc D_Mod_makeNow 8 rfl) rfl 0 rfl rfl ?_
    refine Sd.callVI (ci := 12) (t := 13) (as := [_]) RX12 (pc' := 14) (dc D_Mod_makeNow 9 rfl) rfl rfl rfl rfl K_Mod_manyOf L_Mod_92 Ks_Mod_manyOf Kv_Mod_manyOf ⟨by decide, by decide⟩ rfl rfl (Nat.le_of_ble_eq_true rfl) (s_Mod_manyOf _ _ _) (fun x13 h12 => ?_)
    exact Sd_iret (dc D_Mod_makeNow 10 rfl) rfl
theorem K_Mod_makeNow : MOk M_Mod_makeNow 2 := ⟨Tb_at 133 (by decide +kernel) rfl, Tb_at 1602 (by decide +kernel) rfl, by decide +kernel, by decide +kernel, by decide +kernel⟩
theorem Ks_Mod_makeNow : Cond.instanceMethod yX12_makeNow ∈ Tb := Tb_at 1601 (by decide +kernel) rfl
theorem Kv_Mod_makeNow : Cond.selects RX12 yX12_makeNow yX12_makeNow ∈ Tb := Tb_at 77 (by decide +kernel) rfl
/-! ===== BatchShareModel.laysAll()V ===== -/
abbrev M_Mod_laysAll : AMt := (yX12_laysAll, cX12_laysAll, 4, none)
def T_Mod_laysAll : List (Nat × Instr × Nat) := [(0, .iconst 0, 1), (1, .istore_n 1, 1), (2, .iload_n 1, 1), (3, .aload_n 0, 1), (4, .getfield 96, 3), (7, .if_icmp .ge 89, 3), (10, .iconst 0, 1), (11, .istore_n 2, 1), (12, .iload_n 2, 1), (13, .iconst 3, 1), (14, .if_icmp .ge 76, 3), (17, .aload_n 0, 1), (18, .iload_n 1, 1), (19, .iload_n 2, 1), (20, .invokevirtual 300, 3), (23, .aload_n 0, 1), (24, .iload_n 1, 1), (25, .iload_n 2, 1), (26, .invokevirtual 303, 3), (29, .istore_n 3, 1), (30, .aload_n 0, 1), (31, .getfield 56, 3), (34, .iconst 3, 1), (35, .iload_n 1, 1), (36, .imul, 1), (37, .iload_n 2, 1), (38, .iadd, 1), (39, .iload_n 3, 1), (40, .ifCond .eq 15, 3), (43, .aload_n 0, 1), (44, .aload_n 0, 1), (45, .getfield 53, 3), (48, .iconst 0, 1), (49, .invokevirtual 306, 3), (52, .goto 4, 3), (55, .iconst 0, 1), (56, .iastore, 1), (57, .aload_n 0, 1), (58, .getfield 59, 3), (61, .iconst 3, 1), (62, .iload_n 1, 1), (63, .imul, 1), (64, .iload_n 2, 1), (65, .iadd, 1), (66, .iload_n 3, 1), (67, .ifCond .eq 15, 3), (70, .aload_n 0, 1), (71, .aload_n 0, 1), (72, .getfield 53, 3), (75, .iconst 0, 1), (76, .invokevirtual 310, 3), (79, .goto 4, 3), (82, .iconst 0, 1), (83, .iastore, 1), (84, .iinc 2 1, 3), (87, .goto (-75), 3), (90, .iinc 1 1, 3), (93, .goto (-91), 3), (96, .return_, 1)]
set_option maxRecDepth 20000 in
theorem D_Mod_laysAll : (T_Mod_laysAll.all fun q => decide (decode M_Mod_laysAll.2.1 q.1 = .ok q.2)) = true := by decide +kernel
def Mod_laysAll_L56 (k2 : Nat → Int → AH → Option (Unit × AH)) (k12 : Nat → Int → Int → AH → Option (Unit × AH)) (v0 : Nat) (v1 : Int) (v2 : Int) (v3 : Int) (s0 : Int) (s1 : Int) (s2 : Nat) (h : AH) : Option (Unit × AH) := wI h 21 s2 s1 s0 fun h1 => gR h1 13 v0 28 fun r2 => if (v3 : Int) = 0 then (wI h1 21 r2 (wr ((wr (3 * v1)) + v2)) 0 fun h3 => k12 v0 v1 ((wr (v2 + 1))) h3) else (gR h1 13 v0 26 fun r4 => rc h1 13 v0 <| bnd (Mod_makeNow v0 r4 0 h1) fun x6 h5 => wI h5 21 r2 (wr ((wr (3 * v1)) + v2)) x6 fun h8 => k12 v0 v1 ((wr (v2 + 1))) h8)
set_option maxHeartbeats 4000000 in
set_option maxRecDepth 20000 in
theorem s_Mod_laysAll_L56 (k2 : Nat → Int → AH → Option (Unit × AH)) (hk2 : ∀ v0 v1 h, Sd M_Mod_laysAll 5 103 emV 2 [(0, vr v0), (1, vi v1)] [] h (k2 v0 v1 h)) (k12 : Nat → Int → Int → AH → Option (Unit × AH)) (hk12 : ∀ v0 v1 v2 h, Sd M_Mod_laysAll 5 103 emV 12 [(0, vr v0), (1, vi v1), (2, vi v2)] [] h (k12 v0 v1 v2 h)) (v0 : Nat) (v1 : Int) (v2 : Int) (v3 : Int) (s0 : Int) (s1 : Int) (s2 : Nat) (h : AH) : Sd M_Mod_laysAll 5 103 emV 56 [(0, vr v0), (1, vi v1), (2, vi v2), (3, vi v3)] [vi s0, vi s1, vr s2] h (Mod_laysAll_L56 k2 k12 v0 v1 v2 v3 s0 s1 s2 h) := by
  unfold Mod_laysAll_L56
  refine Sd_iastore (pc' := 57) (dc D_Mod_laysAll 36 rfl) rfl (by decide) ?_
  refine Sd_aload_n (pc' := 58) (dc D_Mod_laysAll 37 rfl) rfl 0 rfl rfl ?_
  refine Sd_getR (pc' := 61) (dc D_Mod_laysAll 38 rfl) rfl F_Mod_59 rfl rfl ?_
  refine Sd_iconst (pc' := 62) (dc D_Mod_laysAll 39 rfl) rfl ⟨by decide, by decide⟩ ?_
  refine Sd_iload_n (pc' := 63) (dc D_Mod_laysAll 40 rfl) rfl 1 rfl rfl ?_
  refine Sd_imul (pc' := 64) (dc D_Mod_laysAll 41 rfl) rfl ?_
  refine Sd_iload_n (pc' := 65) (dc D_Mod_laysAll 42 rfl) rfl 2 rfl rfl ?_
  refine Sd_iadd (pc' := 66) (dc D_Mod_laysAll 43 rfl) rfl ?_
  refine Sd_iload_n (pc' := 67) (dc D_Mod_laysAll 44 rfl) rfl 3 rfl rfl ?_
  refine Sd_if_eq (tgt := 82) (pc' := 70) (dc D_Mod_laysAll 45 rfl) (by decide) rfl (fun _ => ?_) (fun _ => ?_)
  · refine Sd_iconst (pc' := 83) (dc D_Mod_laysAll 52 rfl) rfl ⟨by decide, by decide⟩ ?_
    refine Sd_iastore (pc' := 84) (dc D_Mod_laysAll 53 rfl) rfl (by decide) ?_
    refine Sd_iinc (pc' := 87) (l' := [(2, _), (0, _), (1, _), (3, _)]) (dc D_Mod_laysAll 54 rfl) rfl 2 rfl (by decide) rfl ?_
    refine Sd_goto (tgt := 12) (dc D_Mod_laysAll 55 rfl) (by decide) ?_
    refine Sd.sub (l' := [(0, _), (1, _), (2, _)]) [1, 2, 0] rfl ?_
    exact hk12 _ _ _ _
  · refine Sd_aload_n (pc' := 71) (dc D_Mod_laysAll 46 rfl) rfl 0 rfl rfl ?_
    refine Sd_aload_n (pc' := 72) (dc D_Mod_laysAll 47 rfl) rfl 0 rfl rfl ?_
    refine Sd_getR (pc' := 75) (dc D_Mod_laysAll 48 rfl) rfl F_Mod_53 rfl rfl ?_
    refine Sd_iconst (pc' := 76) (dc D_Mod_laysAll 49 rfl) rfl ⟨by decide, by decide⟩ ?_
    refine Sd.callVI (ci := 12) (t := 13) (as := [_, _]) RX12 (pc' := 79) (dc D_Mod_laysAll 50 rfl) rfl rfl rfl rfl K_Mod_makeNow L_Mod_310 Ks_Mod_makeNow Kv_Mod_makeNow ⟨by decide, by decide⟩ rfl rfl (Nat.le_of_ble_eq_true rfl) (s_Mod_makeNow _ _ _ _) (fun x6 h5 => ?_)
    refine Sd_goto (tgt := 83) (dc D_Mod_laysAll 51 rfl) (by decide) ?_
    refine Sd_iastore (pc' := 84) (dc D_Mod_laysAll 53 rfl) rfl (by decide) ?_
    refine Sd_iinc (pc' := 87) (l' := [(2, _), (0, _), (1, _), (3, _)]) (dc D_Mod_laysAll 54 rfl) rfl 2 rfl (by decide) rfl ?_
    refine Sd_goto (tgt := 12) (dc D_Mod_laysAll 55 rfl) (by decide) ?_
    refine Sd.sub (l' := [(0, _), (1, _), (2, _)]) [1, 2, 0] rfl ?_
    exact hk12 _ _ _ _
def Mod_laysAll_L12 (k2 : Nat → Int → AH → Option (Unit × AH)) : Nat → Nat → Int → Int → AH → Option (Unit × AH)
  | 0, _, _, _, _ => none
  | n + 1, v0, v1, v2, h => if (3 : Int) ≤ v2 then (k2 v0 ((wr (v1 + 1))) h) else (rc h 13 v0 <| bnd (Mod_laysPart v0 v1 v2 h) fun _ h1 => rc h1 13 v0 <| bnd (Mod_hasKind v0 v1 v2 h1) fun x5 h4 => gR h4 13 v0 27 fun r7 => if (x5 : Int) = 0 then (Mod_laysAll_L56 k2 (Mod_laysAll_L12 k2 n) v0 v1 v2 x5 0 ((wr ((wr (3 * v1)) + v2))) r7 h4) else (gR h4 13 v0 26 fun r8 => rc h4 13 v0 <| bnd (Mod_rowsNow v0 r8 0 h4) fun x10 h9 => Mod_laysAll_L56 k2 (Mod_laysAll_L12 k2 n) v0 v1 v2 x5 x10 ((wr ((wr (3 * v1)) + v2))) r7 h9))
set_option maxHeartbeats 4000000 in
set_option maxRecDepth 20000 in
theorem s_Mod_laysAll_L12 (k2 : Nat → Int → AH → Option (Unit × AH)) (hk2 : ∀ v0 v1 h, Sd M_Mod_laysAll 5 103 emV 2 [(0, vr v0), (1, vi v1)] [] h (k2 v0 v1 h)) : ∀ (n : Nat) (v0 : Nat) (v1 : Int) (v2 : Int) (h : AH), Sd M_Mod_laysAll 5 103 emV 12 [(0, vr v0), (1, vi v1), (2, vi v2)] [] h (Mod_laysAll_L12 k2 n v0 v1 v2 h)
  | 0, _, _, _, _ => Sd.none
  | n + 1, v0, v1, v2, h => by
    rw [Mod_laysAll_L12]
    refine Sd_iload_n (pc' := 13) (dc D_Mod_laysAll 8 rfl) rfl 2 rfl rfl ?_
    refine Sd_iconst (pc' := 14) (dc D_Mod_laysAll 9 rfl) rfl ⟨by decide, by decide⟩ ?_
    refine Sd_icmp_ge (tgt := 90) (pc' := 17) (dc D_Mod_laysAll 10 rfl) (by decide) rfl (fun _ => ?_) (fun _ => ?_)
    · refine Sd_iinc (pc' := 93) (l' := [(1, _), (0, _), (2, _)]) (dc D_Mod_laysAll 56 rfl) rfl 1 rfl (by decide) rfl ?_
      refine Sd_goto (tgt := 2) (dc D_Mod_laysAll 57 rfl) (by decide) ?_
      refine Sd.sub (l' := [(0, _), (1, _)]) [1, 0] rfl ?_
      exact hk2 _ _ _
    · refine Sd_aload_n (pc' := 18) (dc D_Mod_laysAll 11 rfl) rfl 0 rfl rfl ?_
      refine Sd_iload_n (pc' := 19) (dc D_Mod_laysAll 12 rfl) rfl 1 rfl rfl ?_
      refine Sd_iload_n (pc' := 20) (dc D_Mod_laysAll 13 rfl) rfl 2 rfl rfl ?_
      refine Sd.callVV (ci := 12) (t := 13) (as := [_, _]) RX12 (pc' := 23) (dc D_Mod_laysAll 14 rfl) rfl rfl rfl rfl K_Mod_laysPart L_Mod_300 Ks_Mod_laysPart Kv_Mod_laysPart ⟨by decide, by decide⟩ rfl rfl (Nat.le_of_ble_eq_true rfl) (s_Mod_laysPart _ _ _ _) (fun _ h1 => ?_)
      refine Sd_aload_n (pc' := 24) (dc D_Mod_laysAll 15 rfl) rfl 0 rfl rfl ?_
      refine Sd_iload_n (pc' := 25) (dc D_Mod_laysAll 16 rfl) rfl 1 rfl rfl ?_
      refine Sd_iload_n (pc' := 26) (dc D_Mod_laysAll 17 rfl) rfl 2 rfl rfl ?_
      refine Sd.callVI (ci := 12) (t := 13) (as := [_, _]) RX12 (pc' := 29) (dc D_Mod_laysAll 18 rfl) rfl rfl rfl rfl K_Mod_hasKind L_Mod_303 Ks_Mod_hasKind Kv_Mod_hasKind ⟨by decide, by decide⟩ rfl rfl (Nat.le_of_ble_eq_true rfl) (s_Mod_hasKind _ _ _ _) (fun x5 h4 => ?_)
      refine Sd_istore_n (pc' := 30) (l' := [(3, _), (0, _), (1, _), (2, _)]) (dc D_Mod_laysAll 19 rfl) rfl rfl (by decide) rfl ?_
      refine Sd_aload_n (pc' := 31) (dc D_Mod_laysAll 20 rfl) rfl 1 rfl rfl ?_
      refine Sd_getR (pc' := 34) (dc D_Mod_laysAll 21 rfl) rfl F_Mod_56 rfl rfl ?_
      refine Sd_iconst (pc' := 35) (dc D_Mod_laysAll 22 rfl) rfl ⟨by decide, by decide⟩ ?_
      refine Sd_iload_n (pc' := 36) (dc D_Mod_laysAll 23 rfl) rfl 2 rfl rfl ?_
      refine Sd_imul (pc' := 37) (dc D_Mod_laysAll 24 rfl) rfl ?_
      refine Sd_iload_n (pc' := 38) (dc D_Mod_laysAll 25 rfl) rfl 3 rfl rfl ?_
      refine Sd_iadd (pc' := 39) (dc D_Mod_laysAll 26 rfl) rfl ?_
      refine Sd_iload_n (pc' := 40) (dc D_Mod_laysAll 27 rfl) rfl 0 rfl rfl ?_
      refine Sd_if_eq (tgt := 55) (pc' := 43) (dc D_Mod_laysAll 28 rfl) (by decide) rfl (fun _ => ?_) (fun _ => ?_)
      · refine Sd_iconst (pc' := 56) (dc D_Mod_laysAll 35 rfl) rfl ⟨by decide, by decide⟩ ?_
        refine Sd.sub (l' := [(0, _), (1, _), (2, _), (3, _)]) [1, 2, 3, 0] rfl ?_
        exact s_Mod_laysAll_L56 k2 hk2 (Mod_laysAll_L12 k2 n) (s_Mod_laysAll_L12 k2 hk2 n) _ _ _ _ _ _ _ _
      · refine Sd_aload_n (pc' := 44) (dc D_Mod_laysAll 29 rfl) rfl 1 rfl rfl ?_
        refine Sd_aload_n (pc' := 45) (dc D_Mod_laysAll 30 rfl) rfl 1 rfl rfl ?_
        refine Sd_getR (pc' := 48) (dc D_Mod_laysAll 31 rfl) rfl F_Mod_53 rfl rfl ?_
        refine Sd_iconst (pc' := 49) (dc D_Mod_laysAll 32 rfl) rfl ⟨by decide, by decide⟩ ?_
        refine Sd.callVI (ci := 12) (t := 13) (as := [_, _]) RX12 (pc' := 52) (dc D_Mod_laysAll 33 rfl) rfl rfl rfl rfl K_Mod_rowsNow L_Mod_306 Ks_Mod_rowsNow Kv_Mod_rowsNow ⟨by decide, by decide⟩ rfl rfl (Nat.le_of_ble_eq_true rfl) (s_Mod_rowsNow _ _ _ _) (fun x10 h9 => ?_)
        refine Sd_goto (tgt := 56) (dc D_Mod_laysAll 34 rfl) (by decide) ?_
        refine Sd.sub (l' := [(0, _), (1, _), (2, _), (3, _)]) [1, 2, 3, 0] rfl ?_
        exact s_Mod_laysAll_L56 k2 hk2 (Mod_laysAll_L12 k2 n) (s_Mod_laysAll_L12 k2 hk2 n) _ _ _ _ _ _ _ _
def Mod_laysAll_L2 : Nat → Nat → Int → AH → Option (Unit × AH)
  | 0, _, _, _ => none
  | n + 1, v0, v1, h => gI h 13 v0 10 fun x1 => if (x1 : Int) ≤ v1 then (some ((), h)) else (Mod_laysAll_L12 (Mod_laysAll_L2 n) FU v0 v1 0 h)
set_option maxHeartbeats 4000000 in
set_option maxRecDepth 20000 in
theorem s_Mod_laysAll_L2 : ∀ (n : Nat) (v0 : Nat) (v1 : Int) (h : AH), Sd M_Mod_laysAll 5 103 emV 2 [(0, vr v0), (1, vi v1)] [] h (Mod_laysAll_L2 n v0 v1 h)
  | 0, _, _, _ => Sd.none
  | n + 1, v0, v1, h => by
    rw [Mod_laysAll_L2]
    refine Sd_iload_n (pc' := 3) (dc D_Mod_laysAll 2 rfl) rfl 1 rfl rfl ?_
    refine Sd_aload_n (pc' := 4) (dc D_Mod_laysAll 3 rfl) rfl 0 rfl rfl ?_
    refine Sd_getI (pc' := 7) (dc D_Mod_laysAll 4 rfl) rfl F_Mod_96 rfl rfl ?_
    refine Sd_icmp_ge (tgt := 96) (pc' := 10) (dc D_Mod_laysAll 5 rfl) (by decide) rfl (fun _ => ?_) (fun _ => ?_)
    · exact Sd_vret (dc D_Mod_laysAll 58 rfl) rfl
    · refine Sd_iconst (pc' := 11) (dc D_Mod_laysAll 6 rfl) rfl ⟨by decide, by decide⟩ ?_
      refine Sd_istore_n (pc' := 12) (l' := [(2, _), (0, _), (1, _)]) (dc D_Mod_laysAll 7 rfl) rfl rfl (by decide) rfl ?_
      refine Sd.sub (l' := [(0, _), (1, _), (2, _)]) [1, 2, 0] rfl ?_
      exact s_Mod_laysAll_L12 (Mod_laysAll_L2 n) (s_Mod_laysAll_L2 n) FU _ _ _ _
def Mod_laysAll (v0 : Nat) (h : AH) : Option (Unit × AH) := Mod_laysAll_L2 FU v0 0 h
set_option maxHeartbeats 4000000 in
set_option maxRecDepth 20000 in
theorem s_Mod_laysAll (v0 : Nat) (h : AH) : CS M_Mod_laysAll 5 103 emV [vr v0] h (Mod_laysAll v0 h) := by
  refine CS.of (by decide) (Nat.le_of_ble_eq_true rfl) ?_
  show Sd M_Mod_laysAll 5 103 emV 0 [(0, vr v0)] [] h _
  unfold Mod_laysAll
  refine Sd_iconst (pc' := 1) (dc D_Mod_laysAll 0 rfl) rfl ⟨by decide, by decide⟩ ?_
  refine Sd_istore_n (pc' := 2) (l' := [(1, _), (0, _)]) (dc D_Mod_laysAll 1 rfl) rfl rfl (by decide) rfl ?_
  refine Sd.sub (l' := [(0, _), (1, _)]) [1, 0] rfl ?_
  exact s_Mod_laysAll_L2 FU _ _ _
theorem K_Mod_laysAll : MOk M_Mod_laysAll 0 := ⟨Tb_at 133 (by decide +kernel) rfl, Tb_at 1626 (by decide +kernel) rfl, by decide +kernel, by decide +kernel, by decide +kernel⟩
theorem Ks_Mod_laysAll : Cond.instanceMethod yX12_laysAll ∈ Tb := Tb_at 1625 (by decide +kernel) rfl
theorem Kv_Mod_laysAll : Cond.selects RX12 yX12_laysAll yX12_laysAll ∈ Tb := Tb_at 80 (by decide +kernel) rfl
/-! ===== BatchShareModel.takesNone()V ===== -/
abbrev M_Mod_takesNone : AMt := (yX12_takesNone, cX12_takesNone, 1, none)
def T_Mod_takesNone : List (Nat × Instr × Nat) := [(0, .aload_n 0, 1), (1, .iconst 0, 1), (2, .putfield 343, 3), (5, .return_, 1)]
set_option maxRecDepth 20000 in
theorem D_Mod_takesNone : (T_Mod_takesNone.all fun q => decide (decode M_Mod_takesNone.2.1 q.1 = .ok q.2)) = true := by decide +kernel
def Mod_takesNone (v0 : Nat) (h : AH) : Option (Unit × AH) := pI h 13 v0 34 0 fun h1 => some ((), h1)
set_option maxHeartbeats 4000000 in
set_option maxRecDepth 20000 in
theorem s_Mod_takesNone (v0 : Nat) (h : AH) : CS M_Mod_takesNone 1 0 emV [vr v0] h (Mod_takesNone v0 h) := by
  refine CS.of (by decide) (Nat.le_of_ble_eq_true rfl) ?_
  show Sd M_Mod_takesNone 1 0 emV 0 [(0, vr v0)] [] h _
  unfold Mod_takesNone
  refine Sd_aload_n (pc' := 1) (dc D_Mod_takesNone 0 rfl) rfl 0 rfl rfl ?_
  refine Sd_iconst (pc' := 2) (dc D_Mod_takesNone 1 rfl) rfl ⟨by decide, by decide⟩ ?_
  refine Sd_putI (pc' := 5) (dc D_Mod_takesNone 2 rfl) rfl F_Mod_343 rfl rfl rfl (finOk.no rfl) (by decide) ?_
  exact Sd_vret (dc D_Mod_takesNone 3 rfl) rfl
theorem K_Mod_takesNone : MOk M_Mod_takesNone 0 := ⟨Tb_at 133 (by decide +kernel) rfl, Tb_at 1672 (by decide +kernel) rfl, by decide +kernel, by decide +kernel, by decide +kernel⟩
theorem Ks_Mod_takesNone : Cond.instanceMethod yX12_takesNone ∈ Tb := Tb_at 1671 (by decide +kernel) rfl
theorem Kv_Mod_takesNone : Cond.selects RX12 yX12_takesNone yX12_takesNone ∈ Tb := Tb_at 89 (by decide +kernel) rfl
/-! ===== BatchShareModel.areOfOne([II[II)Z ===== -/
abbrev M_Mod_areOfOne : AMt := (yX12_areOfOne, cX12_areOfOne, 4, (some .boolean))
def T_Mod_areOfOne : List (Nat × Instr × Nat) := [(0, .aload_n 0, 1), (1, .iload_n 1, 1), (2, .iaload, 1), (3, .aload_n 2, 1), (4, .iload_n 3, 1), (5, .iaload, 1), (6, .if_icmp .ne 33, 3), (9, .aload_n 0, 1), (10, .iload_n 1, 1), (11, .iconst 1, 1), (12, .iadd, 1), (13, .iaload, 1), (14, .aload_n 2, 1), (15, .iload_n 3, 1), (16, .iconst 1, 1), (17, .iadd, 1), (18, .iaload, 1), (19, .if_icmp .ne 20, 3), (22, .aload_n 0, 1), (23, .iload_n 1, 1), (24, .iconst 2, 1), (25, .iadd, 1), (26, .iaload, 1), (27, .aload_n 2, 1), (28, .iload_n 3, 1), (29, .iconst 2, 1), (30, .iadd, 1), (31, .iaload, 1), (32, .if_icmp .ne 7, 3), (35, .iconst 1, 1), (36, .goto 4, 3), (39, .iconst 0, 1), (40, .ireturn, 1)]
set_option maxRecDepth 20000 in
theorem D_Mod_areOfOne : (T_Mod_areOfOne.all fun q => decide (decode M_Mod_areOfOne.2.1 q.1 = .ok q.2)) = true := by decide +kernel
def Mod_areOfOne (v0 : Nat) (v1 : Int) (v2 : Nat) (v3 : Int) (h : AH) : Option (Int × AH) := aI h 21 v0 v1 fun x1 => aI h 21 v2 v3 fun x2 => if ¬ (x1 : Int) = x2 then (some (0, h)) else (aI h 21 v0 (wr (v1 + 1)) fun x3 => aI h 21 v2 (wr (v3 + 1)) fun x4 => if ¬ (x3 : Int) = x4 then (some (0, h)) else (aI h 21 v0 (wr (v1 + 2)) fun x5 => aI h 21 v2 (wr (v3 + 2)) fun x6 => if ¬ (x5 : Int) = x6 then (some (0, h)) else (some (1, h))))
set_option maxHeartbeats 4000000 in
set_option maxRecDepth 20000 in
theorem s_Mod_areOfOne (v0 : Nat) (v1 : Int) (v2 : Nat) (v3 : Int) (h : AH) : CS M_Mod_areOfOne 1 0 emI [vr v0, vi v1, vr v2, vi v3] h (Mod_areOfOne v0 v1 v2 v3 h) := by
  refine CS.of (by decide) (Nat.le_of_ble_eq_true rfl) ?_
  show Sd M_Mod_areOfOne 1 0 emI 0 [(0, vr v0), (1, vi v1), (2, vr v2), (3, vi v3)] [] h _
  unfold Mod_areOfOne
  refine Sd_aload_n (pc' := 1) (dc D_Mod_areOfOne 0 rfl) rfl 0 rfl rfl ?_
  refine Sd_iload_n (pc' := 2) (dc D_Mod_areOfOne 1 rfl) rfl 1 rfl rfl ?_
  refine Sd_iaload (pc' := 3) (dc D_Mod_areOfOne 2 rfl) rfl ?_
  refine Sd_aload_n (pc' := 4) (dc D_Mod_areOfOne 3 rfl) rfl 2 rfl rfl ?_
  refine Sd_iload_n (pc' := 5) (dc D_Mod_areOfOne 4 rfl) rfl 3 rfl rfl ?_
  refine Sd_iaload (pc' := 6) (dc D_Mod_areOfOne 5 rfl) rfl ?_
  refine Sd_icmp_ne (tgt := 39) (pc' := 9) (dc D_Mod_areOfOne 6 rfl) (by decide) rfl (fun _ => ?_) (fun _ => ?_)
  · refine Sd_iconst (pc' := 40) (dc D_Mod_areOfOne 31 rfl) rfl ⟨by decide, by decide⟩ ?_
    exact Sd_zret (dc D_Mod_areOfOne 32 rfl) rfl (Or.inl rfl)
  · refine Sd_aload_n (pc' := 10) (dc D_Mod_areOfOne 7 rfl) rfl 0 rfl rfl ?_
    refine Sd_iload_n (pc' := 11) (dc D_Mod_areOfOne 8 rfl) rfl 1 rfl rfl ?_
    refine Sd_iconst (pc' := 12) (dc D_Mod_areOfOne 9 rfl) rfl ⟨by decide, by decide⟩ ?_
    refine Sd_iadd (pc' := 13) (dc D_Mod_areOfOne 10 rfl) rfl ?_
    refine Sd_iaload (pc' := 14) (dc D_Mod_areOfOne 11 rfl) rfl ?_
    refine Sd_aload_n (pc' := 15) (dc D_Mod_areOfOne 12 rfl) rfl 2 rfl rfl ?_
    refine Sd_iload_n (pc' := 16) (dc D_Mod_areOfOne 13 rfl) rfl 3 rfl rfl ?_
    refine Sd_iconst (pc' := 17) (dc D_Mod_areOfOne 14 rfl) rfl ⟨by decide, by decide⟩ ?_
    refine Sd_iadd (pc' := 18) (dc D_Mod_areOfOne 15 rfl) rfl ?_
    refine Sd_iaload (pc' := 19) (dc D_Mod_areOfOne 16 rfl) rfl ?_
    refine Sd_icmp_ne (tgt := 39) (pc' := 22) (dc D_Mod_areOfOne 17 rfl) (by decide) rfl (fun _ => ?_) (fun _ => ?_)
    · refine Sd_iconst (pc' := 40) (dc D_Mod_areOfOne 31 rfl) rfl ⟨by decide, by decide⟩ ?_
      exact Sd_zret (dc D_Mod_areOfOne 32 rfl) rfl (Or.inl rfl)
    · refine Sd_aload_n (pc' := 23) (dc D_Mod_areOfOne 18 rfl) rfl 0 rfl rfl ?_
      refine Sd_iload_n (pc' := 24) (dc D_Mod_areOfOne 19 rfl) rfl 1 rfl rfl ?_
      refine Sd_iconst (pc' := 25) (dc D_Mod_areOfOne 20 rfl) rfl ⟨by decide, by decide⟩ ?_
      refine Sd_iadd (pc' := 26) (dc D_Mod_areOfOne 21 rfl) rfl ?_
      refine Sd_iaload (pc' := 27) (dc D_Mod_areOfOne 22 rfl) rfl ?_
      refine Sd_aload_n (pc' := 28) (dc D_Mod_areOfOne 23 rfl) rfl 2 rfl rfl ?_
      refine Sd_iload_n (pc' := 29) (dc D_Mod_areOfOne 24 rfl) rfl 3 rfl rfl ?_
      refine Sd_iconst (pc' := 30) (dc D_Mod_areOfOne 25 rfl) rfl ⟨by decide, by decide⟩ ?_
      refine Sd_iadd (pc' := 31) (dc D_Mod_areOfOne 26 rfl) rfl ?_
      refine Sd_iaload (pc' := 32) (dc D_Mod_areOfOne 27 rfl) rfl ?_
      refine Sd_icmp_ne (tgt := 39) (pc' := 35) (dc D_Mod_areOfOne 28 rfl) (by decide) rfl (fun _ => ?_) (fun _ => ?_)
      · refine Sd_iconst (pc' := 40) (dc D_Mod_areOfOne 31 rfl) rfl ⟨by decide, by decide⟩ ?_
        exact Sd_zret (dc D_Mod_areOfOne 32 rfl) rfl (Or.inl rfl)
      · refine Sd_iconst (pc' := 36) (dc D_Mod_areOfOne 29 rfl) rfl ⟨by decide, by decide⟩ ?_
        refine Sd_goto (tgt := 40) (dc D_Mod_areOfOne 30 rfl) (by decide) ?_
        exact Sd_zret (dc D_Mod_areOfOne 32 rfl) rfl (Or.inr rfl)
theorem K_Mod_areOfOne : MOk M_Mod_areOfOne 4 := ⟨Tb_at 133 (by decide +kernel) rfl, Tb_at 1605 (by decide +kernel) rfl, by decide +kernel, by decide +kernel, by decide +kernel⟩
theorem Ks_Mod_areOfOne : Cond.static yX12_areOfOne ∈ Tb := Tb_at 1604 (by decide +kernel) rfl
/-! ===== BatchShareModel.doesHold([II[II)Z ===== -/
abbrev M_Mod_doesHold : AMt := (yX12_doesHold, cX12_doesHold, 6, (some .boolean))
def T_Mod_doesHold : List (Nat × Instr × Nat) := [(0, .aload_n 0, 1), (1, .iload_n 1, 1), (2, .aload_n 2, 1), (3, .iload_n 3, 1), (4, .invokestatic 313, 3), (7, .istore 4, 2), (9, .iconst 0, 1), (10, .istore 5, 2), (12, .iload 5, 2), (14, .iconst 5, 1), (15, .if_icmp .ge 67, 3), (18, .iload 4, 2), (20, .ifCond .eq 62, 3), (23, .aload_n 0, 1), (24, .iload_n 1, 1), (25, .iconst 3, 1), (26, .iadd, 1), (27, .iconst 2, 1), (28, .iload 5, 2), (30, .imul, 1), (31, .iadd, 1), (32, .iaload, 1), (33, .aload_n 2, 1), (34, .iload_n 3, 1), (35, .iconst 3, 1), (36, .iadd, 1), (37, .iconst 2, 1), (38, .iload 5, 2), (40, .imul, 1), (41, .iadd, 1), (42, .iaload, 1), (43, .if_icmp .gt 30, 3), (46, .aload_n 0, 1), (47, .iload_n 1, 1), (48, .iconst 4, 1), (49, .iadd, 1), (50, .iconst 2, 1), (51, .iload 5, 2), (53, .imul, 1), (54, .iadd, 1), (55, .iaload, 1), (56, .aload_n 2, 1), (57, .iload_n 3, 1), (58, .iconst 4, 1), (59, .iadd, 1), (60, .iconst 2, 1), (61, .iload 5, 2), (63, .imul, 1), (64, .iadd, 1), (65, .iaload, 1), (66, .if_icmp .lt 7, 3), (69, .iconst 1, 1), (70, .goto 4, 3), (73, .iconst 0, 1), (74, .istore 4, 2), (76, .iinc 5 1, 3), (79, .goto (-67), 3), (82, .iload 4, 2), (84, .ireturn, 1)]
set_option maxRecDepth 20000 in
theorem D_Mod_doesHold : (T_Mod_doesHold.all fun q => decide (decode M_Mod_doesHold.2.1 q.1 = .ok q.2)) = true := by decide +kernel
def Mod_doesHold_L12 : Nat → Nat → Int → Nat → Int → Int → Int → AH → Option (Int × AH)
  | 0, _, _, _, _, _, _, _ => none
  | n + 1, v0, v1, v2, v3, v4, v5, h => if (5 : Int) ≤ v5 then (rz v4 h) else (if (v4 : Int) = 0 then (rz v4 h) else (aI h 21 v0 (wr ((wr (v1 + 3)) + (wr (2 * v5)))) fun x1 => aI h 21 v2 (wr ((wr (v3 + 3)) + (wr (2 * v5)))) fun x2 => if (x2 : Int) < x1 then (Mod_doesHold_L12 n v0 v1 v2 v3 0 ((wr (v5 + 1))) h) else (aI h 21 v0 (wr ((wr (v1 + 4)) + (wr (2 * v5)))) fun x3 => aI h 21 v2 (wr ((wr (v3 + 4)) + (wr (2 * v5)))) fun x4 => if (x3 : Int) < x4 then (Mod_doesHold_L12 n v0 v1 v2 v3 0 ((wr (v5 + 1))) h) else (Mod_doesHold_L12 n v0 v1 v2 v3 1 ((wr (v5 + 1))) h))))
set_option maxHeartbeats 4000000 in
set_option maxRecDepth 20000 in
theorem s_Mod_doesHold_L12 : ∀ (n : Nat) (v0 : Nat) (v1 : Int) (v2 : Nat) (v3 : Int) (v4 : Int) (v5 : Int) (h : AH), Sd M_Mod_doesHold 2 23 emI 12 [(0, vr v0), (1, vi v1), (2, vr v2), (3, vi v3), (4, vi v4), (5, vi v5)] [] h (Mod_doesHold_L12 n v0 v1 v2 v3 v4 v5 h)
  | 0, _, _, _, _, _, _, _ => Sd.none
  | n + 1, v0, v1, v2, v3, v4, v5, h => by
    rw [Mod_doesHold_L12]
    refine Sd_iload (pc' := 14) (dc D_Mod_doesHold 8 rfl) rfl 5 rfl ?_
    refine Sd_iconst (pc' := 15) (dc D_Mod_doesHold 9 rfl) rfl ⟨by decide, by decide⟩ ?_
    refine Sd_icmp_ge (tgt := 82) (pc' := 18) (dc D_Mod_doesHold 10 rfl) (by decide) rfl (fun _ => ?_) (fun _ => ?_)
    · refine Sd_iload (pc' := 84) (dc D_Mod_doesHold 57 rfl) rfl 4 rfl ?_
      exact Sd_zret' (dc D_Mod_doesHold 58 rfl) rfl
    · refine Sd_iload (pc' := 20) (dc D_Mod_doesHold 11 rfl) rfl 4 rfl ?_
      refine Sd_if_eq (tgt := 82) (pc' := 23) (dc D_Mod_doesHold 12 rfl) (by decide) rfl (fun _ => ?_) (fun _ => ?_)
      · refine Sd_iload (pc' := 84) (dc D_Mod_doesHold 57 rfl) rfl 4 rfl ?_
        exact Sd_zret' (dc D_Mod_doesHold 58 rfl) rfl
      · refine Sd_aload_n (pc' := 24) (dc D_Mod_doesHold 13 rfl) rfl 0 rfl rfl ?_
        refine Sd_iload_n (pc' := 25) (dc D_Mod_doesHold 14 rfl) rfl 1 rfl rfl ?_
        refine Sd_iconst (pc' := 26) (dc D_Mod_doesHold 15 rfl) rfl ⟨by decide, by decide⟩ ?_
        refine Sd_iadd (pc' := 27) (dc D_Mod_doesHold 16 rfl) rfl ?_
        refine Sd_iconst (pc' := 28) (dc D_Mod_doesHold 17 rfl) rfl ⟨by decide, by decide⟩ ?_
        refine Sd_iload (pc' := 30) (dc D_Mod_doesHold 18 rfl) rfl 5 rfl ?_
        refine Sd_imul (pc' := 31) (dc D_Mod_doesHold 19 rfl) rfl ?_
        refine Sd_iadd (pc' := 32) (dc D_Mod_doesHold 20 rfl) rfl ?_
        refine Sd_iaload (pc' := 33) (dc D_Mod_doesHold 21 rfl) rfl ?_
        refine Sd_aload_n (pc' := 34) (dc D_Mod_doesHold 22 rfl) rfl 2 rfl rfl ?_
        refine Sd_iload_n (pc' := 35) (dc D_Mod_doesHold 23 rfl) rfl 3 rfl rfl ?_
        refine Sd_iconst (pc' := 36) (dc D_Mod_doesHold 24 rfl) rfl ⟨by decide, by decide⟩ ?_
        refine Sd_iadd (pc' := 37) (dc D_Mod_doesHold 25 rfl) rfl ?_
        refine Sd_iconst (pc' := 38) (dc D_Mod_doesHold 26 rfl) rfl ⟨by decide, by decide⟩ ?_
        refine Sd_iload (pc' := 40) (dc D_Mod_doesHold 27 rfl) rfl 5 rfl ?_
        refine Sd_imul (pc' := 41) (dc D_Mod_doesHold 28 rfl) rfl ?_
        refine Sd_iadd (pc' := 42) (dc D_Mod_doesHold 29 rfl) rfl ?_
        refine Sd_iaload (pc' := 43) (dc D_Mod_doesHold 30 rfl) rfl ?_
        refine Sd_icmp_gt (tgt := 73) (pc' := 46) (dc D_Mod_doesHold 31 rfl) (by decide) rfl (fun _ => ?_) (fun _ => ?_)
        · refine Sd_iconst (pc' := 74) (dc D_Mod_doesHold 53 rfl) rfl ⟨by decide, by decide⟩ ?_
          refine Sd_istore (pc' := 76) (l' := [(4, _), (0, _), (1, _), (2, _), (3, _), (5, _)]) (dc D_Mod_doesHold 54 rfl) rfl (by decide) rfl ?_
          refine Sd_iinc (pc' := 79) (l' := [(5, _), (4, _), (0, _), (1, _), (2, _), (3, _)]) (dc D_Mod_doesHold 55 rfl) rfl 5 rfl (by decide) rfl ?_
          refine Sd_goto (tgt := 12) (dc D_Mod_doesHold 56 rfl) (by decide) ?_
          refine Sd.sub (l' := [(0, _), (1, _), (2, _), (3, _), (4, _), (5, _)]) [2, 3, 4, 5, 1, 0] rfl ?_
          exact s_Mod_doesHold_L12 n _ _ _ _ _ _ _
        · refine Sd_aload_n (pc' := 47) (dc D_Mod_doesHold 32 rfl) rfl 0 rfl rfl ?_
          refine Sd_iload_n (pc' := 48) (dc D_Mod_doesHold 33 rfl) rfl 1 rfl rfl ?_
          refine Sd_iconst (pc' := 49) (dc D_Mod_doesHold 34 rfl) rfl ⟨by decide, by decide⟩ ?_
          refine Sd_iadd (pc' := 50) (dc D_Mod_doesHold 35 rfl) rfl ?_
          refine Sd_iconst (pc' := 51) (dc D_Mod_doesHold 36 rfl) rfl ⟨by decide, by decide⟩ ?_
          refine Sd_iload (pc' := 53) (dc D_Mod_doesHold 37 rfl) rfl 5 rfl ?_
          refine Sd_imul (pc' := 54) (dc D_Mod_doesHold 38 rfl) rfl ?_
          refine Sd_iadd (pc' := 55) (dc D_Mod_doesHold 39 rfl) rfl ?_
          refine Sd_iaload (pc' := 56) (dc D_Mod_doesHold 40 rfl) rfl ?_
          refine Sd_aload_n (pc' := 57) (dc D_Mod_doesHold 41 rfl) rfl 2 rfl rfl ?_
          refine Sd_iload_n (pc' := 58) (dc D_Mod_doesHold 42 rfl) rfl 3 rfl rfl ?_
          refine Sd_iconst (pc' := 59) (dc D_Mod_doesHold 43 rfl) rfl ⟨by decide, by decide⟩ ?_
          refine Sd_iadd (pc' := 60) (dc D_Mod_doesHold 44 rfl) rfl ?_
          refine Sd_iconst (pc' := 61) (dc D_Mod_doesHold 45 rfl) rfl ⟨by decide, by decide⟩ ?_
          refine Sd_iload (pc' := 63) (dc D_Mod_doesHold 46 rfl) rfl 5 rfl ?_
          refine Sd_imul (pc' := 64) (dc D_Mod_doesHold 47 rfl) rfl ?_
          refine Sd_iadd (pc' := 65) (dc D_Mod_doesHold 48 rfl) rfl ?_
          refine Sd_iaload (pc' := 66) (dc D_Mod_doesHold 49 rfl) rfl ?_
          refine Sd_icmp_lt (tgt := 73) (pc' := 69) (dc D_Mod_doesHold 50 rfl) (by decide) rfl (fun _ => ?_) (fun _ => ?_)
          · refine Sd_iconst (pc' := 74) (dc D_Mod_doesHold 53 rfl) rfl ⟨by decide, by decide⟩ ?_
            refine Sd_istore (pc' := 76) (l' := [(4, _), (0, _), (1, _), (2, _), (3, _), (5, _)]) (dc D_Mod_doesHold 54 rfl) rfl (by decide) rfl ?_
            refine Sd_iinc (pc' := 79) (l' := [(5, _), (4, _), (0, _), (1, _), (2, _), (3, _)]) (dc D_Mod_doesHold 55 rfl) rfl 5 rfl (by decide) rfl ?_
            refine Sd_goto (tgt := 12) (dc D_Mod_doesHold 56 rfl) (by decide) ?_
            refine Sd.sub (l' := [(0, _), (1, _), (2, _), (3, _), (4, _), (5, _)]) [2, 3, 4, 5, 1, 0] rfl ?_
            exact s_Mod_doesHold_L12 n _ _ _ _ _ _ _
          · refine Sd_iconst (pc' := 70) (dc D_Mod_doesHold 51 rfl) rfl ⟨by decide, by decide⟩ ?_
            refine Sd_goto (tgt := 74) (dc D_Mod_doesHold 52 rfl) (by decide) ?_
            refine Sd_istore (pc' := 76) (l' := [(4, _), (0, _), (1, _), (2, _), (3, _), (5, _)]) (dc D_Mod_doesHold 54 rfl) rfl (by decide) rfl ?_
            refine Sd_iinc (pc' := 79) (l' := [(5, _), (4, _), (0, _), (1, _), (2, _), (3, _)]) (dc D_Mod_doesHold 55 rfl) rfl 5 rfl (by decide) rfl ?_
            refine Sd_goto (tgt := 12) (dc D_Mod_doesHold 56 rfl) (by decide) ?_
            refine Sd.sub (l' := [(0, _), (1, _), (2, _), (3, _), (4, _), (5, _)]) [2, 3, 4, 5, 1, 0] rfl ?_
            exact s_Mod_doesHold_L12 n _ _ _ _ _ _ _
def Mod_doesHold (v0 : Nat) (v1 : Int) (v2 : Nat) (v3 : Int) (h : AH) : Option (Int × AH) := bnd (Mod_areOfOne v0 v1 v2 v3 h) fun x2 h1 => Mod_doesHold_L12 FU v0 v1 v2 v3 x2 0 h1
set_option maxHeartbeats 4000000 in
set_option maxRecDepth 20000 in
theorem s_Mod_doesHold (v0 : Nat) (v1 : Int) (v2 : Nat) (v3 : Int) (h : AH) : CS M_Mod_doesHold 2 23 emI [vr v0, vi v1, vr v2, vi v3] h (Mod_doesHold v0 v1 v2 v3 h) := by
  refine CS.of (by decide) (Nat.le_of_ble_eq_true rfl) ?_
  show Sd M_Mod_doesHold 2 23 emI 0 [(0, vr v0), (1, vi v1), (2, vr v2), (3, vi v3)] [] h _
  unfold Mod_doesHold
  refine Sd_aload_n (pc' := 1) (dc D_Mod_doesHold 0 rfl) rfl 0 rfl rfl ?_
  refine Sd_iload_n (pc' := 2) (dc D_Mod_doesHold 1 rfl) rfl 1 rfl rfl ?_
  refine Sd_aload_n (pc' := 3) (dc D_Mod_doesHold 2 rfl) rfl 2 rfl rfl ?_
  refine Sd_iload_n (pc' := 4) (dc D_Mod_doesHold 3 rfl) rfl 3 rfl rfl ?_
  refine Sd.callSI (as := [_, _, _, _]) (pc' := 7) (dc D_Mod_doesHold 4 rfl) rfl K_Mod_areOfOne L_Mod_313 Ks_Mod_areOfOne ⟨by decide, by decide⟩ rfl rfl (Nat.le_of_ble_eq_true rfl) (s_Mod_areOfOne _ _ _ _ _) (fun x2 h1 => ?_)
  refine Sd_istore (pc' := 9) (l' := [(4, _), (0, _), (1, _), (2, _), (3, _)]) (dc D_Mod_doesHold 5 rfl) rfl (by decide) rfl ?_
  refine Sd_iconst (pc' := 10) (dc D_Mod_doesHold 6 rfl) rfl ⟨by decide, by decide⟩ ?_
  refine Sd_istore (pc' := 12) (l' := [(5, _), (4, _), (0, _), (1, _), (2, _), (3, _)]) (dc D_Mod_doesHold 7 rfl) rfl (by decide) rfl ?_
  refine Sd.sub (l' := [(0, _), (1, _), (2, _), (3, _), (4, _), (5, _)]) [2, 3, 4, 5, 1, 0] rfl ?_
  exact s_Mod_doesHold_L12 FU _ _ _ _ _ _ _
theorem K_Mod_doesHold : MOk M_Mod_doesHold 4 := ⟨Tb_at 133 (by decide +kernel) rfl, Tb_at 1656 (by decide +kernel) rfl, by decide +kernel, by decide +kernel, by decide +kernel⟩
theorem Ks_Mod_doesHold : Cond.static yX12_doesHold ∈ Tb := Tb_at 1655 (by decide +kernel) rfl
/-! ===== BatchShareModel.bestFor(II)I ===== -/
abbrev M_Mod_bestFor : AMt := (yX12_bestFor, cX12_bestFor, 6, (some .int))
def T_Mod_bestFor : List (Nat × Instr × Nat) := [(0, .aload_n 0, 1), (1, .iload_n 1, 1), (2, .iload_n 2, 1), (3, .invokevirtual 300, 3), (6, .iconst (-1), 1), (7, .istore_n 3, 1), (8, .iconst 0, 1), (9, .istore 4, 2), (11, .iload 4, 2), (13, .aload_n 0, 1), (14, .getfield 343, 3), (17, .if_icmp .ge 93, 3), (20, .aload_n 0, 1), (21, .getfield 68, 3), (24, .bipush 16, 2), (26, .iload 4, 2), (28, .imul, 1), (29, .bipush 15, 2), (31, .iadd, 1), (32, .iaload, 1), (33, .ifCond .ne 27, 3), (36, .aload_n 0, 1), (37, .getfield 68, 3), (40, .bipush 16, 2), (42, .iload 4, 2), (44, .imul, 1), (45, .aload_n 0, 1), (46, .getfield 53, 3), (49, .iconst 0, 1), (50, .invokestatic 350, 3), (53, .ifCond .eq 7, 3), (56, .iconst 1, 1), (57, .goto 4, 3), (60, .iconst 0, 1), (61, .istore 5, 2), (63, .iload 5, 2), (65, .ifCond .eq 39, 3), (68, .iload_n 3, 1), (69, .iconst (-1), 1), (70, .if_icmp .eq 31, 3), (73, .aload_n 0, 1), (74, .getfield 68, 3), (77, .bipush 16, 2), (79, .iload 4, 2), (81, .imul, 1), (82, .bipush 13, 2), (84, .iadd, 1), (85, .iaload, 1), (86, .aload_n 0, 1), (87, .getfield 68, 3), (90, .bipush 16, 2), (92, .iload_n 3, 1), (93, .imul, 1), (94, .bipush 13, 2), (96, .iadd, 1), (97, .iaload, 1), (98, .if_icmp .ge 6, 3), (101, .iload 4, 2), (103, .istore_n 3, 1), (104, .iinc 4 1, 3), (107, .goto (-96), 3), (110, .iload_n 3, 1), (111, .ireturn, 1)]
set_option maxRecDepth 20000 in
theorem D_Mod_bestFor : (T_Mod_bestFor.all fun q => decide (decode M_Mod_bestFor.2.1 q.1 = .ok q.2)) = true := by decide +kernel
def Mod_bestFor_L61 (k11 : Nat → Int → Int → AH → Option (Int × AH)) (v0 : Nat) (v3 : Int) (v4 : Int) (s0 : Int) (h : AH) : Option (Int × AH) := if (s0 : Int) = 0 then (k11 v0 v3 ((wr (v4 + 1))) h) else (if (v3 : Int) = (-1) then (k11 v0 v4 ((wr (v4 + 1))) h) else (gR h 13 v0 33 fun r1 => aI h 21 r1 (wr ((wr (16 * v4)) + 13)) fun x2 => gR h 13 v0 33 fun r3 => aI h 21 r3 (wr ((wr (16 * v3)) + 13)) fun x4 => if (x4 : Int) ≤ x2 then (k11 v0 v3 ((wr (v4 + 1))) h) else (k11 v0 v4 ((wr (v4 + 1))) h)))
set_option maxHeartbeats 4000000 in
set_option maxRecDepth 20000 in
theorem s_Mod_bestFor_L61 (k11 : Nat → Int → Int → AH → Option (Int × AH)) (hk11 : ∀ v0 v3 v4 h, Sd M_Mod_bestFor 3 48 emI 11 [(0, vr v0), (3, vi v3), (4, vi v4)] [] h (k11 v0 v3 v4 h)) (v0 : Nat) (v3 : Int) (v4 : Int) (s0 : Int) (h : AH) : Sd M_Mod_bestFor 3 48 emI 61 [(0, vr v0), (3, vi v3), (4, vi v4)] [vi s0] h (Mod_bestFor_L61 k11 v0 v3 v4 s0 h) := by
  unfold Mod_bestFor_L61
  refine Sd_istore (pc' := 63) (l' := [(5, _), (0, _), (3, _), (4, _)]) (dc D_Mod_bestFor 34 rfl) rfl (by decide) rfl ?_
  refine Sd_iload (pc' := 65) (dc D_Mod_bestFor 35 rfl) rfl 0 rfl ?_
  refine Sd_if_eq (tgt := 104) (pc' := 68) (dc D_Mod_bestFor 36 rfl) (by decide) rfl (fun _ => ?_) (fun _ => ?_)
  · refine Sd_iinc (pc' := 107) (l' := [(4, _), (5, _), (0, _), (3, _)]) (dc D_Mod_bestFor 59 rfl) rfl 3 rfl (by decide) rfl ?_
    refine Sd_goto (tgt := 11) (dc D_Mod_bestFor 60 rfl) (by decide) ?_
    refine Sd.sub (l' := [(0, _), (3, _), (4, _)]) [2, 3, 0] rfl ?_
    exact hk11 _ _ _ _
  · refine Sd_iload_n (pc' := 69) (dc D_Mod_bestFor 37 rfl) rfl 2 rfl rfl ?_
    refine Sd_iconst (pc' := 70) (dc D_Mod_bestFor 38 rfl) rfl ⟨by decide, by decide⟩ ?_
    refine Sd_icmp_eq (tgt := 101) (pc' := 73) (dc D_Mod_bestFor 39 rfl) (by decide) rfl (fun _ => ?_) (fun _ => ?_)
    · refine Sd_iload (pc' := 103) (dc D_Mod_bestFor 57 rfl) rfl 3 rfl ?_
      refine Sd_istore_n (pc' := 104) (l' := [(3, _), (5, _), (0, _), (4, _)]) (dc D_Mod_bestFor 58 rfl) rfl rfl (by decide) rfl ?_
      refine Sd_iinc (pc' := 107) (l' := [(4, _), (3, _), (5, _), (0, _)]) (dc D_Mod_bestFor 59 rfl) rfl 3 rfl (by decide) rfl ?_
      refine Sd_goto (tgt := 11) (dc D_Mod_bestFor 60 rfl) (by decide) ?_
      refine Sd.sub (l' := [(0, _), (3, _), (4, _)]) [3, 1, 0] rfl ?_
      exact hk11 _ _ _ _
    · refine Sd_aload_n (pc' := 74) (dc D_Mod_bestFor 40 rfl) rfl 1 rfl rfl ?_
      refine Sd_getR (pc' := 77) (dc D_Mod_bestFor 41 rfl) rfl F_Mod_68 rfl rfl ?_
      refine Sd_bipush (pc' := 79) (dc D_Mod_bestFor 42 rfl) rfl ⟨by decide, by decide⟩ (by decide) ?_
      refine Sd_iload (pc' := 81) (dc D_Mod_bestFor 43 rfl) rfl 3 rfl ?_
      refine Sd_imul (pc' := 82) (dc D_Mod_bestFor 44 rfl) rfl ?_
      refine Sd_bipush (pc' := 84) (dc D_Mod_bestFor 45 rfl) rfl ⟨by decide, by decide⟩ (by decide) ?_
      refine Sd_iadd (pc' := 85) (dc D_Mod_bestFor 46 rfl) rfl ?_
      refine Sd_iaload (pc' := 86) (dc D_Mod_bestFor 47 rfl) rfl ?_
      refine Sd_aload_n (pc' := 87) (dc D_Mod_bestFor 48 rfl) rfl 1 rfl rfl ?_
      refine Sd_getR (pc' := 90) (dc D_Mod_bestFor 49 rfl) rfl F_Mod_68 rfl rfl ?_
      refine Sd_bipush (pc' := 92) (dc D_Mod_bestFor 50 rfl) rfl ⟨by decide, by decide⟩ (by decide) ?_
      refine Sd_iload_n (pc' := 93) (dc D_Mod_bestFor 51 rfl) rfl 2 rfl rfl ?_
      refine Sd_imul (pc' := 94) (dc D_Mod_bestFor 52 rfl) rfl ?_
      refine Sd_bipush (pc' := 96) (dc D_Mod_bestFor 53 rfl) rfl ⟨by decide, by decide⟩ (by decide) ?_
      refine Sd_iadd (pc' := 97) (dc D_Mod_bestFor 54 rfl) rfl ?_
      refine Sd_iaload (pc' := 98) (dc D_Mod_bestFor 55 rfl) rfl ?_
      refine Sd_icmp_ge (tgt := 104) (pc' := 101) (dc D_Mod_bestFor 56 rfl) (by decide) rfl (fun _ => ?_) (fun _ => ?_)
      · refine Sd_iinc (pc' := 107) (l' := [(4, _), (5, _), (0, _), (3, _)]) (dc D_Mod_bestFor 59 rfl) rfl 3 rfl (by decide) rfl ?_
        refine Sd_goto (tgt := 11) (dc D_Mod_bestFor 60 rfl) (by decide) ?_
        refine Sd.sub (l' := [(0, _), (3, _), (4, _)]) [2, 3, 0] rfl ?_
        exact hk11 _ _ _ _
      · refine Sd_iload (pc' := 103) (dc D_Mod_bestFor 57 rfl) rfl 3 rfl ?_
        refine Sd_istore_n (pc' := 104) (l' := [(3, _), (5, _), (0, _), (4, _)]) (dc D_Mod_bestFor 58 rfl) rfl rfl (by decide) rfl ?_
        refine Sd_iinc (pc' := 107) (l' := [(4, _), (3, _), (5, _), (0, _)]) (dc D_Mod_bestFor 59 rfl) rfl 3 rfl (by decide) rfl ?_
        refine Sd_goto (tgt := 11) (dc D_Mod_bestFor 60 rfl) (by decide) ?_
        refine Sd.sub (l' := [(0, _), (3, _), (4, _)]) [3, 1, 0] rfl ?_
        exact hk11 _ _ _ _
def Mod_bestFor_L11 : Nat → Nat → Int → Int → AH → Option (Int × AH)
  | 0, _, _, _, _ => none
  | n + 1, v0, v3, v4, h => gI h 13 v0 34 fun x1 => if (x1 : Int) ≤ v4 then (some (v3, h)) else (gR h 13 v0 33 fun r2 => aI h 21 r2 (wr ((wr (16 * v4)) + 15)) fun x3 => if ¬ (x3 : Int) = 0 then (Mod_bestFor_L61 (Mod_bestFor_L11 n) v0 v3 v4 0 h) else (gR h 13 v0 33 fun r4 => gR h 13 v0 26 fun r5 => bnd (Mod_doesHold r4 (wr (16 * v4)) r5 0 h) fun x7 h6 => if (x7 : Int) = 0 then (Mod_bestFor_L61 (Mod_bestFor_L11 n) v0 v3 v4 0 h6) else (Mod_bestFor_L61 (Mod_bestFor_L11 n) v0 v3 v4 1 h6)))
set_option maxHeartbeats 4000000 in
set_option maxRecDepth 20000 in
theorem s_Mod_bestFor_L11 : ∀ (n : Nat) (v0 : Nat) (v3 : Int) (v4 : Int) (h : AH), Sd M_Mod_bestFor 3 48 emI 11 [(0, vr v0), (3, vi v3), (4, vi v4)] [] h (Mod_bestFor_L11 n v0 v3 v4 h)
  | 0, _, _, _, _ => Sd.none
  | n + 1, v0, v3, v4, h => by
    rw [Mod_bestFor_L11]
    refine Sd_iload (pc' := 13) (dc D_Mod_bestFor 8 rfl) rfl 2 rfl ?_
    refine Sd_aload_n (pc' := 14) (dc D_Mod_bestFor 9 rfl) rfl 0 rfl rfl ?_
    refine Sd_getI (pc' := 17) (dc D_Mod_bestFor 10 rfl) rfl F_Mod_343 rfl rfl ?_
    refine Sd_icmp_ge (tgt := 110) (pc' := 20) (dc D_Mod_bestFor 11 rfl) (by decide) rfl (fun _ => ?_) (fun _ => ?_)
    · refine Sd_iload_n (pc' := 111) (dc D_Mod_bestFor 61 rfl) rfl 1 rfl rfl ?_
      exact Sd_iret (dc D_Mod_bestFor 62 rfl) rfl
    · refine Sd_aload_n (pc' := 21) (dc D_Mod_bestFor 12 rfl) rfl 0 rfl rfl ?_
      refine Sd_getR (pc' := 24) (dc D_Mod_bestFor 13 rfl) rfl F_Mod_68 rfl rfl ?_
      refine Sd_bipush (pc' := 26) (dc D_Mod_bestFor 14 rfl) rfl ⟨by decide, by decide⟩ (by decide) ?_
      refine Sd_iload (pc' := 28) (dc D_Mod_bestFor 15 rfl) rfl 2 rfl ?_
      refine Sd_imul (pc' := 29) (dc D_Mod_bestFor 16 rfl) rfl ?_
      refine Sd_bipush (pc' := 31) (dc D_Mod_bestFor 17 rfl) rfl ⟨by decide, by decide⟩ (by decide) ?_
      refine Sd_iadd (pc' := 32) (dc D_Mod_bestFor 18 rfl) rfl ?_
      refine Sd_iaload (pc' := 33) (dc D_Mod_bestFor 19 rfl) rfl ?_
      refine Sd_if_ne (tgt := 60) (pc' := 36) (dc D_Mod_bestFor 20 rfl) (by decide) rfl (fun _ => ?_) (fun _ => ?_)
      · refine Sd_iconst (pc' := 61) (dc D_Mod_bestFor 33 rfl) rfl ⟨by decide, by decide⟩ ?_
        exact s_Mod_bestFor_L61 (Mod_bestFor_L11 n) (s_Mod_bestFor_L11 n) _ _ _ _ _
      · refine Sd_aload_n (pc' := 37) (dc D_Mod_bestFor 21 rfl) rfl 0 rfl rfl ?_
        refine Sd_getR (pc' := 40) (dc D_Mod_bestFor 22 rfl) rfl F_Mod_68 rfl rfl ?_
        refine Sd_bipush (pc' := 42) (dc D_Mod_bestFor 23 rfl) rfl ⟨by decide, by decide⟩ (by decide) ?_
        refine Sd_iload (pc' := 44) (dc D_Mod_bestFor 24 rfl) rfl 2 rfl ?_
        refine Sd_imul (pc' := 45) (dc D_Mod_bestFor 25 rfl) rfl ?_
        refine Sd_aload_n (pc' := 46) (dc D_Mod_bestFor 26 rfl) rfl 0 rfl rfl ?_
        refine Sd_getR (pc' := 49) (dc D_Mod_bestFor 27 rfl) rfl F_Mod_53 rfl rfl ?_
        refine Sd_iconst (pc' := 50) (dc D_Mod_bestFor 28 rfl) rfl ⟨by decide, by decide⟩ ?_
        refine Sd.callSI (as := [_, _, _, _]) (pc' := 53) (dc D_Mod_bestFor 29 rfl) rfl K_Mod_doesHold L_Mod_350 Ks_Mod_doesHold ⟨by decide, by decide⟩ rfl rfl (Nat.le_of_ble_eq_true rfl) (s_Mod_doesHold _ _ _ _ _) (fun x7 h6 => ?_)
        refine Sd_if_eq (tgt := 60) (pc' := 56) (dc D_Mod_bestFor 30 rfl) (by decide) rfl (fun _ => ?_) (fun _ => ?_)
        · refine Sd_iconst (pc' := 61) (dc D_Mod_bestFor 33 rfl) rfl ⟨by decide, by decide⟩ ?_
          exact s_Mod_bestFor_L61 (Mod_bestFor_L11 n) (s_Mod_bestFor_L11 n) _ _ _ _ _
        · refine Sd_iconst (pc' := 57) (dc D_Mod_bestFor 31 rfl) rfl ⟨by decide, by decide⟩ ?_
          refine Sd_goto (tgt := 61) (dc D_Mod_bestFor 32 rfl) (by decide) ?_
          exact s_Mod_bestFor_L61 (Mod_bestFor_L11 n) (s_Mod_bestFor_L11 n) _ _ _ _ _
def Mod_bestFor (v0 : Nat) (v1 : Int) (v2 : Int) (h : AH) : Option (Int × AH) := rc h 13 v0 <| bnd (Mod_laysPart v0 v1 v2 h) fun _ h1 => Mod_bestFor_L11 FU v0 (-1) 0 h1
set_option maxHeartbeats 4000000 in
set_option maxRecDepth 20000 in
theorem s_Mod_bestFor (v0 : Nat) (v1 : Int) (v2 : Int) (h : AH) : CS M_Mod_bestFor 3 48 emI [vr v0, vi v1, vi v2] h (Mod_bestFor v0 v1 v2 h) := by
  refine CS.of (by decide) (Nat.le_of_ble_eq_true rfl) ?_
  show Sd M_Mod_bestFor 3 48 emI 0 [(0, vr v0), (1, vi v1), (2, vi v2)] [] h _
  unfold Mod_bestFor
  refine Sd_aload_n (pc' := 1) (dc D_Mod_bestFor 0 rfl) rfl 0 rfl rfl ?_
  refine Sd_iload_n (pc' := 2) (dc D_Mod_bestFor 1 rfl) rfl 1 rfl rfl ?_
  refine Sd_iload_n (pc' := 3) (dc D_Mod_bestFor 2 rfl) rfl 2 rfl rfl ?_
  refine Sd.callVV (ci := 12) (t := 13) (as := [_, _]) RX12 (pc' := 6) (dc D_Mod_bestFor 3 rfl) rfl rfl rfl rfl K_Mod_laysPart L_Mod_300 Ks_Mod_laysPart Kv_Mod_laysPart ⟨by decide, by decide⟩ rfl rfl (Nat.le_of_ble_eq_true rfl) (s_Mod_laysPart _ _ _ _) (fun _ h1 => ?_)
  refine Sd_iconst (pc' := 7) (dc D_Mod_bestFor 4 rfl) rfl ⟨by decide, by decide⟩ ?_
  refine Sd_istore_n (pc' := 8) (l' := [(3, _), (0, _), (1, _), (2, _)]) (dc D_Mod_bestFor 5 rfl) rfl rfl (by decide) rfl ?_
  refine Sd_iconst (pc' := 9) (dc D_Mod_bestFor 6 rfl) rfl ⟨by decide, by decide⟩ ?_
  refine Sd_istore (pc' := 11) (l' := [(4, _), (3, _), (0, _), (1, _), (2, _)]) (dc D_Mod_bestFor 7 rfl) rfl (by decide) rfl ?_
  refine Sd.sub (l' := [(0, _), (3, _), (4, _)]) [2, 1, 0] rfl ?_
  exact s_Mod_bestFor_L11 FU _ _ _ _
theorem K_Mod_bestFor : MOk M_Mod_bestFor 2 := ⟨Tb_at 133 (by decide +kernel) rfl, Tb_at 1653 (by decide +kernel) rfl, by decide +kernel, by decide +kernel, by decide +kernel⟩
theorem Ks_Mod_bestFor : Cond.instanceMethod yX12_bestFor ∈ Tb := Tb_at 1652 (by decide +kernel) rfl
theorem Kv_Mod_bestFor : Cond.selects RX12 yX12_bestFor yX12_bestFor ∈ Tb := Tb_at 86 (by decide +kernel) rfl
/-! ===== BatchShareModel.serverOf(II)I ===== -/
abbrev M_Mod_serverOf : AMt := (yX12_serverOf, cX12_serverOf, 4, (some .int))
def T_Mod_serverOf : List (Nat × Instr × Nat) := [(0, .aload_n 0, 1), (1, .iload_n 1, 1), (2, .iload_n 2, 1), (3, .invokevirtual 353, 3), (6, .istore_n 3, 1), (7, .iload_n 3, 1), (8, .iconst (-1), 1), (9, .if_icmp .eq 32, 3), (12, .aload_n 0, 1), (13, .getfield 68, 3), (16, .bipush 16, 2), (18, .iload_n 3, 1), (19, .imul, 1), (20, .bipush 13, 2), (22, .iadd, 1), (23, .iaload, 1), (24, .aload_n 0, 1), (25, .getfield 59, 3), (28, .iconst 3, 1), (29, .iload_n 1, 1), (30, .imul, 1), (31, .iload_n 2, 1), (32, .iadd, 1), (33, .iaload, 1), (34, .if_icmp .ge 7, 3), (37, .iload_n 3, 1), (38, .goto 4, 3), (41, .iconst (-1), 1), (42, .ireturn, 1)]
set_option maxRecDepth 20000 in
theorem D_Mod_serverOf : (T_Mod_serverOf.all fun q => decide (decode M_Mod_serverOf.2.1 q.1 = .ok q.2)) = true := by decide +kernel
def Mod_serverOf (v0 : Nat) (v1 : Int) (v2 : Int) (h : AH) : Option (Int × AH) := rc h 13 v0 <| bnd (Mod_bestFor v0 v1 v2 h) fun x2 h1 => if (x2 : Int) = (-1) then (some ((-1), h1)) else (gR h1 13 v0 33 fun r4 => aI h1 21 r4 (wr ((wr (16 * x2)) + 13)) fun x5 => gR h1 13 v0 28 fun r6 => aI h1 21 r6 (wr ((wr (3 * v1)) + v2)) fun x7 => if (x7 : Int) ≤ x5 then (some ((-1), h1)) else (some (x2, h1)))
set_option maxHeartbeats 4000000 in
set_option maxRecDepth 20000 in
theorem s_Mod_serverOf (v0 : Nat) (v1 : Int) (v2 : Int) (h : AH) : CS M_Mod_serverOf 4 73 emI [vr v0, vi v1, vi v2] h (Mod_serverOf v0 v1 v2 h) := by
  refine CS.of (by decide) (Nat.le_of_ble_eq_true rfl) ?_
  show Sd M_Mod_serverOf 4 73 emI 0 [(0, vr v0), (1, vi v1), (2, vi v2)] [] h _
  unfold Mod_serverOf
  refine Sd_aload_n (pc' := 1) (dc D_Mod_serverOf 0 rfl) rfl 0 rfl rfl ?_
  refine Sd_iload_n (pc' := 2) (dc D_Mod_serverOf 1 rfl) rfl 1 rfl rfl ?_
  refine Sd_iload_n (pc' := 3) (dc D_Mod_serverOf 2 rfl) rfl 2 rfl rfl ?_
  refine Sd.callVI (ci := 12) (t := 13) (as := [_, _]) RX12 (pc' := 6) (dc D_Mod_serverOf 3 rfl) rfl rfl rfl rfl K_Mod_bestFor L_Mod_353 Ks_Mod_bestFor Kv_Mod_bestFor ⟨by decide, by decide⟩ rfl rfl (Nat.le_of_ble_eq_true rfl) (s_Mod_bestFor _ _ _ _) (fun x2 h1 => ?_)
  refine Sd_istore_n (pc' := 7) (l' := [(3, _), (0, _), (1, _), (2, _)]) (dc D_Mod_serverOf 4 rfl) rfl rfl (by decide) rfl ?_
  refine Sd_iload_n (pc' := 8) (dc D_Mod_serverOf 5 rfl) rfl 0 rfl rfl ?_
  refine Sd_iconst (pc' := 9) (dc D_Mod_serverOf 6 rfl) rfl ⟨by decide, by decide⟩ ?_
  refine Sd_icmp_eq (tgt := 41) (pc' := 12) (dc D_Mod_serverOf 7 rfl) (by decide) rfl (fun _ => ?_) (fun _ => ?_)
  · refine Sd_iconst (pc' := 42) (dc D_Mod_serverOf 27 rfl) rfl ⟨by decide, by decide⟩ ?_
    exact Sd_iret (dc D_Mod_serverOf 28 rfl) rfl
  · refine Sd_aload_n (pc' := 13) (dc D_Mod_serverOf 8 rfl) rfl 1 rfl rfl ?_
    refine Sd_getR (pc' := 16) (dc D_Mod_serverOf 9 rfl) rfl F_Mod_68 rfl rfl ?_
    refine Sd_bipush (pc' := 18) (dc D_Mod_serverOf 10 rfl) rfl ⟨by decide, by decide⟩ (by decide) ?_
    refine Sd_iload_n (pc' := 19) (dc D_Mod_serverOf 11 rfl) rfl 0 rfl rfl ?_
    refine Sd_imul (pc' := 20) (dc D_Mod_serverOf 12 rfl) rfl ?_
    refine Sd_bipush (pc' := 22) (dc D_Mod_serverOf 13 rfl) rfl ⟨by decide, by decide⟩ (by decide) ?_
    refine Sd_iadd (pc' := 23) (dc D_Mod_serverOf 14 rfl) rfl ?_
    refine Sd_iaload (pc' := 24) (dc D_Mod_serverOf 15 rfl) rfl ?_
    refine Sd_aload_n (pc' := 25) (dc D_Mod_serverOf 16 rfl) rfl 1 rfl rfl ?_
    refine Sd_getR (pc' := 28) (dc D_Mod_serverOf 17 rfl) rfl F_Mod_59 rfl rfl ?_
    refine Sd_iconst (pc' := 29) (dc D_Mod_serverOf 18 rfl) rfl ⟨by decide, by decide⟩ ?_
    refine Sd_iload_n (pc' := 30) (dc D_Mod_serverOf 19 rfl) rfl 2 rfl rfl ?_
    refine Sd_imul (pc' := 31) (dc D_Mod_serverOf 20 rfl) rfl ?_
    refine Sd_iload_n (pc' := 32) (dc D_Mod_serverOf 21 rfl) rfl 3 rfl rfl ?_
    refine Sd_iadd (pc' := 33) (dc D_Mod_serverOf 22 rfl) rfl ?_
    refine Sd_iaload (pc' := 34) (dc D_Mod_serverOf 23 rfl) rfl ?_
    refine Sd_icmp_ge (tgt := 41) (pc' := 37) (dc D_Mod_serverOf 24 rfl) (by decide) rfl (fun _ => ?_) (fun _ => ?_)
    · refine Sd_iconst (pc' := 42) (dc D_Mod_serverOf 27 rfl) rfl ⟨by decide, by decide⟩ ?_
      exact Sd_iret (dc D_Mod_serverOf 28 rfl) rfl
    · refine Sd_iload_n (pc' := 38) (dc D_Mod_serverOf 25 rfl) rfl 0 rfl rfl ?_
      refine Sd_goto (tgt := 42) (dc D_Mod_serverOf 26 rfl) (by decide) ?_
      exact Sd_iret (dc D_Mod_serverOf 28 rfl) rfl
theorem K_Mod_serverOf : MOk M_Mod_serverOf 2 := ⟨Tb_at 133 (by decide +kernel) rfl, Tb_at 1649 (by decide +kernel) rfl, by decide +kernel, by decide +kernel, by decide +kernel⟩
theorem Ks_Mod_serverOf : Cond.instanceMethod yX12_serverOf ∈ Tb := Tb_at 1648 (by decide +kernel) rfl
theorem Kv_Mod_serverOf : Cond.selects RX12 yX12_serverOf yX12_serverOf ∈ Tb := Tb_at 85 (by decide +kernel) rfl
/-! ===== BatchShareModel.costOf(II)I ===== -/
abbrev M_Mod_costOf : AMt := (yX12_costOf, cX12_costOf, 4, (some .int))
def T_Mod_costOf : List (Nat × Instr × Nat) := [(0, .aload_n 0, 1), (1, .iload_n 1, 1), (2, .iload_n 2, 1), (3, .invokevirtual 356, 3), (6, .istore_n 3, 1), (7, .iload_n 3, 1), (8, .iconst (-1), 1), (9, .if_icmp .ne 16, 3), (12, .aload_n 0, 1), (13, .getfield 59, 3), (16, .iconst 3, 1), (17, .iload_n 1, 1), (18, .imul, 1), (19, .iload_n 2, 1), (20, .iadd, 1), (21, .iaload, 1), (22, .goto 15, 3), (25, .aload_n 0, 1), (26, .getfield 68, 3), (29, .bipush 16, 2), (31, .iload_n 3, 1), (32, .imul, 1), (33, .bipush 13, 2), (35, .iadd, 1), (36, .iaload, 1), (37, .ireturn, 1)]
set_option maxRecDepth 20000 in
theorem D_Mod_costOf : (T_Mod_costOf.all fun q => decide (decode M_Mod_costOf.2.1 q.1 = .ok q.2)) = true := by decide +kernel
def Mod_costOf (v0 : Nat) (v1 : Int) (v2 : Int) (h : AH) : Option (Int × AH) := rc h 13 v0 <| bnd (Mod_serverOf v0 v1 v2 h) fun x2 h1 => if ¬ (x2 : Int) = (-1) then (gR h1 13 v0 33 fun r4 => aI h1 21 r4 (wr ((wr (16 * x2)) + 13)) fun x5 => some (x5, h1)) else (gR h1 13 v0 28 fun r6 => aI h1 21 r6 (wr ((wr (3 * v1)) + v2)) fun x7 => some (x7, h1))
set_option maxHeartbeats 4000000 in
set_option maxRecDepth 20000 in
theorem s_Mod_costOf (v0 : Nat) (v1 : Int) (v2 : Int) (h : AH) : CS M_Mod_costOf 5 96 emI [vr v0, vi v1, vi v2] h (Mod_costOf v0 v1 v2 h) := by
  refine CS.of (by decide) (Nat.le_of_ble_eq_true rfl) ?_
  show Sd M_Mod_costOf 5 96 emI 0 [(0, vr v0), (1, vi v1), (2, vi v2)] [] h _
  unfold Mod_costOf
  refine Sd_aload_n (pc' := 1) (dc D_Mod_costOf 0 rfl) rfl 0 rfl rfl ?_
  refine Sd_iload_n (pc' := 2) (dc D_Mod_costOf 1 rfl) rfl 1 rfl rfl ?_
  refine Sd_iload_n (pc' := 3) (dc D_Mod_costOf 2 rfl) rfl 2 rfl rfl ?_
  refine Sd.callVI (ci := 12) (t := 13) (as := [_, _]) RX12 (pc' := 6) (dc D_Mod_costOf 3 rfl) rfl rfl rfl rfl K_Mod_serverOf L_Mod_356 Ks_Mod_serverOf Kv_Mod_serverOf ⟨by decide, by decide⟩ rfl rfl (Nat.le_of_ble_eq_true rfl) (s_Mod_serverOf _ _ _ _) (fun x2 h1 => ?_)
  refine Sd_istore_n (pc' := 7) (l' := [(3, _), (0, _), (1, _), (2, _)]) (dc D_Mod_costOf 4 rfl) rfl rfl (by decide) rfl ?_
  refine Sd_iload_n (pc' := 8) (dc D_Mod_costOf 5 rfl) rfl 0 rfl rfl ?_
  refine Sd_iconst (pc' := 9) (dc D_Mod_costOf 6 rfl) rfl ⟨by decide, by decide⟩ ?_
  refine Sd_icmp_ne (tgt := 25) (pc' := 12) (dc D_Mod_costOf 7 rfl) (by decide) rfl (fun _ => ?_) (fun _ => ?_)
  · refine Sd_aload_n (pc' := 26) (dc D_Mod_costOf 17 rfl) rfl 1 rfl rfl ?_
    refine Sd_getR (pc' := 29) (dc D_Mod_costOf 18 rfl) rfl F_Mod_68 rfl rfl ?_
    refine Sd_bipush (pc' := 31) (dc D_Mod_costOf 19 rfl) rfl ⟨by decide, by decide⟩ (by decide) ?_
    refine Sd_iload_n (pc' := 32) (dc D_Mod_costOf 20 rfl) rfl 0 rfl rfl ?_
    refine Sd_imul (pc' := 33) (dc D_Mod_costOf 21 rfl) rfl ?_
    refine Sd_bipush (pc' := 35) (dc D_Mod_costOf 22 rfl) rfl ⟨by decide, by decide⟩ (by decide) ?_
    refine Sd_iadd (pc' := 36) (dc D_Mod_costOf 23 rfl) rfl ?_
    refine Sd_iaload (pc' := 37) (dc D_Mod_costOf 24 rfl) rfl ?_
    exact Sd_iret (dc D_Mod_costOf 25 rfl) rfl
  · refine Sd_aload_n (pc' := 13) (dc D_Mod_costOf 8 rfl) rfl 1 rfl rfl ?_
    refine Sd_getR (pc' := 16) (dc D_Mod_costOf 9 rfl) rfl F_Mod_59 rfl rfl ?_
    refine Sd_iconst (pc' := 17) (dc D_Mod_costOf 10 rfl) rfl ⟨by decide, by decide⟩ ?_
    refine Sd_iload_n (pc' := 18) (dc D_Mod_costOf 11 rfl) rfl 2 rfl rfl ?_
    refine Sd_imul (pc' := 19) (dc D_Mod_costOf 12 rfl) rfl ?_
    refine Sd_iload_n (pc' := 20) (dc D_Mod_costOf 13 rfl) rfl 3 rfl rfl ?_
    refine Sd_iadd (pc' := 21) (dc D_Mod_costOf 14 rfl) rfl ?_
    refine Sd_iaload (pc' := 22) (dc D_Mod_costOf 15 rfl) rfl ?_
    refine Sd_goto (tgt := 37) (dc D_Mod_costOf 16 rfl) (by decide) ?_
    exact Sd_iret (dc D_Mod_costOf 25 rfl) rfl
theorem K_Mod_costOf : MOk M_Mod_costOf 2 := ⟨Tb_at 133 (by decide +kernel) rfl, Tb_at 1645 (by decide +kernel) rfl, by decide +kernel, by decide +kernel, by decide +kernel⟩
theorem Ks_Mod_costOf : Cond.instanceMethod yX12_costOf ∈ Tb := Tb_at 1644 (by decide +kernel) rfl
theorem Kv_Mod_costOf : Cond.selects RX12 yX12_costOf yX12_costOf ∈ Tb := Tb_at 84 (by decide +kernel) rfl
/-! ===== BatchShareModel.apart(I)I ===== -/
abbrev M_Mod_apart : AMt := (yX12_apart, cX12_apart, 2, (some .int))
def T_Mod_apart : List (Nat × Instr × Nat) := [(0, .aload_n 0, 1), (1, .iload_n 1, 1), (2, .iconst 0, 1), (3, .invokevirtual 359, 3), (6, .aload_n 0, 1), (7, .iload_n 1, 1), (8, .iconst 1, 1), (9, .invokevirtual 359, 3), (12, .iadd, 1), (13, .aload_n 0, 1), (14, .getfield 56, 3), (17, .iconst 3, 1), (18, .iload_n 1, 1), (19, .imul, 1), (20, .iaload, 1), (21, .aload_n 0, 1), (22, .getfield 56, 3), (25, .iconst 3, 1), (26, .iload_n 1, 1), (27, .imul, 1), (28, .iconst 1, 1), (29, .iadd, 1), (30, .iaload, 1), (31, .imul, 1), (32, .iadd, 1), (33, .ireturn, 1)]
set_option maxRecDepth 20000 in
theorem D_Mod_apart : (T_Mod_apart.all fun q => decide (decode M_Mod_apart.2.1 q.1 = .ok q.2)) = true := by decide +kernel
def Mod_apart (v0 : Nat) (v1 : Int) (h : AH) : Option (Int × AH) := rc h 13 v0 <| bnd (Mod_costOf v0 v1 0 h) fun x2 h1 => rc h1 13 v0 <| bnd (Mod_costOf v0 v1 1 h1) fun x5 h4 => gR h4 13 v0 27 fun r7 => aI h4 21 r7 (wr (3 * v1)) fun x8 => gR h4 13 v0 27 fun r9 => aI h4 21 r9 (wr ((wr (3 * v1)) + 1)) fun x10 => some ((wr ((wr (x2 + x5)) + (wr (x8 * x10)))), h4)
set_option maxHeartbeats 4000000 in
set_option maxRecDepth 20000 in
theorem s_Mod_apart (v0 : Nat) (v1 : Int) (h : AH) : CS M_Mod_apart 6 119 emI [vr v0, vi v1] h (Mod_apart v0 v1 h) := by
  refine CS.of (by decide) (Nat.le_of_ble_eq_true rfl) ?_
  show Sd M_Mod_apart 6 119 emI 0 [(0, vr v0), (1, vi v1)] [] h _
  unfold Mod_apart
  refine Sd_aload_n (pc' := 1) (dc D_Mod_apart 0 rfl) rfl 0 rfl rfl ?_
  refine Sd_iload_n (pc' := 2) (dc D_Mod_apart 1 rfl) rfl 1 rfl rfl ?_
  refine Sd_iconst (pc' := 3) (dc D_Mod_apart 2 rfl) rfl ⟨by decide, by decide⟩ ?_
  refine Sd.callVI (ci := 12) (t := 13) (as := [_, _]) RX12 (pc' := 6) (dc D_Mod_apart 3 rfl) rfl rfl rfl rfl K_Mod_costOf L_Mod_359 Ks_Mod_costOf Kv_Mod_costOf ⟨by decide, by decide⟩ rfl rfl (Nat.le_of_ble_eq_true rfl) (s_Mod_costOf _ _ _ _) (fun x2 h1 => ?_)
  refine Sd_aload_n (pc' := 7) (dc D_Mod_apart 4 rfl) rfl 0 rfl rfl ?_
  refine Sd_iload_n (pc' := 8) (dc D_Mod_apart 5 rfl) rfl 1 rfl rfl ?_
  refine Sd_iconst (pc' := 9) (dc D_Mod_apart 6 rfl) rfl ⟨by decide, by decide⟩ ?_
  refine Sd.callVI (ci := 12) (t := 13) (as := [_, _]) RX12 (pc' := 12) (dc D_Mod_apart 7 rfl) rfl rfl rfl rfl K_Mod_costOf L_Mod_359 Ks_Mod_costOf Kv_Mod_costOf ⟨by decide, by decide⟩ rfl rfl (Nat.le_of_ble_eq_true rfl) (s_Mod_costOf _ _ _ _) (fun x5 h4 => ?_)
  refine Sd_iadd (pc' := 13) (dc D_Mod_apart 8 rfl) rfl ?_
  refine Sd_aload_n (pc' := 14) (dc D_Mod_apart 9 rfl) rfl 0 rfl rfl ?_
  refine Sd_getR (pc' := 17) (dc D_Mod_apart 10 rfl) rfl F_Mod_56 rfl rfl ?_
  refine Sd_iconst (pc' := 18) (dc D_Mod_apart 11 rfl) rfl ⟨by decide, by decide⟩ ?_
  refine Sd_iload_n (pc' := 19) (dc D_Mod_apart 12 rfl) rfl 1 rfl rfl ?_
  refine Sd_imul (pc' := 20) (dc D_Mod_apart 13 rfl) rfl ?_
  refine Sd_iaload (pc' := 21) (dc D_Mod_apart 14 rfl) rfl ?_
  refine Sd_aload_n (pc' := 22) (dc D_Mod_apart 15 rfl) rfl 0 rfl rfl ?_
  refine Sd_getR (pc' := 25) (dc D_Mod_apart 16 rfl) rfl F_Mod_56 rfl rfl ?_
  refine Sd_iconst (pc' := 26) (dc D_Mod_apart 17 rfl) rfl ⟨by decide, by decide⟩ ?_
  refine Sd_iload_n (pc' := 27) (dc D_Mod_apart 18 rfl) rfl 1 rfl rfl ?_
  refine Sd_imul (pc' := 28) (dc D_Mod_apart 19 rfl) rfl ?_
  refine Sd_iconst (pc' := 29) (dc D_Mod_apart 20 rfl) rfl ⟨by decide, by decide⟩ ?_
  refine Sd_iadd (pc' := 30) (dc D_Mod_apart 21 rfl) rfl ?_
  refine Sd_iaload (pc' := 31) (dc D_Mod_apart 22 rfl) rfl ?_
  refine Sd_imul (pc' := 32) (dc D_Mod_apart 23 rfl) rfl ?_
  refine Sd_iadd (pc' := 33) (dc D_Mod_apart 24 rfl) rfl ?_
  exact Sd_iret (dc D_Mod_apart 25 rfl) rfl
theorem K_Mod_apart : MOk M_Mod_apart 1 := ⟨Tb_at 133 (by decide +kernel) rfl, Tb_at 1664 (by decide +kernel) rfl, by decide +kernel, by decide +kernel, by decide +kernel⟩
theorem Ks_Mod_apart : Cond.instanceMethod yX12_apart ∈ Tb := Tb_at 1663 (by decide +kernel) rfl
theorem Kv_Mod_apart : Cond.selects RX12 yX12_apart yX12_apart ∈ Tb := Tb_at 88 (by decide +kernel) rfl
/-! ===== BatchShareModel.joinedBy(I)I ===== -/
abbrev M_Mod_joinedBy : AMt := (yX12_joinedBy, cX12_joinedBy, 3, (some .int))
def T_Mod_joinedBy : List (Nat × Instr × Nat) := [(0, .aload_n 0, 1), (1, .iload_n 1, 1), (2, .iconst 2, 1), (3, .invokevirtual 353, 3), (6, .istore_n 2, 1), (7, .iload_n 2, 1), (8, .iconst (-1), 1), (9, .if_icmp .eq 27, 3), (12, .aload_n 0, 1), (13, .getfield 68, 3), (16, .bipush 16, 2), (18, .iload_n 2, 1), (19, .imul, 1), (20, .bipush 13, 2), (22, .iadd, 1), (23, .iaload, 1), (24, .aload_n 0, 1), (25, .iload_n 1, 1), (26, .invokevirtual 362, 3), (29, .if_icmp .gt 7, 3), (32, .iload_n 2, 1), (33, .goto 4, 3), (36, .iconst (-1), 1), (37, .ireturn, 1)]
set_option maxRecDepth 20000 in
theorem D_Mod_joinedBy : (T_Mod_joinedBy.all fun q => decide (decode M_Mod_joinedBy.2.1 q.1 = .ok q.2)) = true := by decide +kernel
def Mod_joinedBy (v0 : Nat) (v1 : Int) (h : AH) : Option (Int × AH) := rc h 13 v0 <| bnd (Mod_bestFor v0 v1 2 h) fun x2 h1 => if (x2 : Int) = (-1) then (some ((-1), h1)) else (gR h1 13 v0 33 fun r4 => aI h1 21 r4 (wr ((wr (16 * x2)) + 13)) fun x5 => rc h1 13 v0 <| bnd (Mod_apart v0 v1 h1) fun x7 h6 => if (x7 : Int) < x5 then (some ((-1), h6)) else (some (x2, h6)))
set_option maxHeartbeats 4000000 in
set_option maxRecDepth 20000 in
theorem s_Mod_joinedBy (v0 : Nat) (v1 : Int) (h : AH) : CS M_Mod_joinedBy 7 140 emI [vr v0, vi v1] h (Mod_joinedBy v0 v1 h) := by
  refine CS.of (by decide) (Nat.le_of_ble_eq_true rfl) ?_
  show Sd M_Mod_joinedBy 7 140 emI 0 [(0, vr v0), (1, vi v1)] [] h _
  unfold Mod_joinedBy
  refine Sd_aload_n (pc' := 1) (dc D_Mod_joinedBy 0 rfl) rfl 0 rfl rfl ?_
  refine Sd_iload_n (pc' := 2) (dc D_Mod_joinedBy 1 rfl) rfl 1 rfl rfl ?_
  refine Sd_iconst (pc' := 3) (dc D_Mod_joinedBy 2 rfl) rfl ⟨by decide, by decide⟩ ?_
  refine Sd.callVI (ci := 12) (t := 13) (as := [_, _]) RX12 (pc' := 6) (dc D_Mod_joinedBy 3 rfl) rfl rfl rfl rfl K_Mod_bestFor L_Mod_353 Ks_Mod_bestFor Kv_Mod_bestFor ⟨by decide, by decide⟩ rfl rfl (Nat.le_of_ble_eq_true rfl) (s_Mod_bestFor _ _ _ _) (fun x2 h1 => ?_)
  refine Sd_istore_n (pc' := 7) (l' := [(2, _), (0, _), (1, _)]) (dc D_Mod_joinedBy 4 rfl) rfl rfl (by decide) rfl ?_
  refine Sd_iload_n (pc' := 8) (dc D_Mod_joinedBy 5 rfl) rfl 0 rfl rfl ?_
  refine Sd_iconst (pc' := 9) (dc D_Mod_joinedBy 6 rfl) rfl ⟨by decide, by decide⟩ ?_
  refine Sd_icmp_eq (tgt := 36) (pc' := 12) (dc D_Mod_joinedBy 7 rfl) (by decide) rfl (fun _ => ?_) (fun _ => ?_)
  · refine Sd_iconst (pc' := 37) (dc D_Mod_joinedBy 22 rfl) rfl ⟨by decide, by decide⟩ ?_
    exact Sd_iret (dc D_Mod_joinedBy 23 rfl) rfl
  · refine Sd_aload_n (pc' := 13) (dc D_Mod_joinedBy 8 rfl) rfl 1 rfl rfl ?_
    refine Sd_getR (pc' := 16) (dc D_Mod_joinedBy 9 rfl) rfl F_Mod_68 rfl rfl ?_
    refine Sd_bipush (pc' := 18) (dc D_Mod_joinedBy 10 rfl) rfl ⟨by decide, by decide⟩ (by decide) ?_
    refine Sd_iload_n (pc' := 19) (dc D_Mod_joinedBy 11 rfl) rfl 0 rfl rfl ?_
    refine Sd_imul (pc' := 20) (dc D_Mod_joinedBy 12 rfl) rfl ?_
    refine Sd_bipush (pc' := 22) (dc D_Mod_joinedBy 13 rfl) rfl ⟨by decide, by decide⟩ (by decide) ?_
    refine Sd_iadd (pc' := 23) (dc D_Mod_joinedBy 14 rfl) rfl ?_
    refine Sd_iaload (pc' := 24) (dc D_Mod_joinedBy 15 rfl) rfl ?_
    refine Sd_aload_n (pc' := 25) (dc D_Mod_joinedBy 16 rfl) rfl 1 rfl rfl ?_
    refine Sd_iload_n (pc' := 26) (dc D_Mod_joinedBy 17 rfl) rfl 2 rfl rfl ?_
    refine Sd.callVI (ci := 12) (t := 13) (as := [_]) RX12 (pc' := 29) (dc D_Mod_joinedBy 18 rfl) rfl rfl rfl rfl K_Mod_apart L_Mod_362 Ks_Mod_apart Kv_Mod_apart ⟨by decide, by decide⟩ rfl rfl (Nat.le_of_ble_eq_true rfl) (s_Mod_apart _ _ _) (fun x7 h6 => ?_)
    refine Sd_icmp_gt (tgt := 36) (pc' := 32) (dc D_Mod_joinedBy 19 rfl) (by decide) rfl (fun _ => ?_) (fun _ => ?_)
    · refine Sd_iconst (pc' := 37) (dc D_Mod_joinedBy 22 rfl) rfl ⟨by decide, by decide⟩ ?_
      exact Sd_iret (dc D_Mod_joinedBy 23 rfl) rfl
    · refine Sd_iload_n (pc' := 33) (dc D_Mod_joinedBy 20 rfl) rfl 0 rfl rfl ?_
      refine Sd_goto (tgt := 37) (dc D_Mod_joinedBy 21 rfl) (by decide) ?_
      exact Sd_iret (dc D_Mod_joinedBy 23 rfl) rfl
theorem K_Mod_joinedBy : MOk M_Mod_joinedBy 1 := ⟨Tb_at 133 (by decide +kernel) rfl, Tb_at 1660 (by decide +kernel) rfl, by decide +kernel, by decide +kernel, by decide +kernel⟩
theorem Ks_Mod_joinedBy : Cond.instanceMethod yX12_joinedBy ∈ Tb := Tb_at 1659 (by decide +kernel) rfl
theorem Kv_Mod_joinedBy : Cond.selects RX12 yX12_joinedBy yX12_joinedBy ∈ Tb := Tb_at 87 (by decide +kernel) rfl
/-! ===== BatchShareModel.costNow(I)I ===== -/
abbrev M_Mod_costNow : AMt := (yX12_costNow, cX12_costNow, 3, (some .int))
def T_Mod_costNow : List (Nat × Instr × Nat) := [(0, .aload_n 0, 1), (1, .iload_n 1, 1), (2, .invokevirtual 99, 3), (5, .ifCond .eq 5, 3), (8, .iconst 0, 1), (9, .ireturn, 1), (10, .aload_n 0, 1), (11, .getfield 28, 3), (14, .iload_n 1, 1), (15, .iaload, 1), (16, .iconst 2, 1), (17, .if_icmp .ge 15, 3), (20, .aload_n 0, 1), (21, .iload_n 1, 1), (22, .aload_n 0, 1), (23, .getfield 28, 3), (26, .iload_n 1, 1), (27, .iaload, 1), (28, .invokevirtual 359, 3), (31, .ireturn, 1), (32, .aload_n 0, 1), (33, .iload_n 1, 1), (34, .invokevirtual 365, 3), (37, .istore_n 2, 1), (38, .iload_n 2, 1), (39, .iconst (-1), 1), (40, .if_icmp .ne 11, 3), (43, .aload_n 0, 1), (44, .iload_n 1, 1), (45, .invokevirtual 362, 3), (48, .goto 15, 3), (51, .aload_n 0, 1), (52, .getfield 68, 3), (55, .bipush 16, 2), (57, .iload_n 2, 1), (58, .imul, 1), (59, .bipush 13, 2), (61, .iadd, 1), (62, .iaload, 1), (63, .ireturn, 1)]
set_option maxRecDepth 20000 in
theorem D_Mod_costNow : (T_Mod_costNow.all fun q => decide (decode M_Mod_costNow.2.1 q.1 = .ok q.2)) = true := by decide +kernel
def Mod_costNow (v0 : Nat) (v1 : Int) (h : AH) : Option (Int × AH) := rc h 13 v0 <| bnd (Mod_isVoid v0 v1 h) fun x2 h1 => if (x2 : Int) = 0 then (gR h1 13 v0 11 fun r4 => aI h1 21 r4 v1 fun x5 => if (2 : Int) ≤ x5 then (rc h1 13 v0 <| bnd (Mod_joinedBy v0 v1 h1) fun x7 h6 => if ¬ (x7 : Int) = (-1) then (gR h6 13 v0 33 fun r9 => aI h6 21 r9 (wr ((wr (16 * x7)) + 13)) fun x10 => some (x10, h6)) else (rc h6 13 v0 <| bnd (Mod_apart v0 v1 h6) fun x12 h11 => some (x12, h11))) else (gR h1 13 v0 11 fun r14 => aI h1 21 r14 v1 fun x15 => rc h1 13 v0 <| bnd (Mod_costOf v0 v1 x15 h1) fun x17 h16 => some (x17, h16))) else (some (0, h1))
set_option maxHeartbeats 4000000 in
set_option maxRecDepth 20000 in
theorem s_Mod_costNow (v0 : Nat) (v1 : Int) (h : AH) : CS M_Mod_costNow 8 162 emI [vr v0, vi v1] h (Mod_costNow v0 v1 h) := by
  refine CS.of (by decide) (Nat.le_of_ble_eq_true rfl) ?_
  show Sd M_Mod_costNow 8 162 emI 0 [(0, vr v0), (1, vi v1)] [] h _
  unfold Mod_costNow
  refine Sd_aload_n (pc' := 1) (dc D_Mod_costNow 0 rfl) rfl 0 rfl rfl ?_
  refine Sd_iload_n (pc' := 2) (dc D_Mod_costNow 1 rfl) rfl 1 rfl rfl ?_
  refine Sd.callVI (ci := 12) (t := 13) (as := [_]) RX12 (pc' := 5) (dc D_Mod_costNow 2 rfl) rfl rfl rfl rfl K_Mod_isVoid L_Mod_99 Ks_Mod_isVoid Kv_Mod_isVoid ⟨by decide, by decide⟩ rfl rfl (Nat.le_of_ble_eq_true rfl) (s_Mod_isVoid _ _ _) (fun x2 h1 => ?_)
  refine Sd_if_eq (tgt := 10) (pc' := 8) (dc D_Mod_costNow 3 rfl) (by decide) rfl (fun _ => ?_) (fun _ => ?_)
  · refine Sd_aload_n (pc' := 11) (dc D_Mod_costNow 6 rfl) rfl 0 rfl rfl ?_
    refine Sd_getR (pc' := 14) (dc D_Mod_costNow 7 rfl) rfl F_Mod_28 rfl rfl ?_
    refine Sd_iload_n (pc' := 15) (dc D_Mod_costNow 8 rfl) rfl 1 rfl rfl ?_
    refine Sd_iaload (pc' := 16) (dc D_Mod_costNow 9 rfl) rfl ?_
    refine Sd_iconst (pc' := 17) (dc D_Mod_costNow 10 rfl) rfl ⟨by decide, by decide⟩ ?_
    refine Sd_icmp_ge (tgt := 32) (pc' := 20) (dc D_Mod_costNow 11 rfl) (by decide) rfl (fun _ => ?_) (fun _ => ?_)
    · refine Sd_aload_n (pc' := 33) (dc D_Mod_costNow 20 rfl) rfl 0 rfl rfl ?_
      refine Sd_iload_n (pc' := 34) (dc D_Mod_costNow 21 rfl) rfl 1 rfl rfl ?_
      refine Sd.callVI (ci := 12) (t := 13) (as := [_]) RX12 (pc' := 37) (dc D_Mod_costNow 22 rfl) rfl rfl rfl rfl K_Mod_joinedBy L_Mod_365 Ks_Mod_joinedBy Kv_Mod_joinedBy ⟨by decide, by decide⟩ rfl rfl (Nat.le_of_ble_eq_true rfl) (s_Mod_joinedBy _ _ _) (fun x7 h6 => ?_)
      refine Sd_istore_n (pc' := 38) (l' := [(2, _), (0, _), (1, _)]) (dc D_Mod_costNow 23 rfl) rfl rfl (by decide) rfl ?_
      refine Sd_iload_n (pc' := 39) (dc D_Mod_costNow 24 rfl) rfl 0 rfl rfl ?_
      refine Sd_iconst (pc' := 40) (dc D_Mod_costNow 25 rfl) rfl ⟨by decide, by decide⟩ ?_
      refine Sd_icmp_ne (tgt := 51) (pc' := 43) (dc D_Mod_costNow 26 rfl) (by decide) rfl (fun _ => ?_) (fun _ => ?_)
      · refine Sd_aload_n (pc' := 52) (dc D_Mod_costNow 31 rfl) rfl 1 rfl rfl ?_
        refine Sd_getR (pc' := 55) (dc D_Mod_costNow 32 rfl) rfl F_Mod_68 rfl rfl ?_
        refine Sd_bipush (pc' := 57) (dc D_Mod_costNow 33 rfl) rfl ⟨by decide, by decide⟩ (by decide) ?_
        refine Sd_iload_n (pc' := 58) (dc D_Mod_costNow 34 rfl) rfl 0 rfl rfl ?_
        refine Sd_imul (pc' := 59) (dc D_Mod_costNow 35 rfl) rfl ?_
        refine Sd_bipush (pc' := 61) (dc D_Mod_costNow 36 rfl) rfl ⟨by decide, by decide⟩ (by decide) ?_
        refine Sd_iadd (pc' := 62) (dc D_Mod_costNow 37 rfl) rfl ?_
        refine Sd_iaload (pc' := 63) (dc D_Mod_costNow 38 rfl) rfl ?_
        exact Sd_iret (dc D_Mod_costNow 39 rfl) rfl
      · refine Sd_aload_n (pc' := 44) (dc D_Mod_costNow 27 rfl) rfl 1 rfl rfl ?_
        refine Sd_iload_n (pc' := 45) (dc D_Mod_costNow 28 rfl) rfl 2 rfl rfl ?_
        refine Sd.callVI (ci := 12) (t := 13) (as := [_]) RX12 (pc' := 48) (dc D_Mod_costNow 29 rfl) rfl rfl rfl rfl K_Mod_apart L_Mod_362 Ks_Mod_apart Kv_Mod_apart ⟨by decide, by decide⟩ rfl rfl (Nat.le_of_ble_eq_true rfl) (s_Mod_apart _ _ _) (fun x12 h11 => ?_)
        refine Sd_goto (tgt := 63) (dc D_Mod_costNow 30 rfl) (by decide) ?_
        exact Sd_iret (dc D_Mod_costNow 39 rfl) rfl
    · refine Sd_aload_n (pc' := 21) (dc D_Mod_costNow 12 rfl) rfl 0 rfl rfl ?_
      refine Sd_iload_n (pc' := 22) (dc D_Mod_costNow 13 rfl) rfl 1 rfl rfl ?_
      refine Sd_aload_n (pc' := 23) (dc D_Mod_costNow 14 rfl) rfl 0 rfl rfl ?_
      refine Sd_getR (pc' := 26) (dc D_Mod_costNow 15 rfl) rfl F_Mod_28 rfl rfl ?_
      refine Sd_iload_n (pc' := 27) (dc D_Mod_costNow 16 rfl) rfl 1 rfl rfl ?_
      refine Sd_iaload (pc' := 28) (dc D_Mod_costNow 17 rfl) rfl ?_
      refine Sd.callVI (ci := 12) (t := 13) (as := [_, _]) RX12 (pc' := 31) (dc D_Mod_costNow 18 rfl) rfl rfl rfl rfl K_Mod_costOf L_Mod_359 Ks_Mod_costOf Kv_Mod_costOf ⟨by decide, by decide⟩ rfl rfl (Nat.le_of_ble_eq_true rfl) (s_Mod_costOf _ _ _ _) (fun x17 h16 => ?_)
      exact Sd_iret (dc D_Mod_costNow 19 rfl) rfl
  · refine Sd_iconst (pc' := 9) (dc D_Mod_costNow 4 rfl) rfl ⟨by decide, by decide⟩ ?_
    exact Sd_iret (dc D_Mod_costNow 5 rfl) rfl
theorem K_Mod_costNow : MOk M_Mod_costNow 1 := ⟨Tb_at 133 (by decide +kernel) rfl, Tb_at 1641 (by decide +kernel) rfl, by decide +kernel, by decide +kernel, by decide +kernel⟩
theorem Ks_Mod_costNow : Cond.instanceMethod yX12_costNow ∈ Tb := Tb_at 1640 (by decide +kernel) rfl
theorem Kv_Mod_costNow : Cond.selects RX12 yX12_costNow yX12_costNow ∈ Tb := Tb_at 83 (by decide +kernel) rfl
/-! ===== BatchShareModel.alone(I)I ===== -/
abbrev M_Mod_alone : AMt := (yX12_alone, cX12_alone, 2, (some .int))
def T_Mod_alone : List (Nat × Instr × Nat) := [(0, .aload_n 0, 1), (1, .iload_n 1, 1), (2, .invokevirtual 255, 3), (5, .ifCond .ne 5, 3), (8, .iconst (-1), 1), (9, .ireturn, 1), (10, .aload_n 0, 1), (11, .invokevirtual 371, 3), (14, .aload_n 0, 1), (15, .invokevirtual 380, 3), (18, .aload_n 0, 1), (19, .iload_n 1, 1), (20, .invokevirtual 368, 3), (23, .ireturn, 1)]
set_option maxRecDepth 20000 in
theorem D_Mod_alone : (T_Mod_alone.all fun q => decide (decode M_Mod_alone.2.1 q.1 = .ok q.2)) = true := by decide +kernel
def Mod_alone (v0 : Nat) (v1 : Int) (h : AH) : Option (Int × AH) := rc h 13 v0 <| bnd (Mod_isQuery v0 v1 h) fun x2 h1 => if ¬ (x2 : Int) = 0 then (rc h1 13 v0 <| bnd (Mod_laysAll v0 h1) fun _ h4 => rc h4 13 v0 <| bnd (Mod_takesNone v0 h4) fun _ h7 => rc h7 13 v0 <| bnd (Mod_costNow v0 v1 h7) fun x11 h10 => some (x11, h10)) else (some ((-1), h1))
set_option maxHeartbeats 4000000 in
set_option maxRecDepth 20000 in
theorem s_Mod_alone (v0 : Nat) (v1 : Int) (h : AH) : CS M_Mod_alone 9 184 emI [vr v0, vi v1] h (Mod_alone v0 v1 h) := by
  refine CS.of (by decide) (Nat.le_of_ble_eq_true rfl) ?_
  show Sd M_Mod_alone 9 184 emI 0 [(0, vr v0), (1, vi v1)] [] h _
  unfold Mod_alone
  refine Sd_aload_n (pc' := 1) (dc D_Mod_alone 0 rfl) rfl 0 rfl rfl ?_
  refine Sd_iload_n (pc' := 2) (dc D_Mod_alone 1 rfl) rfl 1 rfl rfl ?_
  refine Sd.callVI (ci := 12) (t := 13) (as := [_]) RX12 (pc' := 5) (dc D_Mod_alone 2 rfl) rfl rfl rfl rfl K_Mod_isQuery L_Mod_255 Ks_Mod_isQuery Kv_Mod_isQuery ⟨by decide, by decide⟩ rfl rfl (Nat.le_of_ble_eq_true rfl) (s_Mod_isQuery _ _ _) (fun x2 h1 => ?_)
  refine Sd_if_ne (tgt := 10) (pc' := 8) (dc D_Mod_alone 3 rfl) (by decide) rfl (fun _ => ?_) (fun _ => ?_)
  · refine Sd_aload_n (pc' := 11) (dc D_Mod_alone 6 rfl) rfl 0 rfl rfl ?_
    refine Sd.callVV (ci := 12) (t := 13) (as := []) RX12 (pc' := 14) (dc D_Mod_alone 7 rfl) rfl rfl rfl rfl K_Mod_laysAll L_Mod_371 Ks_Mod_laysAll Kv_Mod_laysAll ⟨by decide, by decide⟩ rfl rfl (Nat.le_of_ble_eq_true rfl) (s_Mod_laysAll _ _) (fun _ h4 => ?_)
    refine Sd_aload_n (pc' := 15) (dc D_Mod_alone 8 rfl) rfl 0 rfl rfl ?_
    refine Sd.callVV (ci := 12) (t := 13) (as := []) RX12 (pc' := 18) (dc D_Mod_alone 9 rfl) rfl rfl rfl rfl K_Mod_takesNone L_Mod_380 Ks_Mod_takesNone Kv_Mod_takesNone ⟨by decide, by decide⟩ rfl rfl (Nat.le_of_ble_eq_true rfl) (s_Mod_takesNone _ _) (fun _ h7 => ?_)
    refine Sd_aload_n (pc' := 19) (dc D_Mod_alone 10 rfl) rfl 0 rfl rfl ?_
    refine Sd_iload_n (pc' := 20) (dc D_Mod_alone 11 rfl) rfl 1 rfl rfl ?_
    refine Sd.callVI (ci := 12) (t := 13) (as := [_]) RX12 (pc' := 23) (dc D_Mod_alone 12 rfl) rfl rfl rfl rfl K_Mod_costNow L_Mod_368 Ks_Mod_costNow Kv_Mod_costNow ⟨by decide, by decide⟩ rfl rfl (Nat.le_of_ble_eq_true rfl) (s_Mod_costNow _ _ _) (fun x11 h10 => ?_)
    exact Sd_iret (dc D_Mod_alone 13 rfl) rfl
  · refine Sd_iconst (pc' := 9) (dc D_Mod_alone 4 rfl) rfl ⟨by decide, by decide⟩ ?_
    exact Sd_iret (dc D_Mod_alone 5 rfl) rfl
theorem K_Mod_alone : MOk M_Mod_alone 1 := ⟨Tb_at 133 (by decide +kernel) rfl, Tb_at 1668 (by decide +kernel) rfl, by decide +kernel, by decide +kernel, by decide +kernel⟩
theorem Ks_Mod_alone : Cond.instanceMethod yX12_alone ∈ Tb := Tb_at 1666 (by decide +kernel) rfl
theorem Kv_Mod_alone : Cond.selects RX12 yX12_alone yX12_alone ∈ Tb := Tb_at 1667 (by decide +kernel) rfl
/-! ===== BatchShareModel.isOn(I)Z ===== -/
abbrev M_Mod_isOn : AMt := (yX12_isOn, cX12_isOn, 2, (some .boolean))
def T_Mod_isOn : List (Nat × Instr × Nat) := [(0, .aload_n 0, 1), (1, .iload_n 1, 1), (2, .invokevirtual 99, 3), (5, .ifCond .ne 20, 3), (8, .aload_n 0, 1), (9, .getfield 9, 3), (12, .iconst 4, 1), (13, .iaload, 1), (14, .iload_n 1, 1), (15, .invokestatic 103, 3), (18, .ifCond .ne 7, 3), (21, .iconst 1, 1), (22, .goto 4, 3), (25, .iconst 0, 1), (26, .ireturn, 1)]
set_option maxRecDepth 20000 in
theorem D_Mod_isOn : (T_Mod_isOn.all fun q => decide (decode M_Mod_isOn.2.1 q.1 = .ok q.2)) = true := by decide +kernel
def Mod_isOn (v0 : Nat) (v1 : Int) (h : AH) : Option (Int × AH) := rc h 13 v0 <| bnd (Mod_isVoid v0 v1 h) fun x2 h1 => if ¬ (x2 : Int) = 0 then (some (0, h1)) else (gR h1 13 v0 1 fun r4 => aI h1 21 r4 4 fun x5 => bnd (Mod_has x5 v1 h1) fun x7 h6 => if ¬ (x7 : Int) = 0 then (some (0, h6)) else (some (1, h6)))
set_option maxHeartbeats 4000000 in
set_option maxRecDepth 20000 in
theorem s_Mod_isOn (v0 : Nat) (v1 : Int) (h : AH) : CS M_Mod_isOn 2 21 emI [vr v0, vi v1] h (Mod_isOn v0 v1 h) := by
  refine CS.of (by decide) (Nat.le_of_ble_eq_true rfl) ?_
  show Sd M_Mod_isOn 2 21 emI 0 [(0, vr v0), (1, vi v1)] [] h _
  unfold Mod_isOn
  refine Sd_aload_n (pc' := 1) (dc D_Mod_isOn 0 rfl) rfl 0 rfl rfl ?_
  refine Sd_iload_n (pc' := 2) (dc D_Mod_isOn 1 rfl) rfl 1 rfl rfl ?_
  refine Sd.callVI (ci := 12) (t := 13) (as := [_]) RX12 (pc' := 5) (dc D_Mod_isOn 2 rfl) rfl rfl rfl rfl K_Mod_isVoid L_Mod_99 Ks_Mod_isVoid Kv_Mod_isVoid ⟨by decide, by decide⟩ rfl rfl (Nat.le_of_ble_eq_true rfl) (s_Mod_isVoid _ _ _) (fun x2 h1 => ?_)
  refine Sd_if_ne (tgt := 25) (pc' := 8) (dc D_Mod_isOn 3 rfl) (by decide) rfl (fun _ => ?_) (fun _ => ?_)
  · refine Sd_iconst (pc' := 26) (dc D_Mod_isOn 13 rfl) rfl ⟨by decide, by decide⟩ ?_
    exact Sd_zret (dc D_Mod_isOn 14 rfl) rfl (Or.inl rfl)
  · refine Sd_aload_n (pc' := 9) (dc D_Mod_isOn 4 rfl) rfl 0 rfl rfl ?_
    refine Sd_getR (pc' := 12) (dc D_Mod_isOn 5 rfl) rfl F_Mod_9 rfl rfl ?_
    refine Sd_iconst (pc' := 13) (dc D_Mod_isOn 6 rfl) rfl ⟨by decide, by decide⟩ ?_
    refine Sd_iaload (pc' := 14) (dc D_Mod_isOn 7 rfl) rfl ?_
    refine Sd_iload_n (pc' := 15) (dc D_Mod_isOn 8 rfl) rfl 1 rfl rfl ?_
    refine Sd.callSI (as := [_, _]) (pc' := 18) (dc D_Mod_isOn 9 rfl) rfl K_Mod_has L_Mod_103 Ks_Mod_has ⟨by decide, by decide⟩ rfl rfl (Nat.le_of_ble_eq_true rfl) (s_Mod_has _ _ _) (fun x7 h6 => ?_)
    refine Sd_if_ne (tgt := 25) (pc' := 21) (dc D_Mod_isOn 10 rfl) (by decide) rfl (fun _ => ?_) (fun _ => ?_)
    · refine Sd_iconst (pc' := 26) (dc D_Mod_isOn 13 rfl) rfl ⟨by decide, by decide⟩ ?_
      exact Sd_zret (dc D_Mod_isOn 14 rfl) rfl (Or.inl rfl)
    · refine Sd_iconst (pc' := 22) (dc D_Mod_isOn 11 rfl) rfl ⟨by decide, by decide⟩ ?_
      refine Sd_goto (tgt := 26) (dc D_Mod_isOn 12 rfl) (by decide) ?_
      exact Sd_zret (dc D_Mod_isOn 14 rfl) rfl (Or.inr rfl)
theorem K_Mod_isOn : MOk M_Mod_isOn 1 := ⟨Tb_at 133 (by decide +kernel) rfl, Tb_at 1571 (by decide +kernel) rfl, by decide +kernel, by decide +kernel, by decide +kernel⟩
theorem Ks_Mod_isOn : Cond.instanceMethod yX12_isOn ∈ Tb := Tb_at 1570 (by decide +kernel) rfl
theorem Kv_Mod_isOn : Cond.selects RX12 yX12_isOn yX12_isOn ∈ Tb := Tb_at 70 (by decide +kernel) rfl
/-! ===== BatchShareModel.areSame([II[II)Z ===== -/
abbrev M_Mod_areSame : AMt := (yX12_areSame, cX12_areSame, 5, (some .boolean))
def T_Mod_areSame : List (Nat × Instr × Nat) := [(0, .iconst 0, 1), (1, .istore 4, 2), (3, .iload 4, 2), (5, .bipush 13, 2), (7, .if_icmp .ge 26, 3), (10, .aload_n 0, 1), (11, .iload_n 1, 1), (12, .iload 4, 2), (14, .iadd, 1), (15, .iaload, 1), (16, .aload_n 2, 1), (17, .iload_n 3, 1), (18, .iload 4, 2), (20, .iadd, 1), (21, .iaload, 1), (22, .if_icmp .eq 5, 3), (25, .iconst 0, 1), (26, .ireturn, 1), (27, .iinc 4 1, 3), (30, .goto (-27), 3), (33, .iconst 1, 1), (34, .ireturn, 1)]
set_option maxRecDepth 20000 in
theorem D_Mod_areSame : (T_Mod_areSame.all fun q => decide (decode M_Mod_areSame.2.1 q.1 = .ok q.2)) = true := by decide +kernel
def Mod_areSame_L3 : Nat → Nat → Int → Nat → Int → Int → AH → Option (Int × AH)
  | 0, _, _, _, _, _, _ => none
  | n + 1, v0, v1, v2, v3, v4, h => if (13 : Int) ≤ v4 then (some (1, h)) else (aI h 21 v0 (wr (v1 + v4)) fun x1 => aI h 21 v2 (wr (v3 + v4)) fun x2 => if (x1 : Int) = x2 then (Mod_areSame_L3 n v0 v1 v2 v3 ((wr (v4 + 1))) h) else (some (0, h)))
set_option maxHeartbeats 4000000 in
set_option maxRecDepth 20000 in
theorem s_Mod_areSame_L3 : ∀ (n : Nat) (v0 : Nat) (v1 : Int) (v2 : Nat) (v3 : Int) (v4 : Int) (h : AH), Sd M_Mod_areSame 1 0 emI 3 [(0, vr v0), (1, vi v1), (2, vr v2), (3, vi v3), (4, vi v4)] [] h (Mod_areSame_L3 n v0 v1 v2 v3 v4 h)
  | 0, _, _, _, _, _, _ => Sd.none
  | n + 1, v0, v1, v2, v3, v4, h => by
    rw [Mod_areSame_L3]
    refine Sd_iload (pc' := 5) (dc D_Mod_areSame 2 rfl) rfl 4 rfl ?_
    refine Sd_bipush (pc' := 7) (dc D_Mod_areSame 3 rfl) rfl ⟨by decide, by decide⟩ (by decide) ?_
    refine Sd_icmp_ge (tgt := 33) (pc' := 10) (dc D_Mod_areSame 4 rfl) (by decide) rfl (fun _ => ?_) (fun _ => ?_)
    · refine Sd_iconst (pc' := 34) (dc D_Mod_areSame 20 rfl) rfl ⟨by decide, by decide⟩ ?_
      exact Sd_zret (dc D_Mod_areSame 21 rfl) rfl (Or.inr rfl)
    · refine Sd_aload_n (pc' := 11) (dc D_Mod_areSame 5 rfl) rfl 0 rfl rfl ?_
      refine Sd_iload_n (pc' := 12) (dc D_Mod_areSame 6 rfl) rfl 1 rfl rfl ?_
      refine Sd_iload (pc' := 14) (dc D_Mod_areSame 7 rfl) rfl 4 rfl ?_
      refine Sd_iadd (pc' := 15) (dc D_Mod_areSame 8 rfl) rfl ?_
      refine Sd_iaload (pc' := 16) (dc D_Mod_areSame 9 rfl) rfl ?_
      refine Sd_aload_n (pc' := 17) (dc D_Mod_areSame 10 rfl) rfl 2 rfl rfl ?_
      refine Sd_iload_n (pc' := 18) (dc D_Mod_areSame 11 rfl) rfl 3 rfl rfl ?_
      refine Sd_iload (pc' := 20) (dc D_Mod_areSame 12 rfl) rfl 4 rfl ?_
      refine Sd_iadd (pc' := 21) (dc D_Mod_areSame 13 rfl) rfl ?_
      refine Sd_iaload (pc' := 22) (dc D_Mod_areSame 14 rfl) rfl ?_
      refine Sd_icmp_eq (tgt := 27) (pc' := 25) (dc D_Mod_areSame 15 rfl) (by decide) rfl (fun _ => ?_) (fun _ => ?_)
      · refine Sd_iinc (pc' := 30) (l' := [(4, _), (0, _), (1, _), (2, _), (3, _)]) (dc D_Mod_areSame 18 rfl) rfl 4 rfl (by decide) rfl ?_
        refine Sd_goto (tgt := 3) (dc D_Mod_areSame 19 rfl) (by decide) ?_
        refine Sd.sub (l' := [(0, _), (1, _), (2, _), (3, _), (4, _)]) [1, 2, 3, 4, 0] rfl ?_
        exact s_Mod_areSame_L3 n _ _ _ _ _ _
      · refine Sd_iconst (pc' := 26) (dc D_Mod_areSame 16 rfl) rfl ⟨by decide, by decide⟩ ?_
        exact Sd_zret (dc D_Mod_areSame 17 rfl) rfl (Or.inl rfl)
def Mod_areSame (v0 : Nat) (v1 : Int) (v2 : Nat) (v3 : Int) (h : AH) : Option (Int × AH) := Mod_areSame_L3 FU v0 v1 v2 v3 0 h
set_option maxHeartbeats 4000000 in
set_option maxRecDepth 20000 in
theorem s_Mod_areSame (v0 : Nat) (v1 : Int) (v2 : Nat) (v3 : Int) (h : AH) : CS M_Mod_areSame 1 0 emI [vr v0, vi v1, vr v2, vi v3] h (Mod_areSame v0 v1 v2 v3 h) := by
  refine CS.of (by decide) (Nat.le_of_ble_eq_true rfl) ?_
  show Sd M_Mod_areSame 1 0 emI 0 [(0, vr v0), (1, vi v1), (2, vr v2), (3, vi v3)] [] h _
  unfold Mod_areSame
  refine Sd_iconst (pc' := 1) (dc D_Mod_areSame 0 rfl) rfl ⟨by decide, by decide⟩ ?_
  refine Sd_istore (pc' := 3) (l' := [(4, _), (0, _), (1, _), (2, _), (3, _)]) (dc D_Mod_areSame 1 rfl) rfl (by decide) rfl ?_
  refine Sd.sub (l' := [(0, _), (1, _), (2, _), (3, _), (4, _)]) [1, 2, 3, 4, 0] rfl ?_
  exact s_Mod_areSame_L3 FU _ _ _ _ _ _
theorem K_Mod_areSame : MOk M_Mod_areSame 4 := ⟨Tb_at 133 (by decide +kernel) rfl, Tb_at 1586 (by decide +kernel) rfl, by decide +kernel, by decide +kernel, by decide +kernel⟩
theorem Ks_Mod_areSame : Cond.static yX12_areSame ∈ Tb := Tb_at 1585 (by decide +kernel) rfl
/-! ===== BatchShareModel.addsPart()V ===== -/
abbrev M_Mod_addsPart : AMt := (yX12_addsPart, cX12_addsPart, 3, none)
def T_Mod_addsPart : List (Nat × Instr × Nat) := [(0, .iconst 0, 1), (1, .istore_n 1, 1), (2, .iload_n 1, 1), (3, .aload_n 0, 1), (4, .getfield 317, 3), (7, .if_icmp .ge 29, 3), (10, .aload_n 0, 1), (11, .getfield 62, 3), (14, .bipush 16, 2), (16, .iload_n 1, 1), (17, .imul, 1), (18, .aload_n 0, 1), (19, .getfield 53, 3), (22, .iconst 0, 1), (23, .invokestatic 320, 3), (26, .ifCond .eq 4, 3), (29, .return_, 1), (30, .iinc 1 1, 3), (33, .goto (-31), 3), (36, .bipush 16, 2), (38, .aload_n 0, 1), (39, .getfield 317, 3), (42, .imul, 1), (43, .istore_n 1, 1), (44, .iconst 0, 1), (45, .istore_n 2, 1), (46, .iload_n 2, 1), (47, .bipush 13, 2), (49, .if_icmp .ge 23, 3), (52, .aload_n 0, 1), (53, .getfield 62, 3), (56, .iload_n 1, 1), (57, .iload_n 2, 1), (58, .iadd, 1), (59, .aload_n 0, 1), (60, .getfield 53, 3), (63, .iload_n 2, 1), (64, .iaload, 1), (65, .iastore, 1), (66, .iinc 2 1, 3), (69, .goto (-23), 3), (72, .aload_n 0, 1), (73, .getfield 62, 3), (76, .iload_n 1, 1), (77, .bipush 13, 2), (79, .iadd, 1), (80, .aload_n 0, 1), (81, .aload_n 0, 1), (82, .getfield 53, 3), (85, .iconst 0, 1), (86, .invokevirtual 306, 3), (89, .iastore, 1), (90, .aload_n 0, 1), (91, .getfield 62, 3), (94, .iload_n 1, 1), (95, .bipush 14, 2), (97, .iadd, 1), (98, .iconst 0, 1), (99, .iastore, 1), (100, .aload_n 0, 1), (101, .getfield 62, 3), (104, .iload_n 1, 1), (105, .bipush 15, 2), (107, .iadd, 1), (108, .iconst 0, 1), (109, .iastore, 1), (110, .aload_n 0, 1), (111, .getfield 65, 3), (114, .aload_n 0, 1), (115, .getfield 317, 3), (118, .aload_n 0, 1), (119, .aload_n 0, 1), (120, .getfield 53, 3), (123, .iconst 0, 1), (124, .invokevirtual 310, 3), (127, .iastore, 1), (128, .aload_n 0, 1), (129, .dup, 1), (130, .getfield 317, 3), (133, .iconst 1, 1), (134, .iadd, 1), (135, .putfield 317, 3), (138, .return_, 1)]
set_option maxRecDepth 20000 in
theorem D_Mod_addsPart : (T_Mod_addsPart.all fun q => decide (decode M_Mod_addsPart.2.1 q.1 = .ok q.2)) = true := by decide +kernel
def Mod_addsPart_L46 : Nat → Nat → Int → Int → AH → Option (Unit × AH)
  | 0, _, _, _, _ => none
  | n + 1, v0, v1, v2, h => if (13 : Int) ≤ v2 then (gR h 13 v0 29 fun r1 => gR h 13 v0 26 fun r2 => rc h 13 v0 <| bnd (Mod_rowsNow v0 r2 0 h) fun x4 h3 => wI h3 21 r1 (wr (v1 + 13)) x4 fun h6 => gR h6 13 v0 29 fun r7 => wI h6 21 r7 (wr (v1 + 14)) 0 fun h8 => gR h8 13 v0 29 fun r9 => wI h8 21 r9 (wr (v1 + 15)) 0 fun h10 => gR h10 13 v0 30 fun r11 => gI h10 13 v0 31 fun x12 => gR h10 13 v0 26 fun r13 => rc h10 13 v0 <| bnd (Mod_makeNow v0 r13 0 h10) fun x15 h14 => wI h14 21 r11 x12 x15 fun h17 => gI h17 13 v0 31 fun x18 => pI h17 13 v0 31 (wr (x18 + 1)) fun h19 => some ((), h19)) else (gR h 13 v0 29 fun r20 => gR h 13 v0 26 fun r21 => aI h 21 r21 v2 fun x22 => wI h 21 r20 (wr (v1 + v2)) x22 fun h23 => Mod_addsPart_L46 n v0 v1 ((wr (v2 + 1))) h23)
set_option maxHeartbeats 4000000 in
set_option maxRecDepth 20000 in
theorem s_Mod_addsPart_L46 : ∀ (n : Nat) (v0 : Nat) (v1 : Int) (v2 : Int) (h : AH), Sd M_Mod_addsPart 5 103 emV 46 [(0, vr v0), (1, vi v1), (2, vi v2)] [] h (Mod_addsPart_L46 n v0 v1 v2 h)
  | 0, _, _, _, _ => Sd.none
  | n + 1, v0, v1, v2, h => by
    rw [Mod_addsPart_L46]
    refine Sd_iload_n (pc' := 47) (dc D_Mod_addsPart 26 rfl) rfl 2 rfl rfl ?_
    refine Sd_bipush (pc' := 49) (dc D_Mod_addsPart 27 rfl) rfl ⟨by decide, by decide⟩ (by decide) ?_
    refine Sd_icmp_ge (tgt := 72) (pc' := 52) (dc D_Mod_addsPart 28 rfl) (by decide) rfl (fun _ => ?_) (fun _ => ?_)
    · refine Sd_aload_n (pc' := 73) (dc D_Mod_addsPart 41 rfl) rfl 0 rfl rfl ?_
      refine Sd_getR (pc' := 76) (dc D_Mod_addsPart 42 rfl) rfl F_Mod_62 rfl rfl ?_
      refine Sd_iload_n (pc' := 77) (dc D_Mod_addsPart 43 rfl) rfl 1 rfl rfl ?_
      refine Sd_bipush (pc' := 79) (dc D_Mod_addsPart 44 rfl) rfl ⟨by decide, by decide⟩ (by decide) ?_
      refine Sd_iadd (pc' := 80) (dc D_Mod_addsPart 45 rfl) rfl ?_
      refine Sd_aload_n (pc' := 81) (dc D_Mod_addsPart 46 rfl) rfl 0 rfl rfl ?_
      refine Sd_aload_n (pc' := 82) (dc D_Mod_addsPart 47 rfl) rfl 0 rfl rfl ?_
      refine Sd_getR (pc' := 85) (dc D_Mod_addsPart 48 rfl) rfl F_Mod_53 rfl rfl ?_
      refine Sd_iconst (pc' := 86) (dc D_Mod_addsPart 49 rfl) rfl ⟨by decide, by decide⟩ ?_
      refine Sd.callVI (ci := 12) (t := 13) (as := [_, _]) RX12 (pc' := 89) (dc D_Mod_addsPart 50 rfl) rfl rfl rfl rfl K_Mod_rowsNow L_Mod_306 Ks_Mod_rowsNow Kv_Mod_rowsNow ⟨by decide, by decide⟩ rfl rfl (Nat.le_of_ble_eq_true rfl) (s_Mod_rowsNow _ _ _ _) (fun x4 h3 => ?_)
      refine Sd_iastore (pc' := 90) (dc D_Mod_addsPart 51 rfl) rfl (by decide) ?_
      refine Sd_aload_n (pc' := 91) (dc D_Mod_addsPart 52 rfl) rfl 0 rfl rfl ?_
      refine Sd_getR (pc' := 94) (dc D_Mod_addsPart 53 rfl) rfl F_Mod_62 rfl rfl ?_
      refine Sd_iload_n (pc' := 95) (dc D_Mod_addsPart 54 rfl) rfl 1 rfl rfl ?_
      refine Sd_bipush (pc' := 97) (dc D_Mod_addsPart 55 rfl) rfl ⟨by decide, by decide⟩ (by decide) ?_
      refine Sd_iadd (pc' := 98) (dc D_Mod_addsPart 56 rfl) rfl ?_
      refine Sd_iconst (pc' := 99) (dc D_Mod_addsPart 57 rfl) rfl ⟨by decide, by decide⟩ ?_
      refine Sd_iastore (pc' := 100) (dc D_Mod_addsPart 58 rfl) rfl (by decide) ?_
      refine Sd_aload_n (pc' := 101) (dc D_Mod_addsPart 59 rfl) rfl 0 rfl rfl ?_
      refine Sd_getR (pc' := 104) (dc D_Mod_addsPart 60 rfl) rfl F_Mod_62 rfl rfl ?_
      refine Sd_iload_n (pc' := 105) (dc D_Mod_addsPart 61 rfl) rfl 1 rfl rfl ?_
      refine Sd_bipush (pc' := 107) (dc D_Mod_addsPart 62 rfl) rfl ⟨by decide, by decide⟩ (by decide) ?_
      refine Sd_iadd (pc' := 108) (dc D_Mod_addsPart 63 rfl) rfl ?_
      refine Sd_iconst (pc' := 109) (dc D_Mod_addsPart 64 rfl) rfl ⟨by decide, by decide⟩ ?_
      refine Sd_iastore (pc' := 110) (dc D_Mod_addsPart 65 rfl) rfl (by decide) ?_
      refine Sd_aload_n (pc' := 111) (dc D_Mod_addsPart 66 rfl) rfl 0 rfl rfl ?_
      refine Sd_getR (pc' := 114) (dc D_Mod_addsPart 67 rfl) rfl F_Mod_65 rfl rfl ?_
      refine Sd_aload_n (pc' := 115) (dc D_Mod_addsPart 68 rfl) rfl 0 rfl rfl ?_
      refine Sd_getI (pc' := 118) (dc D_Mod_addsPart 69 rfl) rfl F_Mod_317 rfl rfl ?_
      refine Sd_aload_n (pc' := 119) (dc D_Mod_addsPart 70 rfl) rfl 0 rfl rfl ?_
      refine Sd_aload_n (pc' := 120) (dc D_Mod_addsPart 71 rfl) rfl 0 rfl rfl ?_
      refine Sd_getR (pc' := 123) (dc D_Mod_addsPart 72 rfl) rfl F_Mod_53 rfl rfl ?_
      refine Sd_iconst (pc' := 124) (dc D_Mod_addsPart 73 rfl) rfl ⟨by decide, by decide⟩ ?_
      refine Sd.callVI (ci := 12) (t := 13) (as := [_, _]) RX12 (pc' := 127) (dc D_Mod_addsPart 74 rfl) rfl rfl rfl rfl K_Mod_makeNow L_Mod_310 Ks_Mod_makeNow Kv_Mod_makeNow ⟨by decide, by decide⟩ rfl rfl (Nat.le_of_ble_eq_true rfl) (s_Mod_makeNow _ _ _ _) (fun x15 h14 => ?_)
      refine Sd_iastore (pc' := 128) (dc D_Mod_addsPart 75 rfl) rfl (by decide) ?_
      refine Sd_aload_n (pc' := 129) (dc D_Mod_addsPart 76 rfl) rfl 0 rfl rfl ?_
      refine Sd_dup (pc' := 130) (dc D_Mod_addsPart 77 rfl) rfl (cat_r _) ?_
      refine Sd_getI (pc' := 133) (dc D_Mod_addsPart 78 rfl) rfl F_Mod_317 rfl rfl ?_
      refine Sd_iconst (pc' := 134) (dc D_Mod_addsPart 79 rfl) rfl ⟨by decide, by decide⟩ ?_
      refine Sd_iadd (pc' := 135) (dc D_Mod_addsPart 80 rfl) rfl ?_
      refine Sd_putI (pc' := 138) (dc D_Mod_addsPart 81 rfl) rfl F_Mod_317 rfl rfl rfl (finOk.no rfl) (by decide) ?_
      exact Sd_vret (dc D_Mod_addsPart 82 rfl) rfl
    · refine Sd_aload_n (pc' := 53) (dc D_Mod_addsPart 29 rfl) rfl 0 rfl rfl ?_
      refine Sd_getR (pc' := 56) (dc D_Mod_addsPart 30 rfl) rfl F_Mod_62 rfl rfl ?_
      refine Sd_iload_n (pc' := 57) (dc D_Mod_addsPart 31 rfl) rfl 1 rfl rfl ?_
      refine Sd_iload_n (pc' := 58) (dc D_Mod_addsPart 32 rfl) rfl 2 rfl rfl ?_
      refine Sd_iadd (pc' := 59) (dc D_Mod_addsPart 33 rfl) rfl ?_
      refine Sd_aload_n (pc' := 60) (dc D_Mod_addsPart 34 rfl) rfl 0 rfl rfl ?_
      refine Sd_getR (pc' := 63) (dc D_Mod_addsPart 35 rfl) rfl F_Mod_53 rfl rfl ?_
      refine Sd_iload_n (pc' := 64) (dc D_Mod_addsPart 36 rfl) rfl 2 rfl rfl ?_
      refine Sd_iaload (pc' := 65) (dc D_Mod_addsPart 37 rfl) rfl ?_
      refine Sd_iastore (pc' := 66) (dc D_Mod_addsPart 38 rfl) rfl (by decide) ?_
      refine Sd_iinc (pc' := 69) (l' := [(2, _), (0, _), (1, _)]) (dc D_Mod_addsPart 39 rfl) rfl 2 rfl (by decide) rfl ?_
      refine Sd_goto (tgt := 46) (dc D_Mod_addsPart 40 rfl) (by decide) ?_
      refine Sd.sub (l' := [(0, _), (1, _), (2, _)]) [1, 2, 0] rfl ?_
      exact s_Mod_addsPart_L46 n _ _ _ _
def Mod_addsPart_L2 : Nat → Nat → Int → AH → Option (Unit × AH)
  | 0, _, _, _ => none
  | n + 1, v0, v1, h => gI h 13 v0 31 fun x1 => if (x1 : Int) ≤ v1 then (gI h 13 v0 31 fun x2 => Mod_addsPart_L46 FU v0 ((wr (16 * x2))) 0 h) else (gR h 13 v0 29 fun r3 => gR h 13 v0 26 fun r4 => bnd (Mod_areSame r3 (wr (16 * v1)) r4 0 h) fun x6 h5 => if (x6 : Int) = 0 then (Mod_addsPart_L2 n v0 ((wr (v1 + 1))) h5) else (some ((), h5)))
set_option maxHeartbeats 4000000 in
set_option maxRecDepth 20000 in
theorem s_Mod_addsPart_L2 : ∀ (n : Nat) (v0 : Nat) (v1 : Int) (h : AH), Sd M_Mod_addsPart 5 103 emV 2 [(0, vr v0), (1, vi v1)] [] h (Mod_addsPart_L2 n v0 v1 h)
  | 0, _, _, _ => Sd.none
  | n + 1, v0, v1, h => by
    rw [Mod_addsPart_L2]
    refine Sd_iload_n (pc' := 3) (dc D_Mod_addsPart 2 rfl) rfl 1 rfl rfl ?_
    refine Sd_aload_n (pc' := 4) (dc D_Mod_addsPart 3 rfl) rfl 0 rfl rfl ?_
    refine Sd_getI (pc' := 7) (dc D_Mod_addsPart 4 rfl) rfl F_Mod_317 rfl rfl ?_
    refine Sd_icmp_ge (tgt := 36) (pc' := 10) (dc D_Mod_addsPart 5 rfl) (by decide) rfl (fun _ => ?_) (fun _ => ?_)
    · refine Sd_bipush (pc' := 38) (dc D_Mod_addsPart 19 rfl) rfl ⟨by decide, by decide⟩ (by decide) ?_
      refine Sd_aload_n (pc' := 39) (dc D_Mod_addsPart 20 rfl) rfl 0 rfl rfl ?_
      refine Sd_getI (pc' := 42) (dc D_Mod_addsPart 21 rfl) rfl F_Mod_317 rfl rfl ?_
      refine Sd_imul (pc' := 43) (dc D_Mod_addsPart 22 rfl) rfl ?_
      refine Sd_istore_n (pc' := 44) (l' := [(1, _), (0, _)]) (dc D_Mod_addsPart 23 rfl) rfl rfl (by decide) rfl ?_
      refine Sd_iconst (pc' := 45) (dc D_Mod_addsPart 24 rfl) rfl ⟨by decide, by decide⟩ ?_
      refine Sd_istore_n (pc' := 46) (l' := [(2, _), (1, _), (0, _)]) (dc D_Mod_addsPart 25 rfl) rfl rfl (by decide) rfl ?_
      refine Sd.sub (l' := [(0, _), (1, _), (2, _)]) [2, 1, 0] rfl ?_
      exact s_Mod_addsPart_L46 FU _ _ _ _
    · refine Sd_aload_n (pc' := 11) (dc D_Mod_addsPart 6 rfl) rfl 0 rfl rfl ?_
      refine Sd_getR (pc' := 14) (dc D_Mod_addsPart 7 rfl) rfl F_Mod_62 rfl rfl ?_
      refine Sd_bipush (pc' := 16) (dc D_Mod_addsPart 8 rfl) rfl ⟨by decide, by decide⟩ (by decide) ?_
      refine Sd_iload_n (pc' := 17) (dc D_Mod_addsPart 9 rfl) rfl 1 rfl rfl ?_
      refine Sd_imul (pc' := 18) (dc D_Mod_addsPart 10 rfl) rfl ?_
      refine Sd_aload_n (pc' := 19) (dc D_Mod_addsPart 11 rfl) rfl 0 rfl rfl ?_
      refine Sd_getR (pc' := 22) (dc D_Mod_addsPart 12 rfl) rfl F_Mod_53 rfl rfl ?_
      refine Sd_iconst (pc' := 23) (dc D_Mod_addsPart 13 rfl) rfl ⟨by decide, by decide⟩ ?_
      refine Sd.callSI (as := [_, _, _, _]) (pc' := 26) (dc D_Mod_addsPart 14 rfl) rfl K_Mod_areSame L_Mod_320 Ks_Mod_areSame ⟨by decide, by decide⟩ rfl rfl (Nat.le_of_ble_eq_true rfl) (s_Mod_areSame _ _ _ _ _) (fun x6 h5 => ?_)
      refine Sd_if_eq (tgt := 30) (pc' := 29) (dc D_Mod_addsPart 15 rfl) (by decide) rfl (fun _ => ?_) (fun _ => ?_)
      · refine Sd_iinc (pc' := 33) (l' := [(1, _), (0, _)]) (dc D_Mod_addsPart 17 rfl) rfl 1 rfl (by decide) rfl ?_
        refine Sd_goto (tgt := 2) (dc D_Mod_addsPart 18 rfl) (by decide) ?_
        refine Sd.sub (l' := [(0, _), (1, _)]) [1, 0] rfl ?_
        exact s_Mod_addsPart_L2 n _ _ _
      · exact Sd_vret (dc D_Mod_addsPart 16 rfl) rfl
def Mod_addsPart (v0 : Nat) (h : AH) : Option (Unit × AH) := Mod_addsPart_L2 FU v0 0 h
set_option maxHeartbeats 4000000 in
set_option maxRecDepth 20000 in
theorem s_Mod_addsPart (v0 : Nat) (h : AH) : CS M_Mod_addsPart 5 103 emV [vr v0] h (Mod_addsPart v0 h) := by
  refine CS.of (by decide) (Nat.le_of_ble_eq_true rfl) ?_
  show Sd M_Mod_addsPart 5 103 emV 0 [(0, vr v0)] [] h _
  unfold Mod_addsPart
  refine Sd_iconst (pc' := 1) (dc D_Mod_addsPart 0 rfl) rfl ⟨by decide, by decide⟩ ?_
  refine Sd_istore_n (pc' := 2) (l' := [(1, _), (0, _)]) (dc D_Mod_addsPart 1 rfl) rfl rfl (by decide) rfl ?_
  refine Sd.sub (l' := [(0, _), (1, _)]) [1, 0] rfl ?_
  exact s_Mod_addsPart_L2 FU _ _ _
theorem K_Mod_addsPart : MOk M_Mod_addsPart 0 := ⟨Tb_at 133 (by decide +kernel) rfl, Tb_at 1583 (by decide +kernel) rfl, by decide +kernel, by decide +kernel, by decide +kernel⟩
theorem Ks_Mod_addsPart : Cond.instanceMethod yX12_addsPart ∈ Tb := Tb_at 1582 (by decide +kernel) rfl
theorem Kv_Mod_addsPart : Cond.selects RX12 yX12_addsPart yX12_addsPart ∈ Tb := Tb_at 73 (by decide +kernel) rfl
/-! ===== BatchShareModel.laysWide(II)V ===== -/
abbrev M_Mod_laysWide : AMt := (yX12_laysWide, cX12_laysWide, 9, none)
def T_Mod_laysWide : List (Nat × Instr × Nat) := [(0, .bipush 16, 2), (2, .iload_n 1, 1), (3, .imul, 1), (4, .istore_n 3, 1), (5, .bipush 16, 2), (7, .iload_n 2, 1), (8, .imul, 1), (9, .istore 4, 2), (11, .iconst 0, 1), (12, .istore 5, 2), (14, .iload 5, 2), (16, .bipush 13, 2), (18, .if_icmp .ge 84, 3), (21, .aload_n 0, 1), (22, .getfield 62, 3), (25, .iload_n 3, 1), (26, .iload 5, 2), (28, .iadd, 1), (29, .iaload, 1), (30, .istore 6, 2), (32, .aload_n 0, 1), (33, .getfield 62, 3), (36, .iload 4, 2), (38, .iload 5, 2), (40, .iadd, 1), (41, .iaload, 1), (42, .istore 7, 2), (44, .iload 5, 2), (46, .iconst 3, 1), (47, .if_icmp .lt 11, 3), (50, .iload 5, 2), (52, .iconst 2, 1), (53, .irem, 1), (54, .iconst 1, 1), (55, .if_icmp .ne 7, 3), (58, .iconst 1, 1), (59, .goto 4, 3), (62, .iconst 0, 1), (63, .istore 8, 2), (65, .aload_n 0, 1), (66, .getfield 53, 3), (69, .iload 5, 2), (71, .iload 6, 2), (73, .iload 7, 2), (75, .if_icmp .ge 7, 3), (78, .iconst 1, 1), (79, .goto 4, 3), (82, .iconst 0, 1), (83, .iload 8, 2), (85, .if_icmp .ne 8, 3), (88, .iload 6, 2), (90, .goto 5, 3), (93, .iload 7, 2), (95, .iastore, 1), (96, .iinc 5 1, 3), (99, .goto (-85), 3), (102, .return_, 1)]
set_option maxRecDepth 20000 in
theorem D_Mod_laysWide : (T_Mod_laysWide.all fun q => decide (decode M_Mod_laysWide.2.1 q.1 = .ok q.2)) = true := by decide +kernel
def Mod_laysWide_L83 (k14 : Nat → Int → Int → Int → AH → Option (Unit × AH)) (v0 : Nat) (v3 : Int) (v4 : Int) (v5 : Int) (v6 : Int) (v7 : Int) (v8 : Int) (s0 : Int) (s1 : Int) (s2 : Nat) (h : AH) : Option (Unit × AH) := if ¬ (s0 : Int) = v8 then (wI h 21 s2 s1 v7 fun h1 => k14 v0 v3 v4 ((wr (v5 + 1))) h1) else (wI h 21 s2 s1 v6 fun h2 => k14 v0 v3 v4 ((wr (v5 + 1))) h2)
set_option maxHeartbeats 4000000 in
set_option maxRecDepth 20000 in
theorem s_Mod_laysWide_L83 (k14 : Nat → Int → Int → Int → AH → Option (Unit × AH)) (hk14 : ∀ v0 v3 v4 v5 h, Sd M_Mod_laysWide 1 0 emV 14 [(0, vr v0), (3, vi v3), (4, vi v4), (5, vi v5)] [] h (k14 v0 v3 v4 v5 h)) (v0 : Nat) (v3 : Int) (v4 : Int) (v5 : Int) (v6 : Int) (v7 : Int) (v8 : Int) (s0 : Int) (s1 : Int) (s2 : Nat) (h : AH) : Sd M_Mod_laysWide 1 0 emV 83 [(0, vr v0), (3, vi v3), (4, vi v4), (5, vi v5), (6, vi v6), (7, vi v7), (8, vi v8)] [vi s0, vi s1, vr s2] h (Mod_laysWide_L83 k14 v0 v3 v4 v5 v6 v7 v8 s0 s1 s2 h) := by
  unfold Mod_laysWide_L83
  refine Sd_iload (pc' := 85) (dc D_Mod_laysWide 48 rfl) rfl 6 rfl ?_
  refine Sd_icmp_ne (tgt := 93) (pc' := 88) (dc D_Mod_laysWide 49 rfl) (by decide) rfl (fun _ => ?_) (fun _ => ?_)
  · refine Sd_iload (pc' := 95) (dc D_Mod_laysWide 52 rfl) rfl 5 rfl ?_
    refine Sd_iastore (pc' := 96) (dc D_Mod_laysWide 53 rfl) rfl (by decide) ?_
    refine Sd_iinc (pc' := 99) (l' := [(5, _), (0, _), (3, _), (4, _), (6, _), (7, _), (8, _)]) (dc D_Mod_laysWide 54 rfl) rfl 3 rfl (by decide) rfl ?_
    refine Sd_goto (tgt := 14) (dc D_Mod_laysWide 55 rfl) (by decide) ?_
    refine Sd.sub (l' := [(0, _), (3, _), (4, _), (5, _)]) [1, 2, 3, 0] rfl ?_
    exact hk14 _ _ _ _ _
  · refine Sd_iload (pc' := 90) (dc D_Mod_laysWide 50 rfl) rfl 4 rfl ?_
    refine Sd_goto (tgt := 95) (dc D_Mod_laysWide 51 rfl) (by decide) ?_
    refine Sd_iastore (pc' := 96) (dc D_Mod_laysWide 53 rfl) rfl (by decide) ?_
    refine Sd_iinc (pc' := 99) (l' := [(5, _), (0, _), (3, _), (4, _), (6, _), (7, _), (8, _)]) (dc D_Mod_laysWide 54 rfl) rfl 3 rfl (by decide) rfl ?_
    refine Sd_goto (tgt := 14) (dc D_Mod_laysWide 55 rfl) (by decide) ?_
    refine Sd.sub (l' := [(0, _), (3, _), (4, _), (5, _)]) [1, 2, 3, 0] rfl ?_
    exact hk14 _ _ _ _ _
def Mod_laysWide_L58 (k14 : Nat → Int → Int → Int → AH → Option (Unit × AH)) (v0 : Nat) (v3 : Int) (v4 : Int) (v5 : Int) (v6 : Int) (v7 : Int) (h : AH) : Option (Unit × AH) := gR h 13 v0 26 fun r1 => if (v7 : Int) ≤ v6 then (Mod_laysWide_L83 k14 v0 v3 v4 v5 v6 v7 1 0 v5 r1 h) else (Mod_laysWide_L83 k14 v0 v3 v4 v5 v6 v7 1 1 v5 r1 h)
set_option maxHeartbeats 4000000 in
set_option maxRecDepth 20000 in
theorem s_Mod_laysWide_L58 (k14 : Nat → Int → Int → Int → AH → Option (Unit × AH)) (hk14 : ∀ v0 v3 v4 v5 h, Sd M_Mod_laysWide 1 0 emV 14 [(0, vr v0), (3, vi v3), (4, vi v4), (5, vi v5)] [] h (k14 v0 v3 v4 v5 h)) (v0 : Nat) (v3 : Int) (v4 : Int) (v5 : Int) (v6 : Int) (v7 : Int) (h : AH) : Sd M_Mod_laysWide 1 0 emV 58 [(0, vr v0), (3, vi v3), (4, vi v4), (5, vi v5), (6, vi v6), (7, vi v7)] [] h (Mod_laysWide_L58 k14 v0 v3 v4 v5 v6 v7 h) := by
  unfold Mod_laysWide_L58
  refine Sd_iconst (pc' := 59) (dc D_Mod_laysWide 35 rfl) rfl ⟨by decide, by decide⟩ ?_
  refine Sd_goto (tgt := 63) (dc D_Mod_laysWide 36 rfl) (by decide) ?_
  refine Sd_istore (pc' := 65) (l' := [(8, _), (0, _), (3, _), (4, _), (5, _), (6, _), (7, _)]) (dc D_Mod_laysWide 38 rfl) rfl (by decide) rfl ?_
  refine Sd_aload_n (pc' := 66) (dc D_Mod_laysWide 39 rfl) rfl 1 rfl rfl ?_
  refine Sd_getR (pc' := 69) (dc D_Mod_laysWide 40 rfl) rfl F_Mod_53 rfl rfl ?_
  refine Sd_iload (pc' := 71) (dc D_Mod_laysWide 41 rfl) rfl 4 rfl ?_
  refine Sd_iload (pc' := 73) (dc D_Mod_laysWide 42 rfl) rfl 5 rfl ?_
  refine Sd_iload (pc' := 75) (dc D_Mod_laysWide 43 rfl) rfl 6 rfl ?_
  refine Sd_icmp_ge (tgt := 82) (pc' := 78) (dc D_Mod_laysWide 44 rfl) (by decide) rfl (fun _ => ?_) (fun _ => ?_)
  · refine Sd_iconst (pc' := 83) (dc D_Mod_laysWide 47 rfl) rfl ⟨by decide, by decide⟩ ?_
    refine Sd.sub (l' := [(0, _), (3, _), (4, _), (5, _), (6, _), (7, _), (8, _)]) [1, 2, 3, 4, 5, 6, 0] rfl ?_
    exact s_Mod_laysWide_L83 k14 hk14 _ _ _ _ _ _ _ _ _ _ _
  · refine Sd_iconst (pc' := 79) (dc D_Mod_laysWide 45 rfl) rfl ⟨by decide, by decide⟩ ?_
    refine Sd_goto (tgt := 83) (dc D_Mod_laysWide 46 rfl) (by decide) ?_
    refine Sd.sub (l' := [(0, _), (3, _), (4, _), (5, _), (6, _), (7, _), (8, _)]) [1, 2, 3, 4, 5, 6, 0] rfl ?_
    exact s_Mod_laysWide_L83 k14 hk14 _ _ _ _ _ _ _ _ _ _ _
def Mod_laysWide_L14 : Nat → Nat → Int → Int → Int → AH → Option (Unit × AH)
  | 0, _, _, _, _, _ => none
  | n + 1, v0, v3, v4, v5, h => if (13 : Int) ≤ v5 then (some ((), h)) else (gR h 13 v0 29 fun r1 => aI h 21 r1 (wr (v3 + v5)) fun x2 => gR h 13 v0 29 fun r3 => aI h 21 r3 (wr (v4 + v5)) fun x4 => if (v5 : Int) < 3 then (Mod_laysWide_L58 (Mod_laysWide_L14 n) v0 v3 v4 v5 x2 x4 h) else (if (2 : Int) = 0 then none else if ¬ ((iRem v5 2) : Int) = 1 then (gR h 13 v0 26 fun r5 => if (x4 : Int) ≤ x2 then (Mod_laysWide_L83 (Mod_laysWide_L14 n) v0 v3 v4 v5 x2 x4 0 0 v5 r5 h) else (Mod_laysWide_L83 (Mod_laysWide_L14 n) v0 v3 v4 v5 x2 x4 0 1 v5 r5 h)) else (Mod_laysWide_L58 (Mod_laysWide_L14 n) v0 v3 v4 v5 x2 x4 h)))
set_option maxHeartbeats 4000000 in
set_option maxRecDepth 20000 in
theorem s_Mod_laysWide_L14 : ∀ (n : Nat) (v0 : Nat) (v3 : Int) (v4 : Int) (v5 : Int) (h : AH), Sd M_Mod_laysWide 1 0 emV 14 [(0, vr v0), (3, vi v3), (4, vi v4), (5, vi v5)] [] h (Mod_laysWide_L14 n v0 v3 v4 v5 h)
  | 0, _, _, _, _, _ => Sd.none
  | n + 1, v0, v3, v4, v5, h => by
    rw [Mod_laysWide_L14]
    refine Sd_iload (pc' := 16) (dc D_Mod_laysWide 10 rfl) rfl 3 rfl ?_
    refine Sd_bipush (pc' := 18) (dc D_Mod_laysWide 11 rfl) rfl ⟨by decide, by decide⟩ (by decide) ?_
    refine Sd_icmp_ge (tgt := 102) (pc' := 21) (dc D_Mod_laysWide 12 rfl) (by decide) rfl (fun _ => ?_) (fun _ => ?_)
    · exact Sd_vret (dc D_Mod_laysWide 56 rfl) rfl
    · refine Sd_aload_n (pc' := 22) (dc D_Mod_laysWide 13 rfl) rfl 0 rfl rfl ?_
      refine Sd_getR (pc' := 25) (dc D_Mod_laysWide 14 rfl) rfl F_Mod_62 rfl rfl ?_
      refine Sd_iload_n (pc' := 26) (dc D_Mod_laysWide 15 rfl) rfl 1 rfl rfl ?_
      refine Sd_iload (pc' := 28) (dc D_Mod_laysWide 16 rfl) rfl 3 rfl ?_
      refine Sd_iadd (pc' := 29) (dc D_Mod_laysWide 17 rfl) rfl ?_
      refine Sd_iaload (pc' := 30) (dc D_Mod_laysWide 18 rfl) rfl ?_
      refine Sd_istore (pc' := 32) (l' := [(6, _), (0, _), (3, _), (4, _), (5, _)]) (dc D_Mod_laysWide 19 rfl) rfl (by decide) rfl ?_
      refine Sd_aload_n (pc' := 33) (dc D_Mod_laysWide 20 rfl) rfl 1 rfl rfl ?_
      refine Sd_getR (pc' := 36) (dc D_Mod_laysWide 21 rfl) rfl F_Mod_62 rfl rfl ?_
      refine Sd_iload (pc' := 38) (dc D_Mod_laysWide 22 rfl) rfl 3 rfl ?_
      refine Sd_iload (pc' := 40) (dc D_Mod_laysWide 23 rfl) rfl 4 rfl ?_
      refine Sd_iadd (pc' := 41) (dc D_Mod_laysWide 24 rfl) rfl ?_
      refine Sd_iaload (pc' := 42) (dc D_Mod_laysWide 25 rfl) rfl ?_
      refine Sd_istore (pc' := 44) (l' := [(7, _), (6, _), (0, _), (3, _), (4, _), (5, _)]) (dc D_Mod_laysWide 26 rfl) rfl (by decide) rfl ?_
      refine Sd_iload (pc' := 46) (dc D_Mod_laysWide 27 rfl) rfl 5 rfl ?_
      refine Sd_iconst (pc' := 47) (dc D_Mod_laysWide 28 rfl) rfl ⟨by decide, by decide⟩ ?_
      refine Sd_icmp_lt (tgt := 58) (pc' := 50) (dc D_Mod_laysWide 29 rfl) (by decide) rfl (fun _ => ?_) (fun _ => ?_)
      · refine Sd.sub (l' := [(0, _), (3, _), (4, _), (5, _), (6, _), (7, _)]) [2, 3, 4, 5, 1, 0] rfl ?_
        exact s_Mod_laysWide_L58 (Mod_laysWide_L14 n) (s_Mod_laysWide_L14 n) _ _ _ _ _ _ _
      · refine Sd_iload (pc' := 52) (dc D_Mod_laysWide 30 rfl) rfl 5 rfl ?_
        refine Sd_iconst (pc' := 53) (dc D_Mod_laysWide 31 rfl) rfl ⟨by decide, by decide⟩ ?_
        refine Sd_irem (pc' := 54) (dc D_Mod_laysWide 32 rfl) rfl ?_
        refine Sd_iconst (pc' := 55) (dc D_Mod_laysWide 33 rfl) rfl ⟨by decide, by decide⟩ ?_
        refine Sd_icmp_ne (tgt := 62) (pc' := 58) (dc D_Mod_laysWide 34 rfl) (by decide) rfl (fun _ => ?_) (fun _ => ?_)
        · refine Sd_iconst (pc' := 63) (dc D_Mod_laysWide 37 rfl) rfl ⟨by decide, by decide⟩ ?_
          refine Sd_istore (pc' := 65) (l' := [(8, _), (7, _), (6, _), (0, _), (3, _), (4, _), (5, _)]) (dc D_Mod_laysWide 38 rfl) rfl (by decide) rfl ?_
          refine Sd_aload_n (pc' := 66) (dc D_Mod_laysWide 39 rfl) rfl 3 rfl rfl ?_
          refine Sd_getR (pc' := 69) (dc D_Mod_laysWide 40 rfl) rfl F_Mod_53 rfl rfl ?_
          refine Sd_iload (pc' := 71) (dc D_Mod_laysWide 41 rfl) rfl 6 rfl ?_
          refine Sd_iload (pc' := 73) (dc D_Mod_laysWide 42 rfl) rfl 2 rfl ?_
          refine Sd_iload (pc' := 75) (dc D_Mod_laysWide 43 rfl) rfl 1 rfl ?_
          refine Sd_icmp_ge (tgt := 82) (pc' := 78) (dc D_Mod_laysWide 44 rfl) (by decide) rfl (fun _ => ?_) (fun _ => ?_)
          · refine Sd_iconst (pc' := 83) (dc D_Mod_laysWide 47 rfl) rfl ⟨by decide, by decide⟩ ?_
            refine Sd.sub (l' := [(0, _), (3, _), (4, _), (5, _), (6, _), (7, _), (8, _)]) [3, 4, 5, 6, 2, 1, 0] rfl ?_
            exact s_Mod_laysWide_L83 (Mod_laysWide_L14 n) (s_Mod_laysWide_L14 n) _ _ _ _ _ _ _ _ _ _ _
          · refine Sd_iconst (pc' := 79) (dc D_Mod_laysWide 45 rfl) rfl ⟨by decide, by decide⟩ ?_
            refine Sd_goto (tgt := 83) (dc D_Mod_laysWide 46 rfl) (by decide) ?_
            refine Sd.sub (l' := [(0, _), (3, _), (4, _), (5, _), (6, _), (7, _), (8, _)]) [3, 4, 5, 6, 2, 1, 0] rfl ?_
            exact s_Mod_laysWide_L83 (Mod_laysWide_L14 n) (s_Mod_laysWide_L14 n) _ _ _ _ _ _ _ _ _ _ _
        · refine Sd.sub (l' := [(0, _), (3, _), (4, _), (5, _), (6, _), (7, _)]) [2, 3, 4, 5, 1, 0] rfl ?_
          exact s_Mod_laysWide_L58 (Mod_laysWide_L14 n) (s_Mod_laysWide_L14 n) _ _ _ _ _ _ _
def Mod_laysWide (v0 : Nat) (v1 : Int) (v2 : Int) (h : AH) : Option (Unit × AH) := Mod_laysWide_L14 FU v0 ((wr (16 * v1))) ((wr (16 * v2))) 0 h
set_option maxHeartbeats 4000000 in
set_option maxRecDepth 20000 in
theorem s_Mod_laysWide (v0 : Nat) (v1 : Int) (v2 : Int) (h : AH) : CS M_Mod_laysWide 1 0 emV [vr v0, vi v1, vi v2] h (Mod_laysWide v0 v1 v2 h) := by
  refine CS.of (by decide) (Nat.le_of_ble_eq_true rfl) ?_
  show Sd M_Mod_laysWide 1 0 emV 0 [(0, vr v0), (1, vi v1), (2, vi v2)] [] h _
  unfold Mod_laysWide
  refine Sd_bipush (pc' := 2) (dc D_Mod_laysWide 0 rfl) rfl ⟨by decide, by decide⟩ (by decide) ?_
  refine Sd_iload_n (pc' := 3) (dc D_Mod_laysWide 1 rfl) rfl 1 rfl rfl ?_
  refine Sd_imul (pc' := 4) (dc D_Mod_laysWide 2 rfl) rfl ?_
  refine Sd_istore_n (pc' := 5) (l' := [(3, _), (0, _), (1, _), (2, _)]) (dc D_Mod_laysWide 3 rfl) rfl rfl (by decide) rfl ?_
  refine Sd_bipush (pc' := 7) (dc D_Mod_laysWide 4 rfl) rfl ⟨by decide, by decide⟩ (by decide) ?_
  refine Sd_iload_n (pc' := 8) (dc D_Mod_laysWide 5 rfl) rfl 3 rfl rfl ?_
  refine Sd_imul (pc' := 9) (dc D_Mod_laysWide 6 rfl) rfl ?_
  refine Sd_istore (pc' := 11) (l' := [(4, _), (3, _), (0, _), (1, _), (2, _)]) (dc D_Mod_laysWide 7 rfl) rfl (by decide) rfl ?_
  refine Sd_iconst (pc' := 12) (dc D_Mod_laysWide 8 rfl) rfl ⟨by decide, by decide⟩ ?_
  refine Sd_istore (pc' := 14) (l' := [(5, _), (4, _), (3, _), (0, _), (1, _), (2, _)]) (dc D_Mod_laysWide 9 rfl) rfl (by decide) rfl ?_
  refine Sd.sub (l' := [(0, _), (3, _), (4, _), (5, _)]) [3, 2, 1, 0] rfl ?_
  exact s_Mod_laysWide_L14 FU _ _ _ _ _
theorem K_Mod_laysWide : MOk M_Mod_laysWide 2 := ⟨Tb_at 133 (by decide +kernel) rfl, Tb_at 1609 (by decide +kernel) rfl, by decide +kernel, by decide +kernel, by decide +kernel⟩
theorem Ks_Mod_laysWide : Cond.instanceMethod yX12_laysWide ∈ Tb := Tb_at 1608 (by decide +kernel) rfl
theorem Kv_Mod_laysWide : Cond.selects RX12 yX12_laysWide yX12_laysWide ∈ Tb := Tb_at 78 (by decide +kernel) rfl
/-! ===== BatchShareModel.laysCandidates()V ===== -/
abbrev M_Mod_laysCandidates : AMt := (yX12_laysCandidates, cX12_laysCandidates, 3, none)
def T_Mod_laysCandidates : List (Nat × Instr × Nat) := [(0, .aload_n 0, 1), (1, .iconst 0, 1), (2, .putfield 317, 3), (5, .iconst 0, 1), (6, .istore_n 1, 1), (7, .iload_n 1, 1), (8, .aload_n 0, 1), (9, .getfield 96, 3), (12, .if_icmp .ge 49, 3), (15, .iconst 0, 1), (16, .istore_n 2, 1), (17, .iload_n 2, 1), (18, .iconst 3, 1), (19, .if_icmp .ge 36, 3), (22, .aload_n 0, 1), (23, .iload_n 1, 1), (24, .invokevirtual 323, 3), (27, .ifCond .eq 28, 3), (30, .aload_n 0, 1), (31, .iload_n 1, 1), (32, .iload_n 2, 1), (33, .invokevirtual 303, 3), (36, .ifCond .eq 13, 3), (39, .aload_n 0, 1), (40, .iload_n 1, 1), (41, .iload_n 2, 1), (42, .invokevirtual 300, 3), (45, .aload_n 0, 1), (46, .invokevirtual 326, 3), (49, .iinc 2 1, 3), (52, .goto (-35), 3), (55, .iinc 1 1, 3), (58, .goto (-51), 3), (61, .aload_n 0, 1), (62, .aload_n 0, 1), (63, .getfield 317, 3), (66, .putfield 329, 3), (69, .iconst 0, 1), (70, .istore_n 1, 1), (71, .iload_n 1, 1), (72, .aload_n 0, 1), (73, .getfield 329, 3), (76, .if_icmp .ge 59, 3), (79, .iload_n 1, 1), (80, .iconst 1, 1), (81, .iadd, 1), (82, .istore_n 2, 1), (83, .iload_n 2, 1), (84, .aload_n 0, 1), (85, .getfield 329, 3), (88, .if_icmp .ge 41, 3), (91, .aload_n 0, 1), (92, .getfield 62, 3), (95, .bipush 16, 2), (97, .iload_n 1, 1), (98, .imul, 1), (99, .aload_n 0, 1), (100, .getfield 62, 3), (103, .bipush 16, 2), (105, .iload_n 2, 1), (106, .imul, 1), (107, .invokestatic 313, 3), (110, .ifCond .eq 13, 3), (113, .aload_n 0, 1), (114, .iload_n 1, 1), (115, .iload_n 2, 1), (116, .invokevirtual 332, 3), (119, .aload_n 0, 1), (120, .invokevirtual 326, 3), (123, .iinc 2 1, 3), (126, .goto (-43), 3), (129, .iinc 1 1, 3), (132, .goto (-61), 3), (135, .return_, 1)]
set_option maxRecDepth 20000 in
theorem D_Mod_laysCandidates : (T_Mod_laysCandidates.all fun q => decide (decode M_Mod_laysCandidates.2.1 q.1 = .ok q.2)) = true := by decide +kernel
def Mod_laysCandidates_L83 (k71 : Nat → Int → AH → Option (Unit × AH)) : Nat → Nat → Int → Int → AH → Option (Unit × AH)
  | 0, _, _, _, _ => none
  | n + 1, v0, v1, v2, h => gI h 13 v0 32 fun x1 => if (x1 : Int) ≤ v2 then (k71 v0 ((wr (v1 + 1))) h) else (gR h 13 v0 29 fun r2 => gR h 13 v0 29 fun r3 => bnd (Mod_areOfOne r2 (wr (16 * v1)) r3 (wr (16 * v2)) h) fun x5 h4 => if (x5 : Int) = 0 then (Mod_laysCandidates_L83 k71 n v0 v1 ((wr (v2 + 1))) h4) else (rc h4 13 v0 <| bnd (Mod_laysWide v0 v1 v2 h4) fun _ h7 => rc h7 13 v0 <| bnd (Mod_addsPart v0 h7) fun _ h10 => Mod_laysCandidates_L83 k71 n v0 v1 ((wr (v2 + 1))) h10))
set_option maxHeartbeats 4000000 in
set_option maxRecDepth 20000 in
theorem s_Mod_laysCandidates_L83 (k71 : Nat → Int → AH → Option (Unit × AH)) (hk71 : ∀ v0 v1 h, Sd M_Mod_laysCandidates 6 125 emV 71 [(0, vr v0), (1, vi v1)] [] h (k71 v0 v1 h)) : ∀ (n : Nat) (v0 : Nat) (v1 : Int) (v2 : Int) (h : AH), Sd M_Mod_laysCandidates 6 125 emV 83 [(0, vr v0), (1, vi v1), (2, vi v2)] [] h (Mod_laysCandidates_L83 k71 n v0 v1 v2 h)
  | 0, _, _, _, _ => Sd.none
  | n + 1, v0, v1, v2, h => by
    rw [Mod_laysCandidates_L83]
    refine Sd_iload_n (pc' := 84) (dc D_Mod_laysCandidates 47 rfl) rfl 2 rfl rfl ?_
    refine Sd_aload_n (pc' := 85) (dc D_Mod_laysCandidates 48 rfl) rfl 0 rfl rfl ?_
    refine Sd_getI (pc' := 88) (dc D_Mod_laysCandidates 49 rfl) rfl F_Mod_329 rfl rfl ?_
    refine Sd_icmp_ge (tgt := 129) (pc' := 91) (dc D_Mod_laysCandidates 50 rfl) (by decide) rfl (fun _ => ?_) (fun _ => ?_)
    · refine Sd_iinc (pc' := 132) (l' := [(1, _), (0, _), (2, _)]) (dc D_Mod_laysCandidates 71 rfl) rfl 1 rfl (by decide) rfl ?_
      refine Sd_goto (tgt := 71) (dc D_Mod_laysCandidates 72 rfl) (by decide) ?_
      refine Sd.sub (l' := [(0, _), (1, _)]) [1, 0] rfl ?_
      exact hk71 _ _ _
    · refine Sd_aload_n (pc' := 92) (dc D_Mod_laysCandidates 51 rfl) rfl 0 rfl rfl ?_
      refine Sd_getR (pc' := 95) (dc D_Mod_laysCandidates 52 rfl) rfl F_Mod_62 rfl rfl ?_
      refine Sd_bipush (pc' := 97) (dc D_Mod_laysCandidates 53 rfl) rfl ⟨by decide, by decide⟩ (by decide) ?_
      refine Sd_iload_n (pc' := 98) (dc D_Mod_laysCandidates 54 rfl) rfl 1 rfl rfl ?_
      refine Sd_imul (pc' := 99) (dc D_Mod_laysCandidates 55 rfl) rfl ?_
      refine Sd_aload_n (pc' := 100) (dc D_Mod_laysCandidates 56 rfl) rfl 0 rfl rfl ?_
      refine Sd_getR (pc' := 103) (dc D_Mod_laysCandidates 57 rfl) rfl F_Mod_62 rfl rfl ?_
      refine Sd_bipush (pc' := 105) (dc D_Mod_laysCandidates 58 rfl) rfl ⟨by decide, by decide⟩ (by decide) ?_
      refine Sd_iload_n (pc' := 106) (dc D_Mod_laysCandidates 59 rfl) rfl 2 rfl rfl ?_
      refine Sd_imul (pc' := 107) (dc D_Mod_laysCandidates 60 rfl) rfl ?_
      refine Sd.callSI (as := [_, _, _, _]) (pc' := 110) (dc D_Mod_laysCandidates 61 rfl) rfl K_Mod_areOfOne L_Mod_313 Ks_Mod_areOfOne ⟨by decide, by decide⟩ rfl rfl (Nat.le_of_ble_eq_true rfl) (s_Mod_areOfOne _ _ _ _ _) (fun x5 h4 => ?_)
      refine Sd_if_eq (tgt := 123) (pc' := 113) (dc D_Mod_laysCandidates 62 rfl) (by decide) rfl (fun _ => ?_) (fun _ => ?_)
      · refine Sd_iinc (pc' := 126) (l' := [(2, _), (0, _), (1, _)]) (dc D_Mod_laysCandidates 69 rfl) rfl 2 rfl (by decide) rfl ?_
        refine Sd_goto (tgt := 83) (dc D_Mod_laysCandidates 70 rfl) (by decide) ?_
        refine Sd.sub (l' := [(0, _), (1, _), (2, _)]) [1, 2, 0] rfl ?_
        exact s_Mod_laysCandidates_L83 k71 hk71 n _ _ _ _
      · refine Sd_aload_n (pc' := 114) (dc D_Mod_laysCandidates 63 rfl) rfl 0 rfl rfl ?_
        refine Sd_iload_n (pc' := 115) (dc D_Mod_laysCandidates 64 rfl) rfl 1 rfl rfl ?_
        refine Sd_iload_n (pc' := 116) (dc D_Mod_laysCandidates 65 rfl) rfl 2 rfl rfl ?_
        refine Sd.callVV (ci := 12) (t := 13) (as := [_, _]) RX12 (pc' := 119) (dc D_Mod_laysCandidates 66 rfl) rfl rfl rfl rfl K_Mod_laysWide L_Mod_332 Ks_Mod_laysWide Kv_Mod_laysWide ⟨by decide, by decide⟩ rfl rfl (Nat.le_of_ble_eq_true rfl) (s_Mod_laysWide _ _ _ _) (fun _ h7 => ?_)
        refine Sd_aload_n (pc' := 120) (dc D_Mod_laysCandidates 67 rfl) rfl 0 rfl rfl ?_
        refine Sd.callVV (ci := 12) (t := 13) (as := []) RX12 (pc' := 123) (dc D_Mod_laysCandidates 68 rfl) rfl rfl rfl rfl K_Mod_addsPart L_Mod_326 Ks_Mod_addsPart Kv_Mod_addsPart ⟨by decide, by decide⟩ rfl rfl (Nat.le_of_ble_eq_true rfl) (s_Mod_addsPart _ _) (fun _ h10 => ?_)
        refine Sd_iinc (pc' := 126) (l' := [(2, _), (0, _), (1, _)]) (dc D_Mod_laysCandidates 69 rfl) rfl 2 rfl (by decide) rfl ?_
        refine Sd_goto (tgt := 83) (dc D_Mod_laysCandidates 70 rfl) (by decide) ?_
        refine Sd.sub (l' := [(0, _), (1, _), (2, _)]) [1, 2, 0] rfl ?_
        exact s_Mod_laysCandidates_L83 k71 hk71 n _ _ _ _
def Mod_laysCandidates_L71 : Nat → Nat → Int → AH → Option (Unit × AH)
  | 0, _, _, _ => none
  | n + 1, v0, v1, h => gI h 13 v0 32 fun x1 => if (x1 : Int) ≤ v1 then (some ((), h)) else (Mod_laysCandidates_L83 (Mod_laysCandidates_L71 n) FU v0 v1 ((wr (v1 + 1))) h)
set_option maxHeartbeats 4000000 in
set_option maxRecDepth 20000 in
theorem s_Mod_laysCandidates_L71 : ∀ (n : Nat) (v0 : Nat) (v1 : Int) (h : AH), Sd M_Mod_laysCandidates 6 125 emV 71 [(0, vr v0), (1, vi v1)] [] h (Mod_laysCandidates_L71 n v0 v1 h)
  | 0, _, _, _ => Sd.none
  | n + 1, v0, v1, h => by
    rw [Mod_laysCandidates_L71]
    refine Sd_iload_n (pc' := 72) (dc D_Mod_laysCandidates 39 rfl) rfl 1 rfl rfl ?_
    refine Sd_aload_n (pc' := 73) (dc D_Mod_laysCandidates 40 rfl) rfl 0 rfl rfl ?_
    refine Sd_getI (pc' := 76) (dc D_Mod_laysCandidates 41 rfl) rfl F_Mod_329 rfl rfl ?_
    refine Sd_icmp_ge (tgt := 135) (pc' := 79) (dc D_Mod_laysCandidates 42 rfl) (by decide) rfl (fun _ => ?_) (fun _ => ?_)
    · exact Sd_vret (dc D_Mod_laysCandidates 73 rfl) rfl
    · refine Sd_iload_n (pc' := 80) (dc D_Mod_laysCandidates 43 rfl) rfl 1 rfl rfl ?_
      refine Sd_iconst (pc' := 81) (dc D_Mod_laysCandidates 44 rfl) rfl ⟨by decide, by decide⟩ ?_
      refine Sd_iadd (pc' := 82) (dc D_Mod_laysCandidates 45 rfl) rfl ?_
      refine Sd_istore_n (pc' := 83) (l' := [(2, _), (0, _), (1, _)]) (dc D_Mod_laysCandidates 46 rfl) rfl rfl (by decide) rfl ?_
      refine Sd.sub (l' := [(0, _), (1, _), (2, _)]) [1, 2, 0] rfl ?_
      exact s_Mod_laysCandidates_L83 (Mod_laysCandidates_L71 n) (s_Mod_laysCandidates_L71 n) FU _ _ _ _
def Mod_laysCandidates_L17 (k7 : Nat → Int → AH → Option (Unit × AH)) : Nat → Nat → Int → Int → AH → Option (Unit × AH)
  | 0, _, _, _, _ => none
  | n + 1, v0, v1, v2, h => if (3 : Int) ≤ v2 then (k7 v0 ((wr (v1 + 1))) h) else (rc h 13 v0 <| bnd (Mod_isOn v0 v1 h) fun x2 h1 => if (x2 : Int) = 0 then (k7 v0 ((wr (v1 + 1))) h1) else (rc h1 13 v0 <| bnd (Mod_hasKind v0 v1 v2 h1) fun x5 h4 => if (x5 : Int) = 0 then (Mod_laysCandidates_L17 k7 n v0 v1 ((wr (v2 + 1))) h4) else (rc h4 13 v0 <| bnd (Mod_laysPart v0 v1 v2 h4) fun _ h7 => rc h7 13 v0 <| bnd (Mod_addsPart v0 h7) fun _ h10 => Mod_laysCandidates_L17 k7 n v0 v1 ((wr (v2 + 1))) h10)))
set_option maxHeartbeats 4000000 in
set_option maxRecDepth 20000 in
theorem s_Mod_laysCandidates_L17 (k7 : Nat → Int → AH → Option (Unit × AH)) (hk7 : ∀ v0 v1 h, Sd M_Mod_laysCandidates 6 125 emV 7 [(0, vr v0), (1, vi v1)] [] h (k7 v0 v1 h)) : ∀ (n : Nat) (v0 : Nat) (v1 : Int) (v2 : Int) (h : AH), Sd M_Mod_laysCandidates 6 125 emV 17 [(0, vr v0), (1, vi v1), (2, vi v2)] [] h (Mod_laysCandidates_L17 k7 n v0 v1 v2 h)
  | 0, _, _, _, _ => Sd.none
  | n + 1, v0, v1, v2, h => by
    rw [Mod_laysCandidates_L17]
    refine Sd_iload_n (pc' := 18) (dc D_Mod_laysCandidates 11 rfl) rfl 2 rfl rfl ?_
    refine Sd_iconst (pc' := 19) (dc D_Mod_laysCandidates 12 rfl) rfl ⟨by decide, by decide⟩ ?_
    refine Sd_icmp_ge (tgt := 55) (pc' := 22) (dc D_Mod_laysCandidates 13 rfl) (by decide) rfl (fun _ => ?_) (fun _ => ?_)
    · refine Sd_iinc (pc' := 58) (l' := [(1, _), (0, _), (2, _)]) (dc D_Mod_laysCandidates 31 rfl) rfl 1 rfl (by decide) rfl ?_
      refine Sd_goto (tgt := 7) (dc D_Mod_laysCandidates 32 rfl) (by decide) ?_
      refine Sd.sub (l' := [(0, _), (1, _)]) [1, 0] rfl ?_
      exact hk7 _ _ _
    · refine Sd_aload_n (pc' := 23) (dc D_Mod_laysCandidates 14 rfl) rfl 0 rfl rfl ?_
      refine Sd_iload_n (pc' := 24) (dc D_Mod_laysCandidates 15 rfl) rfl 1 rfl rfl ?_
      refine Sd.callVI (ci := 12) (t := 13) (as := [_]) RX12 (pc' := 27) (dc D_Mod_laysCandidates 16 rfl) rfl rfl rfl rfl K_Mod_isOn L_Mod_323 Ks_Mod_isOn Kv_Mod_isOn ⟨by decide, by decide⟩ rfl rfl (Nat.le_of_ble_eq_true rfl) (s_Mod_isOn _ _ _) (fun x2 h1 => ?_)
      refine Sd_if_eq (tgt := 55) (pc' := 30) (dc D_Mod_laysCandidates 17 rfl) (by decide) rfl (fun _ => ?_) (fun _ => ?_)
      · refine Sd_iinc (pc' := 58) (l' := [(1, _), (0, _), (2, _)]) (dc D_Mod_laysCandidates 31 rfl) rfl 1 rfl (by decide) rfl ?_
        refine Sd_goto (tgt := 7) (dc D_Mod_laysCandidates 32 rfl) (by decide) ?_
        refine Sd.sub (l' := [(0, _), (1, _)]) [1, 0] rfl ?_
        exact hk7 _ _ _
      · refine Sd_aload_n (pc' := 31) (dc D_Mod_laysCandidates 18 rfl) rfl 0 rfl rfl ?_
        refine Sd_iload_n (pc' := 32) (dc D_Mod_laysCandidates 19 rfl) rfl 1 rfl rfl ?_
        refine Sd_iload_n (pc' := 33) (dc D_Mod_laysCandidates 20 rfl) rfl 2 rfl rfl ?_
        refine Sd.callVI (ci := 12) (t := 13) (as := [_, _]) RX12 (pc' := 36) (dc D_Mod_laysCandidates 21 rfl) rfl rfl rfl rfl K_Mod_hasKind L_Mod_303 Ks_Mod_hasKind Kv_Mod_hasKind ⟨by decide, by decide⟩ rfl rfl (Nat.le_of_ble_eq_true rfl) (s_Mod_hasKind _ _ _ _) (fun x5 h4 => ?_)
        refine Sd_if_eq (tgt := 49) (pc' := 39) (dc D_Mod_laysCandidates 22 rfl) (by decide) rfl (fun _ => ?_) (fun _ => ?_)
        · refine Sd_iinc (pc' := 52) (l' := [(2, _), (0, _), (1, _)]) (dc D_Mod_laysCandidates 29 rfl) rfl 2 rfl (by decide) rfl ?_
          refine Sd_goto (tgt := 17) (dc D_Mod_laysCandidates 30 rfl) (by decide) ?_
          refine Sd.sub (l' := [(0, _), (1, _), (2, _)]) [1, 2, 0] rfl ?_
          exact s_Mod_laysCandidates_L17 k7 hk7 n _ _ _ _
        · refine Sd_aload_n (pc' := 40) (dc D_Mod_laysCandidates 23 rfl) rfl 0 rfl rfl ?_
          refine Sd_iload_n (pc' := 41) (dc D_Mod_laysCandidates 24 rfl) rfl 1 rfl rfl ?_
          refine Sd_iload_n (pc' := 42) (dc D_Mod_laysCandidates 25 rfl) rfl 2 rfl rfl ?_
          refine Sd.callVV (ci := 12) (t := 13) (as := [_, _]) RX12 (pc' := 45) (dc D_Mod_laysCandidates 26 rfl) rfl rfl rfl rfl K_Mod_laysPart L_Mod_300 Ks_Mod_laysPart Kv_Mod_laysPart ⟨by decide, by decide⟩ rfl rfl (Nat.le_of_ble_eq_true rfl) (s_Mod_laysPart _ _ _ _) (fun _ h7 => ?_)
          refine Sd_aload_n (pc' := 46) (dc D_Mod_laysCandidates 27 rfl) rfl 0 rfl rfl ?_
          refine Sd.callVV (ci := 12) (t := 13) (as := []) RX12 (pc' := 49) (dc D_Mod_laysCandidates 28 rfl) rfl rfl rfl rfl K_Mod_addsPart L_Mod_326 Ks_Mod_addsPart Kv_Mod_addsPart ⟨by decide, by decide⟩ rfl rfl (Nat.le_of_ble_eq_true rfl) (s_Mod_addsPart _ _) (fun _ h10 => ?_)
          refine Sd_iinc (pc' := 52) (l' := [(2, _), (0, _), (1, _)]) (dc D_Mod_laysCandidates 29 rfl) rfl 2 rfl (by decide) rfl ?_
          refine Sd_goto (tgt := 17) (dc D_Mod_laysCandidates 30 rfl) (by decide) ?_
          refine Sd.sub (l' := [(0, _), (1, _), (2, _)]) [1, 2, 0] rfl ?_
          exact s_Mod_laysCandidates_L17 k7 hk7 n _ _ _ _
def Mod_laysCandidates_L7 : Nat → Nat → Int → AH → Option (Unit × AH)
  | 0, _, _, _ => none
  | n + 1, v0, v1, h => gI h 13 v0 10 fun x1 => if (x1 : Int) ≤ v1 then (gI h 13 v0 31 fun x2 => pI h 13 v0 32 x2 fun h3 => Mod_laysCandidates_L71 FU v0 0 h3) else (Mod_laysCandidates_L17 (Mod_laysCandidates_L7 n) FU v0 v1 0 h)
set_option maxHeartbeats 4000000 in
set_option maxRecDepth 20000 in
theorem s_Mod_laysCandidates_L7 : ∀ (n : Nat) (v0 : Nat) (v1 : Int) (h : AH), Sd M_Mod_laysCandidates 6 125 emV 7 [(0, vr v0), (1, vi v1)] [] h (Mod_laysCandidates_L7 n v0 v1 h)
  | 0, _, _, _ => Sd.none
  | n + 1, v0, v1, h => by
    rw [Mod_laysCandidates_L7]
    refine Sd_iload_n (pc' := 8) (dc D_Mod_laysCandidates 5 rfl) rfl 1 rfl rfl ?_
    refine Sd_aload_n (pc' := 9) (dc D_Mod_laysCandidates 6 rfl) rfl 0 rfl rfl ?_
    refine Sd_getI (pc' := 12) (dc D_Mod_laysCandidates 7 rfl) rfl F_Mod_96 rfl rfl ?_
    refine Sd_icmp_ge (tgt := 61) (pc' := 15) (dc D_Mod_laysCandidates 8 rfl) (by decide) rfl (fun _ => ?_) (fun _ => ?_)
    · refine Sd_aload_n (pc' := 62) (dc D_Mod_laysCandidates 33 rfl) rfl 0 rfl rfl ?_
      refine Sd_aload_n (pc' := 63) (dc D_Mod_laysCandidates 34 rfl) rfl 0 rfl rfl ?_
      refine Sd_getI (pc' := 66) (dc D_Mod_laysCandidates 35 rfl) rfl F_Mod_317 rfl rfl ?_
      refine Sd_putI (pc' := 69) (dc D_Mod_laysCandidates 36 rfl) rfl F_Mod_329 rfl rfl rfl (finOk.no rfl) (by decide) ?_
      refine Sd_iconst (pc' := 70) (dc D_Mod_laysCandidates 37 rfl) rfl ⟨by decide, by decide⟩ ?_
      refine Sd_istore_n (pc' := 71) (l' := [(1, _), (0, _)]) (dc D_Mod_laysCandidates 38 rfl) rfl rfl (by decide) rfl ?_
      refine Sd.sub (l' := [(0, _), (1, _)]) [1, 0] rfl ?_
      exact s_Mod_laysCandidates_L71 FU _ _ _
    · refine Sd_iconst (pc' := 16) (dc D_Mod_laysCandidates 9 rfl) rfl ⟨by decide, by decide⟩ ?_
      refine Sd_istore_n (pc' := 17) (l' := [(2, _), (0, _), (1, _)]) (dc D_Mod_laysCandidates 10 rfl) rfl rfl (by decide) rfl ?_
      refine Sd.sub (l' := [(0, _), (1, _), (2, _)]) [1, 2, 0] rfl ?_
      exact s_Mod_laysCandidates_L17 (Mod_laysCandidates_L7 n) (s_Mod_laysCandidates_L7 n) FU _ _ _ _
def Mod_laysCandidates (v0 : Nat) (h : AH) : Option (Unit × AH) := pI h 13 v0 31 0 fun h1 => Mod_laysCandidates_L7 FU v0 0 h1
set_option maxHeartbeats 4000000 in
set_option maxRecDepth 20000 in
theorem s_Mod_laysCandidates (v0 : Nat) (h : AH) : CS M_Mod_laysCandidates 6 125 emV [vr v0] h (Mod_laysCandidates v0 h) := by
  refine CS.of (by decide) (Nat.le_of_ble_eq_true rfl) ?_
  show Sd M_Mod_laysCandidates 6 125 emV 0 [(0, vr v0)] [] h _
  unfold Mod_laysCandidates
  refine Sd_aload_n (pc' := 1) (dc D_Mod_laysCandidates 0 rfl) rfl 0 rfl rfl ?_
  refine Sd_iconst (pc' := 2) (dc D_Mod_laysCandidates 1 rfl) rfl ⟨by decide, by decide⟩ ?_
  refine Sd_putI (pc' := 5) (dc D_Mod_laysCandidates 2 rfl) rfl F_Mod_317 rfl rfl rfl (finOk.no rfl) (by decide) ?_
  refine Sd_iconst (pc' := 6) (dc D_Mod_laysCandidates 3 rfl) rfl ⟨by decide, by decide⟩ ?_
  refine Sd_istore_n (pc' := 7) (l' := [(1, _), (0, _)]) (dc D_Mod_laysCandidates 4 rfl) rfl rfl (by decide) rfl ?_
  refine Sd.sub (l' := [(0, _), (1, _)]) [1, 0] rfl ?_
  exact s_Mod_laysCandidates_L7 FU _ _ _
theorem K_Mod_laysCandidates : MOk M_Mod_laysCandidates 0 := ⟨Tb_at 133 (by decide +kernel) rfl, Tb_at 1567 (by decide +kernel) rfl, by decide +kernel, by decide +kernel, by decide +kernel⟩
theorem Ks_Mod_laysCandidates : Cond.instanceMethod yX12_laysCandidates ∈ Tb := Tb_at 1566 (by decide +kernel) rfl
theorem Kv_Mod_laysCandidates : Cond.selects RX12 yX12_laysCandidates yX12_laysCandidates ∈ Tb := Tb_at 69 (by decide +kernel) rfl
/-! ===== BatchShareModel.candidates()I ===== -/
abbrev M_Mod_candidates : AMt := (yX12_candidates, cX12_candidates, 1, (some .int))
def T_Mod_candidates : List (Nat × Instr × Nat) := [(0, .aload_n 0, 1), (1, .invokevirtual 335, 3), (4, .aload_n 0, 1), (5, .getfield 317, 3), (8, .ireturn, 1)]
set_option maxRecDepth 20000 in
theorem D_Mod_candidates : (T_Mod_candidates.all fun q => decide (decode M_Mod_candidates.2.1 q.1 = .ok q.2)) = true := by decide +kernel
def Mod_candidates (v0 : Nat) (h : AH) : Option (Int × AH) := rc h 13 v0 <| bnd (Mod_laysCandidates v0 h) fun _ h1 => gI h1 13 v0 31 fun x4 => some (x4, h1)
set_option maxHeartbeats 4000000 in
set_option maxRecDepth 20000 in
theorem s_Mod_candidates (v0 : Nat) (h : AH) : CS M_Mod_candidates 7 147 emI [vr v0] h (Mod_candidates v0 h) := by
  refine CS.of (by decide) (Nat.le_of_ble_eq_true rfl) ?_
  show Sd M_Mod_candidates 7 147 emI 0 [(0, vr v0)] [] h _
  unfold Mod_candidates
  refine Sd_aload_n (pc' := 1) (dc D_Mod_candidates 0 rfl) rfl 0 rfl rfl ?_
  refine Sd.callVV (ci := 12) (t := 13) (as := []) RX12 (pc' := 4) (dc D_Mod_candidates 1 rfl) rfl rfl rfl rfl K_Mod_laysCandidates L_Mod_335 Ks_Mod_laysCandidates Kv_Mod_laysCandidates ⟨by decide, by decide⟩ rfl rfl (Nat.le_of_ble_eq_true rfl) (s_Mod_laysCandidates _ _) (fun _ h1 => ?_)
  refine Sd_aload_n (pc' := 5) (dc D_Mod_candidates 2 rfl) rfl 0 rfl rfl ?_
  refine Sd_getI (pc' := 8) (dc D_Mod_candidates 3 rfl) rfl F_Mod_317 rfl rfl ?_
  exact Sd_iret (dc D_Mod_candidates 4 rfl) rfl
theorem K_Mod_candidates : MOk M_Mod_candidates 0 := ⟨Tb_at 133 (by decide +kernel) rfl, Tb_at 1563 (by decide +kernel) rfl, by decide +kernel, by decide +kernel, by decide +kernel⟩
theorem Ks_Mod_candidates : Cond.instanceMethod yX12_candidates ∈ Tb := Tb_at 1561 (by decide +kernel) rfl
theorem Kv_Mod_candidates : Cond.selects RX12 yX12_candidates yX12_candidates ∈ Tb := Tb_at 1562 (by decide +kernel) rfl
/-! ===== BatchShareModel.isCandidate(I)Z ===== -/
abbrev M_Mod_isCandidate : AMt := (yX12_isCandidate, cX12_isCandidate, 2, (some .boolean))
def T_Mod_isCandidate : List (Nat × Instr × Nat) := [(0, .aload_n 0, 1), (1, .invokevirtual 335, 3), (4, .iload_n 1, 1), (5, .i2l, 1), (6, .lconst 0, 1), (7, .aload_n 0, 1), (8, .getfield 317, 3), (11, .iconst 1, 1), (12, .isub, 1), (13, .i2l, 1), (14, .invokestatic 88, 3), (17, .ireturn, 1)]
set_option maxRecDepth 20000 in
theorem D_Mod_isCandidate : (T_Mod_isCandidate.all fun q => decide (decode M_Mod_isCandidate.2.1 q.1 = .ok q.2)) = true := by decide +kernel
def Mod_isCandidate (v0 : Nat) (v1 : Int) (h : AH) : Option (Int × AH) := rc h 13 v0 <| bnd (Mod_laysCandidates v0 h) fun _ h1 => gI h1 13 v0 31 fun x4 => bnd (Mod_in v1 0 (wr (x4 - 1)) h1) fun x6 h5 => rz x6 h5
set_option maxHeartbeats 4000000 in
set_option maxRecDepth 20000 in
theorem s_Mod_isCandidate (v0 : Nat) (v1 : Int) (h : AH) : CS M_Mod_isCandidate 7 147 emI [vr v0, vi v1] h (Mod_isCandidate v0 v1 h) := by
  refine CS.of (by decide) (Nat.le_of_ble_eq_true rfl) ?_
  show Sd M_Mod_isCandidate 7 147 emI 0 [(0, vr v0), (1, vi v1)] [] h _
  unfold Mod_isCandidate
  refine Sd_aload_n (pc' := 1) (dc D_Mod_isCandidate 0 rfl) rfl 0 rfl rfl ?_
  refine Sd.callVV (ci := 12) (t := 13) (as := []) RX12 (pc' := 4) (dc D_Mod_isCandidate 1 rfl) rfl rfl rfl rfl K_Mod_laysCandidates L_Mod_335 Ks_Mod_laysCandidates Kv_Mod_laysCandidates ⟨by decide, by decide⟩ rfl rfl (Nat.le_of_ble_eq_true rfl) (s_Mod_laysCandidates _ _) (fun _ h1 => ?_)
  refine Sd_iload_n (pc' := 5) (dc D_Mod_isCandidate 2 rfl) rfl 1 rfl rfl ?_
  refine Sd_i2l (pc' := 6) (dc D_Mod_isCandidate 3 rfl) rfl ?_
  refine Sd_lconst (z := 0) (pc' := 7) (dc D_Mod_isCandidate 4 rfl) rfl ⟨by decide, by decide⟩ (by decide) ?_
  refine Sd_aload_n (pc' := 8) (dc D_Mod_isCandidate 5 rfl) rfl 0 rfl rfl ?_
  refine Sd_getI (pc' := 11) (dc D_Mod_isCandidate 6 rfl) rfl F_Mod_317 rfl rfl ?_
  refine Sd_iconst (pc' := 12) (dc D_Mod_isCandidate 7 rfl) rfl ⟨by decide, by decide⟩ ?_
  refine Sd_isub (pc' := 13) (dc D_Mod_isCandidate 8 rfl) rfl ?_
  refine Sd_i2l (pc' := 14) (dc D_Mod_isCandidate 9 rfl) rfl ?_
  refine Sd.callSI (as := [_, _, _]) (pc' := 17) (dc D_Mod_isCandidate 10 rfl) rfl K_Mod_in L_Mod_88 Ks_Mod_in ⟨by decide, by decide⟩ rfl rfl (Nat.le_of_ble_eq_true rfl) (s_Mod_in _ _ _ _) (fun x6 h5 => ?_)
  exact Sd_zret' (dc D_Mod_isCandidate 11 rfl) rfl
theorem K_Mod_isCandidate : MOk M_Mod_isCandidate 1 := ⟨Tb_at 133 (by decide +kernel) rfl, Tb_at 1617 (by decide +kernel) rfl, by decide +kernel, by decide +kernel, by decide +kernel⟩
theorem Ks_Mod_isCandidate : Cond.instanceMethod yX12_isCandidate ∈ Tb := Tb_at 1616 (by decide +kernel) rfl
theorem Kv_Mod_isCandidate : Cond.selects RX12 yX12_isCandidate yX12_isCandidate ∈ Tb := Tb_at 79 (by decide +kernel) rfl
/-! ===== BatchShareModel.candidate(II)I ===== -/
abbrev M_Mod_candidate : AMt := (yX12_candidate, cX12_candidate, 3, (some .int))
def T_Mod_candidate : List (Nat × Instr × Nat) := [(0, .aload_n 0, 1), (1, .iload_n 1, 1), (2, .invokevirtual 338, 3), (5, .ifCond .eq 15, 3), (8, .iload_n 2, 1), (9, .i2l, 1), (10, .lconst 0, 1), (11, .ldc2_w 341, 3), (14, .invokestatic 88, 3), (17, .ifCond .ne 6, 3), (20, .bipush (-2), 2), (22, .ireturn, 1), (23, .iload_n 2, 1), (24, .bipush 14, 2), (26, .if_icmp .ne 12, 3), (29, .aload_n 0, 1), (30, .getfield 65, 3), (33, .iload_n 1, 1), (34, .iaload, 1), (35, .goto 14, 3), (38, .aload_n 0, 1), (39, .getfield 62, 3), (42, .bipush 16, 2), (44, .iload_n 1, 1), (45, .imul, 1), (46, .iload_n 2, 1), (47, .iadd, 1), (48, .iaload, 1), (49, .ireturn, 1)]
set_option maxRecDepth 20000 in
theorem D_Mod_candidate : (T_Mod_candidate.all fun q => decide (decode M_Mod_candidate.2.1 q.1 = .ok q.2)) = true := by decide +kernel
def Mod_candidate (v0 : Nat) (v1 : Int) (v2 : Int) (h : AH) : Option (Int × AH) := rc h 13 v0 <| bnd (Mod_isCandidate v0 v1 h) fun x2 h1 => if (x2 : Int) = 0 then (some ((-2), h1)) else (bnd (Mod_in v2 0 14 h1) fun x5 h4 => if ¬ (x5 : Int) = 0 then (if ¬ (v2 : Int) = 14 then (gR h4 13 v0 29 fun r7 => aI h4 21 r7 (wr ((wr (16 * v1)) + v2)) fun x8 => some (x8, h4)) else (gR h4 13 v0 30 fun r9 => aI h4 21 r9 v1 fun x10 => some (x10, h4))) else (some ((-2), h4)))
set_option maxHeartbeats 4000000 in
set_option maxRecDepth 20000 in
theorem s_Mod_candidate (v0 : Nat) (v1 : Int) (v2 : Int) (h : AH) : CS M_Mod_candidate 8 168 emI [vr v0, vi v1, vi v2] h (Mod_candidate v0 v1 v2 h) := by
  refine CS.of (by decide) (Nat.le_of_ble_eq_true rfl) ?_
  show Sd M_Mod_candidate 8 168 emI 0 [(0, vr v0), (1, vi v1), (2, vi v2)] [] h _
  unfold Mod_candidate
  refine Sd_aload_n (pc' := 1) (dc D_Mod_candidate 0 rfl) rfl 0 rfl rfl ?_
  refine Sd_iload_n (pc' := 2) (dc D_Mod_candidate 1 rfl) rfl 1 rfl rfl ?_
  refine Sd.callVI (ci := 12) (t := 13) (as := [_]) RX12 (pc' := 5) (dc D_Mod_candidate 2 rfl) rfl rfl rfl rfl K_Mod_isCandidate L_Mod_338 Ks_Mod_isCandidate Kv_Mod_isCandidate ⟨by decide, by decide⟩ rfl rfl (Nat.le_of_ble_eq_true rfl) (s_Mod_isCandidate _ _ _) (fun x2 h1 => ?_)
  refine Sd_if_eq (tgt := 20) (pc' := 8) (dc D_Mod_candidate 3 rfl) (by decide) rfl (fun _ => ?_) (fun _ => ?_)
  · refine Sd_bipush (pc' := 22) (dc D_Mod_candidate 10 rfl) rfl ⟨by decide, by decide⟩ (by decide) ?_
    exact Sd_iret (dc D_Mod_candidate 11 rfl) rfl
  · refine Sd_iload_n (pc' := 9) (dc D_Mod_candidate 4 rfl) rfl 2 rfl rfl ?_
    refine Sd_i2l (pc' := 10) (dc D_Mod_candidate 5 rfl) rfl ?_
    refine Sd_lconst (z := 0) (pc' := 11) (dc D_Mod_candidate 6 rfl) rfl ⟨by decide, by decide⟩ (by decide) ?_
    refine Sd_ldc2 (n := 14) (pc' := 14) (dc D_Mod_candidate 7 rfl) rfl ⟨by decide, by decide⟩ Q_Mod_341 ?_
    refine Sd.callSI (as := [_, _, _]) (pc' := 17) (dc D_Mod_candidate 8 rfl) rfl K_Mod_in L_Mod_88 Ks_Mod_in ⟨by decide, by decide⟩ rfl rfl (Nat.le_of_ble_eq_true rfl) (s_Mod_in _ _ _ _) (fun x5 h4 => ?_)
    refine Sd_if_ne (tgt := 23) (pc' := 20) (dc D_Mod_candidate 9 rfl) (by decide) rfl (fun _ => ?_) (fun _ => ?_)
    · refine Sd_iload_n (pc' := 24) (dc D_Mod_candidate 12 rfl) rfl 2 rfl rfl ?_
      refine Sd_bipush (pc' := 26) (dc D_Mod_candidate 13 rfl) rfl ⟨by decide, by decide⟩ (by decide) ?_
      refine Sd_icmp_ne (tgt := 38) (pc' := 29) (dc D_Mod_candidate 14 rfl) (by decide) rfl (fun _ => ?_) (fun _ => ?_)
      · refine Sd_aload_n (pc' := 39) (dc D_Mod_candidate 20 rfl) rfl 0 rfl rfl ?_
        refine Sd_getR (pc' := 42) (dc D_Mod_candidate 21 rfl) rfl F_Mod_62 rfl rfl ?_
        refine Sd_bipush (pc' := 44) (dc D_Mod_candidate 22 rfl) rfl ⟨by decide, by decide⟩ (by decide) ?_
        refine Sd_iload_n (pc' := 45) (dc D_Mod_candidate 23 rfl) rfl 1 rfl rfl ?_
        refine Sd_imul (pc' := 46) (dc D_Mod_candidate 24 rfl) rfl ?_
        refine Sd_iload_n (pc' := 47) (dc D_Mod_candidate 25 rfl) rfl 2 rfl rfl ?_
        refine Sd_iadd (pc' := 48) (dc D_Mod_candidate 26 rfl) rfl ?_
        refine Sd_iaload (pc' := 49) (dc D_Mod_candidate 27 rfl) rfl ?_
        exact Sd_iret (dc D_Mod_candidate 28 rfl) rfl
      · refine Sd_aload_n (pc' := 30) (dc D_Mod_candidate 15 rfl) rfl 0 rfl rfl ?_
        refine Sd_getR (pc' := 33) (dc D_Mod_candidate 16 rfl) rfl F_Mod_65 rfl rfl ?_
        refine Sd_iload_n (pc' := 34) (dc D_Mod_candidate 17 rfl) rfl 1 rfl rfl ?_
        refine Sd_iaload (pc' := 35) (dc D_Mod_candidate 18 rfl) rfl ?_
        refine Sd_goto (tgt := 49) (dc D_Mod_candidate 19 rfl) (by decide) ?_
        exact Sd_iret (dc D_Mod_candidate 28 rfl) rfl
    · refine Sd_bipush (pc' := 22) (dc D_Mod_candidate 10 rfl) rfl ⟨by decide, by decide⟩ (by decide) ?_
      exact Sd_iret (dc D_Mod_candidate 11 rfl) rfl
theorem K_Mod_candidate : MOk M_Mod_candidate 2 := ⟨Tb_at 133 (by decide +kernel) rfl, Tb_at 1613 (by decide +kernel) rfl, by decide +kernel, by decide +kernel, by decide +kernel⟩
theorem Ks_Mod_candidate : Cond.instanceMethod yX12_candidate ∈ Tb := Tb_at 1611 (by decide +kernel) rfl
theorem Kv_Mod_candidate : Cond.selects RX12 yX12_candidate yX12_candidate ∈ Tb := Tb_at 1612 (by decide +kernel) rfl
/-! ===== BatchShareModel.copiesInto([II[III)V ===== -/
abbrev M_Mod_copiesInto : AMt := (yX12_copiesInto, cX12_copiesInto, 6, none)
def T_Mod_copiesInto : List (Nat × Instr × Nat) := [(0, .iconst 0, 1), (1, .istore 5, 2), (3, .iload 5, 2), (5, .iload 4, 2), (7, .if_icmp .ge 21, 3), (10, .aload_n 2, 1), (11, .iload_n 3, 1), (12, .iload 5, 2), (14, .iadd, 1), (15, .aload_n 0, 1), (16, .iload_n 1, 1), (17, .iload 5, 2), (19, .iadd, 1), (20, .iaload, 1), (21, .iastore, 1), (22, .iinc 5 1, 3), (25, .goto (-22), 3), (28, .return_, 1)]
set_option maxRecDepth 20000 in
theorem D_Mod_copiesInto : (T_Mod_copiesInto.all fun q => decide (decode M_Mod_copiesInto.2.1 q.1 = .ok q.2)) = true := by decide +kernel
def Mod_copiesInto_L3 : Nat → Nat → Int → Nat → Int → Int → Int → AH → Option (Unit × AH)
  | 0, _, _, _, _, _, _, _ => none
  | n + 1, v0, v1, v2, v3, v4, v5, h => if (v4 : Int) ≤ v5 then (some ((), h)) else (aI h 21 v0 (wr (v1 + v5)) fun x1 => wI h 21 v2 (wr (v3 + v5)) x1 fun h2 => Mod_copiesInto_L3 n v0 v1 v2 v3 v4 ((wr (v5 + 1))) h2)
set_option maxHeartbeats 4000000 in
set_option maxRecDepth 20000 in
theorem s_Mod_copiesInto_L3 : ∀ (n : Nat) (v0 : Nat) (v1 : Int) (v2 : Nat) (v3 : Int) (v4 : Int) (v5 : Int) (h : AH), Sd M_Mod_copiesInto 1 0 emV 3 [(0, vr v0), (1, vi v1), (2, vr v2), (3, vi v3), (4, vi v4), (5, vi v5)] [] h (Mod_copiesInto_L3 n v0 v1 v2 v3 v4 v5 h)
  | 0, _, _, _, _, _, _, _ => Sd.none
  | n + 1, v0, v1, v2, v3, v4, v5, h => by
    rw [Mod_copiesInto_L3]
    refine Sd_iload (pc' := 5) (dc D_Mod_copiesInto 2 rfl) rfl 5 rfl ?_
    refine Sd_iload (pc' := 7) (dc D_Mod_copiesInto 3 rfl) rfl 4 rfl ?_
    refine Sd_icmp_ge (tgt := 28) (pc' := 10) (dc D_Mod_copiesInto 4 rfl) (by decide) rfl (fun _ => ?_) (fun _ => ?_)
    · exact Sd_vret (dc D_Mod_copiesInto 17 rfl) rfl
    · refine Sd_aload_n (pc' := 11) (dc D_Mod_copiesInto 5 rfl) rfl 2 rfl rfl ?_
      refine Sd_iload_n (pc' := 12) (dc D_Mod_copiesInto 6 rfl) rfl 3 rfl rfl ?_
      refine Sd_iload (pc' := 14) (dc D_Mod_copiesInto 7 rfl) rfl 5 rfl ?_
      refine Sd_iadd (pc' := 15) (dc D_Mod_copiesInto 8 rfl) rfl ?_
      refine Sd_aload_n (pc' := 16) (dc D_Mod_copiesInto 9 rfl) rfl 0 rfl rfl ?_
      refine Sd_iload_n (pc' := 17) (dc D_Mod_copiesInto 10 rfl) rfl 1 rfl rfl ?_
      refine Sd_iload (pc' := 19) (dc D_Mod_copiesInto 11 rfl) rfl 5 rfl ?_
      refine Sd_iadd (pc' := 20) (dc D_Mod_copiesInto 12 rfl) rfl ?_
      refine Sd_iaload (pc' := 21) (dc D_Mod_copiesInto 13 rfl) rfl ?_
      refine Sd_iastore (pc' := 22) (dc D_Mod_copiesInto 14 rfl) rfl (by decide) ?_
      refine Sd_iinc (pc' := 25) (l' := [(5, _), (0, _), (1, _), (2, _), (3, _), (4, _)]) (dc D_Mod_copiesInto 15 rfl) rfl 5 rfl (by decide) rfl ?_
      refine Sd_goto (tgt := 3) (dc D_Mod_copiesInto 16 rfl) (by decide) ?_
      refine Sd.sub (l' := [(0, _), (1, _), (2, _), (3, _), (4, _), (5, _)]) [1, 2, 3, 4, 5, 0] rfl ?_
      exact s_Mod_copiesInto_L3 n _ _ _ _ _ _ _
def Mod_copiesInto (v0 : Nat) (v1 : Int) (v2 : Nat) (v3 : Int) (v4 : Int) (h : AH) : Option (Unit × AH) := Mod_copiesInto_L3 FU v0 v1 v2 v3 v4 0 h
set_option maxHeartbeats 4000000 in
set_option maxRecDepth 20000 in
theorem s_Mod_copiesInto (v0 : Nat) (v1 : Int) (v2 : Nat) (v3 : Int) (v4 : Int) (h : AH) : CS M_Mod_copiesInto 1 0 emV [vr v0, vi v1, vr v2, vi v3, vi v4] h (Mod_copiesInto v0 v1 v2 v3 v4 h) := by
  refine CS.of (by decide) (Nat.le_of_ble_eq_true rfl) ?_
  show Sd M_Mod_copiesInto 1 0 emV 0 [(0, vr v0), (1, vi v1), (2, vr v2), (3, vi v3), (4, vi v4)] [] h _
  unfold Mod_copiesInto
  refine Sd_iconst (pc' := 1) (dc D_Mod_copiesInto 0 rfl) rfl ⟨by decide, by decide⟩ ?_
  refine Sd_istore (pc' := 3) (l' := [(5, _), (0, _), (1, _), (2, _), (3, _), (4, _)]) (dc D_Mod_copiesInto 1 rfl) rfl (by decide) rfl ?_
  refine Sd.sub (l' := [(0, _), (1, _), (2, _), (3, _), (4, _), (5, _)]) [1, 2, 3, 4, 5, 0] rfl ?_
  exact s_Mod_copiesInto_L3 FU _ _ _ _ _ _ _
theorem K_Mod_copiesInto : MOk M_Mod_copiesInto 5 := ⟨Tb_at 133 (by decide +kernel) rfl, Tb_at 1633 (by decide +kernel) rfl, by decide +kernel, by decide +kernel, by decide +kernel⟩
theorem Ks_Mod_copiesInto : Cond.static yX12_copiesInto ∈ Tb := Tb_at 1632 (by decide +kernel) rfl
/-! ===== BatchShareModel.takesKept()V ===== -/
abbrev M_Mod_takesKept : AMt := (yX12_takesKept, cX12_takesKept, 1, none)
def T_Mod_takesKept : List (Nat × Instr × Nat) := [(0, .aload_n 0, 1), (1, .getfield 25, 3), (4, .iconst 0, 1), (5, .aload_n 0, 1), (6, .getfield 68, 3), (9, .iconst 0, 1), (10, .aload_n 0, 1), (11, .getfield 9, 3), (14, .iconst 5, 1), (15, .iaload, 1), (16, .bipush 16, 2), (18, .imul, 1), (19, .invokestatic 346, 3), (22, .aload_n 0, 1), (23, .aload_n 0, 1), (24, .getfield 9, 3), (27, .iconst 5, 1), (28, .iaload, 1), (29, .putfield 343, 3), (32, .return_, 1)]
set_option maxRecDepth 20000 in
theorem D_Mod_takesKept : (T_Mod_takesKept.all fun q => decide (decode M_Mod_takesKept.2.1 q.1 = .ok q.2)) = true := by decide +kernel
def Mod_takesKept (v0 : Nat) (h : AH) : Option (Unit × AH) := gR h 13 v0 9 fun r1 => gR h 13 v0 33 fun r2 => gR h 13 v0 1 fun r3 => aI h 21 r3 5 fun x4 => bnd (Mod_copiesInto r1 0 r2 0 (wr (x4 * 16)) h) fun _ h5 => gR h5 13 v0 1 fun r8 => aI h5 21 r8 5 fun x9 => pI h5 13 v0 34 x9 fun h10 => some ((), h10)
set_option maxHeartbeats 4000000 in
set_option maxRecDepth 20000 in
theorem s_Mod_takesKept (v0 : Nat) (h : AH) : CS M_Mod_takesKept 2 25 emV [vr v0] h (Mod_takesKept v0 h) := by
  refine CS.of (by decide) (Nat.le_of_ble_eq_true rfl) ?_
  show Sd M_Mod_takesKept 2 25 emV 0 [(0, vr v0)] [] h _
  unfold Mod_takesKept
  refine Sd_aload_n (pc' := 1) (dc D_Mod_takesKept 0 rfl) rfl 0 rfl rfl ?_
  refine Sd_getR (pc' := 4) (dc D_Mod_takesKept 1 rfl) rfl F_Mod_25 rfl rfl ?_
  refine Sd_iconst (pc' := 5) (dc D_Mod_takesKept 2 rfl) rfl ⟨by decide, by decide⟩ ?_
  refine Sd_aload_n (pc' := 6) (dc D_Mod_takesKept 3 rfl) rfl 0 rfl rfl ?_
  refine Sd_getR (pc' := 9) (dc D_Mod_takesKept 4 rfl) rfl F_Mod_68 rfl rfl ?_
  refine Sd_iconst (pc' := 10) (dc D_Mod_takesKept 5 rfl) rfl ⟨by decide, by decide⟩ ?_
  refine Sd_aload_n (pc' := 11) (dc D_Mod_takesKept 6 rfl) rfl 0 rfl rfl ?_
  refine Sd_getR (pc' := 14) (dc D_Mod_takesKept 7 rfl) rfl F_Mod_9 rfl rfl ?_
  refine Sd_iconst (pc' := 15) (dc D_Mod_takesKept 8 rfl) rfl ⟨by decide, by decide⟩ ?_
  refine Sd_iaload (pc' := 16) (dc D_Mod_takesKept 9 rfl) rfl ?_
  refine Sd_bipush (pc' := 18) (dc D_Mod_takesKept 10 rfl) rfl ⟨by decide, by decide⟩ (by decide) ?_
  refine Sd_imul (pc' := 19) (dc D_Mod_takesKept 11 rfl) rfl ?_
  refine Sd.callSV (as := [_, _, _, _, _]) (pc' := 22) (dc D_Mod_takesKept 12 rfl) rfl K_Mod_copiesInto L_Mod_346 Ks_Mod_copiesInto ⟨by decide, by decide⟩ rfl rfl (Nat.le_of_ble_eq_true rfl) (s_Mod_copiesInto _ _ _ _ _ _) (fun _ h5 => ?_)
  refine Sd_aload_n (pc' := 23) (dc D_Mod_takesKept 13 rfl) rfl 0 rfl rfl ?_
  refine Sd_aload_n (pc' := 24) (dc D_Mod_takesKept 14 rfl) rfl 0 rfl rfl ?_
  refine Sd_getR (pc' := 27) (dc D_Mod_takesKept 15 rfl) rfl F_Mod_9 rfl rfl ?_
  refine Sd_iconst (pc' := 28) (dc D_Mod_takesKept 16 rfl) rfl ⟨by decide, by decide⟩ ?_
  refine Sd_iaload (pc' := 29) (dc D_Mod_takesKept 17 rfl) rfl ?_
  refine Sd_putI (pc' := 32) (dc D_Mod_takesKept 18 rfl) rfl F_Mod_343 rfl rfl rfl (finOk.no rfl) (by decide) ?_
  exact Sd_vret (dc D_Mod_takesKept 19 rfl) rfl
theorem K_Mod_takesKept : MOk M_Mod_takesKept 0 := ⟨Tb_at 133 (by decide +kernel) rfl, Tb_at 1630 (by decide +kernel) rfl, by decide +kernel, by decide +kernel, by decide +kernel⟩
theorem Ks_Mod_takesKept : Cond.instanceMethod yX12_takesKept ∈ Tb := Tb_at 1629 (by decide +kernel) rfl
theorem Kv_Mod_takesKept : Cond.selects RX12 yX12_takesKept yX12_takesKept ∈ Tb := Tb_at 81 (by decide +kernel) rfl
/-! ===== BatchShareModel.batchNow()I ===== -/
abbrev M_Mod_batchNow : AMt := (yX12_batchNow, cX12_batchNow, 3, (some .int))
def T_Mod_batchNow : List (Nat × Instr × Nat) := [(0, .iconst 0, 1), (1, .istore_n 1, 1), (2, .iconst 0, 1), (3, .istore_n 2, 1), (4, .iload_n 2, 1), (5, .aload_n 0, 1), (6, .getfield 96, 3), (9, .if_icmp .ge 29, 3), (12, .iload_n 1, 1), (13, .aload_n 0, 1), (14, .iload_n 2, 1), (15, .invokevirtual 323, 3), (18, .ifCond .eq 11, 3), (21, .aload_n 0, 1), (22, .iload_n 2, 1), (23, .invokevirtual 368, 3), (26, .goto 4, 3), (29, .iconst 0, 1), (30, .iadd, 1), (31, .istore_n 1, 1), (32, .iinc 2 1, 3), (35, .goto (-31), 3), (38, .iload_n 1, 1), (39, .ireturn, 1)]
set_option maxRecDepth 20000 in
theorem D_Mod_batchNow : (T_Mod_batchNow.all fun q => decide (decode M_Mod_batchNow.2.1 q.1 = .ok q.2)) = true := by decide +kernel
def Mod_batchNow_L4 : Nat → Nat → Int → Int → AH → Option (Int × AH)
  | 0, _, _, _, _ => none
  | n + 1, v0, v1, v2, h => gI h 13 v0 10 fun x1 => if (x1 : Int) ≤ v2 then (some (v1, h)) else (rc h 13 v0 <| bnd (Mod_isOn v0 v2 h) fun x3 h2 => if (x3 : Int) = 0 then (Mod_batchNow_L4 n v0 ((wr (v1 + 0))) ((wr (v2 + 1))) h2) else (rc h2 13 v0 <| bnd (Mod_costNow v0 v2 h2) fun x6 h5 => Mod_batchNow_L4 n v0 ((wr (v1 + x6))) ((wr (v2 + 1))) h5))
set_option maxHeartbeats 4000000 in
set_option maxRecDepth 20000 in
theorem s_Mod_batchNow_L4 : ∀ (n : Nat) (v0 : Nat) (v1 : Int) (v2 : Int) (h : AH), Sd M_Mod_batchNow 9 184 emI 4 [(0, vr v0), (1, vi v1), (2, vi v2)] [] h (Mod_batchNow_L4 n v0 v1 v2 h)
  | 0, _, _, _, _ => Sd.none
  | n + 1, v0, v1, v2, h => by
    rw [Mod_batchNow_L4]
    refine Sd_iload_n (pc' := 5) (dc D_Mod_batchNow 4 rfl) rfl 2 rfl rfl ?_
    refine Sd_aload_n (pc' := 6) (dc D_Mod_batchNow 5 rfl) rfl 0 rfl rfl ?_
    refine Sd_getI (pc' := 9) (dc D_Mod_batchNow 6 rfl) rfl F_Mod_96 rfl rfl ?_
    refine Sd_icmp_ge (tgt := 38) (pc' := 12) (dc D_Mod_batchNow 7 rfl) (by decide) rfl (fun _ => ?_) (fun _ => ?_)
    · refine Sd_iload_n (pc' := 39) (dc D_Mod_batchNow 22 rfl) rfl 1 rfl rfl ?_
      exact Sd_iret (dc D_Mod_batchNow 23 rfl) rfl
    · refine Sd_iload_n (pc' := 13) (dc D_Mod_batchNow 8 rfl) rfl 1 rfl rfl ?_
      refine Sd_aload_n (pc' := 14) (dc D_Mod_batchNow 9 rfl) rfl 0 rfl rfl ?_
      refine Sd_iload_n (pc' := 15) (dc D_Mod_batchNow 10 rfl) rfl 2 rfl rfl ?_
      refine Sd.callVI (ci := 12) (t := 13) (as := [_]) RX12 (pc' := 18) (dc D_Mod_batchNow 11 rfl) rfl rfl rfl rfl K_Mod_isOn L_Mod_323 Ks_Mod_isOn Kv_Mod_isOn ⟨by decide, by decide⟩ rfl rfl (Nat.le_of_ble_eq_true rfl) (s_Mod_isOn _ _ _) (fun x3 h2 => ?_)
      refine Sd_if_eq (tgt := 29) (pc' := 21) (dc D_Mod_batchNow 12 rfl) (by decide) rfl (fun _ => ?_) (fun _ => ?_)
      · refine Sd_iconst (pc' := 30) (dc D_Mod_batchNow 17 rfl) rfl ⟨by decide, by decide⟩ ?_
        refine Sd_iadd (pc' := 31) (dc D_Mod_batchNow 18 rfl) rfl ?_
        refine Sd_istore_n (pc' := 32) (l' := [(1, _), (0, _), (2, _)]) (dc D_Mod_batchNow 19 rfl) rfl rfl (by decide) rfl ?_
        refine Sd_iinc (pc' := 35) (l' := [(2, _), (1, _), (0, _)]) (dc D_Mod_batchNow 20 rfl) rfl 2 rfl (by decide) rfl ?_
        refine Sd_goto (tgt := 4) (dc D_Mod_batchNow 21 rfl) (by decide) ?_
        refine Sd.sub (l' := [(0, _), (1, _), (2, _)]) [2, 1, 0] rfl ?_
        exact s_Mod_batchNow_L4 n _ _ _ _
      · refine Sd_aload_n (pc' := 22) (dc D_Mod_batchNow 13 rfl) rfl 0 rfl rfl ?_
        refine Sd_iload_n (pc' := 23) (dc D_Mod_batchNow 14 rfl) rfl 2 rfl rfl ?_
        refine Sd.callVI (ci := 12) (t := 13) (as := [_]) RX12 (pc' := 26) (dc D_Mod_batchNow 15 rfl) rfl rfl rfl rfl K_Mod_costNow L_Mod_368 Ks_Mod_costNow Kv_Mod_costNow ⟨by decide, by decide⟩ rfl rfl (Nat.le_of_ble_eq_true rfl) (s_Mod_costNow _ _ _) (fun x6 h5 => ?_)
        refine Sd_goto (tgt := 30) (dc D_Mod_batchNow 16 rfl) (by decide) ?_
        refine Sd_iadd (pc' := 31) (dc D_Mod_batchNow 18 rfl) rfl ?_
        refine Sd_istore_n (pc' := 32) (l' := [(1, _), (0, _), (2, _)]) (dc D_Mod_batchNow 19 rfl) rfl rfl (by decide) rfl ?_
        refine Sd_iinc (pc' := 35) (l' := [(2, _), (1, _), (0, _)]) (dc D_Mod_batchNow 20 rfl) rfl 2 rfl (by decide) rfl ?_
        refine Sd_goto (tgt := 4) (dc D_Mod_batchNow 21 rfl) (by decide) ?_
        refine Sd.sub (l' := [(0, _), (1, _), (2, _)]) [2, 1, 0] rfl ?_
        exact s_Mod_batchNow_L4 n _ _ _ _
def Mod_batchNow (v0 : Nat) (h : AH) : Option (Int × AH) := Mod_batchNow_L4 FU v0 0 0 h
set_option maxHeartbeats 4000000 in
set_option maxRecDepth 20000 in
theorem s_Mod_batchNow (v0 : Nat) (h : AH) : CS M_Mod_batchNow 9 184 emI [vr v0] h (Mod_batchNow v0 h) := by
  refine CS.of (by decide) (Nat.le_of_ble_eq_true rfl) ?_
  show Sd M_Mod_batchNow 9 184 emI 0 [(0, vr v0)] [] h _
  unfold Mod_batchNow
  refine Sd_iconst (pc' := 1) (dc D_Mod_batchNow 0 rfl) rfl ⟨by decide, by decide⟩ ?_
  refine Sd_istore_n (pc' := 2) (l' := [(1, _), (0, _)]) (dc D_Mod_batchNow 1 rfl) rfl rfl (by decide) rfl ?_
  refine Sd_iconst (pc' := 3) (dc D_Mod_batchNow 2 rfl) rfl ⟨by decide, by decide⟩ ?_
  refine Sd_istore_n (pc' := 4) (l' := [(2, _), (1, _), (0, _)]) (dc D_Mod_batchNow 3 rfl) rfl rfl (by decide) rfl ?_
  refine Sd.sub (l' := [(0, _), (1, _), (2, _)]) [2, 1, 0] rfl ?_
  exact s_Mod_batchNow_L4 FU _ _ _ _
theorem K_Mod_batchNow : MOk M_Mod_batchNow 0 := ⟨Tb_at 133 (by decide +kernel) rfl, Tb_at 1637 (by decide +kernel) rfl, by decide +kernel, by decide +kernel, by decide +kernel⟩
theorem Ks_Mod_batchNow : Cond.instanceMethod yX12_batchNow ∈ Tb := Tb_at 1636 (by decide +kernel) rfl
theorem Kv_Mod_batchNow : Cond.selects RX12 yX12_batchNow yX12_batchNow ∈ Tb := Tb_at 82 (by decide +kernel) rfl
/-! ===== BatchShareModel.takesOne(I)V ===== -/
abbrev M_Mod_takesOne : AMt := (yX12_takesOne, cX12_takesOne, 2, none)
def T_Mod_takesOne : List (Nat × Instr × Nat) := [(0, .aload_n 0, 1), (1, .getfield 62, 3), (4, .bipush 16, 2), (6, .iload_n 1, 1), (7, .imul, 1), (8, .aload_n 0, 1), (9, .getfield 68, 3), (12, .bipush 16, 2), (14, .aload_n 0, 1), (15, .getfield 343, 3), (18, .imul, 1), (19, .bipush 16, 2), (21, .invokestatic 346, 3), (24, .aload_n 0, 1), (25, .dup, 1), (26, .getfield 343, 3), (29, .iconst 1, 1), (30, .iadd, 1), (31, .putfield 343, 3), (34, .return_, 1)]
set_option maxRecDepth 20000 in
theorem D_Mod_takesOne : (T_Mod_takesOne.all fun q => decide (decode M_Mod_takesOne.2.1 q.1 = .ok q.2)) = true := by decide +kernel
def Mod_takesOne (v0 : Nat) (v1 : Int) (h : AH) : Option (Unit × AH) := gR h 13 v0 29 fun r1 => gR h 13 v0 33 fun r2 => gI h 13 v0 34 fun x3 => bnd (Mod_copiesInto r1 (wr (16 * v1)) r2 (wr (16 * x3)) 16 h) fun _ h4 => gI h4 13 v0 34 fun x7 => pI h4 13 v0 34 (wr (x7 + 1)) fun h8 => some ((), h8)
set_option maxHeartbeats 4000000 in
set_option maxRecDepth 20000 in
theorem s_Mod_takesOne (v0 : Nat) (v1 : Int) (h : AH) : CS M_Mod_takesOne 2 25 emV [vr v0, vi v1] h (Mod_takesOne v0 v1 h) := by
  refine CS.of (by decide) (Nat.le_of_ble_eq_true rfl) ?_
  show Sd M_Mod_takesOne 2 25 emV 0 [(0, vr v0), (1, vi v1)] [] h _
  unfold Mod_takesOne
  refine Sd_aload_n (pc' := 1) (dc D_Mod_takesOne 0 rfl) rfl 0 rfl rfl ?_
  refine Sd_getR (pc' := 4) (dc D_Mod_takesOne 1 rfl) rfl F_Mod_62 rfl rfl ?_
  refine Sd_bipush (pc' := 6) (dc D_Mod_takesOne 2 rfl) rfl ⟨by decide, by decide⟩ (by decide) ?_
  refine Sd_iload_n (pc' := 7) (dc D_Mod_takesOne 3 rfl) rfl 1 rfl rfl ?_
  refine Sd_imul (pc' := 8) (dc D_Mod_takesOne 4 rfl) rfl ?_
  refine Sd_aload_n (pc' := 9) (dc D_Mod_takesOne 5 rfl) rfl 0 rfl rfl ?_
  refine Sd_getR (pc' := 12) (dc D_Mod_takesOne 6 rfl) rfl F_Mod_68 rfl rfl ?_
  refine Sd_bipush (pc' := 14) (dc D_Mod_takesOne 7 rfl) rfl ⟨by decide, by decide⟩ (by decide) ?_
  refine Sd_aload_n (pc' := 15) (dc D_Mod_takesOne 8 rfl) rfl 0 rfl rfl ?_
  refine Sd_getI (pc' := 18) (dc D_Mod_takesOne 9 rfl) rfl F_Mod_343 rfl rfl ?_
  refine Sd_imul (pc' := 19) (dc D_Mod_takesOne 10 rfl) rfl ?_
  refine Sd_bipush (pc' := 21) (dc D_Mod_takesOne 11 rfl) rfl ⟨by decide, by decide⟩ (by decide) ?_
  refine Sd.callSV (as := [_, _, _, _, _]) (pc' := 24) (dc D_Mod_takesOne 12 rfl) rfl K_Mod_copiesInto L_Mod_346 Ks_Mod_copiesInto ⟨by decide, by decide⟩ rfl rfl (Nat.le_of_ble_eq_true rfl) (s_Mod_copiesInto _ _ _ _ _ _) (fun _ h4 => ?_)
  refine Sd_aload_n (pc' := 25) (dc D_Mod_takesOne 13 rfl) rfl 0 rfl rfl ?_
  refine Sd_dup (pc' := 26) (dc D_Mod_takesOne 14 rfl) rfl (cat_r _) ?_
  refine Sd_getI (pc' := 29) (dc D_Mod_takesOne 15 rfl) rfl F_Mod_343 rfl rfl ?_
  refine Sd_iconst (pc' := 30) (dc D_Mod_takesOne 16 rfl) rfl ⟨by decide, by decide⟩ ?_
  refine Sd_iadd (pc' := 31) (dc D_Mod_takesOne 17 rfl) rfl ?_
  refine Sd_putI (pc' := 34) (dc D_Mod_takesOne 18 rfl) rfl F_Mod_343 rfl rfl rfl (finOk.no rfl) (by decide) ?_
  exact Sd_vret (dc D_Mod_takesOne 19 rfl) rfl
theorem K_Mod_takesOne : MOk M_Mod_takesOne 1 := ⟨Tb_at 133 (by decide +kernel) rfl, Tb_at 1696 (by decide +kernel) rfl, by decide +kernel, by decide +kernel, by decide +kernel⟩
theorem Ks_Mod_takesOne : Cond.instanceMethod yX12_takesOne ∈ Tb := Tb_at 1695 (by decide +kernel) rfl
theorem Kv_Mod_takesOne : Cond.selects RX12 yX12_takesOne yX12_takesOne ∈ Tb := Tb_at 92 (by decide +kernel) rfl
/-! ===== BatchShareModel.gain(I)I ===== -/
abbrev M_Mod_gain : AMt := (yX12_gain, cX12_gain, 3, (some .int))
def T_Mod_gain : List (Nat × Instr × Nat) := [(0, .aload_n 0, 1), (1, .iload_n 1, 1), (2, .invokevirtual 338, 3), (5, .ifCond .ne 5, 3), (8, .iconst (-1), 1), (9, .ireturn, 1), (10, .aload_n 0, 1), (11, .invokevirtual 371, 3), (14, .aload_n 0, 1), (15, .invokevirtual 374, 3), (18, .aload_n 0, 1), (19, .invokevirtual 377, 3), (22, .istore_n 2, 1), (23, .aload_n 0, 1), (24, .iload_n 1, 1), (25, .invokevirtual 389, 3), (28, .sipush 10000, 3), (31, .iload_n 2, 1), (32, .iadd, 1), (33, .aload_n 0, 1), (34, .invokevirtual 377, 3), (37, .isub, 1), (38, .aload_n 0, 1), (39, .getfield 65, 3), (42, .iload_n 1, 1), (43, .iaload, 1), (44, .isub, 1), (45, .ireturn, 1)]
set_option maxRecDepth 20000 in
theorem D_Mod_gain : (T_Mod_gain.all fun q => decide (decode M_Mod_gain.2.1 q.1 = .ok q.2)) = true := by decide +kernel
def Mod_gain (v0 : Nat) (v1 : Int) (h : AH) : Option (Int × AH) := rc h 13 v0 <| bnd (Mod_isCandidate v0 v1 h) fun x2 h1 => if ¬ (x2 : Int) = 0 then (rc h1 13 v0 <| bnd (Mod_laysAll v0 h1) fun _ h4 => rc h4 13 v0 <| bnd (Mod_takesKept v0 h4) fun _ h7 => rc h7 13 v0 <| bnd (Mod_batchNow v0 h7) fun x11 h10 => rc h10 13 v0 <| bnd (Mod_takesOne v0 v1 h10) fun _ h13 => rc h13 13 v0 <| bnd (Mod_batchNow v0 h13) fun x17 h16 => gR h16 13 v0 30 fun r19 => aI h16 21 r19 v1 fun x20 => some ((wr ((wr ((wr (10000 + x11)) - x17)) - x20)), h16)) else (some ((-1), h1))
set_option maxHeartbeats 4000000 in
set_option maxRecDepth 20000 in
theorem s_Mod_gain (v0 : Nat) (v1 : Int) (h : AH) : CS M_Mod_gain 10 206 emI [vr v0, vi v1] h (Mod_gain v0 v1 h) := by
  refine CS.of (by decide) (Nat.le_of_ble_eq_true rfl) ?_
  show Sd M_Mod_gain 10 206 emI 0 [(0, vr v0), (1, vi v1)] [] h _
  unfold Mod_gain
  refine Sd_aload_n (pc' := 1) (dc D_Mod_gain 0 rfl) rfl 0 rfl rfl ?_
  refine Sd_iload_n (pc' := 2) (dc D_Mod_gain 1 rfl) rfl 1 rfl rfl ?_
  refine Sd.callVI (ci := 12) (t := 13) (as := [_]) RX12 (pc' := 5) (dc D_Mod_gain 2 rfl) rfl rfl rfl rfl K_Mod_isCandidate L_Mod_338 Ks_Mod_isCandidate Kv_Mod_isCandidate ⟨by decide, by decide⟩ rfl rfl (Nat.le_of_ble_eq_true rfl) (s_Mod_isCandidate _ _ _) (fun x2 h1 => ?_)
  refine Sd_if_ne (tgt := 10) (pc' := 8) (dc D_Mod_gain 3 rfl) (by decide) rfl (fun _ => ?_) (fun _ => ?_)
  · refine Sd_aload_n (pc' := 11) (dc D_Mod_gain 6 rfl) rfl 0 rfl rfl ?_
    refine Sd.callVV (ci := 12) (t := 13) (as := []) RX12 (pc' := 14) (dc D_Mod_gain 7 rfl) rfl rfl rfl rfl K_Mod_laysAll L_Mod_371 Ks_Mod_laysAll Kv_Mod_laysAll ⟨by decide, by decide⟩ rfl rfl (Nat.le_of_ble_eq_true rfl) (s_Mod_laysAll _ _) (fun _ h4 => ?_)
    refine Sd_aload_n (pc' := 15) (dc D_Mod_gain 8 rfl) rfl 0 rfl rfl ?_
    refine Sd.callVV (ci := 12) (t := 13) (as := []) RX12 (pc' := 18) (dc D_Mod_gain 9 rfl) rfl rfl rfl rfl K_Mod_takesKept L_Mod_374 Ks_Mod_takesKept Kv_Mod_takesKept ⟨by decide, by decide⟩ rfl rfl (Nat.le_of_ble_eq_true rfl) (s_Mod_takesKept _ _) (fun _ h7 => ?_)
    refine Sd_aload_n (pc' := 19) (dc D_Mod_gain 10 rfl) rfl 0 rfl rfl ?_
    refine Sd.callVI (ci := 12) (t := 13) (as := []) RX12 (pc' := 22) (dc D_Mod_gain 11 rfl) rfl rfl rfl rfl K_Mod_batchNow L_Mod_377 Ks_Mod_batchNow Kv_Mod_batchNow ⟨by decide, by decide⟩ rfl rfl (Nat.le_of_ble_eq_true rfl) (s_Mod_batchNow _ _) (fun x11 h10 => ?_)
    refine Sd_istore_n (pc' := 23) (l' := [(2, _), (0, _), (1, _)]) (dc D_Mod_gain 12 rfl) rfl rfl (by decide) rfl ?_
    refine Sd_aload_n (pc' := 24) (dc D_Mod_gain 13 rfl) rfl 1 rfl rfl ?_
    refine Sd_iload_n (pc' := 25) (dc D_Mod_gain 14 rfl) rfl 2 rfl rfl ?_
    refine Sd.callVV (ci := 12) (t := 13) (as := [_]) RX12 (pc' := 28) (dc D_Mod_gain 15 rfl) rfl rfl rfl rfl K_Mod_takesOne L_Mod_389 Ks_Mod_takesOne Kv_Mod_takesOne ⟨by decide, by decide⟩ rfl rfl (Nat.le_of_ble_eq_true rfl) (s_Mod_takesOne _ _ _) (fun _ h13 => ?_)
    refine Sd_sipush (pc' := 31) (dc D_Mod_gain 16 rfl) rfl ⟨by decide, by decide⟩ (by decide) ?_
    refine Sd_iload_n (pc' := 32) (dc D_Mod_gain 17 rfl) rfl 0 rfl rfl ?_
    refine Sd_iadd (pc' := 33) (dc D_Mod_gain 18 rfl) rfl ?_
    refine Sd_aload_n (pc' := 34) (dc D_Mod_gain 19 rfl) rfl 1 rfl rfl ?_
    refine Sd.callVI (ci := 12) (t := 13) (as := []) RX12 (pc' := 37) (dc D_Mod_gain 20 rfl) rfl rfl rfl rfl K_Mod_batchNow L_Mod_377 Ks_Mod_batchNow Kv_Mod_batchNow ⟨by decide, by decide⟩ rfl rfl (Nat.le_of_ble_eq_true rfl) (s_Mod_batchNow _ _) (fun x17 h16 => ?_)
    refine Sd_isub (pc' := 38) (dc D_Mod_gain 21 rfl) rfl ?_
    refine Sd_aload_n (pc' := 39) (dc D_Mod_gain 22 rfl) rfl 1 rfl rfl ?_
    refine Sd_getR (pc' := 42) (dc D_Mod_gain 23 rfl) rfl F_Mod_65 rfl rfl ?_
    refine Sd_iload_n (pc' := 43) (dc D_Mod_gain 24 rfl) rfl 2 rfl rfl ?_
    refine Sd_iaload (pc' := 44) (dc D_Mod_gain 25 rfl) rfl ?_
    refine Sd_isub (pc' := 45) (dc D_Mod_gain 26 rfl) rfl ?_
    exact Sd_iret (dc D_Mod_gain 27 rfl) rfl
  · refine Sd_iconst (pc' := 9) (dc D_Mod_gain 4 rfl) rfl ⟨by decide, by decide⟩ ?_
    exact Sd_iret (dc D_Mod_gain 5 rfl) rfl
theorem K_Mod_gain : MOk M_Mod_gain 1 := ⟨Tb_at 133 (by decide +kernel) rfl, Tb_at 1692 (by decide +kernel) rfl, by decide +kernel, by decide +kernel, by decide +kernel⟩
theorem Ks_Mod_gain : Cond.instanceMethod yX12_gain ∈ Tb := Tb_at 1690 (by decide +kernel) rfl
theorem Kv_Mod_gain : Cond.selects RX12 yX12_gain yX12_gain ∈ Tb := Tb_at 1691 (by decide +kernel) rfl
/-! ===== BatchShareModel.rowsOfOne(I)I ===== -/
abbrev M_Mod_rowsOfOne : AMt := (yX12_rowsOfOne, cX12_rowsOfOne, 2, (some .int))
def T_Mod_rowsOfOne : List (Nat × Instr × Nat) := [(0, .aload_n 0, 1), (1, .getfield 62, 3), (4, .bipush 16, 2), (6, .iload_n 1, 1), (7, .imul, 1), (8, .bipush 13, 2), (10, .iadd, 1), (11, .iaload, 1), (12, .ireturn, 1)]
set_option maxRecDepth 20000 in
theorem D_Mod_rowsOfOne : (T_Mod_rowsOfOne.all fun q => decide (decode M_Mod_rowsOfOne.2.1 q.1 = .ok q.2)) = true := by decide +kernel
def Mod_rowsOfOne (v0 : Nat) (v1 : Int) (h : AH) : Option (Int × AH) := gR h 13 v0 29 fun r1 => aI h 21 r1 (wr ((wr (16 * v1)) + 13)) fun x2 => some (x2, h)
set_option maxHeartbeats 4000000 in
set_option maxRecDepth 20000 in
theorem s_Mod_rowsOfOne (v0 : Nat) (v1 : Int) (h : AH) : CS M_Mod_rowsOfOne 1 0 emI [vr v0, vi v1] h (Mod_rowsOfOne v0 v1 h) := by
  refine CS.of (by decide) (Nat.le_of_ble_eq_true rfl) ?_
  show Sd M_Mod_rowsOfOne 1 0 emI 0 [(0, vr v0), (1, vi v1)] [] h _
  unfold Mod_rowsOfOne
  refine Sd_aload_n (pc' := 1) (dc D_Mod_rowsOfOne 0 rfl) rfl 0 rfl rfl ?_
  refine Sd_getR (pc' := 4) (dc D_Mod_rowsOfOne 1 rfl) rfl F_Mod_62 rfl rfl ?_
  refine Sd_bipush (pc' := 6) (dc D_Mod_rowsOfOne 2 rfl) rfl ⟨by decide, by decide⟩ (by decide) ?_
  refine Sd_iload_n (pc' := 7) (dc D_Mod_rowsOfOne 3 rfl) rfl 1 rfl rfl ?_
  refine Sd_imul (pc' := 8) (dc D_Mod_rowsOfOne 4 rfl) rfl ?_
  refine Sd_bipush (pc' := 10) (dc D_Mod_rowsOfOne 5 rfl) rfl ⟨by decide, by decide⟩ (by decide) ?_
  refine Sd_iadd (pc' := 11) (dc D_Mod_rowsOfOne 6 rfl) rfl ?_
  refine Sd_iaload (pc' := 12) (dc D_Mod_rowsOfOne 7 rfl) rfl ?_
  exact Sd_iret (dc D_Mod_rowsOfOne 8 rfl) rfl
theorem K_Mod_rowsOfOne : MOk M_Mod_rowsOfOne 1 := ⟨Tb_at 133 (by decide +kernel) rfl, Tb_at 1713 (by decide +kernel) rfl, by decide +kernel, by decide +kernel, by decide +kernel⟩
theorem Ks_Mod_rowsOfOne : Cond.instanceMethod yX12_rowsOfOne ∈ Tb := Tb_at 1712 (by decide +kernel) rfl
theorem Kv_Mod_rowsOfOne : Cond.selects RX12 yX12_rowsOfOne yX12_rowsOfOne ∈ Tb := Tb_at 95 (by decide +kernel) rfl
/-! ===== BatchShareModel.greediest()I ===== -/
abbrev M_Mod_greediest : AMt := (yX12_greediest, cX12_greediest, 7, (some .int))
def T_Mod_greediest : List (Nat × Instr × Nat) := [(0, .aload_n 0, 1), (1, .invokevirtual 377, 3), (4, .istore_n 1, 1), (5, .iconst (-1), 1), (6, .istore_n 2, 1), (7, .iconst 0, 1), (8, .istore_n 3, 1), (9, .iconst 0, 1), (10, .istore 4, 2), (12, .iload 4, 2), (14, .aload_n 0, 1), (15, .getfield 317, 3), (18, .if_icmp .ge 123, 3), (21, .aload_n 0, 1), (22, .getfield 392, 3), (25, .aload_n 0, 1), (26, .iload 4, 2), (28, .invokevirtual 395, 3), (31, .iadd, 1), (32, .aload_n 0, 1), (33, .getfield 9, 3), (36, .iconst 1, 1), (37, .iaload, 1), (38, .if_icmp .gt 97, 3), (41, .aload_n 0, 1), (42, .iload 4, 2), (44, .invokevirtual 389, 3), (47, .iload_n 1, 1), (48, .aload_n 0, 1), (49, .invokevirtual 377, 3), (52, .isub, 1), (53, .aload_n 0, 1), (54, .getfield 65, 3), (57, .iload 4, 2), (59, .iaload, 1), (60, .isub, 1), (61, .istore 5, 2), (63, .aload_n 0, 1), (64, .dup, 1), (65, .getfield 343, 3), (68, .iconst 1, 1), (69, .isub, 1), (70, .putfield 343, 3), (73, .iload 5, 2), (75, .iload_n 3, 1), (76, .if_icmp .gt 28, 3), (79, .iload_n 2, 1), (80, .iconst (-1), 1), (81, .if_icmp .eq 27, 3), (84, .iload 5, 2), (86, .iload_n 3, 1), (87, .if_icmp .ne 21, 3), (90, .aload_n 0, 1), (91, .iload 4, 2), (93, .invokevirtual 395, 3), (96, .aload_n 0, 1), (97, .iload_n 2, 1), (98, .invokevirtual 395, 3), (101, .if_icmp .ge 7, 3), (104, .iconst 1, 1), (105, .goto 4, 3), (108, .iconst 0, 1), (109, .istore 6, 2), (111, .iload 6, 2), (113, .ifCond .eq 8, 3), (116, .iload 4, 2), (118, .goto 4, 3), (121, .iload_n 2, 1), (122, .istore_n 2, 1), (123, .iload 6, 2), (125, .ifCond .eq 8, 3), (128, .iload 5, 2), (130, .goto 4, 3), (133, .iload_n 3, 1), (134, .istore_n 3, 1), (135, .iinc 4 1, 3), (138, .goto (-126), 3), (141, .aload_n 0, 1), (142, .dup, 1), (143, .getfield 398, 3), (146, .iload_n 3, 1), (147, .iadd, 1), (148, .putfield 398, 3), (151, .iload_n 2, 1), (152, .ireturn, 1)]
set_option maxRecDepth 20000 in
theorem D_Mod_greediest : (T_Mod_greediest.all fun q => decide (decode M_Mod_greediest.2.1 q.1 = .ok q.2)) = true := by decide +kernel
def Mod_greediest_L122 (k12 : Nat → Int → Int → Int → Int → AH → Option (Int × AH)) (v0 : Nat) (v1 : Int) (v3 : Int) (v4 : Int) (v5 : Int) (v6 : Int) (s0 : Int) (h : AH) : Option (Int × AH) := if (v6 : Int) = 0 then (k12 v0 v1 s0 v3 ((wr (v4 + 1))) h) else (k12 v0 v1 s0 v5 ((wr (v4 + 1))) h)
set_option maxHeartbeats 4000000 in
set_option maxRecDepth 20000 in
theorem s_Mod_greediest_L122 (k12 : Nat → Int → Int → Int → Int → AH → Option (Int × AH)) (hk12 : ∀ v0 v1 v2 v3 v4 h, Sd M_Mod_greediest 10 206 emI 12 [(0, vr v0), (1, vi v1), (2, vi v2), (3, vi v3), (4, vi v4)] [] h (k12 v0 v1 v2 v3 v4 h)) (v0 : Nat) (v1 : Int) (v3 : Int) (v4 : Int) (v5 : Int) (v6 : Int) (s0 : Int) (h : AH) : Sd M_Mod_greediest 10 206 emI 122 [(0, vr v0), (1, vi v1), (3, vi v3), (4, vi v4), (5, vi v5), (6, vi v6)] [vi s0] h (Mod_greediest_L122 k12 v0 v1 v3 v4 v5 v6 s0 h) := by
  unfold Mod_greediest_L122
  refine Sd_istore_n (pc' := 123) (l' := [(2, _), (0, _), (1, _), (3, _), (4, _), (5, _), (6, _)]) (dc D_Mod_greediest 68 rfl) rfl rfl (by decide) rfl ?_
  refine Sd_iload (pc' := 125) (dc D_Mod_greediest 69 rfl) rfl 6 rfl ?_
  refine Sd_if_eq (tgt := 133) (pc' := 128) (dc D_Mod_greediest 70 rfl) (by decide) rfl (fun _ => ?_) (fun _ => ?_)
  · refine Sd_iload_n (pc' := 134) (dc D_Mod_greediest 73 rfl) rfl 3 rfl rfl ?_
    refine Sd_istore_n (pc' := 135) (l' := [(3, _), (2, _), (0, _), (1, _), (4, _), (5, _), (6, _)]) (dc D_Mod_greediest 74 rfl) rfl rfl (by decide) rfl ?_
    refine Sd_iinc (pc' := 138) (l' := [(4, _), (3, _), (2, _), (0, _), (1, _), (5, _), (6, _)]) (dc D_Mod_greediest 75 rfl) rfl 4 rfl (by decide) rfl ?_
    refine Sd_goto (tgt := 12) (dc D_Mod_greediest 76 rfl) (by decide) ?_
    refine Sd.sub (l' := [(0, _), (1, _), (2, _), (3, _), (4, _)]) [3, 4, 2, 1, 0] rfl ?_
    exact hk12 _ _ _ _ _ _
  · refine Sd_iload (pc' := 130) (dc D_Mod_greediest 71 rfl) rfl 5 rfl ?_
    refine Sd_goto (tgt := 134) (dc D_Mod_greediest 72 rfl) (by decide) ?_
    refine Sd_istore_n (pc' := 135) (l' := [(3, _), (2, _), (0, _), (1, _), (4, _), (5, _), (6, _)]) (dc D_Mod_greediest 74 rfl) rfl rfl (by decide) rfl ?_
    refine Sd_iinc (pc' := 138) (l' := [(4, _), (3, _), (2, _), (0, _), (1, _), (5, _), (6, _)]) (dc D_Mod_greediest 75 rfl) rfl 4 rfl (by decide) rfl ?_
    refine Sd_goto (tgt := 12) (dc D_Mod_greediest 76 rfl) (by decide) ?_
    refine Sd.sub (l' := [(0, _), (1, _), (2, _), (3, _), (4, _)]) [3, 4, 2, 1, 0] rfl ?_
    exact hk12 _ _ _ _ _ _
def Mod_greediest_L12 : Nat → Nat → Int → Int → Int → Int → AH → Option (Int × AH)
  | 0, _, _, _, _, _, _ => none
  | n + 1, v0, v1, v2, v3, v4, h => gI h 13 v0 31 fun x1 => if (x1 : Int) ≤ v4 then (gI h 13 v0 37 fun x2 => pI h 13 v0 37 (wr (x2 + v3)) fun h3 => some (v2, h3)) else (gI h 13 v0 38 fun x4 => rc h 13 v0 <| bnd (Mod_rowsOfOne v0 v4 h) fun x6 h5 => gR h5 13 v0 1 fun r8 => aI h5 21 r8 1 fun x9 => if (x9 : Int) < (wr (x4 + x6)) then (Mod_greediest_L12 n v0 v1 v2 v3 ((wr (v4 + 1))) h5) else (rc h5 13 v0 <| bnd (Mod_takesOne v0 v4 h5) fun _ h10 => rc h10 13 v0 <| bnd (Mod_batchNow v0 h10) fun x14 h13 => gR h13 13 v0 30 fun r16 => aI h13 21 r16 v4 fun x17 => gI h13 13 v0 34 fun x18 => pI h13 13 v0 34 (wr (x18 - 1)) fun h19 => if (v3 : Int) < (wr ((wr (v1 - x14)) - x17)) then (if (1 : Int) = 0 then (Mod_greediest_L122 (Mod_greediest_L12 n) v0 v1 v3 v4 ((wr ((wr (v1 - x14)) - x17))) 1 v2 h19) else (Mod_greediest_L122 (Mod_greediest_L12 n) v0 v1 v3 v4 ((wr ((wr (v1 - x14)) - x17))) 1 v4 h19)) else (if (v2 : Int) = (-1) then (if (0 : Int) = 0 then (Mod_greediest_L122 (Mod_greediest_L12 n) v0 v1 v3 v4 ((wr ((wr (v1 - x14)) - x17))) 0 v2 h19) else (Mod_greediest_L122 (Mod_greediest_L12 n) v0 v1 v3 v4 ((wr ((wr (v1 - x14)) - x17))) 0 v4 h19)) else (if ¬ ((wr ((wr (v1 - x14)) - x17)) : Int) = v3 then (if (0 : Int) = 0 then (Mod_greediest_L122 (Mod_greediest_L12 n) v0 v1 v3 v4 ((wr ((wr (v1 - x14)) - x17))) 0 v2 h19) else (Mod_greediest_L122 (Mod_greediest_L12 n) v0 v1 v3 v4 ((wr ((wr (v1 - x14)) - x17))) 0 v4 h19)) else (rc h19 13 v0 <| bnd (Mod_rowsOfOne v0 v4 h19) fun x21 h20 => rc h20 13 v0 <| bnd (Mod_rowsOfOne v0 v2 h20) fun x24 h23 => if (x24 : Int) ≤ x21 then (if (0 : Int) = 0 then (Mod_greediest_L122 (Mod_greediest_L12 n) v0 v1 v3 v4 ((wr ((wr (v1 - x14)) - x17))) 0 v2 h23) else (Mod_greediest_L122 (Mod_greediest_L12 n) v0 v1 v3 v4 ((wr ((wr (v1 - x14)) - x17))) 0 v4 h23)) else (if (1 : Int) = 0 then (Mod_greediest_L122 (Mod_greediest_L12 n) v0 v1 v3 v4 ((wr ((wr (v1 - x14)) - x17))) 1 v2 h23) else (Mod_greediest_L122 (Mod_greediest_L12 n) v0 v1 v3 v4 ((wr ((wr (v1 - x14)) - x17))) 1 v4 h23)))))))
set_option maxHeartbeats 4000000 in
set_option maxRecDepth 20000 in
theorem s_Mod_greediest_L12 : ∀ (n : Nat) (v0 : Nat) (v1 : Int) (v2 : Int) (v3 : Int) (v4 : Int) (h : AH), Sd M_Mod_greediest 10 206 emI 12 [(0, vr v0), (1, vi v1), (2, vi v2), (3, vi v3), (4, vi v4)] [] h (Mod_greediest_L12 n v0 v1 v2 v3 v4 h)
  | 0, _, _, _, _, _, _ => Sd.none
  | n + 1, v0, v1, v2, v3, v4, h => by
    rw [Mod_greediest_L12]
    refine Sd_iload (pc' := 14) (dc D_Mod_greediest 9 rfl) rfl 4 rfl ?_
    refine Sd_aload_n (pc' := 15) (dc D_Mod_greediest 10 rfl) rfl 0 rfl rfl ?_
    refine Sd_getI (pc' := 18) (dc D_Mod_greediest 11 rfl) rfl F_Mod_317 rfl rfl ?_
    refine Sd_icmp_ge (tgt := 141) (pc' := 21) (dc D_Mod_greediest 12 rfl) (by decide) rfl (fun _ => ?_) (fun _ => ?_)
    · refine Sd_aload_n (pc' := 142) (dc D_Mod_greediest 77 rfl) rfl 0 rfl rfl ?_
      refine Sd_dup (pc' := 143) (dc D_Mod_greediest 78 rfl) rfl (cat_r _) ?_
      refine Sd_getI (pc' := 146) (dc D_Mod_greediest 79 rfl) rfl F_Mod_398 rfl rfl ?_
      refine Sd_iload_n (pc' := 147) (dc D_Mod_greediest 80 rfl) rfl 3 rfl rfl ?_
      refine Sd_iadd (pc' := 148) (dc D_Mod_greediest 81 rfl) rfl ?_
      refine Sd_putI (pc' := 151) (dc D_Mod_greediest 82 rfl) rfl F_Mod_398 rfl rfl rfl (finOk.no rfl) (by decide) ?_
      refine Sd_iload_n (pc' := 152) (dc D_Mod_greediest 83 rfl) rfl 2 rfl rfl ?_
      exact Sd_iret (dc D_Mod_greediest 84 rfl) rfl
    · refine Sd_aload_n (pc' := 22) (dc D_Mod_greediest 13 rfl) rfl 0 rfl rfl ?_
      refine Sd_getI (pc' := 25) (dc D_Mod_greediest 14 rfl) rfl F_Mod_392 rfl rfl ?_
      refine Sd_aload_n (pc' := 26) (dc D_Mod_greediest 15 rfl) rfl 0 rfl rfl ?_
      refine Sd_iload (pc' := 28) (dc D_Mod_greediest 16 rfl) rfl 4 rfl ?_
      refine Sd.callVI (ci := 12) (t := 13) (as := [_]) RX12 (pc' := 31) (dc D_Mod_greediest 17 rfl) rfl rfl rfl rfl K_Mod_rowsOfOne L_Mod_395 Ks_Mod_rowsOfOne Kv_Mod_rowsOfOne ⟨by decide, by decide⟩ rfl rfl (Nat.le_of_ble_eq_true rfl) (s_Mod_rowsOfOne _ _ _) (fun x6 h5 => ?_)
      refine Sd_iadd (pc' := 32) (dc D_Mod_greediest 18 rfl) rfl ?_
      refine Sd_aload_n (pc' := 33) (dc D_Mod_greediest 19 rfl) rfl 0 rfl rfl ?_
      refine Sd_getR (pc' := 36) (dc D_Mod_greediest 20 rfl) rfl F_Mod_9 rfl rfl ?_
      refine Sd_iconst (pc' := 37) (dc D_Mod_greediest 21 rfl) rfl ⟨by decide, by decide⟩ ?_
      refine Sd_iaload (pc' := 38) (dc D_Mod_greediest 22 rfl) rfl ?_
      refine Sd_icmp_gt (tgt := 135) (pc' := 41) (dc D_Mod_greediest 23 rfl) (by decide) rfl (fun _ => ?_) (fun _ => ?_)
      · refine Sd_iinc (pc' := 138) (l' := [(4, _), (0, _), (1, _), (2, _), (3, _)]) (dc D_Mod_greediest 75 rfl) rfl 4 rfl (by decide) rfl ?_
        refine Sd_goto (tgt := 12) (dc D_Mod_greediest 76 rfl) (by decide) ?_
        refine Sd.sub (l' := [(0, _), (1, _), (2, _), (3, _), (4, _)]) [1, 2, 3, 4, 0] rfl ?_
        exact s_Mod_greediest_L12 n _ _ _ _ _ _
      · refine Sd_aload_n (pc' := 42) (dc D_Mod_greediest 24 rfl) rfl 0 rfl rfl ?_
        refine Sd_iload (pc' := 44) (dc D_Mod_greediest 25 rfl) rfl 4 rfl ?_
        refine Sd.callVV (ci := 12) (t := 13) (as := [_]) RX12 (pc' := 47) (dc D_Mod_greediest 26 rfl) rfl rfl rfl rfl K_Mod_takesOne L_Mod_389 Ks_Mod_takesOne Kv_Mod_takesOne ⟨by decide, by decide⟩ rfl rfl (Nat.le_of_ble_eq_true rfl) (s_Mod_takesOne _ _ _) (fun _ h10 => ?_)
        refine Sd_iload_n (pc' := 48) (dc D_Mod_greediest 27 rfl) rfl 1 rfl rfl ?_
        refine Sd_aload_n (pc' := 49) (dc D_Mod_greediest 28 rfl) rfl 0 rfl rfl ?_
        refine Sd.callVI (ci := 12) (t := 13) (as := []) RX12 (pc' := 52) (dc D_Mod_greediest 29 rfl) rfl rfl rfl rfl K_Mod_batchNow L_Mod_377 Ks_Mod_batchNow Kv_Mod_batchNow ⟨by decide, by decide⟩ rfl rfl (Nat.le_of_ble_eq_true rfl) (s_Mod_batchNow _ _) (fun x14 h13 => ?_)
        refine Sd_isub (pc' := 53) (dc D_Mod_greediest 30 rfl) rfl ?_
        refine Sd_aload_n (pc' := 54) (dc D_Mod_greediest 31 rfl) rfl 0 rfl rfl ?_
        refine Sd_getR (pc' := 57) (dc D_Mod_greediest 32 rfl) rfl F_Mod_65 rfl rfl ?_
        refine Sd_iload (pc' := 59) (dc D_Mod_greediest 33 rfl) rfl 4 rfl ?_
        refine Sd_iaload (pc' := 60) (dc D_Mod_greediest 34 rfl) rfl ?_
        refine Sd_isub (pc' := 61) (dc D_Mod_greediest 35 rfl) rfl ?_
        refine Sd_istore (pc' := 63) (l' := [(5, _), (0, _), (1, _), (2, _), (3, _), (4, _)]) (dc D_Mod_greediest 36 rfl) rfl (by decide) rfl ?_
        refine Sd_aload_n (pc' := 64) (dc D_Mod_greediest 37 rfl) rfl 1 rfl rfl ?_
        refine Sd_dup (pc' := 65) (dc D_Mod_greediest 38 rfl) rfl (cat_r _) ?_
        refine Sd_getI (pc' := 68) (dc D_Mod_greediest 39 rfl) rfl F_Mod_343 rfl rfl ?_
        refine Sd_iconst (pc' := 69) (dc D_Mod_greediest 40 rfl) rfl ⟨by decide, by decide⟩ ?_
        refine Sd_isub (pc' := 70) (dc D_Mod_greediest 41 rfl) rfl ?_
        refine Sd_putI (pc' := 73) (dc D_Mod_greediest 42 rfl) rfl F_Mod_343 rfl rfl rfl (finOk.no rfl) (by decide) ?_
        refine Sd_iload (pc' := 75) (dc D_Mod_greediest 43 rfl) rfl 0 rfl ?_
        refine Sd_iload_n (pc' := 76) (dc D_Mod_greediest 44 rfl) rfl 4 rfl rfl ?_
        refine Sd_icmp_gt (tgt := 104) (pc' := 79) (dc D_Mod_greediest 45 rfl) (by decide) rfl (fun _ => ?_) (fun _ => ?_)
        · refine Sd_iconst (pc' := 105) (dc D_Mod_greediest 59 rfl) rfl ⟨by decide, by decide⟩ ?_
          refine Sd_goto (tgt := 109) (dc D_Mod_greediest 60 rfl) (by decide) ?_
          refine Sd_istore (pc' := 111) (l' := [(6, _), (5, _), (0, _), (1, _), (2, _), (3, _), (4, _)]) (dc D_Mod_greediest 62 rfl) rfl (by decide) rfl ?_
          refine Sd_iload (pc' := 113) (dc D_Mod_greediest 63 rfl) rfl 0 rfl ?_
          refine Sd_if_eq (tgt := 121) (pc' := 116) (dc D_Mod_greediest 64 rfl) (by decide) rfl (fun _ => ?_) (fun _ => ?_)
          · refine Sd_iload_n (pc' := 122) (dc D_Mod_greediest 67 rfl) rfl 4 rfl rfl ?_
            refine Sd.sub (l' := [(0, _), (1, _), (3, _), (4, _), (5, _), (6, _)]) [2, 3, 5, 6, 1, 0] rfl ?_
            exact s_Mod_greediest_L122 (Mod_greediest_L12 n) (s_Mod_greediest_L12 n) _ _ _ _ _ _ _ _
          · refine Sd_iload (pc' := 118) (dc D_Mod_greediest 65 rfl) rfl 6 rfl ?_
            refine Sd_goto (tgt := 122) (dc D_Mod_greediest 66 rfl) (by decide) ?_
            refine Sd.sub (l' := [(0, _), (1, _), (3, _), (4, _), (5, _), (6, _)]) [2, 3, 5, 6, 1, 0] rfl ?_
            exact s_Mod_greediest_L122 (Mod_greediest_L12 n) (s_Mod_greediest_L12 n) _ _ _ _ _ _ _ _
        · refine Sd_iload_n (pc' := 80) (dc D_Mod_greediest 46 rfl) rfl 3 rfl rfl ?_
          refine Sd_iconst (pc' := 81) (dc D_Mod_greediest 47 rfl) rfl ⟨by decide, by decide⟩ ?_
          refine Sd_icmp_eq (tgt := 108) (pc' := 84) (dc D_Mod_greediest 48 rfl) (by decide) rfl (fun _ => ?_) (fun _ => ?_)
          · refine Sd_iconst (pc' := 109) (dc D_Mod_greediest 61 rfl) rfl ⟨by decide, by decide⟩ ?_
            refine Sd_istore (pc' := 111) (l' := [(6, _), (5, _), (0, _), (1, _), (2, _), (3, _), (4, _)]) (dc D_Mod_greediest 62 rfl) rfl (by decide) rfl ?_
            refine Sd_iload (pc' := 113) (dc D_Mod_greediest 63 rfl) rfl 0 rfl ?_
            refine Sd_if_eq (tgt := 121) (pc' := 116) (dc D_Mod_greediest 64 rfl) (by decide) rfl (fun _ => ?_) (fun _ => ?_)
            · refine Sd_iload_n (pc' := 122) (dc D_Mod_greediest 67 rfl) rfl 4 rfl rfl ?_
              refine Sd.sub (l' := [(0, _), (1, _), (3, _), (4, _), (5, _), (6, _)]) [2, 3, 5, 6, 1, 0] rfl ?_
              exact s_Mod_greediest_L122 (Mod_greediest_L12 n) (s_Mod_greediest_L12 n) _ _ _ _ _ _ _ _
            · refine Sd_iload (pc' := 118) (dc D_Mod_greediest 65 rfl) rfl 6 rfl ?_
              refine Sd_goto (tgt := 122) (dc D_Mod_greediest 66 rfl) (by decide) ?_
              refine Sd.sub (l' := [(0, _), (1, _), (3, _), (4, _), (5, _), (6, _)]) [2, 3, 5, 6, 1, 0] rfl ?_
              exact s_Mod_greediest_L122 (Mod_greediest_L12 n) (s_Mod_greediest_L12 n) _ _ _ _ _ _ _ _
          · refine Sd_iload (pc' := 86) (dc D_Mod_greediest 49 rfl) rfl 0 rfl ?_
            refine Sd_iload_n (pc' := 87) (dc D_Mod_greediest 50 rfl) rfl 4 rfl rfl ?_
            refine Sd_icmp_ne (tgt := 108) (pc' := 90) (dc D_Mod_greediest 51 rfl) (by decide) rfl (fun _ => ?_) (fun _ => ?_)
            · refine Sd_iconst (pc' := 109) (dc D_Mod_greediest 61 rfl) rfl ⟨by decide, by decide⟩ ?_
              refine Sd_istore (pc' := 111) (l' := [(6, _), (5, _), (0, _), (1, _), (2, _), (3, _), (4, _)]) (dc D_Mod_greediest 62 rfl) rfl (by decide) rfl ?_
              refine Sd_iload (pc' := 113) (dc D_Mod_greediest 63 rfl) rfl 0 rfl ?_
              refine Sd_if_eq (tgt := 121) (pc' := 116) (dc D_Mod_greediest 64 rfl) (by decide) rfl (fun _ => ?_) (fun _ => ?_)
              · refine Sd_iload_n (pc' := 122) (dc D_Mod_greediest 67 rfl) rfl 4 rfl rfl ?_
                refine Sd.sub (l' := [(0, _), (1, _), (3, _), (4, _), (5, _), (6, _)]) [2, 3, 5, 6, 1, 0] rfl ?_
                exact s_Mod_greediest_L122 (Mod_greediest_L12 n) (s_Mod_greediest_L12 n) _ _ _ _ _ _ _ _
              · refine Sd_iload (pc' := 118) (dc D_Mod_greediest 65 rfl) rfl 6 rfl ?_
                refine Sd_goto (tgt := 122) (dc D_Mod_greediest 66 rfl) (by decide) ?_
                refine Sd.sub (l' := [(0, _), (1, _), (3, _), (4, _), (5, _), (6, _)]) [2, 3, 5, 6, 1, 0] rfl ?_
                exact s_Mod_greediest_L122 (Mod_greediest_L12 n) (s_Mod_greediest_L12 n) _ _ _ _ _ _ _ _
            · refine Sd_aload_n (pc' := 91) (dc D_Mod_greediest 52 rfl) rfl 1 rfl rfl ?_
              refine Sd_iload (pc' := 93) (dc D_Mod_greediest 53 rfl) rfl 5 rfl ?_
              refine Sd.callVI (ci := 12) (t := 13) (as := [_]) RX12 (pc' := 96) (dc D_Mod_greediest 54 rfl) rfl rfl rfl rfl K_Mod_rowsOfOne L_Mod_395 Ks_Mod_rowsOfOne Kv_Mod_rowsOfOne ⟨by decide, by decide⟩ rfl rfl (Nat.le_of_ble_eq_true rfl) (s_Mod_rowsOfOne _ _ _) (fun x21 h20 => ?_)
              refine Sd_aload_n (pc' := 97) (dc D_Mod_greediest 55 rfl) rfl 1 rfl rfl ?_
              refine Sd_iload_n (pc' := 98) (dc D_Mod_greediest 56 rfl) rfl 3 rfl rfl ?_
              refine Sd.callVI (ci := 12) (t := 13) (as := [_]) RX12 (pc' := 101) (dc D_Mod_greediest 57 rfl) rfl rfl rfl rfl K_Mod_rowsOfOne L_Mod_395 Ks_Mod_rowsOfOne Kv_Mod_rowsOfOne ⟨by decide, by decide⟩ rfl rfl (Nat.le_of_ble_eq_true rfl) (s_Mod_rowsOfOne _ _ _) (fun x24 h23 => ?_)
              refine Sd_icmp_ge (tgt := 108) (pc' := 104) (dc D_Mod_greediest 58 rfl) (by decide) rfl (fun _ => ?_) (fun _ => ?_)
              · refine Sd_iconst (pc' := 109) (dc D_Mod_greediest 61 rfl) rfl ⟨by decide, by decide⟩ ?_
                refine Sd_istore (pc' := 111) (l' := [(6, _), (5, _), (0, _), (1, _), (2, _), (3, _), (4, _)]) (dc D_Mod_greediest 62 rfl) rfl (by decide) rfl ?_
                refine Sd_iload (pc' := 113) (dc D_Mod_greediest 63 rfl) rfl 0 rfl ?_
                refine Sd_if_eq (tgt := 121) (pc' := 116) (dc D_Mod_greediest 64 rfl) (by decide) rfl (fun _ => ?_) (fun _ => ?_)
                · refine Sd_iload_n (pc' := 122) (dc D_Mod_greediest 67 rfl) rfl 4 rfl rfl ?_
                  refine Sd.sub (l' := [(0, _), (1, _), (3, _), (4, _), (5, _), (6, _)]) [2, 3, 5, 6, 1, 0] rfl ?_
                  exact s_Mod_greediest_L122 (Mod_greediest_L12 n) (s_Mod_greediest_L12 n) _ _ _ _ _ _ _ _
                · refine Sd_iload (pc' := 118) (dc D_Mod_greediest 65 rfl) rfl 6 rfl ?_
                  refine Sd_goto (tgt := 122) (dc D_Mod_greediest 66 rfl) (by decide) ?_
                  refine Sd.sub (l' := [(0, _), (1, _), (3, _), (4, _), (5, _), (6, _)]) [2, 3, 5, 6, 1, 0] rfl ?_
                  exact s_Mod_greediest_L122 (Mod_greediest_L12 n) (s_Mod_greediest_L12 n) _ _ _ _ _ _ _ _
              · refine Sd_iconst (pc' := 105) (dc D_Mod_greediest 59 rfl) rfl ⟨by decide, by decide⟩ ?_
                refine Sd_goto (tgt := 109) (dc D_Mod_greediest 60 rfl) (by decide) ?_
                refine Sd_istore (pc' := 111) (l' := [(6, _), (5, _), (0, _), (1, _), (2, _), (3, _), (4, _)]) (dc D_Mod_greediest 62 rfl) rfl (by decide) rfl ?_
                refine Sd_iload (pc' := 113) (dc D_Mod_greediest 63 rfl) rfl 0 rfl ?_
                refine Sd_if_eq (tgt := 121) (pc' := 116) (dc D_Mod_greediest 64 rfl) (by decide) rfl (fun _ => ?_) (fun _ => ?_)
                · refine Sd_iload_n (pc' := 122) (dc D_Mod_greediest 67 rfl) rfl 4 rfl rfl ?_
                  refine Sd.sub (l' := [(0, _), (1, _), (3, _), (4, _), (5, _), (6, _)]) [2, 3, 5, 6, 1, 0] rfl ?_
                  exact s_Mod_greediest_L122 (Mod_greediest_L12 n) (s_Mod_greediest_L12 n) _ _ _ _ _ _ _ _
                · refine Sd_iload (pc' := 118) (dc D_Mod_greediest 65 rfl) rfl 6 rfl ?_
                  refine Sd_goto (tgt := 122) (dc D_Mod_greediest 66 rfl) (by decide) ?_
                  refine Sd.sub (l' := [(0, _), (1, _), (3, _), (4, _), (5, _), (6, _)]) [2, 3, 5, 6, 1, 0] rfl ?_
                  exact s_Mod_greediest_L122 (Mod_greediest_L12 n) (s_Mod_greediest_L12 n) _ _ _ _ _ _ _ _
def Mod_greediest (v0 : Nat) (h : AH) : Option (Int × AH) := rc h 13 v0 <| bnd (Mod_batchNow v0 h) fun x2 h1 => Mod_greediest_L12 FU v0 x2 (-1) 0 0 h1
set_option maxHeartbeats 4000000 in
set_option maxRecDepth 20000 in
theorem s_Mod_greediest (v0 : Nat) (h : AH) : CS M_Mod_greediest 10 206 emI [vr v0] h (Mod_greediest v0 h) := by
  refine CS.of (by decide) (Nat.le_of_ble_eq_true rfl) ?_
  show Sd M_Mod_greediest 10 206 emI 0 [(0, vr v0)] [] h _
  unfold Mod_greediest
  refine Sd_aload_n (pc' := 1) (dc D_Mod_greediest 0 rfl) rfl 0 rfl rfl ?_
  refine Sd.callVI (ci := 12) (t := 13) (as := []) RX12 (pc' := 4) (dc D_Mod_greediest 1 rfl) rfl rfl rfl rfl K_Mod_batchNow L_Mod_377 Ks_Mod_batchNow Kv_Mod_batchNow ⟨by decide, by decide⟩ rfl rfl (Nat.le_of_ble_eq_true rfl) (s_Mod_batchNow _ _) (fun x2 h1 => ?_)
  refine Sd_istore_n (pc' := 5) (l' := [(1, _), (0, _)]) (dc D_Mod_greediest 2 rfl) rfl rfl (by decide) rfl ?_
  refine Sd_iconst (pc' := 6) (dc D_Mod_greediest 3 rfl) rfl ⟨by decide, by decide⟩ ?_
  refine Sd_istore_n (pc' := 7) (l' := [(2, _), (1, _), (0, _)]) (dc D_Mod_greediest 4 rfl) rfl rfl (by decide) rfl ?_
  refine Sd_iconst (pc' := 8) (dc D_Mod_greediest 5 rfl) rfl ⟨by decide, by decide⟩ ?_
  refine Sd_istore_n (pc' := 9) (l' := [(3, _), (2, _), (1, _), (0, _)]) (dc D_Mod_greediest 6 rfl) rfl rfl (by decide) rfl ?_
  refine Sd_iconst (pc' := 10) (dc D_Mod_greediest 7 rfl) rfl ⟨by decide, by decide⟩ ?_
  refine Sd_istore (pc' := 12) (l' := [(4, _), (3, _), (2, _), (1, _), (0, _)]) (dc D_Mod_greediest 8 rfl) rfl (by decide) rfl ?_
  refine Sd.sub (l' := [(0, _), (1, _), (2, _), (3, _), (4, _)]) [4, 3, 2, 1, 0] rfl ?_
  exact s_Mod_greediest_L12 FU _ _ _ _ _ _
theorem K_Mod_greediest : MOk M_Mod_greediest 0 := ⟨Tb_at 133 (by decide +kernel) rfl, Tb_at 1709 (by decide +kernel) rfl, by decide +kernel, by decide +kernel, by decide +kernel⟩
theorem Ks_Mod_greediest : Cond.instanceMethod yX12_greediest ∈ Tb := Tb_at 1708 (by decide +kernel) rfl
theorem Kv_Mod_greediest : Cond.selects RX12 yX12_greediest yX12_greediest ∈ Tb := Tb_at 94 (by decide +kernel) rfl
/-! ===== BatchShareModel.laysGreedy()V ===== -/
abbrev M_Mod_laysGreedy : AMt := (yX12_laysGreedy, cX12_laysGreedy, 2, none)
def T_Mod_laysGreedy : List (Nat × Instr × Nat) := [(0, .aload_n 0, 1), (1, .invokevirtual 335, 3), (4, .aload_n 0, 1), (5, .invokevirtual 371, 3), (8, .aload_n 0, 1), (9, .invokevirtual 380, 3), (12, .aload_n 0, 1), (13, .iconst 0, 1), (14, .putfield 401, 3), (17, .aload_n 0, 1), (18, .iconst 0, 1), (19, .putfield 398, 3), (22, .aload_n 0, 1), (23, .iconst 0, 1), (24, .putfield 392, 3), (27, .aload_n 0, 1), (28, .invokevirtual 404, 3), (31, .istore_n 1, 1), (32, .iload_n 1, 1), (33, .iconst (-1), 1), (34, .if_icmp .eq 63, 3), (37, .aload_n 0, 1), (38, .getfield 71, 3), (41, .aload_n 0, 1), (42, .getfield 401, 3), (45, .iload_n 1, 1), (46, .iastore, 1), (47, .aload_n 0, 1), (48, .dup, 1), (49, .getfield 401, 3), (52, .iconst 1, 1), (53, .iadd, 1), (54, .putfield 401, 3), (57, .aload_n 0, 1), (58, .dup, 1), (59, .getfield 392, 3), (62, .aload_n 0, 1), (63, .iload_n 1, 1), (64, .invokevirtual 395, 3), (67, .iadd, 1), (68, .putfield 392, 3), (71, .aload_n 0, 1), (72, .iload_n 1, 1), (73, .invokevirtual 389, 3), (76, .aload_n 0, 1), (77, .getfield 401, 3), (80, .bipush 6, 2), (82, .if_icmp .ge 10, 3), (85, .aload_n 0, 1), (86, .invokevirtual 404, 3), (89, .goto 4, 3), (92, .iconst (-1), 1), (93, .istore_n 1, 1), (94, .goto (-62), 3), (97, .return_, 1)]
set_option maxRecDepth 20000 in
theorem D_Mod_laysGreedy : (T_Mod_laysGreedy.all fun q => decide (decode M_Mod_laysGreedy.2.1 q.1 = .ok q.2)) = true := by decide +kernel
def Mod_laysGreedy_L32 : Nat → Nat → Int → AH → Option (Unit × AH)
  | 0, _, _, _ => none
  | n + 1, v0, v1, h => if (v1 : Int) = (-1) then (some ((), h)) else (gR h 13 v0 35 fun r1 => gI h 13 v0 36 fun x2 => wI h 21 r1 x2 v1 fun h3 => gI h3 13 v0 36 fun x4 => pI h3 13 v0 36 (wr (x4 + 1)) fun h5 => gI h5 13 v0 38 fun x6 => rc h5 13 v0 <| bnd (Mod_rowsOfOne v0 v1 h5) fun x8 h7 => pI h7 13 v0 38 (wr (x6 + x8)) fun h10 => rc h10 13 v0 <| bnd (Mod_takesOne v0 v1 h10) fun _ h11 => gI h11 13 v0 36 fun x14 => if (6 : Int) ≤ x14 then (Mod_laysGreedy_L32 n v0 (-1) h11) else (rc h11 13 v0 <| bnd (Mod_greediest v0 h11) fun x16 h15 => Mod_laysGreedy_L32 n v0 x16 h15))
set_option maxHeartbeats 4000000 in
set_option maxRecDepth 20000 in
theorem s_Mod_laysGreedy_L32 : ∀ (n : Nat) (v0 : Nat) (v1 : Int) (h : AH), Sd M_Mod_laysGreedy 11 232 emV 32 [(0, vr v0), (1, vi v1)] [] h (Mod_laysGreedy_L32 n v0 v1 h)
  | 0, _, _, _ => Sd.none
  | n + 1, v0, v1, h => by
    rw [Mod_laysGreedy_L32]
    refine Sd_iload_n (pc' := 33) (dc D_Mod_laysGreedy 18 rfl) rfl 1 rfl rfl ?_
    refine Sd_iconst (pc' := 34) (dc D_Mod_laysGreedy 19 rfl) rfl ⟨by decide, by decide⟩ ?_
    refine Sd_icmp_eq (tgt := 97) (pc' := 37) (dc D_Mod_laysGreedy 20 rfl) (by decide) rfl (fun _ => ?_) (fun _ => ?_)
    · exact Sd_vret (dc D_Mod_laysGreedy 54 rfl) rfl
    · refine Sd_aload_n (pc' := 38) (dc D_Mod_laysGreedy 21 rfl) rfl 0 rfl rfl ?_
      refine Sd_getR (pc' := 41) (dc D_Mod_laysGreedy 22 rfl) rfl F_Mod_71 rfl rfl ?_
      refine Sd_aload_n (pc' := 42) (dc D_Mod_laysGreedy 23 rfl) rfl 0 rfl rfl ?_
      refine Sd_getI (pc' := 45) (dc D_Mod_laysGreedy 24 rfl) rfl F_Mod_401 rfl rfl ?_
      refine Sd_iload_n (pc' := 46) (dc D_Mod_laysGreedy 25 rfl) rfl 1 rfl rfl ?_
      refine Sd_iastore (pc' := 47) (dc D_Mod_laysGreedy 26 rfl) rfl (by decide) ?_
      refine Sd_aload_n (pc' := 48) (dc D_Mod_laysGreedy 27 rfl) rfl 0 rfl rfl ?_
      refine Sd_dup (pc' := 49) (dc D_Mod_laysGreedy 28 rfl) rfl (cat_r _) ?_
      refine Sd_getI (pc' := 52) (dc D_Mod_laysGreedy 29 rfl) rfl F_Mod_401 rfl rfl ?_
      refine Sd_iconst (pc' := 53) (dc D_Mod_laysGreedy 30 rfl) rfl ⟨by decide, by decide⟩ ?_
      refine Sd_iadd (pc' := 54) (dc D_Mod_laysGreedy 31 rfl) rfl ?_
      refine Sd_putI (pc' := 57) (dc D_Mod_laysGreedy 32 rfl) rfl F_Mod_401 rfl rfl rfl (finOk.no rfl) (by decide) ?_
      refine Sd_aload_n (pc' := 58) (dc D_Mod_laysGreedy 33 rfl) rfl 0 rfl rfl ?_
      refine Sd_dup (pc' := 59) (dc D_Mod_laysGreedy 34 rfl) rfl (cat_r _) ?_
      refine Sd_getI (pc' := 62) (dc D_Mod_laysGreedy 35 rfl) rfl F_Mod_392 rfl rfl ?_
      refine Sd_aload_n (pc' := 63) (dc D_Mod_laysGreedy 36 rfl) rfl 0 rfl rfl ?_
      refine Sd_iload_n (pc' := 64) (dc D_Mod_laysGreedy 37 rfl) rfl 1 rfl rfl ?_
      refine Sd.callVI (ci := 12) (t := 13) (as := [_]) RX12 (pc' := 67) (dc D_Mod_laysGreedy 38 rfl) rfl rfl rfl rfl K_Mod_rowsOfOne L_Mod_395 Ks_Mod_rowsOfOne Kv_Mod_rowsOfOne ⟨by decide, by decide⟩ rfl rfl (Nat.le_of_ble_eq_true rfl) (s_Mod_rowsOfOne _ _ _) (fun x8 h7 => ?_)
      refine Sd_iadd (pc' := 68) (dc D_Mod_laysGreedy 39 rfl) rfl ?_
      refine Sd_putI (pc' := 71) (dc D_Mod_laysGreedy 40 rfl) rfl F_Mod_392 rfl rfl rfl (finOk.no rfl) (by decide) ?_
      refine Sd_aload_n (pc' := 72) (dc D_Mod_laysGreedy 41 rfl) rfl 0 rfl rfl ?_
      refine Sd_iload_n (pc' := 73) (dc D_Mod_laysGreedy 42 rfl) rfl 1 rfl rfl ?_
      refine Sd.callVV (ci := 12) (t := 13) (as := [_]) RX12 (pc' := 76) (dc D_Mod_laysGreedy 43 rfl) rfl rfl rfl rfl K_Mod_takesOne L_Mod_389 Ks_Mod_takesOne Kv_Mod_takesOne ⟨by decide, by decide⟩ rfl rfl (Nat.le_of_ble_eq_true rfl) (s_Mod_takesOne _ _ _) (fun _ h11 => ?_)
      refine Sd_aload_n (pc' := 77) (dc D_Mod_laysGreedy 44 rfl) rfl 0 rfl rfl ?_
      refine Sd_getI (pc' := 80) (dc D_Mod_laysGreedy 45 rfl) rfl F_Mod_401 rfl rfl ?_
      refine Sd_bipush (pc' := 82) (dc D_Mod_laysGreedy 46 rfl) rfl ⟨by decide, by decide⟩ (by decide) ?_
      refine Sd_icmp_ge (tgt := 92) (pc' := 85) (dc D_Mod_laysGreedy 47 rfl) (by decide) rfl (fun _ => ?_) (fun _ => ?_)
      · refine Sd_iconst (pc' := 93) (dc D_Mod_laysGreedy 51 rfl) rfl ⟨by decide, by decide⟩ ?_
        refine Sd_istore_n (pc' := 94) (l' := [(1, _), (0, _)]) (dc D_Mod_laysGreedy 52 rfl) rfl rfl (by decide) rfl ?_
        refine Sd_goto (tgt := 32) (dc D_Mod_laysGreedy 53 rfl) (by decide) ?_
        refine Sd.sub (l' := [(0, _), (1, _)]) [1, 0] rfl ?_
        exact s_Mod_laysGreedy_L32 n _ _ _
      · refine Sd_aload_n (pc' := 86) (dc D_Mod_laysGreedy 48 rfl) rfl 0 rfl rfl ?_
        refine Sd.callVI (ci := 12) (t := 13) (as := []) RX12 (pc' := 89) (dc D_Mod_laysGreedy 49 rfl) rfl rfl rfl rfl K_Mod_greediest L_Mod_404 Ks_Mod_greediest Kv_Mod_greediest ⟨by decide, by decide⟩ rfl rfl (Nat.le_of_ble_eq_true rfl) (s_Mod_greediest _ _) (fun x16 h15 => ?_)
        refine Sd_goto (tgt := 93) (dc D_Mod_laysGreedy 50 rfl) (by decide) ?_
        refine Sd_istore_n (pc' := 94) (l' := [(1, _), (0, _)]) (dc D_Mod_laysGreedy 52 rfl) rfl rfl (by decide) rfl ?_
        refine Sd_goto (tgt := 32) (dc D_Mod_laysGreedy 53 rfl) (by decide) ?_
        refine Sd.sub (l' := [(0, _), (1, _)]) [1, 0] rfl ?_
        exact s_Mod_laysGreedy_L32 n _ _ _
def Mod_laysGreedy (v0 : Nat) (h : AH) : Option (Unit × AH) := rc h 13 v0 <| bnd (Mod_laysCandidates v0 h) fun _ h1 => rc h1 13 v0 <| bnd (Mod_laysAll v0 h1) fun _ h4 => rc h4 13 v0 <| bnd (Mod_takesNone v0 h4) fun _ h7 => pI h7 13 v0 36 0 fun h10 => pI h10 13 v0 37 0 fun h11 => pI h11 13 v0 38 0 fun h12 => rc h12 13 v0 <| bnd (Mod_greediest v0 h12) fun x14 h13 => Mod_laysGreedy_L32 FU v0 x14 h13
set_option maxHeartbeats 4000000 in
set_option maxRecDepth 20000 in
theorem s_Mod_laysGreedy (v0 : Nat) (h : AH) : CS M_Mod_laysGreedy 11 232 emV [vr v0] h (Mod_laysGreedy v0 h) := by
  refine CS.of (by decide) (Nat.le_of_ble_eq_true rfl) ?_
  show Sd M_Mod_laysGreedy 11 232 emV 0 [(0, vr v0)] [] h _
  unfold Mod_laysGreedy
  refine Sd_aload_n (pc' := 1) (dc D_Mod_laysGreedy 0 rfl) rfl 0 rfl rfl ?_
  refine Sd.callVV (ci := 12) (t := 13) (as := []) RX12 (pc' := 4) (dc D_Mod_laysGreedy 1 rfl) rfl rfl rfl rfl K_Mod_laysCandidates L_Mod_335 Ks_Mod_laysCandidates Kv_Mod_laysCandidates ⟨by decide, by decide⟩ rfl rfl (Nat.le_of_ble_eq_true rfl) (s_Mod_laysCandidates _ _) (fun _ h1 => ?_)
  refine Sd_aload_n (pc' := 5) (dc D_Mod_laysGreedy 2 rfl) rfl 0 rfl rfl ?_
  refine Sd.callVV (ci := 12) (t := 13) (as := []) RX12 (pc' := 8) (dc D_Mod_laysGreedy 3 rfl) rfl rfl rfl rfl K_Mod_laysAll L_Mod_371 Ks_Mod_laysAll Kv_Mod_laysAll ⟨by decide, by decide⟩ rfl rfl (Nat.le_of_ble_eq_true rfl) (s_Mod_laysAll _ _) (fun _ h4 => ?_)
  refine Sd_aload_n (pc' := 9) (dc D_Mod_laysGreedy 4 rfl) rfl 0 rfl rfl ?_
  refine Sd.callVV (ci := 12) (t := 13) (as := []) RX12 (pc' := 12) (dc D_Mod_laysGreedy 5 rfl) rfl rfl rfl rfl K_Mod_takesNone L_Mod_380 Ks_Mod_takesNone Kv_Mod_takesNone ⟨by decide, by decide⟩ rfl rfl (Nat.le_of_ble_eq_true rfl) (s_Mod_takesNone _ _) (fun _ h7 => ?_)
  refine Sd_aload_n (pc' := 13) (dc D_Mod_laysGreedy 6 rfl) rfl 0 rfl rfl ?_
  refine Sd_iconst (pc' := 14) (dc D_Mod_laysGreedy 7 rfl) rfl ⟨by decide, by decide⟩ ?_
  refine Sd_putI (pc' := 17) (dc D_Mod_laysGreedy 8 rfl) rfl F_Mod_401 rfl rfl rfl (finOk.no rfl) (by decide) ?_
  refine Sd_aload_n (pc' := 18) (dc D_Mod_laysGreedy 9 rfl) rfl 0 rfl rfl ?_
  refine Sd_iconst (pc' := 19) (dc D_Mod_laysGreedy 10 rfl) rfl ⟨by decide, by decide⟩ ?_
  refine Sd_putI (pc' := 22) (dc D_Mod_laysGreedy 11 rfl) rfl F_Mod_398 rfl rfl rfl (finOk.no rfl) (by decide) ?_
  refine Sd_aload_n (pc' := 23) (dc D_Mod_laysGreedy 12 rfl) rfl 0 rfl rfl ?_
  refine Sd_iconst (pc' := 24) (dc D_Mod_laysGreedy 13 rfl) rfl ⟨by decide, by decide⟩ ?_
  refine Sd_putI (pc' := 27) (dc D_Mod_laysGreedy 14 rfl) rfl F_Mod_392 rfl rfl rfl (finOk.no rfl) (by decide) ?_
  refine Sd_aload_n (pc' := 28) (dc D_Mod_laysGreedy 15 rfl) rfl 0 rfl rfl ?_
  refine Sd.callVI (ci := 12) (t := 13) (as := []) RX12 (pc' := 31) (dc D_Mod_laysGreedy 16 rfl) rfl rfl rfl rfl K_Mod_greediest L_Mod_404 Ks_Mod_greediest Kv_Mod_greediest ⟨by decide, by decide⟩ rfl rfl (Nat.le_of_ble_eq_true rfl) (s_Mod_greediest _ _) (fun x14 h13 => ?_)
  refine Sd_istore_n (pc' := 32) (l' := [(1, _), (0, _)]) (dc D_Mod_laysGreedy 17 rfl) rfl rfl (by decide) rfl ?_
  refine Sd.sub (l' := [(0, _), (1, _)]) [1, 0] rfl ?_
  exact s_Mod_laysGreedy_L32 FU _ _ _
theorem K_Mod_laysGreedy : MOk M_Mod_laysGreedy 0 := ⟨Tb_at 133 (by decide +kernel) rfl, Tb_at 1705 (by decide +kernel) rfl, by decide +kernel, by decide +kernel, by decide +kernel⟩
theorem Ks_Mod_laysGreedy : Cond.instanceMethod yX12_laysGreedy ∈ Tb := Tb_at 1704 (by decide +kernel) rfl
theorem Kv_Mod_laysGreedy : Cond.selects RX12 yX12_laysGreedy yX12_laysGreedy ∈ Tb := Tb_at 93 (by decide +kernel) rfl
/-! ===== BatchShareModel.greedy(I)I ===== -/
abbrev M_Mod_greedy : AMt := (yX12_greedy, cX12_greedy, 2, (some .int))
def T_Mod_greedy : List (Nat × Instr × Nat) := [(0, .iload_n 1, 1), (1, .i2l, 1), (2, .lconst 0, 1), (3, .ldc2_w 407, 3), (6, .invokestatic 88, 3), (9, .ifCond .ne 6, 3), (12, .bipush (-2), 2), (14, .ireturn, 1), (15, .aload_n 0, 1), (16, .invokevirtual 409, 3), (19, .iload_n 1, 1), (20, .iconst 2, 1), (21, .if_icmp .ge 19, 3), (24, .iload_n 1, 1), (25, .ifCond .ne 10, 3), (28, .aload_n 0, 1), (29, .getfield 401, 3), (32, .goto 7, 3), (35, .aload_n 0, 1), (36, .getfield 398, 3), (39, .ireturn, 1), (40, .iload_n 1, 1), (41, .iconst 2, 1), (42, .isub, 1), (43, .aload_n 0, 1), (44, .getfield 401, 3), (47, .if_icmp .ge 14, 3), (50, .aload_n 0, 1), (51, .getfield 71, 3), (54, .iload_n 1, 1), (55, .iconst 2, 1), (56, .isub, 1), (57, .iaload, 1), (58, .goto 4, 3), (61, .iconst (-1), 1), (62, .ireturn, 1)]
set_option maxRecDepth 20000 in
theorem D_Mod_greedy : (T_Mod_greedy.all fun q => decide (decode M_Mod_greedy.2.1 q.1 = .ok q.2)) = true := by decide +kernel
def Mod_greedy (v0 : Nat) (v1 : Int) (h : AH) : Option (Int × AH) := bnd (Mod_in v1 0 7 h) fun x2 h1 => if ¬ (x2 : Int) = 0 then (rc h1 13 v0 <| bnd (Mod_laysGreedy v0 h1) fun _ h4 => if (2 : Int) ≤ v1 then (gI h4 13 v0 36 fun x7 => if (x7 : Int) ≤ (wr (v1 - 2)) then (some ((-1), h4)) else (gR h4 13 v0 35 fun r8 => aI h4 21 r8 (wr (v1 - 2)) fun x9 => some (x9, h4))) else (if ¬ (v1 : Int) = 0 then (gI h4 13 v0 37 fun x10 => some (x10, h4)) else (gI h4 13 v0 36 fun x11 => some (x11, h4)))) else (some ((-2), h1))
set_option maxHeartbeats 4000000 in
set_option maxRecDepth 20000 in
theorem s_Mod_greedy (v0 : Nat) (v1 : Int) (h : AH) : CS M_Mod_greedy 12 253 emI [vr v0, vi v1] h (Mod_greedy v0 v1 h) := by
  refine CS.of (by decide) (Nat.le_of_ble_eq_true rfl) ?_
  show Sd M_Mod_greedy 12 253 emI 0 [(0, vr v0), (1, vi v1)] [] h _
  unfold Mod_greedy
  refine Sd_iload_n (pc' := 1) (dc D_Mod_greedy 0 rfl) rfl 1 rfl rfl ?_
  refine Sd_i2l (pc' := 2) (dc D_Mod_greedy 1 rfl) rfl ?_
  refine Sd_lconst (z := 0) (pc' := 3) (dc D_Mod_greedy 2 rfl) rfl ⟨by decide, by decide⟩ (by decide) ?_
  refine Sd_ldc2 (n := 7) (pc' := 6) (dc D_Mod_greedy 3 rfl) rfl ⟨by decide, by decide⟩ Q_Mod_407 ?_
  refine Sd.callSI (as := [_, _, _]) (pc' := 9) (dc D_Mod_greedy 4 rfl) rfl K_Mod_in L_Mod_88 Ks_Mod_in ⟨by decide, by decide⟩ rfl rfl (Nat.le_of_ble_eq_true rfl) (s_Mod_in _ _ _ _) (fun x2 h1 => ?_)
  refine Sd_if_ne (tgt := 15) (pc' := 12) (dc D_Mod_greedy 5 rfl) (by decide) rfl (fun _ => ?_) (fun _ => ?_)
  · refine Sd_aload_n (pc' := 16) (dc D_Mod_greedy 8 rfl) rfl 0 rfl rfl ?_
    refine Sd.callVV (ci := 12) (t := 13) (as := []) RX12 (pc' := 19) (dc D_Mod_greedy 9 rfl) rfl rfl rfl rfl K_Mod_laysGreedy L_Mod_409 Ks_Mod_laysGreedy Kv_Mod_laysGreedy ⟨by decide, by decide⟩ rfl rfl (Nat.le_of_ble_eq_true rfl) (s_Mod_laysGreedy _ _) (fun _ h4 => ?_)
    refine Sd_iload_n (pc' := 20) (dc D_Mod_greedy 10 rfl) rfl 1 rfl rfl ?_
    refine Sd_iconst (pc' := 21) (dc D_Mod_greedy 11 rfl) rfl ⟨by decide, by decide⟩ ?_
    refine Sd_icmp_ge (tgt := 40) (pc' := 24) (dc D_Mod_greedy 12 rfl) (by decide) rfl (fun _ => ?_) (fun _ => ?_)
    · refine Sd_iload_n (pc' := 41) (dc D_Mod_greedy 21 rfl) rfl 1 rfl rfl ?_
      refine Sd_iconst (pc' := 42) (dc D_Mod_greedy 22 rfl) rfl ⟨by decide, by decide⟩ ?_
      refine Sd_isub (pc' := 43) (dc D_Mod_greedy 23 rfl) rfl ?_
      refine Sd_aload_n (pc' := 44) (dc D_Mod_greedy 24 rfl) rfl 0 rfl rfl ?_
      refine Sd_getI (pc' := 47) (dc D_Mod_greedy 25 rfl) rfl F_Mod_401 rfl rfl ?_
      refine Sd_icmp_ge (tgt := 61) (pc' := 50) (dc D_Mod_greedy 26 rfl) (by decide) rfl (fun _ => ?_) (fun _ => ?_)
      · refine Sd_iconst (pc' := 62) (dc D_Mod_greedy 34 rfl) rfl ⟨by decide, by decide⟩ ?_
        exact Sd_iret (dc D_Mod_greedy 35 rfl) rfl
      · refine Sd_aload_n (pc' := 51) (dc D_Mod_greedy 27 rfl) rfl 0 rfl rfl ?_
        refine Sd_getR (pc' := 54) (dc D_Mod_greedy 28 rfl) rfl F_Mod_71 rfl rfl ?_
        refine Sd_iload_n (pc' := 55) (dc D_Mod_greedy 29 rfl) rfl 1 rfl rfl ?_
        refine Sd_iconst (pc' := 56) (dc D_Mod_greedy 30 rfl) rfl ⟨by decide, by decide⟩ ?_
        refine Sd_isub (pc' := 57) (dc D_Mod_greedy 31 rfl) rfl ?_
        refine Sd_iaload (pc' := 58) (dc D_Mod_greedy 32 rfl) rfl ?_
        refine Sd_goto (tgt := 62) (dc D_Mod_greedy 33 rfl) (by decide) ?_
        exact Sd_iret (dc D_Mod_greedy 35 rfl) rfl
    · refine Sd_iload_n (pc' := 25) (dc D_Mod_greedy 13 rfl) rfl 1 rfl rfl ?_
      refine Sd_if_ne (tgt := 35) (pc' := 28) (dc D_Mod_greedy 14 rfl) (by decide) rfl (fun _ => ?_) (fun _ => ?_)
      · refine Sd_aload_n (pc' := 36) (dc D_Mod_greedy 18 rfl) rfl 0 rfl rfl ?_
        refine Sd_getI (pc' := 39) (dc D_Mod_greedy 19 rfl) rfl F_Mod_398 rfl rfl ?_
        exact Sd_iret (dc D_Mod_greedy 20 rfl) rfl
      · refine Sd_aload_n (pc' := 29) (dc D_Mod_greedy 15 rfl) rfl 0 rfl rfl ?_
        refine Sd_getI (pc' := 32) (dc D_Mod_greedy 16 rfl) rfl F_Mod_401 rfl rfl ?_
        refine Sd_goto (tgt := 39) (dc D_Mod_greedy 17 rfl) (by decide) ?_
        exact Sd_iret (dc D_Mod_greedy 20 rfl) rfl
  · refine Sd_bipush (pc' := 14) (dc D_Mod_greedy 6 rfl) rfl ⟨by decide, by decide⟩ (by decide) ?_
    exact Sd_iret (dc D_Mod_greedy 7 rfl) rfl
theorem K_Mod_greedy : MOk M_Mod_greedy 1 := ⟨Tb_at 133 (by decide +kernel) rfl, Tb_at 1700 (by decide +kernel) rfl, by decide +kernel, by decide +kernel, by decide +kernel⟩
theorem Ks_Mod_greedy : Cond.instanceMethod yX12_greedy ∈ Tb := Tb_at 1698 (by decide +kernel) rfl
theorem Kv_Mod_greedy : Cond.selects RX12 yX12_greedy yX12_greedy ∈ Tb := Tb_at 1699 (by decide +kernel) rfl
/-! ===== BatchShareModel.triesSet(III)V ===== -/
abbrev M_Mod_triesSet : AMt := (yX12_triesSet, cX12_triesSet, 6, none)
def T_Mod_triesSet : List (Nat × Instr × Nat) := [(0, .aload_n 0, 1), (1, .invokevirtual 380, 3), (4, .aload_n 0, 1), (5, .iload_n 1, 1), (6, .invokevirtual 389, 3), (9, .aload_n 0, 1), (10, .getfield 65, 3), (13, .iload_n 1, 1), (14, .iaload, 1), (15, .istore 4, 2), (17, .iload_n 2, 1), (18, .iconst (-1), 1), (19, .if_icmp .eq 19, 3), (22, .aload_n 0, 1), (23, .iload_n 2, 1), (24, .invokevirtual 389, 3), (27, .iload 4, 2), (29, .aload_n 0, 1), (30, .getfield 65, 3), (33, .iload_n 2, 1), (34, .iaload, 1), (35, .iadd, 1), (36, .istore 4, 2), (38, .iload_n 3, 1), (39, .aload_n 0, 1), (40, .invokevirtual 377, 3), (43, .isub, 1), (44, .iload 4, 2), (46, .isub, 1), (47, .istore 5, 2), (49, .iload 5, 2), (51, .aload_n 0, 1), (52, .getfield 412, 3), (55, .if_icmp .le 19, 3), (58, .aload_n 0, 1), (59, .iload 5, 2), (61, .putfield 412, 3), (64, .aload_n 0, 1), (65, .iload_n 1, 1), (66, .putfield 415, 3), (69, .aload_n 0, 1), (70, .iload_n 2, 1), (71, .putfield 418, 3), (74, .return_, 1)]
set_option maxRecDepth 20000 in
theorem D_Mod_triesSet : (T_Mod_triesSet.all fun q => decide (decode M_Mod_triesSet.2.1 q.1 = .ok q.2)) = true := by decide +kernel
def Mod_triesSet_L38 (v0 : Nat) (v1 : Int) (v2 : Int) (v3 : Int) (v4 : Int) (h : AH) : Option (Unit × AH) := rc h 13 v0 <| bnd (Mod_batchNow v0 h) fun x2 h1 => gI h1 13 v0 39 fun x4 => if ((wr ((wr (v3 - x2)) - v4)) : Int) ≤ x4 then (some ((), h1)) else (pI h1 13 v0 39 (wr ((wr (v3 - x2)) - v4)) fun h5 => pI h5 13 v0 40 v1 fun h6 => pI h6 13 v0 41 v2 fun h7 => some ((), h7))
set_option maxHeartbeats 4000000 in
set_option maxRecDepth 20000 in
theorem s_Mod_triesSet_L38 (v0 : Nat) (v1 : Int) (v2 : Int) (v3 : Int) (v4 : Int) (h : AH) : Sd M_Mod_triesSet 10 206 emV 38 [(0, vr v0), (1, vi v1), (2, vi v2), (3, vi v3), (4, vi v4)] [] h (Mod_triesSet_L38 v0 v1 v2 v3 v4 h) := by
  unfold Mod_triesSet_L38
  refine Sd_iload_n (pc' := 39) (dc D_Mod_triesSet 23 rfl) rfl 3 rfl rfl ?_
  refine Sd_aload_n (pc' := 40) (dc D_Mod_triesSet 24 rfl) rfl 0 rfl rfl ?_
  refine Sd.callVI (ci := 12) (t := 13) (as := []) RX12 (pc' := 43) (dc D_Mod_triesSet 25 rfl) rfl rfl rfl rfl K_Mod_batchNow L_Mod_377 Ks_Mod_batchNow Kv_Mod_batchNow ⟨by decide, by decide⟩ rfl rfl (Nat.le_of_ble_eq_true rfl) (s_Mod_batchNow _ _) (fun x2 h1 => ?_)
  refine Sd_isub (pc' := 44) (dc D_Mod_triesSet 26 rfl) rfl ?_
  refine Sd_iload (pc' := 46) (dc D_Mod_triesSet 27 rfl) rfl 4 rfl ?_
  refine Sd_isub (pc' := 47) (dc D_Mod_triesSet 28 rfl) rfl ?_
  refine Sd_istore (pc' := 49) (l' := [(5, _), (0, _), (1, _), (2, _), (3, _), (4, _)]) (dc D_Mod_triesSet 29 rfl) rfl (by decide) rfl ?_
  refine Sd_iload (pc' := 51) (dc D_Mod_triesSet 30 rfl) rfl 0 rfl ?_
  refine Sd_aload_n (pc' := 52) (dc D_Mod_triesSet 31 rfl) rfl 1 rfl rfl ?_
  refine Sd_getI (pc' := 55) (dc D_Mod_triesSet 32 rfl) rfl F_Mod_412 rfl rfl ?_
  refine Sd_icmp_le (tgt := 74) (pc' := 58) (dc D_Mod_triesSet 33 rfl) (by decide) rfl (fun _ => ?_) (fun _ => ?_)
  · exact Sd_vret (dc D_Mod_triesSet 43 rfl) rfl
  · refine Sd_aload_n (pc' := 59) (dc D_Mod_triesSet 34 rfl) rfl 1 rfl rfl ?_
    refine Sd_iload (pc' := 61) (dc D_Mod_triesSet 35 rfl) rfl 0 rfl ?_
    refine Sd_putI (pc' := 64) (dc D_Mod_triesSet 36 rfl) rfl F_Mod_412 rfl rfl rfl (finOk.no rfl) (by decide) ?_
    refine Sd_aload_n (pc' := 65) (dc D_Mod_triesSet 37 rfl) rfl 1 rfl rfl ?_
    refine Sd_iload_n (pc' := 66) (dc D_Mod_triesSet 38 rfl) rfl 2 rfl rfl ?_
    refine Sd_putI (pc' := 69) (dc D_Mod_triesSet 39 rfl) rfl F_Mod_415 rfl rfl rfl (finOk.no rfl) (by decide) ?_
    refine Sd_aload_n (pc' := 70) (dc D_Mod_triesSet 40 rfl) rfl 1 rfl rfl ?_
    refine Sd_iload_n (pc' := 71) (dc D_Mod_triesSet 41 rfl) rfl 3 rfl rfl ?_
    refine Sd_putI (pc' := 74) (dc D_Mod_triesSet 42 rfl) rfl F_Mod_418 rfl rfl rfl (finOk.no rfl) (by decide) ?_
    exact Sd_vret (dc D_Mod_triesSet 43 rfl) rfl
def Mod_triesSet (v0 : Nat) (v1 : Int) (v2 : Int) (v3 : Int) (h : AH) : Option (Unit × AH) := rc h 13 v0 <| bnd (Mod_takesNone v0 h) fun _ h1 => rc h1 13 v0 <| bnd (Mod_takesOne v0 v1 h1) fun _ h4 => gR h4 13 v0 30 fun r7 => aI h4 21 r7 v1 fun x8 => if (v2 : Int) = (-1) then (Mod_triesSet_L38 v0 v1 v2 v3 x8 h4) else (rc h4 13 v0 <| bnd (Mod_takesOne v0 v2 h4) fun _ h9 => gR h9 13 v0 30 fun r12 => aI h9 21 r12 v2 fun x13 => Mod_triesSet_L38 v0 v1 v2 v3 ((wr (x8 + x13))) h9)
set_option maxHeartbeats 4000000 in
set_option maxRecDepth 20000 in
theorem s_Mod_triesSet (v0 : Nat) (v1 : Int) (v2 : Int) (v3 : Int) (h : AH) : CS M_Mod_triesSet 10 206 emV [vr v0, vi v1, vi v2, vi v3] h (Mod_triesSet v0 v1 v2 v3 h) := by
  refine CS.of (by decide) (Nat.le_of_ble_eq_true rfl) ?_
  show Sd M_Mod_triesSet 10 206 emV 0 [(0, vr v0), (1, vi v1), (2, vi v2), (3, vi v3)] [] h _
  unfold Mod_triesSet
  refine Sd_aload_n (pc' := 1) (dc D_Mod_triesSet 0 rfl) rfl 0 rfl rfl ?_
  refine Sd.callVV (ci := 12) (t := 13) (as := []) RX12 (pc' := 4) (dc D_Mod_triesSet 1 rfl) rfl rfl rfl rfl K_Mod_takesNone L_Mod_380 Ks_Mod_takesNone Kv_Mod_takesNone ⟨by decide, by decide⟩ rfl rfl (Nat.le_of_ble_eq_true rfl) (s_Mod_takesNone _ _) (fun _ h1 => ?_)
  refine Sd_aload_n (pc' := 5) (dc D_Mod_triesSet 2 rfl) rfl 0 rfl rfl ?_
  refine Sd_iload_n (pc' := 6) (dc D_Mod_triesSet 3 rfl) rfl 1 rfl rfl ?_
  refine Sd.callVV (ci := 12) (t := 13) (as := [_]) RX12 (pc' := 9) (dc D_Mod_triesSet 4 rfl) rfl rfl rfl rfl K_Mod_takesOne L_Mod_389 Ks_Mod_takesOne Kv_Mod_takesOne ⟨by decide, by decide⟩ rfl rfl (Nat.le_of_ble_eq_true rfl) (s_Mod_takesOne _ _ _) (fun _ h4 => ?_)
  refine Sd_aload_n (pc' := 10) (dc D_Mod_triesSet 5 rfl) rfl 0 rfl rfl ?_
  refine Sd_getR (pc' := 13) (dc D_Mod_triesSet 6 rfl) rfl F_Mod_65 rfl rfl ?_
  refine Sd_iload_n (pc' := 14) (dc D_Mod_triesSet 7 rfl) rfl 1 rfl rfl ?_
  refine Sd_iaload (pc' := 15) (dc D_Mod_triesSet 8 rfl) rfl ?_
  refine Sd_istore (pc' := 17) (l' := [(4, _), (0, _), (1, _), (2, _), (3, _)]) (dc D_Mod_triesSet 9 rfl) rfl (by decide) rfl ?_
  refine Sd_iload_n (pc' := 18) (dc D_Mod_triesSet 10 rfl) rfl 3 rfl rfl ?_
  refine Sd_iconst (pc' := 19) (dc D_Mod_triesSet 11 rfl) rfl ⟨by decide, by decide⟩ ?_
  refine Sd_icmp_eq (tgt := 38) (pc' := 22) (dc D_Mod_triesSet 12 rfl) (by decide) rfl (fun _ => ?_) (fun _ => ?_)
  · refine Sd.sub (l' := [(0, _), (1, _), (2, _), (3, _), (4, _)]) [1, 2, 3, 4, 0] rfl ?_
    exact s_Mod_triesSet_L38 _ _ _ _ _ _
  · refine Sd_aload_n (pc' := 23) (dc D_Mod_triesSet 13 rfl) rfl 1 rfl rfl ?_
    refine Sd_iload_n (pc' := 24) (dc D_Mod_triesSet 14 rfl) rfl 3 rfl rfl ?_
    refine Sd.callVV (ci := 12) (t := 13) (as := [_]) RX12 (pc' := 27) (dc D_Mod_triesSet 15 rfl) rfl rfl rfl rfl K_Mod_takesOne L_Mod_389 Ks_Mod_takesOne Kv_Mod_takesOne ⟨by decide, by decide⟩ rfl rfl (Nat.le_of_ble_eq_true rfl) (s_Mod_takesOne _ _ _) (fun _ h9 => ?_)
    refine Sd_iload (pc' := 29) (dc D_Mod_triesSet 16 rfl) rfl 0 rfl ?_
    refine Sd_aload_n (pc' := 30) (dc D_Mod_triesSet 17 rfl) rfl 1 rfl rfl ?_
    refine Sd_getR (pc' := 33) (dc D_Mod_triesSet 18 rfl) rfl F_Mod_65 rfl rfl ?_
    refine Sd_iload_n (pc' := 34) (dc D_Mod_triesSet 19 rfl) rfl 3 rfl rfl ?_
    refine Sd_iaload (pc' := 35) (dc D_Mod_triesSet 20 rfl) rfl ?_
    refine Sd_iadd (pc' := 36) (dc D_Mod_triesSet 21 rfl) rfl ?_
    refine Sd_istore (pc' := 38) (l' := [(4, _), (0, _), (1, _), (2, _), (3, _)]) (dc D_Mod_triesSet 22 rfl) rfl (by decide) rfl ?_
    refine Sd.sub (l' := [(0, _), (1, _), (2, _), (3, _), (4, _)]) [1, 2, 3, 4, 0] rfl ?_
    exact s_Mod_triesSet_L38 _ _ _ _ _ _
theorem K_Mod_triesSet : MOk M_Mod_triesSet 3 := ⟨Tb_at 133 (by decide +kernel) rfl, Tb_at 1725 (by decide +kernel) rfl, by decide +kernel, by decide +kernel, by decide +kernel⟩
theorem Ks_Mod_triesSet : Cond.instanceMethod yX12_triesSet ∈ Tb := Tb_at 1724 (by decide +kernel) rfl
theorem Kv_Mod_triesSet : Cond.selects RX12 yX12_triesSet yX12_triesSet ∈ Tb := Tb_at 97 (by decide +kernel) rfl
/-! ===== BatchShareModel.laysBest()V ===== -/
abbrev M_Mod_laysBest : AMt := (yX12_laysBest, cX12_laysBest, 4, none)
def T_Mod_laysBest : List (Nat × Instr × Nat) := [(0, .aload_n 0, 1), (1, .invokevirtual 335, 3), (4, .aload_n 0, 1), (5, .invokevirtual 371, 3), (8, .aload_n 0, 1), (9, .invokevirtual 380, 3), (12, .aload_n 0, 1), (13, .invokevirtual 377, 3), (16, .istore_n 1, 1), (17, .aload_n 0, 1), (18, .iconst 0, 1), (19, .putfield 412, 3), (22, .aload_n 0, 1), (23, .iconst (-1), 1), (24, .putfield 415, 3), (27, .aload_n 0, 1), (28, .iconst (-1), 1), (29, .putfield 418, 3), (32, .iconst 0, 1), (33, .istore_n 2, 1), (34, .iload_n 2, 1), (35, .aload_n 0, 1), (36, .getfield 317, 3), (39, .if_icmp .ge 30, 3), (42, .aload_n 0, 1), (43, .iload_n 2, 1), (44, .invokevirtual 395, 3), (47, .aload_n 0, 1), (48, .getfield 9, 3), (51, .iconst 1, 1), (52, .iaload, 1), (53, .if_icmp .gt 10, 3), (56, .aload_n 0, 1), (57, .iload_n 2, 1), (58, .iconst (-1), 1), (59, .iload_n 1, 1), (60, .invokevirtual 421, 3), (63, .iinc 2 1, 3), (66, .goto (-32), 3), (69, .iconst 0, 1), (70, .istore_n 2, 1), (71, .iload_n 2, 1), (72, .aload_n 0, 1), (73, .getfield 317, 3), (76, .if_icmp .ge 54, 3), (79, .iload_n 2, 1), (80, .iconst 1, 1), (81, .iadd, 1), (82, .istore_n 3, 1), (83, .iload_n 3, 1), (84, .aload_n 0, 1), (85, .getfield 317, 3), (88, .if_icmp .ge 36, 3), (91, .aload_n 0, 1), (92, .iload_n 2, 1), (93, .invokevirtual 395, 3), (96, .aload_n 0, 1), (97, .iload_n 3, 1), (98, .invokevirtual 395, 3), (101, .iadd, 1), (102, .aload_n 0, 1), (103, .getfield 9, 3), (106, .iconst 1, 1), (107, .iaload, 1), (108, .if_icmp .gt 10, 3), (111, .aload_n 0, 1), (112, .iload_n 2, 1), (113, .iload_n 3, 1), (114, .iload_n 1, 1), (115, .invokevirtual 421, 3), (118, .iinc 3 1, 3), (121, .goto (-38), 3), (124, .iinc 2 1, 3), (127, .goto (-56), 3), (130, .return_, 1)]
set_option maxRecDepth 20000 in
theorem D_Mod_laysBest : (T_Mod_laysBest.all fun q => decide (decode M_Mod_laysBest.2.1 q.1 = .ok q.2)) = true := by decide +kernel
def Mod_laysBest_L83 (k71 : Nat → Int → Int → AH → Option (Unit × AH)) : Nat → Nat → Int → Int → Int → AH → Option (Unit × AH)
  | 0, _, _, _, _, _ => none
  | n + 1, v0, v1, v2, v3, h => gI h 13 v0 31 fun x1 => if (x1 : Int) ≤ v3 then (k71 v0 v1 ((wr (v2 + 1))) h) else (rc h 13 v0 <| bnd (Mod_rowsOfOne v0 v2 h) fun x3 h2 => rc h2 13 v0 <| bnd (Mod_rowsOfOne v0 v3 h2) fun x6 h5 => gR h5 13 v0 1 fun r8 => aI h5 21 r8 1 fun x9 => if (x9 : Int) < (wr (x3 + x6)) then (Mod_laysBest_L83 k71 n v0 v1 v2 ((wr (v3 + 1))) h5) else (rc h5 13 v0 <| bnd (Mod_triesSet v0 v2 v3 v1 h5) fun _ h10 => Mod_laysBest_L83 k71 n v0 v1 v2 ((wr (v3 + 1))) h10))
set_option maxHeartbeats 4000000 in
set_option maxRecDepth 20000 in
theorem s_Mod_laysBest_L83 (k71 : Nat → Int → Int → AH → Option (Unit × AH)) (hk71 : ∀ v0 v1 v2 h, Sd M_Mod_laysBest 11 231 emV 71 [(0, vr v0), (1, vi v1), (2, vi v2)] [] h (k71 v0 v1 v2 h)) : ∀ (n : Nat) (v0 : Nat) (v1 : Int) (v2 : Int) (v3 : Int) (h : AH), Sd M_Mod_laysBest 11 231 emV 83 [(0, vr v0), (1, vi v1), (2, vi v2), (3, vi v3)] [] h (Mod_laysBest_L83 k71 n v0 v1 v2 v3 h)
  | 0, _, _, _, _, _ => Sd.none
  | n + 1, v0, v1, v2, v3, h => by
    rw [Mod_laysBest_L83]
    refine Sd_iload_n (pc' := 84) (dc D_Mod_laysBest 49 rfl) rfl 3 rfl rfl ?_
    refine Sd_aload_n (pc' := 85) (dc D_Mod_laysBest 50 rfl) rfl 0 rfl rfl ?_
    refine Sd_getI (pc' := 88) (dc D_Mod_laysBest 51 rfl) rfl F_Mod_317 rfl rfl ?_
    refine Sd_icmp_ge (tgt := 124) (pc' := 91) (dc D_Mod_laysBest 52 rfl) (by decide) rfl (fun _ => ?_) (fun _ => ?_)
    · refine Sd_iinc (pc' := 127) (l' := [(2, _), (0, _), (1, _), (3, _)]) (dc D_Mod_laysBest 72 rfl) rfl 2 rfl (by decide) rfl ?_
      refine Sd_goto (tgt := 71) (dc D_Mod_laysBest 73 rfl) (by decide) ?_
      refine Sd.sub (l' := [(0, _), (1, _), (2, _)]) [1, 2, 0] rfl ?_
      exact hk71 _ _ _ _
    · refine Sd_aload_n (pc' := 92) (dc D_Mod_laysBest 53 rfl) rfl 0 rfl rfl ?_
      refine Sd_iload_n (pc' := 93) (dc D_Mod_laysBest 54 rfl) rfl 2 rfl rfl ?_
      refine Sd.callVI (ci := 12) (t := 13) (as := [_]) RX12 (pc' := 96) (dc D_Mod_laysBest 55 rfl) rfl rfl rfl rfl K_Mod_rowsOfOne L_Mod_395 Ks_Mod_rowsOfOne Kv_Mod_rowsOfOne ⟨by decide, by decide⟩ rfl rfl (Nat.le_of_ble_eq_true rfl) (s_Mod_rowsOfOne _ _ _) (fun x3 h2 => ?_)
      refine Sd_aload_n (pc' := 97) (dc D_Mod_laysBest 56 rfl) rfl 0 rfl rfl ?_
      refine Sd_iload_n (pc' := 98) (dc D_Mod_laysBest 57 rfl) rfl 3 rfl rfl ?_
      refine Sd.callVI (ci := 12) (t := 13) (as := [_]) RX12 (pc' := 101) (dc D_Mod_laysBest 58 rfl) rfl rfl rfl rfl K_Mod_rowsOfOne L_Mod_395 Ks_Mod_rowsOfOne Kv_Mod_rowsOfOne ⟨by decide, by decide⟩ rfl rfl (Nat.le_of_ble_eq_true rfl) (s_Mod_rowsOfOne _ _ _) (fun x6 h5 => ?_)
      refine Sd_iadd (pc' := 102) (dc D_Mod_laysBest 59 rfl) rfl ?_
      refine Sd_aload_n (pc' := 103) (dc D_Mod_laysBest 60 rfl) rfl 0 rfl rfl ?_
      refine Sd_getR (pc' := 106) (dc D_Mod_laysBest 61 rfl) rfl F_Mod_9 rfl rfl ?_
      refine Sd_iconst (pc' := 107) (dc D_Mod_laysBest 62 rfl) rfl ⟨by decide, by decide⟩ ?_
      refine Sd_iaload (pc' := 108) (dc D_Mod_laysBest 63 rfl) rfl ?_
      refine Sd_icmp_gt (tgt := 118) (pc' := 111) (dc D_Mod_laysBest 64 rfl) (by decide) rfl (fun _ => ?_) (fun _ => ?_)
      · refine Sd_iinc (pc' := 121) (l' := [(3, _), (0, _), (1, _), (2, _)]) (dc D_Mod_laysBest 70 rfl) rfl 3 rfl (by decide) rfl ?_
        refine Sd_goto (tgt := 83) (dc D_Mod_laysBest 71 rfl) (by decide) ?_
        refine Sd.sub (l' := [(0, _), (1, _), (2, _), (3, _)]) [1, 2, 3, 0] rfl ?_
        exact s_Mod_laysBest_L83 k71 hk71 n _ _ _ _ _
      · refine Sd_aload_n (pc' := 112) (dc D_Mod_laysBest 65 rfl) rfl 0 rfl rfl ?_
        refine Sd_iload_n (pc' := 113) (dc D_Mod_laysBest 66 rfl) rfl 2 rfl rfl ?_
        refine Sd_iload_n (pc' := 114) (dc D_Mod_laysBest 67 rfl) rfl 3 rfl rfl ?_
        refine Sd_iload_n (pc' := 115) (dc D_Mod_laysBest 68 rfl) rfl 1 rfl rfl ?_
        refine Sd.callVV (ci := 12) (t := 13) (as := [_, _, _]) RX12 (pc' := 118) (dc D_Mod_laysBest 69 rfl) rfl rfl rfl rfl K_Mod_triesSet L_Mod_421 Ks_Mod_triesSet Kv_Mod_triesSet ⟨by decide, by decide⟩ rfl rfl (Nat.le_of_ble_eq_true rfl) (s_Mod_triesSet _ _ _ _ _) (fun _ h10 => ?_)
        refine Sd_iinc (pc' := 121) (l' := [(3, _), (0, _), (1, _), (2, _)]) (dc D_Mod_laysBest 70 rfl) rfl 3 rfl (by decide) rfl ?_
        refine Sd_goto (tgt := 83) (dc D_Mod_laysBest 71 rfl) (by decide) ?_
        refine Sd.sub (l' := [(0, _), (1, _), (2, _), (3, _)]) [1, 2, 3, 0] rfl ?_
        exact s_Mod_laysBest_L83 k71 hk71 n _ _ _ _ _
def Mod_laysBest_L71 : Nat → Nat → Int → Int → AH → Option (Unit × AH)
  | 0, _, _, _, _ => none
  | n + 1, v0, v1, v2, h => gI h 13 v0 31 fun x1 => if (x1 : Int) ≤ v2 then (some ((), h)) else (Mod_laysBest_L83 (Mod_laysBest_L71 n) FU v0 v1 v2 ((wr (v2 + 1))) h)
set_option maxHeartbeats 4000000 in
set_option maxRecDepth 20000 in
theorem s_Mod_laysBest_L71 : ∀ (n : Nat) (v0 : Nat) (v1 : Int) (v2 : Int) (h : AH), Sd M_Mod_laysBest 11 231 emV 71 [(0, vr v0), (1, vi v1), (2, vi v2)] [] h (Mod_laysBest_L71 n v0 v1 v2 h)
  | 0, _, _, _, _ => Sd.none
  | n + 1, v0, v1, v2, h => by
    rw [Mod_laysBest_L71]
    refine Sd_iload_n (pc' := 72) (dc D_Mod_laysBest 41 rfl) rfl 2 rfl rfl ?_
    refine Sd_aload_n (pc' := 73) (dc D_Mod_laysBest 42 rfl) rfl 0 rfl rfl ?_
    refine Sd_getI (pc' := 76) (dc D_Mod_laysBest 43 rfl) rfl F_Mod_317 rfl rfl ?_
    refine Sd_icmp_ge (tgt := 130) (pc' := 79) (dc D_Mod_laysBest 44 rfl) (by decide) rfl (fun _ => ?_) (fun _ => ?_)
    · exact Sd_vret (dc D_Mod_laysBest 74 rfl) rfl
    · refine Sd_iload_n (pc' := 80) (dc D_Mod_laysBest 45 rfl) rfl 2 rfl rfl ?_
      refine Sd_iconst (pc' := 81) (dc D_Mod_laysBest 46 rfl) rfl ⟨by decide, by decide⟩ ?_
      refine Sd_iadd (pc' := 82) (dc D_Mod_laysBest 47 rfl) rfl ?_
      refine Sd_istore_n (pc' := 83) (l' := [(3, _), (0, _), (1, _), (2, _)]) (dc D_Mod_laysBest 48 rfl) rfl rfl (by decide) rfl ?_
      refine Sd.sub (l' := [(0, _), (1, _), (2, _), (3, _)]) [1, 2, 3, 0] rfl ?_
      exact s_Mod_laysBest_L83 (Mod_laysBest_L71 n) (s_Mod_laysBest_L71 n) FU _ _ _ _ _
def Mod_laysBest_L34 : Nat → Nat → Int → Int → AH → Option (Unit × AH)
  | 0, _, _, _, _ => none
  | n + 1, v0, v1, v2, h => gI h 13 v0 31 fun x1 => if (x1 : Int) ≤ v2 then (Mod_laysBest_L71 FU v0 v1 0 h) else (rc h 13 v0 <| bnd (Mod_rowsOfOne v0 v2 h) fun x3 h2 => gR h2 13 v0 1 fun r5 => aI h2 21 r5 1 fun x6 => if (x6 : Int) < x3 then (Mod_laysBest_L34 n v0 v1 ((wr (v2 + 1))) h2) else (rc h2 13 v0 <| bnd (Mod_triesSet v0 v2 (-1) v1 h2) fun _ h7 => Mod_laysBest_L34 n v0 v1 ((wr (v2 + 1))) h7))
set_option maxHeartbeats 4000000 in
set_option maxRecDepth 20000 in
theorem s_Mod_laysBest_L34 : ∀ (n : Nat) (v0 : Nat) (v1 : Int) (v2 : Int) (h : AH), Sd M_Mod_laysBest 11 231 emV 34 [(0, vr v0), (1, vi v1), (2, vi v2)] [] h (Mod_laysBest_L34 n v0 v1 v2 h)
  | 0, _, _, _, _ => Sd.none
  | n + 1, v0, v1, v2, h => by
    rw [Mod_laysBest_L34]
    refine Sd_iload_n (pc' := 35) (dc D_Mod_laysBest 20 rfl) rfl 2 rfl rfl ?_
    refine Sd_aload_n (pc' := 36) (dc D_Mod_laysBest 21 rfl) rfl 0 rfl rfl ?_
    refine Sd_getI (pc' := 39) (dc D_Mod_laysBest 22 rfl) rfl F_Mod_317 rfl rfl ?_
    refine Sd_icmp_ge (tgt := 69) (pc' := 42) (dc D_Mod_laysBest 23 rfl) (by decide) rfl (fun _ => ?_) (fun _ => ?_)
    · refine Sd_iconst (pc' := 70) (dc D_Mod_laysBest 39 rfl) rfl ⟨by decide, by decide⟩ ?_
      refine Sd_istore_n (pc' := 71) (l' := [(2, _), (0, _), (1, _)]) (dc D_Mod_laysBest 40 rfl) rfl rfl (by decide) rfl ?_
      refine Sd.sub (l' := [(0, _), (1, _), (2, _)]) [1, 2, 0] rfl ?_
      exact s_Mod_laysBest_L71 FU _ _ _ _
    · refine Sd_aload_n (pc' := 43) (dc D_Mod_laysBest 24 rfl) rfl 0 rfl rfl ?_
      refine Sd_iload_n (pc' := 44) (dc D_Mod_laysBest 25 rfl) rfl 2 rfl rfl ?_
      refine Sd.callVI (ci := 12) (t := 13) (as := [_]) RX12 (pc' := 47) (dc D_Mod_laysBest 26 rfl) rfl rfl rfl rfl K_Mod_rowsOfOne L_Mod_395 Ks_Mod_rowsOfOne Kv_Mod_rowsOfOne ⟨by decide, by decide⟩ rfl rfl (Nat.le_of_ble_eq_true rfl) (s_Mod_rowsOfOne _ _ _) (fun x3 h2 => ?_)
      refine Sd_aload_n (pc' := 48) (dc D_Mod_laysBest 27 rfl) rfl 0 rfl rfl ?_
      refine Sd_getR (pc' := 51) (dc D_Mod_laysBest 28 rfl) rfl F_Mod_9 rfl rfl ?_
      refine Sd_iconst (pc' := 52) (dc D_Mod_laysBest 29 rfl) rfl ⟨by decide, by decide⟩ ?_
      refine Sd_iaload (pc' := 53) (dc D_Mod_laysBest 30 rfl) rfl ?_
      refine Sd_icmp_gt (tgt := 63) (pc' := 56) (dc D_Mod_laysBest 31 rfl) (by decide) rfl (fun _ => ?_) (fun _ => ?_)
      · refine Sd_iinc (pc' := 66) (l' := [(2, _), (0, _), (1, _)]) (dc D_Mod_laysBest 37 rfl) rfl 2 rfl (by decide) rfl ?_
        refine Sd_goto (tgt := 34) (dc D_Mod_laysBest 38 rfl) (by decide) ?_
        refine Sd.sub (l' := [(0, _), (1, _), (2, _)]) [1, 2, 0] rfl ?_
        exact s_Mod_laysBest_L34 n _ _ _ _
      · refine Sd_aload_n (pc' := 57) (dc D_Mod_laysBest 32 rfl) rfl 0 rfl rfl ?_
        refine Sd_iload_n (pc' := 58) (dc D_Mod_laysBest 33 rfl) rfl 2 rfl rfl ?_
        refine Sd_iconst (pc' := 59) (dc D_Mod_laysBest 34 rfl) rfl ⟨by decide, by decide⟩ ?_
        refine Sd_iload_n (pc' := 60) (dc D_Mod_laysBest 35 rfl) rfl 1 rfl rfl ?_
        refine Sd.callVV (ci := 12) (t := 13) (as := [_, _, _]) RX12 (pc' := 63) (dc D_Mod_laysBest 36 rfl) rfl rfl rfl rfl K_Mod_triesSet L_Mod_421 Ks_Mod_triesSet Kv_Mod_triesSet ⟨by decide, by decide⟩ rfl rfl (Nat.le_of_ble_eq_true rfl) (s_Mod_triesSet _ _ _ _ _) (fun _ h7 => ?_)
        refine Sd_iinc (pc' := 66) (l' := [(2, _), (0, _), (1, _)]) (dc D_Mod_laysBest 37 rfl) rfl 2 rfl (by decide) rfl ?_
        refine Sd_goto (tgt := 34) (dc D_Mod_laysBest 38 rfl) (by decide) ?_
        refine Sd.sub (l' := [(0, _), (1, _), (2, _)]) [1, 2, 0] rfl ?_
        exact s_Mod_laysBest_L34 n _ _ _ _
def Mod_laysBest (v0 : Nat) (h : AH) : Option (Unit × AH) := rc h 13 v0 <| bnd (Mod_laysCandidates v0 h) fun _ h1 => rc h1 13 v0 <| bnd (Mod_laysAll v0 h1) fun _ h4 => rc h4 13 v0 <| bnd (Mod_takesNone v0 h4) fun _ h7 => rc h7 13 v0 <| bnd (Mod_batchNow v0 h7) fun x11 h10 => pI h10 13 v0 39 0 fun h13 => pI h13 13 v0 40 (-1) fun h14 => pI h14 13 v0 41 (-1) fun h15 => Mod_laysBest_L34 FU v0 x11 0 h15
set_option maxHeartbeats 4000000 in
set_option maxRecDepth 20000 in
theorem s_Mod_laysBest (v0 : Nat) (h : AH) : CS M_Mod_laysBest 11 231 emV [vr v0] h (Mod_laysBest v0 h) := by
  refine CS.of (by decide) (Nat.le_of_ble_eq_true rfl) ?_
  show Sd M_Mod_laysBest 11 231 emV 0 [(0, vr v0)] [] h _
  unfold Mod_laysBest
  refine Sd_aload_n (pc' := 1) (dc D_Mod_laysBest 0 rfl) rfl 0 rfl rfl ?_
  refine Sd.callVV (ci := 12) (t := 13) (as := []) RX12 (pc' := 4) (dc D_Mod_laysBest 1 rfl) rfl rfl rfl rfl K_Mod_laysCandidates L_Mod_335 Ks_Mod_laysCandidates Kv_Mod_laysCandidates ⟨by decide, by decide⟩ rfl rfl (Nat.le_of_ble_eq_true rfl) (s_Mod_laysCandidates _ _) (fun _ h1 => ?_)
  refine Sd_aload_n (pc' := 5) (dc D_Mod_laysBest 2 rfl) rfl 0 rfl rfl ?_
  refine Sd.callVV (ci := 12) (t := 13) (as := []) RX12 (pc' := 8) (dc D_Mod_laysBest 3 rfl) rfl rfl rfl rfl K_Mod_laysAll L_Mod_371 Ks_Mod_laysAll Kv_Mod_laysAll ⟨by decide, by decide⟩ rfl rfl (Nat.le_of_ble_eq_true rfl) (s_Mod_laysAll _ _) (fun _ h4 => ?_)
  refine Sd_aload_n (pc' := 9) (dc D_Mod_laysBest 4 rfl) rfl 0 rfl rfl ?_
  refine Sd.callVV (ci := 12) (t := 13) (as := []) RX12 (pc' := 12) (dc D_Mod_laysBest 5 rfl) rfl rfl rfl rfl K_Mod_takesNone L_Mod_380 Ks_Mod_takesNone Kv_Mod_takesNone ⟨by decide, by decide⟩ rfl rfl (Nat.le_of_ble_eq_true rfl) (s_Mod_takesNone _ _) (fun _ h7 => ?_)
  refine Sd_aload_n (pc' := 13) (dc D_Mod_laysBest 6 rfl) rfl 0 rfl rfl ?_
  refine Sd.callVI (ci := 12) (t := 13) (as := []) RX12 (pc' := 16) (dc D_Mod_laysBest 7 rfl) rfl rfl rfl rfl K_Mod_batchNow L_Mod_377 Ks_Mod_batchNow Kv_Mod_batchNow ⟨by decide, by decide⟩ rfl rfl (Nat.le_of_ble_eq_true rfl) (s_Mod_batchNow _ _) (fun x11 h10 => ?_)
  refine Sd_istore_n (pc' := 17) (l' := [(1, _), (0, _)]) (dc D_Mod_laysBest 8 rfl) rfl rfl (by decide) rfl ?_
  refine Sd_aload_n (pc' := 18) (dc D_Mod_laysBest 9 rfl) rfl 1 rfl rfl ?_
  refine Sd_iconst (pc' := 19) (dc D_Mod_laysBest 10 rfl) rfl ⟨by decide, by decide⟩ ?_
  refine Sd_putI (pc' := 22) (dc D_Mod_laysBest 11 rfl) rfl F_Mod_412 rfl rfl rfl (finOk.no rfl) (by decide) ?_
  refine Sd_aload_n (pc' := 23) (dc D_Mod_laysBest 12 rfl) rfl 1 rfl rfl ?_
  refine Sd_iconst (pc' := 24) (dc D_Mod_laysBest 13 rfl) rfl ⟨by decide, by decide⟩ ?_
  refine Sd_putI (pc' := 27) (dc D_Mod_laysBest 14 rfl) rfl F_Mod_415 rfl rfl rfl (finOk.no rfl) (by decide) ?_
  refine Sd_aload_n (pc' := 28) (dc D_Mod_laysBest 15 rfl) rfl 1 rfl rfl ?_
  refine Sd_iconst (pc' := 29) (dc D_Mod_laysBest 16 rfl) rfl ⟨by decide, by decide⟩ ?_
  refine Sd_putI (pc' := 32) (dc D_Mod_laysBest 17 rfl) rfl F_Mod_418 rfl rfl rfl (finOk.no rfl) (by decide) ?_
  refine Sd_iconst (pc' := 33) (dc D_Mod_laysBest 18 rfl) rfl ⟨by decide, by decide⟩ ?_
  refine Sd_istore_n (pc' := 34) (l' := [(2, _), (1, _), (0, _)]) (dc D_Mod_laysBest 19 rfl) rfl rfl (by decide) rfl ?_
  refine Sd.sub (l' := [(0, _), (1, _), (2, _)]) [2, 1, 0] rfl ?_
  exact s_Mod_laysBest_L34 FU _ _ _ _
theorem K_Mod_laysBest : MOk M_Mod_laysBest 0 := ⟨Tb_at 133 (by decide +kernel) rfl, Tb_at 1721 (by decide +kernel) rfl, by decide +kernel, by decide +kernel, by decide +kernel⟩
theorem Ks_Mod_laysBest : Cond.instanceMethod yX12_laysBest ∈ Tb := Tb_at 1720 (by decide +kernel) rfl
theorem Kv_Mod_laysBest : Cond.selects RX12 yX12_laysBest yX12_laysBest ∈ Tb := Tb_at 96 (by decide +kernel) rfl
/-! ===== BatchShareModel.best(I)I ===== -/
abbrev M_Mod_best : AMt := (yX12_best, cX12_best, 2, (some .int))
def T_Mod_best : List (Nat × Instr × Nat) := [(0, .iload_n 1, 1), (1, .i2l, 1), (2, .lconst 0, 1), (3, .ldc2_w 248, 3), (6, .invokestatic 88, 3), (9, .ifCond .ne 6, 3), (12, .bipush (-2), 2), (14, .ireturn, 1), (15, .aload_n 0, 1), (16, .invokevirtual 424, 3), (19, .iload_n 1, 1), (20, .ifCond .ne 10, 3), (23, .aload_n 0, 1), (24, .getfield 412, 3), (27, .goto 19, 3), (30, .iload_n 1, 1), (31, .iconst 1, 1), (32, .if_icmp .ne 10, 3), (35, .aload_n 0, 1), (36, .getfield 415, 3), (39, .goto 7, 3), (42, .aload_n 0, 1), (43, .getfield 418, 3), (46, .ireturn, 1)]
set_option maxRecDepth 20000 in
theorem D_Mod_best : (T_Mod_best.all fun q => decide (decode M_Mod_best.2.1 q.1 = .ok q.2)) = true := by decide +kernel
def Mod_best (v0 : Nat) (v1 : Int) (h : AH) : Option (Int × AH) := bnd (Mod_in v1 0 2 h) fun x2 h1 => if ¬ (x2 : Int) = 0 then (rc h1 13 v0 <| bnd (Mod_laysBest v0 h1) fun _ h4 => if ¬ (v1 : Int) = 0 then (if ¬ (v1 : Int) = 1 then (gI h4 13 v0 41 fun x7 => some (x7, h4)) else (gI h4 13 v0 40 fun x8 => some (x8, h4))) else (gI h4 13 v0 39 fun x9 => some (x9, h4))) else (some ((-2), h1))
set_option maxHeartbeats 4000000 in
set_option maxRecDepth 20000 in
theorem s_Mod_best (v0 : Nat) (v1 : Int) (h : AH) : CS M_Mod_best 12 254 emI [vr v0, vi v1] h (Mod_best v0 v1 h) := by
  refine CS.of (by decide) (Nat.le_of_ble_eq_true rfl) ?_
  show Sd M_Mod_best 12 254 emI 0 [(0, vr v0), (1, vi v1)] [] h _
  unfold Mod_best
  refine Sd_iload_n (pc' := 1) (dc D_Mod_best 0 rfl) rfl 1 rfl rfl ?_
  refine Sd_i2l (pc' := 2) (dc D_Mod_best 1 rfl) rfl ?_
  refine Sd_lconst (z := 0) (pc' := 3) (dc D_Mod_best 2 rfl) rfl ⟨by decide, by decide⟩ (by decide) ?_
  refine Sd_ldc2 (n := 2) (pc' := 6) (dc D_Mod_best 3 rfl) rfl ⟨by decide, by decide⟩ Q_Mod_248 ?_
  refine Sd.callSI (as := [_, _, _]) (pc' := 9) (dc D_Mod_best 4 rfl) rfl K_Mod_in L_Mod_88 Ks_Mod_in ⟨by decide, by decide⟩ rfl rfl (Nat.le_of_ble_eq_true rfl) (s_Mod_in _ _ _ _) (fun x2 h1 => ?_)
  refine Sd_if_ne (tgt := 15) (pc' := 12) (dc D_Mod_best 5 rfl) (by decide) rfl (fun _ => ?_) (fun _ => ?_)
  · refine Sd_aload_n (pc' := 16) (dc D_Mod_best 8 rfl) rfl 0 rfl rfl ?_
    refine Sd.callVV (ci := 12) (t := 13) (as := []) RX12 (pc' := 19) (dc D_Mod_best 9 rfl) rfl rfl rfl rfl K_Mod_laysBest L_Mod_424 Ks_Mod_laysBest Kv_Mod_laysBest ⟨by decide, by decide⟩ rfl rfl (Nat.le_of_ble_eq_true rfl) (s_Mod_laysBest _ _) (fun _ h4 => ?_)
    refine Sd_iload_n (pc' := 20) (dc D_Mod_best 10 rfl) rfl 1 rfl rfl ?_
    refine Sd_if_ne (tgt := 30) (pc' := 23) (dc D_Mod_best 11 rfl) (by decide) rfl (fun _ => ?_) (fun _ => ?_)
    · refine Sd_iload_n (pc' := 31) (dc D_Mod_best 15 rfl) rfl 1 rfl rfl ?_
      refine Sd_iconst (pc' := 32) (dc D_Mod_best 16 rfl) rfl ⟨by decide, by decide⟩ ?_
      refine Sd_icmp_ne (tgt := 42) (pc' := 35) (dc D_Mod_best 17 rfl) (by decide) rfl (fun _ => ?_) (fun _ => ?_)
      · refine Sd_aload_n (pc' := 43) (dc D_Mod_best 21 rfl) rfl 0 rfl rfl ?_
        refine Sd_getI (pc' := 46) (dc D_Mod_best 22 rfl) rfl F_Mod_418 rfl rfl ?_
        exact Sd_iret (dc D_Mod_best 23 rfl) rfl
      · refine Sd_aload_n (pc' := 36) (dc D_Mod_best 18 rfl) rfl 0 rfl rfl ?_
        refine Sd_getI (pc' := 39) (dc D_Mod_best 19 rfl) rfl F_Mod_415 rfl rfl ?_
        refine Sd_goto (tgt := 46) (dc D_Mod_best 20 rfl) (by decide) ?_
        exact Sd_iret (dc D_Mod_best 23 rfl) rfl
    · refine Sd_aload_n (pc' := 24) (dc D_Mod_best 12 rfl) rfl 0 rfl rfl ?_
      refine Sd_getI (pc' := 27) (dc D_Mod_best 13 rfl) rfl F_Mod_412 rfl rfl ?_
      refine Sd_goto (tgt := 46) (dc D_Mod_best 14 rfl) (by decide) ?_
      exact Sd_iret (dc D_Mod_best 23 rfl) rfl
  · refine Sd_bipush (pc' := 14) (dc D_Mod_best 6 rfl) rfl ⟨by decide, by decide⟩ (by decide) ?_
    exact Sd_iret (dc D_Mod_best 7 rfl) rfl
theorem K_Mod_best : MOk M_Mod_best 1 := ⟨Tb_at 133 (by decide +kernel) rfl, Tb_at 1717 (by decide +kernel) rfl, by decide +kernel, by decide +kernel, by decide +kernel⟩
theorem Ks_Mod_best : Cond.instanceMethod yX12_best ∈ Tb := Tb_at 1715 (by decide +kernel) rfl
theorem Kv_Mod_best : Cond.selects RX12 yX12_best yX12_best ∈ Tb := Tb_at 1716 (by decide +kernel) rfl
/-! ===== BatchShareModel.isBase()Z ===== -/
abbrev M_Mod_isBase : AMt := (yX12_isBase, cX12_isBase, 1, (some .boolean))
def T_Mod_isBase : List (Nat × Instr × Nat) := [(0, .aload_n 0, 1), (1, .getfield 9, 3), (4, .iconst 0, 1), (5, .iaload, 1), (6, .iconst 1, 1), (7, .if_icmp .ne 7, 3), (10, .iconst 1, 1), (11, .goto 4, 3), (14, .iconst 0, 1), (15, .ireturn, 1)]
set_option maxRecDepth 20000 in
theorem D_Mod_isBase : (T_Mod_isBase.all fun q => decide (decode M_Mod_isBase.2.1 q.1 = .ok q.2)) = true := by decide +kernel
def Mod_isBase (v0 : Nat) (h : AH) : Option (Int × AH) := gR h 13 v0 1 fun r1 => aI h 21 r1 0 fun x2 => if ¬ (x2 : Int) = 1 then (some (0, h)) else (some (1, h))
set_option maxHeartbeats 4000000 in
set_option maxRecDepth 20000 in
theorem s_Mod_isBase (v0 : Nat) (h : AH) : CS M_Mod_isBase 1 0 emI [vr v0] h (Mod_isBase v0 h) := by
  refine CS.of (by decide) (Nat.le_of_ble_eq_true rfl) ?_
  show Sd M_Mod_isBase 1 0 emI 0 [(0, vr v0)] [] h _
  unfold Mod_isBase
  refine Sd_aload_n (pc' := 1) (dc D_Mod_isBase 0 rfl) rfl 0 rfl rfl ?_
  refine Sd_getR (pc' := 4) (dc D_Mod_isBase 1 rfl) rfl F_Mod_9 rfl rfl ?_
  refine Sd_iconst (pc' := 5) (dc D_Mod_isBase 2 rfl) rfl ⟨by decide, by decide⟩ ?_
  refine Sd_iaload (pc' := 6) (dc D_Mod_isBase 3 rfl) rfl ?_
  refine Sd_iconst (pc' := 7) (dc D_Mod_isBase 4 rfl) rfl ⟨by decide, by decide⟩ ?_
  refine Sd_icmp_ne (tgt := 14) (pc' := 10) (dc D_Mod_isBase 5 rfl) (by decide) rfl (fun _ => ?_) (fun _ => ?_)
  · refine Sd_iconst (pc' := 15) (dc D_Mod_isBase 8 rfl) rfl ⟨by decide, by decide⟩ ?_
    exact Sd_zret (dc D_Mod_isBase 9 rfl) rfl (Or.inl rfl)
  · refine Sd_iconst (pc' := 11) (dc D_Mod_isBase 6 rfl) rfl ⟨by decide, by decide⟩ ?_
    refine Sd_goto (tgt := 15) (dc D_Mod_isBase 7 rfl) (by decide) ?_
    exact Sd_zret (dc D_Mod_isBase 9 rfl) rfl (Or.inr rfl)
theorem K_Mod_isBase : MOk M_Mod_isBase 0 := ⟨Tb_at 133 (by decide +kernel) rfl, Tb_at 1749 (by decide +kernel) rfl, by decide +kernel, by decide +kernel, by decide +kernel⟩
theorem Ks_Mod_isBase : Cond.instanceMethod yX12_isBase ∈ Tb := Tb_at 1748 (by decide +kernel) rfl
theorem Kv_Mod_isBase : Cond.selects RX12 yX12_isBase yX12_isBase ∈ Tb := Tb_at 101 (by decide +kernel) rfl
/-! ===== BatchShareModel.moves(I)I ===== -/
abbrev M_Mod_moves : AMt := (yX12_moves, cX12_moves, 3, (some .int))
def T_Mod_moves : List (Nat × Instr × Nat) := [(0, .aload_n 0, 1), (1, .getfield 427, 3), (4, .ifCond .eq 15, 3), (7, .aload_n 0, 1), (8, .getfield 74, 3), (11, .aload_n 0, 1), (12, .getfield 431, 3), (15, .iaload, 1), (16, .goto 4, 3), (19, .iload_n 1, 1), (20, .istore_n 2, 1), (21, .aload_n 0, 1), (22, .getfield 74, 3), (25, .aload_n 0, 1), (26, .getfield 431, 3), (29, .iload_n 2, 1), (30, .iastore, 1), (31, .aload_n 0, 1), (32, .dup, 1), (33, .getfield 431, 3), (36, .iconst 1, 1), (37, .iadd, 1), (38, .putfield 431, 3), (41, .iload_n 2, 1), (42, .ireturn, 1)]
set_option maxRecDepth 20000 in
theorem D_Mod_moves : (T_Mod_moves.all fun q => decide (decode M_Mod_moves.2.1 q.1 = .ok q.2)) = true := by decide +kernel
def Mod_moves_L20 (v0 : Nat) (s0 : Int) (h : AH) : Option (Int × AH) := gR h 13 v0 42 fun r1 => gI h 13 v0 44 fun x2 => wI h 21 r1 x2 s0 fun h3 => gI h3 13 v0 44 fun x4 => pI h3 13 v0 44 (wr (x4 + 1)) fun h5 => some (s0, h5)
set_option maxHeartbeats 4000000 in
set_option maxRecDepth 20000 in
theorem s_Mod_moves_L20 (v0 : Nat) (s0 : Int) (h : AH) : Sd M_Mod_moves 1 0 emI 20 [(0, vr v0)] [vi s0] h (Mod_moves_L20 v0 s0 h) := by
  unfold Mod_moves_L20
  refine Sd_istore_n (pc' := 21) (l' := [(2, _), (0, _)]) (dc D_Mod_moves 10 rfl) rfl rfl (by decide) rfl ?_
  refine Sd_aload_n (pc' := 22) (dc D_Mod_moves 11 rfl) rfl 1 rfl rfl ?_
  refine Sd_getR (pc' := 25) (dc D_Mod_moves 12 rfl) rfl F_Mod_74 rfl rfl ?_
  refine Sd_aload_n (pc' := 26) (dc D_Mod_moves 13 rfl) rfl 1 rfl rfl ?_
  refine Sd_getI (pc' := 29) (dc D_Mod_moves 14 rfl) rfl F_Mod_431 rfl rfl ?_
  refine Sd_iload_n (pc' := 30) (dc D_Mod_moves 15 rfl) rfl 0 rfl rfl ?_
  refine Sd_iastore (pc' := 31) (dc D_Mod_moves 16 rfl) rfl (by decide) ?_
  refine Sd_aload_n (pc' := 32) (dc D_Mod_moves 17 rfl) rfl 1 rfl rfl ?_
  refine Sd_dup (pc' := 33) (dc D_Mod_moves 18 rfl) rfl (cat_r _) ?_
  refine Sd_getI (pc' := 36) (dc D_Mod_moves 19 rfl) rfl F_Mod_431 rfl rfl ?_
  refine Sd_iconst (pc' := 37) (dc D_Mod_moves 20 rfl) rfl ⟨by decide, by decide⟩ ?_
  refine Sd_iadd (pc' := 38) (dc D_Mod_moves 21 rfl) rfl ?_
  refine Sd_putI (pc' := 41) (dc D_Mod_moves 22 rfl) rfl F_Mod_431 rfl rfl rfl (finOk.no rfl) (by decide) ?_
  refine Sd_iload_n (pc' := 42) (dc D_Mod_moves 23 rfl) rfl 0 rfl rfl ?_
  exact Sd_iret (dc D_Mod_moves 24 rfl) rfl
def Mod_moves (v0 : Nat) (v1 : Int) (h : AH) : Option (Int × AH) := gI h 13 v0 45 fun x1 => if (x1 : Int) = 0 then (Mod_moves_L20 v0 v1 h) else (gR h 13 v0 42 fun r2 => gI h 13 v0 44 fun x3 => aI h 21 r2 x3 fun x4 => Mod_moves_L20 v0 x4 h)
set_option maxHeartbeats 4000000 in
set_option maxRecDepth 20000 in
theorem s_Mod_moves (v0 : Nat) (v1 : Int) (h : AH) : CS M_Mod_moves 1 0 emI [vr v0, vi v1] h (Mod_moves v0 v1 h) := by
  refine CS.of (by decide) (Nat.le_of_ble_eq_true rfl) ?_
  show Sd M_Mod_moves 1 0 emI 0 [(0, vr v0), (1, vi v1)] [] h _
  unfold Mod_moves
  refine Sd_aload_n (pc' := 1) (dc D_Mod_moves 0 rfl) rfl 0 rfl rfl ?_
  refine Sd_getI (pc' := 4) (dc D_Mod_moves 1 rfl) rfl F_Mod_427 rfl rfl ?_
  refine Sd_if_eq (tgt := 19) (pc' := 7) (dc D_Mod_moves 2 rfl) (by decide) rfl (fun _ => ?_) (fun _ => ?_)
  · refine Sd_iload_n (pc' := 20) (dc D_Mod_moves 9 rfl) rfl 1 rfl rfl ?_
    refine Sd.sub (l' := [(0, _)]) [0] rfl ?_
    exact s_Mod_moves_L20 _ _ _
  · refine Sd_aload_n (pc' := 8) (dc D_Mod_moves 3 rfl) rfl 0 rfl rfl ?_
    refine Sd_getR (pc' := 11) (dc D_Mod_moves 4 rfl) rfl F_Mod_74 rfl rfl ?_
    refine Sd_aload_n (pc' := 12) (dc D_Mod_moves 5 rfl) rfl 0 rfl rfl ?_
    refine Sd_getI (pc' := 15) (dc D_Mod_moves 6 rfl) rfl F_Mod_431 rfl rfl ?_
    refine Sd_iaload (pc' := 16) (dc D_Mod_moves 7 rfl) rfl ?_
    refine Sd_goto (tgt := 20) (dc D_Mod_moves 8 rfl) (by decide) ?_
    refine Sd.sub (l' := [(0, _)]) [0] rfl ?_
    exact s_Mod_moves_L20 _ _ _
theorem K_Mod_moves : MOk M_Mod_moves 1 := ⟨Tb_at 133 (by decide +kernel) rfl, Tb_at 1737 (by decide +kernel) rfl, by decide +kernel, by decide +kernel, by decide +kernel⟩
theorem Ks_Mod_moves : Cond.instanceMethod yX12_moves ∈ Tb := Tb_at 1736 (by decide +kernel) rfl
theorem Kv_Mod_moves : Cond.selects RX12 yX12_moves yX12_moves ∈ Tb := Tb_at 99 (by decide +kernel) rfl
/-! ===== BatchShareModel.movesRow([I)V ===== -/
abbrev M_Mod_movesRow : AMt := (yX12_movesRow, cX12_movesRow, 3, none)
def T_Mod_movesRow : List (Nat × Instr × Nat) := [(0, .iconst 0, 1), (1, .istore_n 2, 1), (2, .iload_n 2, 1), (3, .aload_n 1, 1), (4, .arraylength, 1), (5, .if_icmp .ge 19, 3), (8, .aload_n 1, 1), (9, .iload_n 2, 1), (10, .aload_n 0, 1), (11, .aload_n 1, 1), (12, .iload_n 2, 1), (13, .iaload, 1), (14, .invokevirtual 434, 3), (17, .iastore, 1), (18, .iinc 2 1, 3), (21, .goto (-19), 3), (24, .return_, 1)]
set_option maxRecDepth 20000 in
theorem D_Mod_movesRow : (T_Mod_movesRow.all fun q => decide (decode M_Mod_movesRow.2.1 q.1 = .ok q.2)) = true := by decide +kernel
def Mod_movesRow_L2 : Nat → Nat → Nat → Int → AH → Option (Unit × AH)
  | 0, _, _, _, _ => none
  | n + 1, v0, v1, v2, h => aN h 21 v1 fun x1 => if (x1 : Int) ≤ v2 then (some ((), h)) else (aI h 21 v1 v2 fun x2 => rc h 13 v0 <| bnd (Mod_moves v0 x2 h) fun x4 h3 => wI h3 21 v1 v2 x4 fun h6 => Mod_movesRow_L2 n v0 v1 ((wr (v2 + 1))) h6)
set_option maxHeartbeats 4000000 in
set_option maxRecDepth 20000 in
theorem s_Mod_movesRow_L2 : ∀ (n : Nat) (v0 : Nat) (v1 : Nat) (v2 : Int) (h : AH), Sd M_Mod_movesRow 2 22 emV 2 [(0, vr v0), (1, vr v1), (2, vi v2)] [] h (Mod_movesRow_L2 n v0 v1 v2 h)
  | 0, _, _, _, _ => Sd.none
  | n + 1, v0, v1, v2, h => by
    rw [Mod_movesRow_L2]
    refine Sd_iload_n (pc' := 3) (dc D_Mod_movesRow 2 rfl) rfl 2 rfl rfl ?_
    refine Sd_aload_n (pc' := 4) (dc D_Mod_movesRow 3 rfl) rfl 1 rfl rfl ?_
    refine Sd_alen (t := 21) (j := 0) (pc' := 5) (dc D_Mod_movesRow 4 rfl) rfl rfl (by decide) (by decide) ?_
    refine Sd_icmp_ge (tgt := 24) (pc' := 8) (dc D_Mod_movesRow 5 rfl) (by decide) rfl (fun _ => ?_) (fun _ => ?_)
    · exact Sd_vret (dc D_Mod_movesRow 16 rfl) rfl
    · refine Sd_aload_n (pc' := 9) (dc D_Mod_movesRow 6 rfl) rfl 1 rfl rfl ?_
      refine Sd_iload_n (pc' := 10) (dc D_Mod_movesRow 7 rfl) rfl 2 rfl rfl ?_
      refine Sd_aload_n (pc' := 11) (dc D_Mod_movesRow 8 rfl) rfl 0 rfl rfl ?_
      refine Sd_aload_n (pc' := 12) (dc D_Mod_movesRow 9 rfl) rfl 1 rfl rfl ?_
      refine Sd_iload_n (pc' := 13) (dc D_Mod_movesRow 10 rfl) rfl 2 rfl rfl ?_
      refine Sd_iaload (pc' := 14) (dc D_Mod_movesRow 11 rfl) rfl ?_
      refine Sd.callVI (ci := 12) (t := 13) (as := [_]) RX12 (pc' := 17) (dc D_Mod_movesRow 12 rfl) rfl rfl rfl rfl K_Mod_moves L_Mod_434 Ks_Mod_moves Kv_Mod_moves ⟨by decide, by decide⟩ rfl rfl (Nat.le_of_ble_eq_true rfl) (s_Mod_moves _ _ _) (fun x4 h3 => ?_)
      refine Sd_iastore (pc' := 18) (dc D_Mod_movesRow 13 rfl) rfl (by decide) ?_
      refine Sd_iinc (pc' := 21) (l' := [(2, _), (0, _), (1, _)]) (dc D_Mod_movesRow 14 rfl) rfl 2 rfl (by decide) rfl ?_
      refine Sd_goto (tgt := 2) (dc D_Mod_movesRow 15 rfl) (by decide) ?_
      refine Sd.sub (l' := [(0, _), (1, _), (2, _)]) [1, 2, 0] rfl ?_
      exact s_Mod_movesRow_L2 n _ _ _ _
def Mod_movesRow (v0 : Nat) (v1 : Nat) (h : AH) : Option (Unit × AH) := Mod_movesRow_L2 FU v0 v1 0 h
set_option maxHeartbeats 4000000 in
set_option maxRecDepth 20000 in
theorem s_Mod_movesRow (v0 : Nat) (v1 : Nat) (h : AH) : CS M_Mod_movesRow 2 22 emV [vr v0, vr v1] h (Mod_movesRow v0 v1 h) := by
  refine CS.of (by decide) (Nat.le_of_ble_eq_true rfl) ?_
  show Sd M_Mod_movesRow 2 22 emV 0 [(0, vr v0), (1, vr v1)] [] h _
  unfold Mod_movesRow
  refine Sd_iconst (pc' := 1) (dc D_Mod_movesRow 0 rfl) rfl ⟨by decide, by decide⟩ ?_
  refine Sd_istore_n (pc' := 2) (l' := [(2, _), (0, _), (1, _)]) (dc D_Mod_movesRow 1 rfl) rfl rfl (by decide) rfl ?_
  refine Sd.sub (l' := [(0, _), (1, _), (2, _)]) [1, 2, 0] rfl ?_
  exact s_Mod_movesRow_L2 FU _ _ _ _
theorem K_Mod_movesRow : MOk M_Mod_movesRow 1 := ⟨Tb_at 133 (by decide +kernel) rfl, Tb_at 1741 (by decide +kernel) rfl, by decide +kernel, by decide +kernel, by decide +kernel⟩
theorem Ks_Mod_movesRow : Cond.instanceMethod yX12_movesRow ∈ Tb := Tb_at 1740 (by decide +kernel) rfl
theorem Kv_Mod_movesRow : Cond.selects RX12 yX12_movesRow yX12_movesRow ∈ Tb := Tb_at 100 (by decide +kernel) rfl
/-! ===== BatchShareModel.movesAll(IZ)V ===== -/
abbrev M_Mod_movesAll : AMt := (yX12_movesAll, cX12_movesAll, 4, none)
def T_Mod_movesAll : List (Nat × Instr × Nat) := [(0, .aload_n 0, 1), (1, .sipush 156, 3), (4, .iload_n 1, 1), (5, .imul, 1), (6, .putfield 431, 3), (9, .aload_n 0, 1), (10, .iload_n 2, 1), (11, .putfield 427, 3), (14, .iconst 0, 1), (15, .istore_n 3, 1), (16, .iload_n 3, 1), (17, .bipush 8, 2), (19, .if_icmp .ge 25, 3), (22, .aload_n 0, 1), (23, .getfield 9, 3), (26, .iload_n 3, 1), (27, .aload_n 0, 1), (28, .aload_n 0, 1), (29, .getfield 9, 3), (32, .iload_n 3, 1), (33, .iaload, 1), (34, .invokevirtual 434, 3), (37, .iastore, 1), (38, .iinc 3 1, 3), (41, .goto (-25), 3), (44, .aload_n 0, 1), (45, .aload_n 0, 1), (46, .getfield 13, 3), (49, .invokevirtual 437, 3), (52, .aload_n 0, 1), (53, .aload_n 0, 1), (54, .getfield 16, 3), (57, .invokevirtual 437, 3), (60, .aload_n 0, 1), (61, .aload_n 0, 1), (62, .getfield 25, 3), (65, .invokevirtual 437, 3), (68, .return_, 1)]
set_option maxRecDepth 20000 in
theorem D_Mod_movesAll : (T_Mod_movesAll.all fun q => decide (decode M_Mod_movesAll.2.1 q.1 = .ok q.2)) = true := by decide +kernel
def Mod_movesAll_L16 : Nat → Nat → Int → AH → Option (Unit × AH)
  | 0, _, _, _ => none
  | n + 1, v0, v3, h => if (8 : Int) ≤ v3 then (gR h 13 v0 2 fun r1 => rc h 13 v0 <| bnd (Mod_movesRow v0 r1 h) fun _ h2 => gR h2 13 v0 3 fun r5 => rc h2 13 v0 <| bnd (Mod_movesRow v0 r5 h2) fun _ h6 => gR h6 13 v0 9 fun r9 => rc h6 13 v0 <| bnd (Mod_movesRow v0 r9 h6) fun _ h10 => some ((), h10)) else (gR h 13 v0 1 fun r13 => gR h 13 v0 1 fun r14 => aI h 21 r14 v3 fun x15 => rc h 13 v0 <| bnd (Mod_moves v0 x15 h) fun x17 h16 => wI h16 21 r13 v3 x17 fun h19 => Mod_movesAll_L16 n v0 ((wr (v3 + 1))) h19)
set_option maxHeartbeats 4000000 in
set_option maxRecDepth 20000 in
theorem s_Mod_movesAll_L16 : ∀ (n : Nat) (v0 : Nat) (v3 : Int) (h : AH), Sd M_Mod_movesAll 3 44 emV 16 [(0, vr v0), (3, vi v3)] [] h (Mod_movesAll_L16 n v0 v3 h)
  | 0, _, _, _ => Sd.none
  | n + 1, v0, v3, h => by
    rw [Mod_movesAll_L16]
    refine Sd_iload_n (pc' := 17) (dc D_Mod_movesAll 10 rfl) rfl 1 rfl rfl ?_
    refine Sd_bipush (pc' := 19) (dc D_Mod_movesAll 11 rfl) rfl ⟨by decide, by decide⟩ (by decide) ?_
    refine Sd_icmp_ge (tgt := 44) (pc' := 22) (dc D_Mod_movesAll 12 rfl) (by decide) rfl (fun _ => ?_) (fun _ => ?_)
    · refine Sd_aload_n (pc' := 45) (dc D_Mod_movesAll 25 rfl) rfl 0 rfl rfl ?_
      refine Sd_aload_n (pc' := 46) (dc D_Mod_movesAll 26 rfl) rfl 0 rfl rfl ?_
      refine Sd_getR (pc' := 49) (dc D_Mod_movesAll 27 rfl) rfl F_Mod_13 rfl rfl ?_
      refine Sd.callVV (ci := 12) (t := 13) (as := [_]) RX12 (pc' := 52) (dc D_Mod_movesAll 28 rfl) rfl rfl rfl rfl K_Mod_movesRow L_Mod_437 Ks_Mod_movesRow Kv_Mod_movesRow ⟨by decide, by decide⟩ rfl rfl (Nat.le_of_ble_eq_true rfl) (s_Mod_movesRow _ _ _) (fun _ h2 => ?_)
      refine Sd_aload_n (pc' := 53) (dc D_Mod_movesAll 29 rfl) rfl 0 rfl rfl ?_
      refine Sd_aload_n (pc' := 54) (dc D_Mod_movesAll 30 rfl) rfl 0 rfl rfl ?_
      refine Sd_getR (pc' := 57) (dc D_Mod_movesAll 31 rfl) rfl F_Mod_16 rfl rfl ?_
      refine Sd.callVV (ci := 12) (t := 13) (as := [_]) RX12 (pc' := 60) (dc D_Mod_movesAll 32 rfl) rfl rfl rfl rfl K_Mod_movesRow L_Mod_437 Ks_Mod_movesRow Kv_Mod_movesRow ⟨by decide, by decide⟩ rfl rfl (Nat.le_of_ble_eq_true rfl) (s_Mod_movesRow _ _ _) (fun _ h6 => ?_)
      refine Sd_aload_n (pc' := 61) (dc D_Mod_movesAll 33 rfl) rfl 0 rfl rfl ?_
      refine Sd_aload_n (pc' := 62) (dc D_Mod_movesAll 34 rfl) rfl 0 rfl rfl ?_
      refine Sd_getR (pc' := 65) (dc D_Mod_movesAll 35 rfl) rfl F_Mod_25 rfl rfl ?_
      refine Sd.callVV (ci := 12) (t := 13) (as := [_]) RX12 (pc' := 68) (dc D_Mod_movesAll 36 rfl) rfl rfl rfl rfl K_Mod_movesRow L_Mod_437 Ks_Mod_movesRow Kv_Mod_movesRow ⟨by decide, by decide⟩ rfl rfl (Nat.le_of_ble_eq_true rfl) (s_Mod_movesRow _ _ _) (fun _ h10 => ?_)
      exact Sd_vret (dc D_Mod_movesAll 37 rfl) rfl
    · refine Sd_aload_n (pc' := 23) (dc D_Mod_movesAll 13 rfl) rfl 0 rfl rfl ?_
      refine Sd_getR (pc' := 26) (dc D_Mod_movesAll 14 rfl) rfl F_Mod_9 rfl rfl ?_
      refine Sd_iload_n (pc' := 27) (dc D_Mod_movesAll 15 rfl) rfl 1 rfl rfl ?_
      refine Sd_aload_n (pc' := 28) (dc D_Mod_movesAll 16 rfl) rfl 0 rfl rfl ?_
      refine Sd_aload_n (pc' := 29) (dc D_Mod_movesAll 17 rfl) rfl 0 rfl rfl ?_
      refine Sd_getR (pc' := 32) (dc D_Mod_movesAll 18 rfl) rfl F_Mod_9 rfl rfl ?_
      refine Sd_iload_n (pc' := 33) (dc D_Mod_movesAll 19 rfl) rfl 1 rfl rfl ?_
      refine Sd_iaload (pc' := 34) (dc D_Mod_movesAll 20 rfl) rfl ?_
      refine Sd.callVI (ci := 12) (t := 13) (as := [_]) RX12 (pc' := 37) (dc D_Mod_movesAll 21 rfl) rfl rfl rfl rfl K_Mod_moves L_Mod_434 Ks_Mod_moves Kv_Mod_moves ⟨by decide, by decide⟩ rfl rfl (Nat.le_of_ble_eq_true rfl) (s_Mod_moves _ _ _) (fun x17 h16 => ?_)
      refine Sd_iastore (pc' := 38) (dc D_Mod_movesAll 22 rfl) rfl (by decide) ?_
      refine Sd_iinc (pc' := 41) (l' := [(3, _), (0, _)]) (dc D_Mod_movesAll 23 rfl) rfl 1 rfl (by decide) rfl ?_
      refine Sd_goto (tgt := 16) (dc D_Mod_movesAll 24 rfl) (by decide) ?_
      refine Sd.sub (l' := [(0, _), (3, _)]) [1, 0] rfl ?_
      exact s_Mod_movesAll_L16 n _ _ _
def Mod_movesAll (v0 : Nat) (v1 : Int) (v2 : Int) (h : AH) : Option (Unit × AH) := pI h 13 v0 44 (wr (156 * v1)) fun h1 => pZ h1 13 v0 45 v2 fun h2 => Mod_movesAll_L16 FU v0 0 h2
set_option maxHeartbeats 4000000 in
set_option maxRecDepth 20000 in
theorem s_Mod_movesAll (v0 : Nat) (v1 : Int) (v2 : Int) (h : AH) : CS M_Mod_movesAll 3 44 emV [vr v0, vi v1, vi v2] h (Mod_movesAll v0 v1 v2 h) := by
  refine CS.of (by decide) (Nat.le_of_ble_eq_true rfl) ?_
  show Sd M_Mod_movesAll 3 44 emV 0 [(0, vr v0), (1, vi v1), (2, vi v2)] [] h _
  unfold Mod_movesAll
  refine Sd_aload_n (pc' := 1) (dc D_Mod_movesAll 0 rfl) rfl 0 rfl rfl ?_
  refine Sd_sipush (pc' := 4) (dc D_Mod_movesAll 1 rfl) rfl ⟨by decide, by decide⟩ (by decide) ?_
  refine Sd_iload_n (pc' := 5) (dc D_Mod_movesAll 2 rfl) rfl 1 rfl rfl ?_
  refine Sd_imul (pc' := 6) (dc D_Mod_movesAll 3 rfl) rfl ?_
  refine Sd_putI (pc' := 9) (dc D_Mod_movesAll 4 rfl) rfl F_Mod_431 rfl rfl rfl (finOk.no rfl) (by decide) ?_
  refine Sd_aload_n (pc' := 10) (dc D_Mod_movesAll 5 rfl) rfl 0 rfl rfl ?_
  refine Sd_iload_n (pc' := 11) (dc D_Mod_movesAll 6 rfl) rfl 2 rfl rfl ?_
  refine Sd_putZ (pc' := 14) (dc D_Mod_movesAll 7 rfl) rfl F_Mod_427 rfl rfl rfl (finOk.no rfl) (by decide) ?_
  refine Sd_iconst (pc' := 15) (dc D_Mod_movesAll 8 rfl) rfl ⟨by decide, by decide⟩ ?_
  refine Sd_istore_n (pc' := 16) (l' := [(3, _), (0, _), (1, _), (2, _)]) (dc D_Mod_movesAll 9 rfl) rfl rfl (by decide) rfl ?_
  refine Sd.sub (l' := [(0, _), (3, _)]) [1, 0] rfl ?_
  exact s_Mod_movesAll_L16 FU _ _ _
theorem K_Mod_movesAll : MOk M_Mod_movesAll 2 := ⟨Tb_at 133 (by decide +kernel) rfl, Tb_at 1733 (by decide +kernel) rfl, by decide +kernel, by decide +kernel, by decide +kernel⟩
theorem Ks_Mod_movesAll : Cond.instanceMethod yX12_movesAll ∈ Tb := Tb_at 1732 (by decide +kernel) rfl
theorem Kv_Mod_movesAll : Cond.selects RX12 yX12_movesAll yX12_movesAll ∈ Tb := Tb_at 98 (by decide +kernel) rfl
