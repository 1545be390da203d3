/-! Level 2: base of both sides -/
def cpy (f : Nat → Nat → Int) (a b m k : Nat) : Nat → Nat → Int := fun x i => if x = b ∧ k ≤ i ∧ i < m then f a i else f x i
def bsF (f : Nat → Nat → Int) : Nat → Nat → Int := fun a i => if a = 402 ∧ i < 8 then (if i = 0 then 1 else if i = 1 then f 401 6 else if i = 2 then f 401 7 else if i = 3 then f 401 8 else 0) else if a = 403 ∧ i < 36 then f 405 i else if a = 404 ∧ i < 16 then f 406 i else if a = 401 ∧ i = 43 then 0 else f a i
/-- the reader is opened -/
def OPN (h : AH) (n : Nat) : AH := WI h (up2 (up2 (hI h) 18 1 (n : Int)) 18 4 0)
section L9
variable {K H h g : AH} {n p : Nat} {φ : Int} {T : Nat → Int} {ρ σ : Nat → Int} {own : Nat → Nat} {f : Nat → Nat → Int}
theorem RB_cg (b : RB ρ) (e : ∀ j, j < 8 → σ j = ρ j) (eR : ∀ j, j < 3 * (ρ 2).toNat → σ (8 + j) = ρ (8 + j)) (eS : ∀ j, j < 2 * (ρ 3).toNat → σ (44 + j) = ρ (44 + j)) (e5 : ρ 5 = 0) : RB σ := by
  obtain ⟨b0, b1, b2, b3, b4, b5, b6, b7, b8⟩ := b
  unfold RB
  rw [e 0 (by decide), e 1 (by decide), e 2 (by decide), e 3 (by decide), e 4 (by decide), e 5 (by decide)]
  exact ⟨b0, b1, b2, b3, b4, b5, fun j hj => by rw [eR j (by omega)]; exact b6 j hj, fun j hj => by rw [eS j (by omega)]; exact b7 j hj, fun k hk => by omega⟩
theorem ST_cg {a : Nat} (s : ST h a ρ) (e : ∀ j, j < 8 → σ j = ρ j) (eR : ∀ j, j < 3 * (ρ 2).toNat → σ (8 + j) = ρ (8 + j)) (eS : ∀ j, j < 2 * (ρ 3).toNat → σ (44 + j) = ρ (44 + j)) (e5 : ρ 5 = 0) : ST h a σ := by
  obtain ⟨s1, ⟨t0, t1, t2, t3, t4, t5, t6, t7, t8, t9, t10⟩, s3⟩ := s
  refine ⟨s1, ?_, RB_cg s3 e eR eS e5⟩
  unfold ER
  rw [e 0 (by decide), e 1 (by decide), e 2 (by decide), e 3 (by decide), e 4 (by decide), e 5 (by decide), e 6 (by decide), e 7 (by decide)]
  exact ⟨t0, t1, t2, t3, t4, t5, t6, t7, fun j hj => by rw [eR j hj]; exact t8 j hj, fun j hj => by rw [eS j hj]; exact t9 j hj, fun i hi => by omega⟩
theorem clR_k {j : Nat} (hj : j = 0 ∨ 4 ≤ j ∧ j < 8) : clR T n p ρ j = ρ j := by
  have rw0 : ∀ (p : Nat) (t : Int), rwR T n p t ρ j = ρ j := fun p t => by
    unfold rwR apRow
    by_cases c : t = 0
    · rw [if_pos c, u1_n (by omega), u1_n (by omega), u1_n (by omega), u1_n (by omega)]
    · rw [if_neg c, u1_n (by omega), u1_n (by omega), u1_n (by omega)]
  unfold clR
  split
  · exact u1_n (by omega)
  · split
    · exact rw0 _ _
    · exact rw0 _ _
theorem bsS_k {j : Nat} (hj : j = 0 ∨ 4 ≤ j ∧ j < 8) : ∀ (m k p : Nat) (ρ : Nat → Int), (bsS T n m k p ρ).2 j = ρ j
  | 0, k, p, ρ => rfl
  | m + 1, k, p, ρ => by
    rw [bsS]
    split
    · rfl
    · split
      · rw [bsS_k hj m, clR_k hj]
      · split
        · rfl
        · exact clR_k hj
theorem copies_L {a b m : Nat} (ha : hK h a = (21, m)) (hb : hK h b = (21, m)) (hab : a ≠ b) (hm : m < 100000) : ∀ (j k fuel : Nat) (f : Nat → Nat → Int), k + j = m → j < fuel → Mod_copies_L2 fuel a b (k : Int) (WI h f) = some ((), WI h (cpy f a b m k))
  | 0, k, fuel + 1, f, hk, _ => by
    have ha' : ∀ f, hK (WI h f) a = (21, m) := fun _ => ha
    rw [Mod_copies_L2, aN_k (ha' _), if_pos (by omega)]
    congr 2
    refine WI_ext h (fun x i => ?_)
    unfold cpy
    rw [if_neg (by omega)]
  | j + 1, k, fuel + 1, f, hk, hf => by
    have ha' : ∀ f, hK (WI h f) a = (21, m) := fun _ => ha
    have hb' : ∀ f, hK (WI h f) b = (21, m) := fun _ => hb
    rw [Mod_copies_L2, aN_k (ha' _), if_neg (by omega), aI_k (ha' _) (by omega) (by omega), wI_k (hb' _) (by omega) (by omega), WI_sI, tN (k : Int) k rfl, wr_id (by omega) (by omega), show (k : Int) + 1 = ((k + 1 : Nat) : Int) by omega, copies_L ha hb hab hm j (k + 1) fuel _ (by omega) (by omega), hI_WI]
    congr 2
    refine WI_ext h (fun x i => ?_)
    unfold cpy
    simp only [up2_e]
    by_cases c : x = b ∧ k ≤ i ∧ i < m
    · rw [if_pos c]
      by_cases d : i = k
      · rw [if_neg (by omega), if_pos ⟨c.1, d⟩, d]
      · rw [if_pos (by omega), if_neg (by omega)]
    · rw [if_neg c, if_neg (by omega), if_neg (by omega)]
theorem copies_e {a b m : Nat} (ha : hK h a = (21, m)) (hb : hK h b = (21, m)) (hab : a ≠ b) (hm : m < 100000) (f : Nat → Nat → Int) : Mod_copies a b (WI h f) = some ((), WI h (cpy f a b m 0)) := copies_L ha hb hab hm m 0 FU f (by omega) (by have := FU_big; omega)
theorem bsF_e {a i : Nat} : bsF f a i = if a = 402 ∧ i < 8 then (if i = 0 then 1 else if i = 1 then f 401 6 else if i = 2 then f 401 7 else if i = 3 then f 401 8 else 0) else if a = 403 ∧ i < 36 then f 405 i else if a = 404 ∧ i < 16 then f 406 i else if a = 401 ∧ i = 43 then 0 else f a i := rfl
/-- the reference begins anew -/
theorem base_T (m : MS h) (f : Nat → Nat → Int) : Mod_base_L66 FU 401 0 (WI h f) = some (wr (f 401 7 + f 401 8), WI h (bsF f)) := by
  have m1 : ∀ f, MS (WI h f) := fun _ => m
  have k5 := m.K 3 rfl
  have k3 := m.K 1 rfl
  have k6 := m.K 4 rfl
  have k4 := m.K 2 rfl
  generalize hz : up2 (up2 (up2 (up2 (up2 (up2 (up2 (up2 f 402 0 0) 402 1 0) 402 2 0) 402 3 0) 402 4 0) 402 5 0) 402 6 0) 402 7 0 = z
  have z1 : ∀ a, a ≠ 402 → z a = f a := fun a ha => by
    rw [← hz, up2_ne ha, up2_ne ha, up2_ne ha, up2_ne ha, up2_ne ha, up2_ne ha, up2_ne ha, up2_ne ha]
  have z2 : ∀ i, z 402 i = if i < 8 then 0 else f 402 i := fun i => by
    rw [← hz]; simp only [up2_e]; grind
  rw [show FU = 999991 + 1 + 1 + 1 + 1 + 1 + 1 + 1 + 1 + 1 from rfl]
  rw [Mod_base_L66, if_neg (by decide), r_1 (m1 _), w_402 (m1 _) (by decide) (by decide), WI_sI, show wr ((0 : Int) + 1) = 1 from rfl]
  rw [Mod_base_L66, if_neg (by decide), r_1 (m1 _), w_402 (m1 _) (by decide) (by decide), WI_sI, show wr ((1 : Int) + 1) = 2 from rfl]
  rw [Mod_base_L66, if_neg (by decide), r_1 (m1 _), w_402 (m1 _) (by decide) (by decide), WI_sI, show wr ((2 : Int) + 1) = 3 from rfl]
  rw [Mod_base_L66, if_neg (by decide), r_1 (m1 _), w_402 (m1 _) (by decide) (by decide), WI_sI, show wr ((3 : Int) + 1) = 4 from rfl]
  rw [Mod_base_L66, if_neg (by decide), r_1 (m1 _), w_402 (m1 _) (by decide) (by decide), WI_sI, show wr ((4 : Int) + 1) = 5 from rfl]
  rw [Mod_base_L66, if_neg (by decide), r_1 (m1 _), w_402 (m1 _) (by decide) (by decide), WI_sI, show wr ((5 : Int) + 1) = 6 from rfl]
  rw [Mod_base_L66, if_neg (by decide), r_1 (m1 _), w_402 (m1 _) (by decide) (by decide), WI_sI, show wr ((6 : Int) + 1) = 7 from rfl]
  rw [Mod_base_L66, if_neg (by decide), r_1 (m1 _), w_402 (m1 _) (by decide) (by decide), WI_sI, show wr ((7 : Int) + 1) = 8 from rfl]
  rw [show (0 : Int).toNat = 0 from rfl, show (1 : Int).toNat = 1 from rfl, show (2 : Int).toNat = 2 from rfl, show (3 : Int).toNat = 3 from rfl, show (4 : Int).toNat = 4 from rfl, show (5 : Int).toNat = 5 from rfl, show (6 : Int).toNat = 6 from rfl, show (7 : Int).toNat = 7 from rfl, hz]
  have g : ∀ (F : Nat → Nat → Int) (i : Nat), hI (WI h F) 401 i = F 401 i := fun _ _ => rfl
  have c1 : ∀ F, Mod_copies 405 403 (WI h F) = some ((), WI h (cpy F 405 403 36 0)) := fun F => copies_e k5.2 k3.2 (by decide) (by decide) F
  have c2 : ∀ F, Mod_copies 406 404 (WI h F) = some ((), WI h (cpy F 406 404 16 0)) := fun F => copies_e k6.2 k4.2 (by decide) (by decide) F
  rw [Mod_base_L66, if_pos (by decide), r_1 (m1 _), w_402 (m1 _) (by decide) (by decide), WI_sI, r_1 (m1 _), g_m (m1 _), g, w_402 (m1 _) (by decide) (by decide), WI_sI, r_1 (m1 _), g_m (m1 _), g, w_402 (m1 _) (by decide) (by decide), WI_sI, r_1 (m1 _), g_m (m1 _), g, w_402 (m1 _) (by decide) (by decide), WI_sI, r_4 (m1 _), r_2 (m1 _), c1, bnd_some, r_5 (m1 _), r_3 (m1 _), c2, bnd_some, p_m (m1 _), WI_sI, g_m (m1 _), g_m (m1 _), g, g]
  rw [show (0 : Int).toNat = 0 from rfl, show (1 : Int).toNat = 1 from rfl, show (2 : Int).toNat = 2 from rfl, show (3 : Int).toNat = 3 from rfl]
  have e1 : ∀ i, up2 z 402 0 1 401 i = f 401 i := fun i => by rw [up2_ne (by decide), z1 _ (by decide)]
  have e2 : ∀ v i, up2 (up2 z 402 0 1) 402 1 v 401 i = f 401 i := fun v i => by rw [up2_ne (by decide), e1]
  have e3 : ∀ v w i, up2 (up2 (up2 z 402 0 1) 402 1 v) 402 2 w 401 i = f 401 i := fun v w i => by rw [up2_ne (by decide), e2]
  rw [e1, e2, e3]
  generalize hy : up2 (up2 (up2 (up2 z 402 0 1) 402 1 (f 401 6)) 402 2 (f 401 7)) 402 3 (f 401 8) = y
  have y1 : ∀ a, a ≠ 402 → y a = f a := fun a ha => by
    rw [← hy, up2_ne ha, up2_ne ha, up2_ne ha, up2_ne ha, z1 a ha]
  have y2 : ∀ i, y 402 i = if i < 8 then (if i = 0 then 1 else if i = 1 then f 401 6 else if i = 2 then f 401 7 else if i = 3 then f 401 8 else 0) else f 402 i := fun i => by
    rw [← hy]; simp only [up2_e, z2]; grind
  have u : ∀ a i, up2 (cpy (cpy y 405 403 36 0) 406 404 16 0) 401 43 0 a i = bsF f a i := fun a i => by
    rw [up2_e, bsF_e]
    unfold cpy
    by_cases a1 : a = 402
    · subst a1
      rw [if_neg (by omega), if_neg (by omega), if_neg (by omega), y2]
      by_cases i8 : i < 8
      · rw [if_pos i8, if_pos (show 402 = 402 ∧ i < 8 from ⟨rfl, i8⟩)]
      · rw [if_neg i8, if_neg (by omega), if_neg (by omega), if_neg (by omega), if_neg (by omega)]
    · rw [if_neg (show ¬ (a = 402 ∧ i < 8) by omega), y1 a a1, y1 405 (by decide), y1 406 (by decide)]
      grind
  have u7 : up2 (cpy (cpy y 405 403 36 0) 406 404 16 0) 401 43 0 401 7 = f 401 7 := by
    rw [u, bsF_e, if_neg (by decide), if_neg (by decide), if_neg (by decide), if_neg (by decide)]
  have u8 : up2 (cpy (cpy y 405 403 36 0) 406 404 16 0) 401 43 0 401 8 = f 401 8 := by
    rw [u, bsF_e, if_neg (by decide), if_neg (by decide), if_neg (by decide), if_neg (by decide)]
  rw [u7, u8, WI_ext h u]
theorem open_e (fx : FX h) (hn : n ≤ 400) : Rea_open 18 (n : Int) h = some ((), S18 (OPN h n) 0 0) := by
  obtain ⟨f0, f1, f2, f3, f5, f6, f7, f8, f9, f10, f11, k17, k18, q18, k48⟩ := fx
  have m : mMin (n : Int) ((400 : Nat) : Int) = n := by unfold mMin; rw [if_neg (by omega)]
  have k : ∀ F, hK (WI h F) 18 = (7, 0) := fun _ => k18
  unfold Rea_open
  rw [gR_k k18, q18, aN_k k17, m, pI_k k18, show sI h 18 1 (n : Int) = WI h (up2 (hI h) 18 1 (n : Int)) from rfl, pI_k (k _), WI_sI, pI_k (k _), WI_sI, pI_k (k _), WI_sI]
  congr 2
  unfold OPN S18
  rw [WI_WI, hI_WI]
  refine WI_ext h (fun a i => ?_)
  unfold r18
  simp only [up2_e]
  grind
theorem OPN_rd (fx : FX h) (hn : n ≤ 400) : RDR (OPN h n) n := by
  obtain ⟨f0, f1, f2, f3, f5, f6, f7, f8, f9, f10, f11, k17, k18, q18, k48⟩ := fx
  refine ⟨k18, q18, k17, ?_, hn⟩
  show up2 (up2 (hI h) 18 1 (n : Int)) 18 4 0 18 1 = n
  rw [up2_e, if_neg (by decide), up2_e, if_pos ⟨rfl, rfl⟩]
theorem OPN_n {x : Nat} (hx : x ≠ 18) : hI (OPN h n) x = hI h x := by
  show up2 (up2 (hI h) 18 1 (n : Int)) 18 4 0 x = _
  rw [up2_ne hx, up2_ne hx]
/-- the class reads a base -/
theorem readBase_C (fx : FX h) (sb : SB h 49) (hn : n ≤ 400) : ∃ H, Rea_readBase 18 (n : Int) 49 h = some ((bsS (hI h 17) n 41 0 0 (fun _ => 0)).1, H) ∧ (hN H = hN h ∧ hS H = hS h ∧ hK H = hK h) ∧ (∀ x, ¬ (49 ≤ x ∧ x < 75) → hR H x = hR h x) ∧ (∀ x, ¬ (49 ≤ x ∧ x < 75) → x ≠ 18 → hI H x = hI h x) ∧ SB H 49 ∧ ((bsS (hI h 17) n 41 0 0 (fun _ => 0)).1 = 0 → ST H 49 (u1 (bsS (hI h 17) n 41 0 0 (fun _ => 0)).2 0 1)) := by
  have big := FU_big
  have rd := OPN_rd fx hn
  have k18 := rd.1
  have sbO : SB (S18 (OPN h n) 0 0) 49 := SB_to sb (fun _ _ _ => rfl) (fun _ _ _ => rfl) (fun _ _ => by rw [s18_n (by decide), OPN_n (by decide)]) (fun _ _ => by rw [s18_n (by decide), OPN_n (by decide)])
  obtain ⟨H0, x1, x2, x3⟩ := Sta_clear_e sbO
  have fb : FB (OPN h n) H0 := (FB_s18 _ _ _).trans (FR.fb x2)
  have e0 : S18 H0 0 0 = H0 := S18_K _ _ _ (by rw [(x2.2.2.2 18 (by decide)).1, s18_2]) (by rw [(x2.2.2.2 18 (by decide)).1, s18_3])
  have t0 : hI H0 17 = hI h 17 := by rw [fb.t, OPN_n (by decide)]
  obtain ⟨H, y1, y2, y3, y4⟩ := readBase_L hn 40 0 0 FU H0 (fun _ => 0) (by omega) (by omega) (by omega) (fb.rd rd) x3
  rw [t0] at y1 y4
  rw [e0] at y1
  have fb2 := fb.trans y2
  refine ⟨H, ?_, fb2.1, fun x hx => fb2.2.1 x hx, fun x h1 h2 => by rw [fb2.2.2.1 x h1 h2, OPN_n h2], y3, y4⟩
  unfold Rea_readBase
  rw [rc_k (t := 7) (n := 0) (show hK h 18 = (7, 0) from k18), open_e fx hn, bnd_some, rc_k sbO.1, x1, bnd_some]
  exact y1
/-- base of the class -/
theorem base_C (c : CAS h own g) (ht : hI g 401 18 = (n : Int)) (hn : n ≤ 400) : ∃ H, Bat_base 16 h = some (if (bsS (hI h 17) n 41 0 0 (fun _ => 0)).1 = 0 then wr ((bsS (hI h 17) n 41 0 0 (fun _ => 0)).2 2 + (bsS (hI h 17) n 41 0 0 (fun _ => 0)).2 3) else wr (-2 - (bsS (hI h 17) n 41 0 0 (fun _ => 0)).1), H) ∧ (hN H = hN h ∧ hS H = hS h ∧ hK H = hK h) ∧ (∀ x, ¬ (49 ≤ x ∧ x < 75) → hR H x = hR h x) ∧ (∀ x, ¬ (49 ≤ x ∧ x < 75) → x ≠ 18 → x ≠ 16 → ¬ (20 ≤ x ∧ x < 47) → hI H x = hI h x) ∧ (hI H 16 1 = 0 ∧ ∀ i, i ≠ 1 → hI H 16 i = hI h 16 i) ∧ SB H 49 ∧ (∀ i, i ≠ 2 → i ≠ 3 → hI H 20 i = hI h 20 i) ∧ ((bsS (hI h 17) n 41 0 0 (fun _ => 0)).1 ≠ 0 → ∀ x, 20 ≤ x → x < 47 → hI H x = hI h x) ∧ ((bsS (hI h 17) n 41 0 0 (fun _ => 0)).1 = 0 → ST H 21 (u1 (bsS (hI h 17) n 41 0 0 (fun _ => 0)).2 0 1) ∧ hI H 20 2 = 0 ∧ hI H 20 3 = 0) := by
  have fx := c.fx
  have wh := c.wh
  have st21 := c.st
  have tl : hI h 16 1 = (n : Int) := by rw [c.2.2.1.2.1, ht]
  obtain ⟨f0, f1, f2, f3, f5, f6, f7, f8, f9, f10, f11, k17, k18, q18, k48⟩ := id fx
  obtain ⟨H1, x1, ⟨x2, x3, x4⟩, x5, x6, x7, x8⟩ := readBase_C fx c.1.2.2.2.2.2.1 hn
  generalize hB : bsS (hI h 17) n 41 0 0 (fun _ => 0) = B at *
  have k16 : hK H1 16 = (12, 0) := by rw [x4]; exact f0
  have n16 : ∀ i, i ≠ 1 → hI (sI H1 16 1 0) 16 i = hI h 16 i := fun i hi => by rw [hI_sId _ _ hi, x6 16 (by decide) (by decide)]
  have s49 : SB (sI H1 16 1 0) 49 := SB_to x7 (fun _ _ _ => rfl) (fun _ _ _ => rfl) (fun _ _ => by rw [hI_sIn _ _ (by decide)]) (fun _ _ => by rw [hI_sIn _ _ (by decide)])
  by_cases b : B.1 = 0
  · have st := x8 b
    have st2 : ST (sI H1 16 1 0) 49 (u1 B.2 0 1) := ST_to st (fun _ _ _ => rfl) (fun _ _ _ => rfl) (fun x h1 h2 => by rw [hI_sIn _ _ (by omega)])
    have sb21 : SB (sI H1 16 1 0) 21 := SB_to st21.1 (fun x _ _ => by show hK H1 x = _; rw [x4]) (fun x _ _ => by show hR H1 x = _; rw [x5 x (by omega)]) (fun _ _ => by rw [hI_sIn _ _ (by decide), x6 _ (by decide) (by decide)]) (fun _ _ => by rw [hI_sIn _ _ (by decide), x6 _ (by decide) (by decide)])
    obtain ⟨f', y1, y2, y3⟩ := Sta_copy_e (h := sI H1 16 1 0) (f := hI (sI H1 16 1 0)) (d := 21) (a := 49) (ρ := u1 B.2 0 1) sb21 st2 (by omega)
    rw [WI_id] at y1
    generalize hX : sI H1 16 1 0 = X at *
    have kX : hK X = hK h := by rw [← hX]; exact x4
    have rX : ∀ x, ¬ (49 ≤ x ∧ x < 75) → hR X x = hR h x := by rw [← hX]; exact x5
    have iX : ∀ x, ¬ (49 ≤ x ∧ x < 75) → x ≠ 18 → x ≠ 16 → hI X x = hI h x := fun x h1 h2 h3 => by rw [← hX, hI_sIn _ _ h3, x6 x h1 h2]
    have i16 : hI X 16 1 = 0 := by rw [← hX, hI_sIs]
    generalize hF : up2 (up2 f' 20 2 0) 20 3 0 = F
    have nF : ∀ x, x ≠ 20 → F x = f' x := fun x hx => by rw [← hF, up2_ne hx, up2_ne hx]
    have nI : ∀ x, ¬ (20 ≤ x ∧ x < 47) → F x = hI X x := fun x hx => by rw [nF x (by omega), y2 x (by omega)]
    have st3 : ST (WI X F) 49 (u1 B.2 0 1) := ST_to st2 (fun _ _ _ => rfl) (fun _ _ _ => rfl) (fun x h1 h2 => by rw [hI_WI]; exact nI x (by omega))
    have st4 : ST (WI X F) 21 (u1 B.2 0 1) := ST_to y3 (fun _ _ _ => rfl) (fun _ _ _ => rfl) (fun x h1 h2 => by rw [hI_WI, hI_WI]; exact nF x (by omega))
    have kk : ∀ F, hK (WI X F) 16 = (12, 0) := fun _ => by show hK X 16 = _; rw [kX]; exact f0
    have k20 : ∀ F, hK (WI X F) 20 = (11, 0) := fun _ => by show hK X 20 = _; rw [kX]; exact wh.1
    have r5 : hR X 16 5 = 20 := by rw [rX 16 (by decide)]; exact f5
    have r7 : ∀ F, hR (WI X F) 16 7 = 49 := fun _ => by show hR X 16 7 = _; rw [rX 16 (by decide)]; exact f7
    have r20 : hR X 20 0 = 21 := by rw [rX 20 (by decide)]; exact wh.2.1
    refine ⟨WI X F, ?_, ⟨by rw [show hN (WI X F) = hN X from rfl, ← hX]; exact x2, by rw [show hS (WI X F) = hS X from rfl, ← hX]; exact x3, kX⟩, rX, fun x h1 h2 h3 h4 => by rw [hI_WI, nI x h4, iX x h1 h2 h3], ⟨by rw [hI_WI, nI 16 (by decide)]; exact i16, fun i hi => by rw [hI_WI, nI 16 (by decide)]; exact n16 i hi⟩, st3.1, fun i h1 h2 => ?_, fun e => absurd b e, fun _ => ⟨st4, ?_, ?_⟩⟩
    · unfold Bat_base
      have kX16 : hK X 16 = (12, 0) := by rw [kX]; exact f0
      have kX20 : hK X 20 = (11, 0) := by rw [kX]; exact wh.1
      have kX21 : hK X 21 = (9, 0) := sb21.1
      have rX7 : hR X 16 7 = 49 := r7 (hI X)
      rw [gR_k f0, f2, gI_k f0, tl, gR_k f0, f7, rc_k k18, x1, bnd_some, pI_k k16, hX, if_pos b, if_pos b, gR_k kX16, r5, gR_k kX16, rX7, rc_k kX20]
      unfold Wor_beginWith
      rw [gR_k kX20, r20, rc_k kX21, y1, bnd_some, pI_k (k20 _), WI_sI, pI_k (k20 _), WI_sI, hF, bnd_some, gR_k (kk _), r7, st3.t0, gI_k st3.TR.1, gR_k (kk _), r7, st3.t1, gI_k st3.TS.1, st3.2.1.2.2.1, st3.2.1.2.2.2.1, u1_n (by decide), u1_n (by decide)]
    · rw [hI_WI, ← hF, up2_e, if_neg (by omega), up2_e, if_neg (by omega), y2 20 (by decide), iX 20 (by decide) (by decide) (by decide)]
    · rw [hI_WI, ← hF, up2_e, if_neg (by decide), up2_e, if_pos ⟨rfl, rfl⟩]
    · rw [hI_WI, ← hF, up2_e, if_pos ⟨rfl, rfl⟩]
  · refine ⟨sI H1 16 1 0, ?_, ⟨x2, x3, x4⟩, x5, fun x h1 h2 h3 _ => by rw [hI_sIn _ _ h3, x6 x h1 h2], ⟨by rw [hI_sIs], n16⟩, s49, fun i _ _ => by rw [hI_sIn _ _ (by decide), x6 20 (by decide) (by decide)], fun _ x h1 h2 => by rw [hI_sIn _ _ (by omega), x6 x (by omega) (by omega)], fun e => absurd e b⟩
    unfold Bat_base
    rw [gR_k f0, f2, gI_k f0, tl, gR_k f0, f7, rc_k k18, x1, bnd_some, pI_k k16, if_neg b, if_neg b]
end L9
