/-! Level 2: the reference reads a query: source, all columns, end -/
/-- what lies there before -/
def om0 (h : AH) (q : Nat) : Nat → Int := fun w => if w = 0 then hI h 408 q else if w = 1 then hI h 409 q else if w = 2 then hI h 410 q else if w ≤ 12 then (if w % 2 = 1 then hI h 411 (5 * q + (w - 3) / 2) else hI h 412 (5 * q + (w - 4) / 2)) else if w = 13 then hI h 413 q else hI h 414 (5 * q + (w - 14))
section N4
variable {K H h : AH} {n p q : Nat} {φ t : Int} {T : Nat → Int} {ω ω' : Nat → Int}
theorem z_18 (v : Int) : sI (S41 (R4 K q ω t) p φ) 401 18 v = S41 (R4 (sI K 401 18 v) q ω t) p φ := by
  rw [s41_v (by decide) (by decide)]
  refine z_ext (K := K) (rF_x (fun i => ?_) (fun i => ?_) (fun i => ?_) (fun i => ?_) (fun i => ?_) (fun i => ?_) (fun i => ?_) (fun i => ?_) (fun a i h1 h2 => ?_))
  · rw [up2_e, r4_e, rF_401, rF_401, hI_sI, up2_e]; grind
  · rw [up2_ne (by decide), r4_e, rF_408, rF_408, hI_sIn _ _ (by decide)]
  · rw [up2_ne (by decide), r4_e, rF_409, rF_409, hI_sIn _ _ (by decide)]
  · rw [up2_ne (by decide), r4_e, rF_410, rF_410, hI_sIn _ _ (by decide)]
  · rw [up2_ne (by decide), r4_e, rF_411, rF_411, hI_sIn _ _ (by decide)]
  · rw [up2_ne (by decide), r4_e, rF_412, rF_412, hI_sIn _ _ (by decide)]
  · rw [up2_ne (by decide), r4_e, rF_413, rF_413, hI_sIn _ _ (by decide)]
  · rw [up2_ne (by decide), r4_e, rF_414, rF_414, hI_sIn _ _ (by decide)]
  · rw [up2_ne h1, r4_e, rF_n h1 h2, rF_n h1 h2, hI_sIn _ _ h1]
theorem s133_m (hq : q < 8) (r : RDM K n T) {p2 : Nat} (hp : p2 ≤ 500) (h0 : 0 ≤ φ) : ∃ p' v, Mod_sourcePart_L133 401 (S41 (R4 K q ω t) p2 φ) = some ((), S41 (R4 K q (u1 ω 2 v) t) p' (if φ = 0 then colF T n (sk T n (p2 + 1)) 3 4 0 else φ)) ∧ (φ = 0 → p' = sk T n (p2 + 1) + 1 ∧ (colF T n (sk T n (p2 + 1)) 3 4 0 = 0 → v = T (sk T n (p2 + 1)) - 97)) := by
  have rR : ∀ ω t, RDM (R4 K q ω t) n T := fun _ _ => R4_rd r
  have mR : ∀ ω t, MS (R4 K q ω t) := fun _ _ => (R4_rd r).1
  have r5 := r.2.2.1
  have qb := sk_b T n (p2 + 1)
  unfold Mod_sourcePart_L133
  rw [g_m (s41_m (mR _ _) _ _), s41_19, p_m (s41_m (mR _ _) _ _), wr_id (by omega) (by omega), show (p2 : Int) + 1 = ((p2 + 1 : Nat) : Int) by omega, s41_p, r_13 (s41_m (mR _ _) _ _), g_m (s41_m (mR _ _) _ _), y_22, c_m (s41_m (mR _ _) _ _)]
  by_cases c : φ = 0
  · rw [c, column_m (rR _ _) (by omega) (lo := 3) (hi := 4) (fun c h0 h4 => by
      by_cases z : (3 : Int) ≤ c
      · rw [if_pos z]; exact ⟨fun _ => by decide, fun _ => by omega⟩
      · rw [if_neg z]; exact ⟨fun _ => by omega, fun h => absurd rfl h⟩), bnd_some, w_410 (s41_m (mR _ _) _ _) (by omega) (by omega), tN (q : Int) q rfl, z_410, g_m (s41_m (mR _ _) _ _), s41_19, p_m (s41_m (mR _ _) _ _), wr_id (by omega) (by omega), show ((sk T n (p2 + 1) : Nat) : Int) + 1 = ((sk T n (p2 + 1) + 1 : Nat) : Int) by omega, s41_p, if_pos rfl]
    exact ⟨_, _, rfl, fun _ => ⟨rfl, fun e => by rw [if_pos e]⟩⟩
  · rw [column_f (rR _ _) (by omega) (by omega), bnd_some, w_410 (s41_m (mR _ _) _ _) (by omega) (by omega), tN (q : Int) q rfl, z_410, g_m (s41_m (mR _ _) _ _), s41_19, p_m (s41_m (mR _ _) _ _), wr_id (by omega) (by omega), show ((sk T n (p2 + 1) : Nat) : Int) + 1 = ((sk T n (p2 + 1) + 1 : Nat) : Int) by omega, s41_p, if_neg c]
    exact ⟨_, _, rfl, fun e => absurd e c⟩
/-- the reference reads a source -/
theorem sourcePart_m (hq : q < 8) (r : RDM K n T) : ∃ p' ω', Mod_sourcePart 401 (S41 (R4 K q ω t) 0 0) = some ((), S41 (R4 K q ω' t) p' (srF T n)) ∧ (srF T n = 0 → p' = srP T n ∧ p' ≤ 400 ∧ ω' 0 = srS T n ∧ ω' 1 = srA T n ∧ ω' 2 = srB T n ∧ ∀ w, 3 ≤ w → ω' w = ω w) := by
  have rR : ∀ ω t, RDM (R4 K q ω t) n T := fun _ _ => R4_rd r
  have mR : ∀ ω t, MS (R4 K q ω t) := fun _ _ => (R4_rd r).1
  have r5 := r.2.2.1
  have qb := sk_b T n 0
  have qi := sk_i T n _ 0 rfl
  generalize hW : u1 (u1 ω 1 (-1)) 2 (-1) = W
  have W1 : W 1 = -1 := by rw [← hW]; rfl
  have W2 : W 2 = -1 := by rw [← hW]; rfl
  have W3 : ∀ w, 3 ≤ w → W w = ω w := fun w hw => by rw [← hW, u1_n (by omega), u1_n (by omega)]
  have w2 := takes_m (rR W t) (p := 0) (by decide) (w := 2) (by decide)
  have w3 := takes_m (rR W t) (p := sk T n 0) (by omega) (w := 3) (by decide)
  have w4 := takes_m (rR W t) (p := sk T n 0) (by omega) (w := 4) (by decide)
  rw [qi] at w3 w4
  rw [show sLn 2 = 1 from rfl] at w2
  rw [show sLn 3 = 1 from rfl] at w3
  rw [show sLn 4 = 4 from rfl] at w4
  have i2 := fun e => isW_b (T := T) (n := n) (q := sk T n 0) (w := 2) (by decide) e
  have i3 := fun e => isW_b (T := T) (n := n) (q := sk T n 0) (w := 3) (by decide) e
  have i4 := fun e => isW_b (T := T) (n := n) (q := sk T n 0) (w := 4) (by decide) e
  rw [show sLn 2 = 1 from rfl] at i2
  rw [show sLn 3 = 1 from rfl] at i3
  rw [show sLn 4 = 4 from rfl] at i4
  unfold Mod_sourcePart srF srP srS srA srB
  rw [r_12 (s41_m (mR _ _) _ _), g_m (s41_m (mR _ _) _ _), y_22, w_409 (s41_m (mR _ _) _ _) (by omega) (by omega), tN (q : Int) q rfl, z_409, r_13 (s41_m (mR _ _) _ _), g_m (s41_m (mR _ _) _ _), y_22, w_410 (s41_m (mR _ _) _ _) (by omega) (by omega), tN (q : Int) q rfl, z_410, hW, c_m (s41_m (mR _ _) _ _), w2]
  generalize sk T n 0 = a at *
  by_cases c2 : isW T n a 2 = true
  · have := i2 c2
    rw [if_pos c2, if_pos c2, if_pos c2, if_pos c2, if_pos c2, if_pos c2, bnd_some, if_neg (by decide), r_11 (s41_m (mR _ _) _ _), g_m (s41_m (mR _ _) _ _), y_22, w_408 (s41_m (mR _ _) _ _) (by omega) (by omega), tN (q : Int) q rfl, z_408]
    exact ⟨_, _, rfl, fun _ => ⟨rfl, by omega, u1_s, by rw [u1_n (by decide), W1], by rw [u1_n (by decide), W2], fun w hw => by rw [u1_n (by omega), W3 w hw]⟩⟩
  · rw [if_neg c2, if_neg c2, if_neg c2, if_neg c2, if_neg c2, if_neg c2, bnd_some, if_pos rfl, c_m (s41_m (mR _ _) _ _), w3]
    by_cases c3 : isW T n a 3 = true
    · have := i3 c3
      rw [if_pos c3, if_pos c3, if_pos c3, if_pos c3, if_pos c3, if_pos c3, bnd_some, if_neg (by decide), r_11 (s41_m (mR _ _) _ _), g_m (s41_m (mR _ _) _ _), y_22, w_408 (s41_m (mR _ _) _ _) (by omega) (by omega), tN (q : Int) q rfl, z_408]
      exact ⟨_, _, rfl, fun _ => ⟨rfl, by omega, u1_s, by rw [u1_n (by decide), W1], by rw [u1_n (by decide), W2], fun w hw => by rw [u1_n (by omega), W3 w hw]⟩⟩
    · rw [if_neg c3, if_neg c3, if_neg c3, if_neg c3, if_neg c3, if_neg c3, bnd_some, if_pos rfl, c_m (s41_m (mR _ _) _ _), w4]
      by_cases c4 : isW T n a 4 = true
      · have := i4 c4
        have s1 := sk_b T n (a + 4)
        have s2 := sk_b T n (sk T n (a + 4) + 1)
        have cp := colF_p (T := T) (n := n) (lo := 0) (hi := 2) (sk T n (a + 4))
        have cm := column_m (rR (u1 W 0 2) t) (p := a + 4) (by omega) (v1 := 1) (v2 := 0) (lo := 0) (hi := 2) (fun c h0 h4 => by
          by_cases z : (3 : Int) ≤ c
          · rw [if_pos z]; exact ⟨fun _ => by omega, fun h => absurd rfl h⟩
          · rw [if_neg z]; exact ⟨fun _ => by decide, fun _ => by omega⟩)
        rw [if_pos c4, if_pos c4, bnd_some, if_neg (by decide), r_11 (s41_m (mR _ _) _ _), g_m (s41_m (mR _ _) _ _), y_22, w_408 (s41_m (mR _ _) _ _) (by omega) (by omega), tN (q : Int) q rfl, z_408, r_12 (s41_m (mR _ _) _ _), g_m (s41_m (mR _ _) _ _), y_22, c_m (s41_m (mR _ _) _ _), cm, bnd_some, w_409 (s41_m (mR _ _) _ _) (by omega) (by omega), tN (q : Int) q rfl, z_409, g_m (s41_m (mR _ _) _ _), s41_19, p_m (s41_m (mR _ _) _ _), wr_id (by omega) (by omega), show ((sk T n (a + 4) : Nat) : Int) + 1 = ((sk T n (a + 4) + 1 : Nat) : Int) by omega, s41_p, g_m (s41_m (mR _ _) _ _), s41_20]
        generalize hV : u1 (u1 W 0 2) 1 (if colF T n (sk T n (a + 4)) 0 2 0 = 0 then T (sk T n (a + 4)) - 97 else -1) = V
        have V0 : V 0 = 2 := by rw [← hV]; rfl
        have V3 : ∀ w, 3 ≤ w → V w = ω w := fun w hw => by rw [← hV, u1_n (by omega), u1_n (by omega), W3 w hw]
        unfold jnF jnQ
        by_cases c : colF T n (sk T n (a + 4)) 0 2 0 = 0
        · have V1 : V 1 = T (sk T n (a + 4)) - 97 := by rw [← hV, u1_s, if_pos c]
          rw [if_neg (show ¬ colF T n (sk T n (a + 4)) 0 2 0 ≠ 0 from fun x => x c), c, if_neg (show ¬ ¬ (0 : Int) = 0 from fun x => x rfl), c_m (s41_m (mR _ _) _ _), sign_e (rR _ _) (by omega), bnd_some]
          by_cases d : sk T n (sk T n (a + 4) + 1) < n ∧ T (sk T n (sk T n (a + 4) + 1)) = 61
          · obtain ⟨p', v, x1, x2⟩ := s133_m (ω := V) (t := t) (φ := 0) hq r (p2 := sk T n (sk T n (a + 4) + 1)) (by omega) (Int.le_refl _)
            obtain ⟨y1, y2⟩ := x2 rfl
            rw [if_pos rfl] at x1
            rw [if_pos d, if_pos d.1, if_pos d.2, x1]
            refine ⟨p', _, rfl, fun e => ⟨y1, ?_, ?_, ?_, ?_, fun w hw => ?_⟩⟩
            · have := (colF_0 e).2.1; omega
            · rw [u1_n (by decide), V0]
            · rw [u1_n (by decide), V1]
            · rw [u1_s, y2 e]
            · rw [u1_n (by omega), V3 w hw]
          · have fp := flt_p (sk T n (sk T n (a + 4) + 1)) (k := 0) (by decide)
            obtain ⟨p', v, x1, x2⟩ := s133_m (ω := V) (t := t) (φ := flt 0 (sk T n (sk T n (a + 4) + 1)) 0) hq r (p2 := sk T n (sk T n (a + 4) + 1)) (by omega) (by omega)
            rw [if_neg (show ¬ flt 0 (sk T n (sk T n (a + 4) + 1)) 0 = 0 by omega)] at x1
            have nn : ¬ (if sk T n (sk T n (a + 4) + 1) < n then T (sk T n (sk T n (a + 4) + 1)) else -1) = 61 := by
              split <;> omega
            rw [if_neg d, if_neg nn, g_m (s41_m (mR _ _) _ _), s41_19, c_m (s41_m (mR _ _) _ _), fails_e (rR _ _) (by omega) (by decide) (by decide), bnd_some, x1]
            exact ⟨p', _, rfl, fun e => absurd e (by omega)⟩
        · obtain ⟨p', v, x1, x2⟩ := s133_m (ω := V) (t := t) (φ := colF T n (sk T n (a + 4)) 0 2 0) hq r (p2 := sk T n (a + 4) + 1) (by omega) cp
          rw [if_neg c] at x1
          rw [if_pos c, if_pos c, x1]
          exact ⟨p', _, rfl, fun e => absurd e c⟩
      · rw [if_neg c4, if_neg c4, bnd_some, if_pos rfl, g_m (s41_m (mR _ _) _ _), s41_19, c_m (s41_m (mR _ _) _ _), fails_e (rR _ _) (by omega) (by decide) (by decide), bnd_some]
        exact ⟨_, _, rfl, fun e => absurd e (flt_n _ _ (by decide))⟩
theorem all_s (hq : q < 8) (r : RDM K n T) {k c m : Nat} (hk : k < 5) (hc : c < 5) (e : ω 13 = (k : Int)) : Mod_showsAll_L12 (m + 1) 401 (c : Int) (S41 (R4 K q ω t) p φ) = if isOfB (ω 0) (c : Int) then Mod_showsAll_L12 m 401 ((c + 1 : Nat) : Int) (S41 (R4 K q (u1 (u1 ω (14 + k) (c : Int)) 13 ((k : Int) + 1)) t) p φ) else Mod_showsAll_L12 m 401 ((c + 1 : Nat) : Int) (S41 (R4 K q ω t) p φ) := by
  have mR : ∀ ω t, MS (R4 K q ω t) := fun _ _ => (R4_rd r).1
  have m414 : MS (sI (S41 (R4 K q ω t) p φ) 414 (5 * q + k) (c : Int)) := mR ω t
  have g22 : hI (sI (S41 (R4 K q ω t) p φ) 414 (5 * q + k) (c : Int)) 401 22 = q := by rw [hI_sIn _ _ (by decide), y_22]
  have g13 : hI (sI (S41 (R4 K q ω t) p φ) 414 (5 * q + k) (c : Int)) 413 q = (k : Int) := by rw [hI_sIn _ _ (by decide), y_413, e]
  rw [Mod_showsAll_L12, if_neg (by omega), r_11 (s41_m (mR _ _) _ _), g_m (s41_m (mR _ _) _ _), y_22, a_408 (s41_m (mR _ _) _ _) (by omega) (by omega), tN (q : Int) q rfl, y_408, Mod_isOf_e, bnd_some, ite_bi, wr_id (z := (c : Int) + 1) (by omega) (by omega), show (c : Int) + 1 = ((c + 1 : Nat) : Int) by omega]
  rw [r_17 (s41_m (mR _ _) _ _), g_m (s41_m (mR _ _) _ _), y_22, r_16 (s41_m (mR _ _) _ _), g_m (s41_m (mR _ _) _ _), y_22, a_413 (s41_m (mR _ _) _ _) (by omega) (by omega), tN (q : Int) q rfl, y_413, e, ix_w hq (show k ≤ 5 by omega), w_414 (s41_m (mR _ _) _ _) (by omega) (by omega), tN ((5 * q + k : Nat) : Int) _ rfl, r_16 m414, g_m m414, g22, a_413 m414 (by omega) (by omega), tN (q : Int) q rfl, g13, w_413 m414 (by omega) (by omega), tN (q : Int) q rfl, wr_id (z := (k : Int) + 1) (by omega) (by omega), z_show hk e]
/-- all columns are shown -/
theorem showsAll_m (hq : q < 8) (r : RDM K n T) {s a b : Int} (hs : s = 0 ∨ s = 1 ∨ s = 2) (e0 : ω 0 = s) (e1 : ω 1 = a) (e2 : ω 2 = b) (eb : ∀ c, c < 5 → ω (3 + 2 * c) = 0 ∧ ω (4 + 2 * c) = 9) : Mod_showsAll 401 (S41 (R4 K q ω t) p φ) = some ((), S41 (R4 (R4 K q ω t) q (bgR s a b) t) p φ) := by
  have mR : ∀ ω t, MS (R4 K q ω t) := fun _ _ => (R4_rd r).1
  have r' : RDM (R4 K q ω t) n T := R4_rd r
  have s0 : ∀ w, w < 13 → shN ω w = ω w := fun w hw => by unfold shN; rw [if_neg (by omega), if_neg (by omega)]
  have s13 : shN ω 13 = ((0 : Nat) : Int) := rfl
  have bg : ∀ w, w < 13 → shN ω w = bgR s a b w := fun w hw => by
    rw [s0 w hw]
    have h0 := eb 0 (by decide)
    have h1 := eb 1 (by decide)
    have h2 := eb 2 (by decide)
    have h3 := eb 3 (by decide)
    have h4 := eb 4 (by decide)
    have : w = 0 ∨ w = 1 ∨ w = 2 ∨ w = 3 ∨ w = 4 ∨ w = 5 ∨ w = 6 ∨ w = 7 ∨ w = 8 ∨ w = 9 ∨ w = 10 ∨ w = 11 ∨ w = 12 := by omega
    rcases this with rfl | rfl | rfl | rfl | rfl | rfl | rfl | rfl | rfl | rfl | rfl | rfl | rfl
    · exact e0
    · exact e1
    · exact e2
    · exact h0.1
    · exact h0.2
    · exact h1.1
    · exact h1.2
    · exact h2.1
    · exact h2.2
    · exact h3.1
    · exact h3.2
    · exact h4.1
    · exact h4.2
  have z0 : shN ω 0 = s := by rw [s0 0 (by decide), e0]
  unfold Mod_showsAll
  rw [r_16 (s41_m (mR _ _) _ _), g_m (s41_m (mR _ _) _ _), y_22, w_413 (s41_m (mR _ _) _ _) (by omega) (by omega), tN (q : Int) q rfl, z_none, show FU = 999994 + 1 + 1 + 1 + 1 + 1 + 1 from rfl, show (0 : Int) = ((0 : Nat) : Int) from rfl]
  generalize hZ : shN ω = Z at *
  have fin : ∀ (m : Nat) (ω2 : Nat → Int) (N : Nat), ω2 13 = (N : Int) → N = bgN s → (∀ w, w < 13 → ω2 w = Z w) → (∀ j : Nat, j < 5 → j < N → ω2 (14 + j) = bgR s a b (14 + j)) → Mod_showsAll_L12 (m + 1) 401 ((0 + 1 + 1 + 1 + 1 + 1 : Nat) : Int) (S41 (R4 (R4 K q ω t) q ω2 t) p φ) = some ((), S41 (R4 (R4 K q ω t) q (bgR s a b) t) p φ) := fun m ω2 N h13 hN hw hj => by
    have : R4 (R4 K q ω t) q ω2 t = R4 (R4 K q ω t) q (bgR s a b) t := R4_cg (fun w h => by
      by_cases c : w = 13
      · rw [c, h13, hN]; rfl
      · rw [hw w (by omega), bg w (by omega)]) (fun j h5 hl => hj j h5 (by omega))
    rw [Mod_showsAll_L12, if_pos (by decide), this]
  rcases hs with rfl | rfl | rfl
  · have f1 : ∀ ω2 : Nat → Int, ω2 0 = 0 → isOfB (ω2 0) ((0 : Nat) : Int) = true ∧ isOfB (ω2 0) ((0 + 1 : Nat) : Int) = true ∧ isOfB (ω2 0) ((0 + 1 + 1 : Nat) : Int) = true ∧ ¬ isOfB (ω2 0) ((0 + 1 + 1 + 1 : Nat) : Int) = true ∧ ¬ isOfB (ω2 0) ((0 + 1 + 1 + 1 + 1 : Nat) : Int) = true := fun ω2 h => by rw [h]; decide
    have A1 : u1 (u1 Z (14 + 0) ((0 : Nat) : Int)) 13 (((0 : Nat) : Int) + 1) 13 = ((1 : Nat) : Int) := rfl
    rw [all_s hq r' (k := 0) (by decide) (by decide) s13, if_pos (f1 _ z0).1]
    generalize hA : u1 (u1 Z (14 + 0) ((0 : Nat) : Int)) 13 (((0 : Nat) : Int) + 1) = A at *
    have a0 : A 0 = 0 := by rw [← hA, u1_n (by decide), u1_n (by decide), z0]
    have B1 : u1 (u1 A (14 + 1) ((0 + 1 : Nat) : Int)) 13 (((1 : Nat) : Int) + 1) 13 = ((2 : Nat) : Int) := rfl
    rw [all_s hq r' (k := 1) (by decide) (by decide) A1, if_pos (f1 _ a0).2.1]
    generalize hB : u1 (u1 A (14 + 1) ((0 + 1 : Nat) : Int)) 13 (((1 : Nat) : Int) + 1) = B at *
    have b0 : B 0 = 0 := by rw [← hB, u1_n (by decide), u1_n (by decide), a0]
    have C1 : u1 (u1 B (14 + 2) ((0 + 1 + 1 : Nat) : Int)) 13 (((2 : Nat) : Int) + 1) 13 = ((3 : Nat) : Int) := rfl
    rw [all_s hq r' (k := 2) (by decide) (by decide) B1, if_pos (f1 _ b0).2.2.1]
    generalize hC : u1 (u1 B (14 + 2) ((0 + 1 + 1 : Nat) : Int)) 13 (((2 : Nat) : Int) + 1) = C at *
    have c0 : C 0 = 0 := by rw [← hC, u1_n (by decide), u1_n (by decide), b0]
    rw [all_s hq r' (k := 3) (by decide) (by decide) C1, if_neg (f1 _ c0).2.2.2.1]
    rw [all_s hq r' (k := 3) (by decide) (by decide) C1, if_neg (f1 _ c0).2.2.2.2]
    refine fin _ C 3 C1 rfl (fun w hw => ?_) (fun j h5 hj => ?_)
    · rw [← hC, ← hB, ← hA]; simp only [u1_n (show w ≠ 13 by omega), u1_n (show w ≠ 14 + 2 by omega), u1_n (show w ≠ 14 + 1 by omega), u1_n (show w ≠ 14 + 0 by omega)]
    · have : j = 0 ∨ j = 1 ∨ j = 2 := by omega
      rw [← hC, ← hB, ← hA]
      rcases this with rfl | rfl | rfl <;> rfl
  · have f1 : ∀ ω2 : Nat → Int, ω2 0 = 1 → ¬ isOfB (ω2 0) ((0 : Nat) : Int) = true ∧ ¬ isOfB (ω2 0) ((0 + 1 : Nat) : Int) = true ∧ ¬ isOfB (ω2 0) ((0 + 1 + 1 : Nat) : Int) = true ∧ isOfB (ω2 0) ((0 + 1 + 1 + 1 : Nat) : Int) = true ∧ isOfB (ω2 0) ((0 + 1 + 1 + 1 + 1 : Nat) : Int) = true := fun ω2 h => by rw [h]; decide
    rw [all_s hq r' (k := 0) (by decide) (by decide) s13, if_neg (f1 _ z0).1]
    rw [all_s hq r' (k := 0) (by decide) (by decide) s13, if_neg (f1 _ z0).2.1]
    rw [all_s hq r' (k := 0) (by decide) (by decide) s13, if_neg (f1 _ z0).2.2.1]
    have A1 : u1 (u1 Z (14 + 0) ((0 + 1 + 1 + 1 : Nat) : Int)) 13 (((0 : Nat) : Int) + 1) 13 = ((1 : Nat) : Int) := rfl
    rw [all_s hq r' (k := 0) (by decide) (by decide) s13, if_pos (f1 _ z0).2.2.2.1]
    generalize hA : u1 (u1 Z (14 + 0) ((0 + 1 + 1 + 1 : Nat) : Int)) 13 (((0 : Nat) : Int) + 1) = A at *
    have a0 : A 0 = 1 := by rw [← hA, u1_n (by decide), u1_n (by decide), z0]
    have B1 : u1 (u1 A (14 + 1) ((0 + 1 + 1 + 1 + 1 : Nat) : Int)) 13 (((1 : Nat) : Int) + 1) 13 = ((2 : Nat) : Int) := rfl
    rw [all_s hq r' (k := 1) (by decide) (by decide) A1, if_pos (f1 _ a0).2.2.2.2]
    generalize hB : u1 (u1 A (14 + 1) ((0 + 1 + 1 + 1 + 1 : Nat) : Int)) 13 (((1 : Nat) : Int) + 1) = B at *
    refine fin _ B 2 B1 rfl (fun w hw => ?_) (fun j h5 hj => ?_)
    · rw [← hB, ← hA]; simp only [u1_n (show w ≠ 13 by omega), u1_n (show w ≠ 14 + 1 by omega), u1_n (show w ≠ 14 + 0 by omega)]
    · have : j = 0 ∨ j = 1 := by omega
      rw [← hB, ← hA]
      rcases this with rfl | rfl <;> rfl
  · have f1 : ∀ ω2 : Nat → Int, ω2 0 = 2 → isOfB (ω2 0) ((0 : Nat) : Int) = true ∧ isOfB (ω2 0) ((0 + 1 : Nat) : Int) = true ∧ isOfB (ω2 0) ((0 + 1 + 1 : Nat) : Int) = true ∧ isOfB (ω2 0) ((0 + 1 + 1 + 1 : Nat) : Int) = true ∧ isOfB (ω2 0) ((0 + 1 + 1 + 1 + 1 : Nat) : Int) = true := fun ω2 h => by rw [h]; decide
    have A1 : u1 (u1 Z (14 + 0) ((0 : Nat) : Int)) 13 (((0 : Nat) : Int) + 1) 13 = ((1 : Nat) : Int) := rfl
    rw [all_s hq r' (k := 0) (by decide) (by decide) s13, if_pos (f1 _ z0).1]
    generalize hA : u1 (u1 Z (14 + 0) ((0 : Nat) : Int)) 13 (((0 : Nat) : Int) + 1) = A at *
    have a0 : A 0 = 2 := by rw [← hA, u1_n (by decide), u1_n (by decide), z0]
    have B1 : u1 (u1 A (14 + 1) ((0 + 1 : Nat) : Int)) 13 (((1 : Nat) : Int) + 1) 13 = ((2 : Nat) : Int) := rfl
    rw [all_s hq r' (k := 1) (by decide) (by decide) A1, if_pos (f1 _ a0).2.1]
    generalize hB : u1 (u1 A (14 + 1) ((0 + 1 : Nat) : Int)) 13 (((1 : Nat) : Int) + 1) = B at *
    have b0 : B 0 = 2 := by rw [← hB, u1_n (by decide), u1_n (by decide), a0]
    have C1 : u1 (u1 B (14 + 2) ((0 + 1 + 1 : Nat) : Int)) 13 (((2 : Nat) : Int) + 1) 13 = ((3 : Nat) : Int) := rfl
    rw [all_s hq r' (k := 2) (by decide) (by decide) B1, if_pos (f1 _ b0).2.2.1]
    generalize hC : u1 (u1 B (14 + 2) ((0 + 1 + 1 : Nat) : Int)) 13 (((2 : Nat) : Int) + 1) = C at *
    have c0 : C 0 = 2 := by rw [← hC, u1_n (by decide), u1_n (by decide), b0]
    have D1 : u1 (u1 C (14 + 3) ((0 + 1 + 1 + 1 : Nat) : Int)) 13 (((3 : Nat) : Int) + 1) 13 = ((4 : Nat) : Int) := rfl
    rw [all_s hq r' (k := 3) (by decide) (by decide) C1, if_pos (f1 _ c0).2.2.2.1]
    generalize hD : u1 (u1 C (14 + 3) ((0 + 1 + 1 + 1 : Nat) : Int)) 13 (((3 : Nat) : Int) + 1) = D at *
    have d0 : D 0 = 2 := by rw [← hD, u1_n (by decide), u1_n (by decide), c0]
    have E1 : u1 (u1 D (14 + 4) ((0 + 1 + 1 + 1 + 1 : Nat) : Int)) 13 (((4 : Nat) : Int) + 1) 13 = ((5 : Nat) : Int) := rfl
    rw [all_s hq r' (k := 4) (by decide) (by decide) D1, if_pos (f1 _ d0).2.2.2.2]
    generalize hE : u1 (u1 D (14 + 4) ((0 + 1 + 1 + 1 + 1 : Nat) : Int)) 13 (((4 : Nat) : Int) + 1) = E at *
    refine fin _ E 5 E1 rfl (fun w hw => ?_) (fun j h5 hj => ?_)
    · rw [← hE, ← hD, ← hC, ← hB, ← hA]; simp only [u1_n (show w ≠ 13 by omega), u1_n (show w ≠ 14 + 4 by omega), u1_n (show w ≠ 14 + 3 by omega), u1_n (show w ≠ 14 + 2 by omega), u1_n (show w ≠ 14 + 1 by omega), u1_n (show w ≠ 14 + 0 by omega)]
    · have : j = 0 ∨ j = 1 ∨ j = 2 ∨ j = 3 ∨ j = 4 := by omega
      rw [← hE, ← hD, ← hC, ← hB, ← hA]
      rcases this with rfl | rfl | rfl | rfl | rfl <;> rfl
theorem voids_L4 (hq : q < 8) (m0 : MS K) : ∀ (m c fuel : Nat) (v : Int), c + m = 5 → m < fuel → Mod_voids_L4 fuel 401 v (c : Int) (S41 (R4 K q ω t) p φ) = Mod_voids_L56 FU 401 (vOr ω m c v) 0 (S41 (R4 K q ω t) p φ)
  | 0, c, fuel + 1, v, hc, _ => by
    rw [Mod_voids_L4, if_pos (by omega)]
    rfl
  | m + 1, c, fuel + 1, v, hc, hf => by
    have mR : ∀ ω t, MS (R4 K q ω t) := fun _ _ => m0
    rw [Mod_voids_L4, if_neg (by omega), wr_id (z := (c : Int) + 1) (by omega) (by omega), show (c : Int) + 1 = ((c + 1 : Nat) : Int) by omega, voids_L4 hq m0 m (c + 1) fuel 1 (by omega) (by omega), voids_L4 hq m0 m (c + 1) fuel 0 (by omega) (by omega), r_14 (s41_m (mR _ _) _ _), g_m (s41_m (mR _ _) _ _), y_22, ix_w hq (show c ≤ 5 by omega), a_411 (s41_m (mR _ _) _ _) (by omega) (by omega), tN ((5 * q + c : Nat) : Int) _ rfl, y_411 (by omega), r_15 (s41_m (mR _ _) _ _), g_m (s41_m (mR _ _) _ _), y_22, ix_w hq (show c ≤ 5 by omega), a_412 (s41_m (mR _ _) _ _) (by omega) (by omega), tN ((5 * q + c : Nat) : Int) _ rfl, y_412 (by omega), vOr]
    by_cases z : v = 0
    · rw [if_neg (show ¬ ¬ v = 0 from fun x => x z), if_neg (show ¬ v ≠ 0 from fun x => x z)]
      by_cases y : ω (3 + 2 * c) ≤ ω (4 + 2 * c)
      · rw [if_pos y, if_pos y]
      · rw [if_neg y, if_neg y]
    · rw [if_pos z, if_pos z]
theorem void_s (hq : q < 8) (m0 : MS K) {c m : Nat} (hc : c < 5) : Mod_voids_L56 (m + 1) 401 1 (c : Int) (S41 (R4 K q ω t) p φ) = Mod_voids_L56 m 401 1 ((c + 1 : Nat) : Int) (S41 (R4 K q (u1 (u1 ω (3 + 2 * c) 1) (4 + 2 * c) 0) t) p φ) := by
  have mR : ∀ ω t, MS (R4 K q ω t) := fun _ _ => m0
  rw [Mod_voids_L56, if_neg (by omega), if_neg (by decide), r_14 (s41_m (mR _ _) _ _), g_m (s41_m (mR _ _) _ _), y_22, ix_w hq (show c ≤ 5 by omega), w_411 (s41_m (mR _ _) _ _) (by omega) (by omega), tN ((5 * q + c : Nat) : Int) _ rfl, z_411 hc, r_15 (s41_m (mR _ _) _ _), g_m (s41_m (mR _ _) _ _), y_22, ix_w hq (show c ≤ 5 by omega), w_412 (s41_m (mR _ _) _ _) (by omega) (by omega), tN ((5 * q + c : Nat) : Int) _ rfl, z_412 hc, wr_id (by omega) (by omega), show (c : Int) + 1 = ((c + 1 : Nat) : Int) by omega]
/-- void or not -/
theorem voids_m (hq : q < 8) (m0 : MS K) : Mod_voids 401 (S41 (R4 K q ω t) p φ) = some ((), S41 (R4 K q (finR ω) t) p φ) := by
  have big := FU_big
  unfold Mod_voids
  rw [show Mod_voids_L4 FU 401 0 0 (S41 (R4 K q ω t) p φ) = Mod_voids_L56 FU 401 (vOr ω 5 0 0) 0 (S41 (R4 K q ω t) p φ) from voids_L4 hq m0 5 0 FU 0 (by omega) (by omega), vOr_0]
  unfold finR
  cases hb : vdB ω
  · rw [bi_f, if_neg (by decide), show FU = 999999 + 1 from rfl, Mod_voids_L56, if_neg (by decide), if_pos rfl]
  · rw [bi_t, if_pos rfl, show FU = 999994 + 1 + 1 + 1 + 1 + 1 + 1 from rfl, show (0 : Int) = ((0 : Nat) : Int) from rfl, void_s hq m0 (by decide), void_s hq m0 (by decide), void_s hq m0 (by decide), void_s hq m0 (by decide), void_s hq m0 (by decide), Mod_voids_L56, if_pos (by decide)]
    have : R4 K q (u1 (u1 (u1 (u1 (u1 (u1 (u1 (u1 (u1 (u1 ω (3 + 2 * 0) 1) (4 + 2 * 0) ((0 : Nat) : Int)) (3 + 2 * (0 + 1)) 1) (4 + 2 * (0 + 1)) ((0 : Nat) : Int)) (3 + 2 * (0 + 1 + 1)) 1) (4 + 2 * (0 + 1 + 1)) ((0 : Nat) : Int)) (3 + 2 * (0 + 1 + 1 + 1)) 1) (4 + 2 * (0 + 1 + 1 + 1)) ((0 : Nat) : Int)) (3 + 2 * (0 + 1 + 1 + 1 + 1)) 1) (4 + 2 * (0 + 1 + 1 + 1 + 1)) ((0 : Nat) : Int)) t = R4 K q (vdR ω) t := R4_cg (fun w hw => by
      have : w = 0 ∨ w = 1 ∨ w = 2 ∨ w = 3 ∨ w = 4 ∨ w = 5 ∨ w = 6 ∨ w = 7 ∨ w = 8 ∨ w = 9 ∨ w = 10 ∨ w = 11 ∨ w = 12 ∨ w = 13 := by omega
      rcases this with rfl | rfl | rfl | rfl | rfl | rfl | rfl | rfl | rfl | rfl | rfl | rfl | rfl | rfl <;> rfl) (fun j h5 _ => by
      have : j = 0 ∨ j = 1 ∨ j = 2 ∨ j = 3 ∨ j = 4 := by omega
      rcases this with rfl | rfl | rfl | rfl | rfl <;> rfl)
    rw [← this]
    rfl
end N4
