/-! Level 2: query of the reference; what a query's row is -/
def QS (s : Int) (ω : Nat → Int) : Prop := (0 ≤ ω 13 ∧ ω 13 ≤ 5) ∧ (∀ j : Nat, j < 5 → (j : Int) < ω 13 → lo0 s ≤ ω (14 + j) ∧ ω (14 + j) ≤ hi0 s) ∧ ∀ j : Nat, j < 5 → ω 13 ≤ (j : Int) → ω (14 + j) = -1
section N5
variable {K H h : AH} {n p q : Nat} {φ t : Int} {T : Nat → Int} {ω ω' : Nat → Int}
theorem QS_cg {s : Int} (e : ∀ w, 12 < w → ω' w = ω w) (b : QS s ω) : QS s ω' := by
  unfold QS
  rw [e 13 (by decide)]
  exact ⟨b.1, fun j h1 h2 => by rw [e _ (by omega)]; exact b.2.1 j h1 h2, fun j h1 h2 => by rw [e _ (by omega)]; exact b.2.2 j h1 h2⟩
theorem shN_S (s : Int) (ω : Nat → Int) : QS s (shN ω) := by
  have s13 : shN ω 13 = 0 := rfl
  unfold QS
  rw [s13]
  exact ⟨by decide, fun j _ h => by omega, fun j h5 _ => by unfold shN; rw [if_neg (by omega), if_pos (by omega)]⟩
theorem shL_S {s : Int} : ∀ (m p k : Nat) (ω : Nat → Int), k ≤ 5 → ω 13 = (k : Int) → QS s ω → (shL T n s m p k ω).1 = 0 → QS s (shL T n s m p k ω).2.2 ∧ ∀ w, w < 13 → (shL T n s m p k ω).2.2 w = ω w
  | 0, p, k, ω, _, _, _, e => absurd (show (1 : Int) = 0 from e) (by decide)
  | m + 1, p, k, ω, hk, h13, b, e => by
    rw [shL] at e ⊢
    by_cases c : colF T n (sk T n p) (lo0 s) (hi0 s) 0 = 0
    · have cc := (colF_0 c).2.2.2
      rw [if_neg (by simpa using c)] at e ⊢
      by_cases k5 : k = 5
      · rw [if_pos k5] at e; exact absurd (show flt 0 (sk T n p) 4 = 0 from e) (flt_n _ _ (by decide))
      · rw [if_neg k5] at e ⊢
        have w13 : shW T (sk T n p) k ω 13 = ((k + 1 : Nat) : Int) := by unfold shW; rw [u1_s]; omega
        have wk : ∀ w, w ≠ 13 → shW T (sk T n p) k ω w = if w = 14 + k then T (sk T n p) - 97 else ω w := fun w hw => by
          unfold shW; rw [u1_n hw]; rfl
        have bW : QS s (shW T (sk T n p) k ω) := by
          unfold QS
          rw [w13]
          refine ⟨by omega, fun j h1 h2 => ?_, fun j h1 h2 => ?_⟩
          · rw [wk _ (by omega)]
            by_cases z : j = k
            · rw [if_pos (by omega)]; exact cc
            · rw [if_neg (by omega)]; exact b.2.1 j h1 (by omega)
          · rw [wk _ (by omega), if_neg (by omega)]
            exact b.2.2 j h1 (by omega)
        have o : ∀ w, w < 13 → shW T (sk T n p) k ω w = ω w := fun w hw => by rw [wk w (by omega), if_neg (by omega)]
        by_cases d : sk T n (sk T n p + 1) < n ∧ T (sk T n (sk T n p + 1)) = 44
        · rw [if_pos d] at e ⊢
          obtain ⟨h1, h2⟩ := shL_S m _ _ _ (by omega) w13 bW e
          exact ⟨h1, fun w hw => by rw [h2 w hw, o w hw]⟩
        · rw [if_neg d]
          exact ⟨bW, o⟩
    · rw [if_pos c] at e; exact absurd e c
theorem stS_S (hn : n ≤ 400) {s : Int} : ∀ (m p t : Nat) (ω : Nat → Int), QS s ω → (stS T n s m p t ω).1 = 0 → QS s (stS T n s m p t ω).2 ∧ ∀ w, w < 3 → (stS T n s m p t ω).2 w = ω w
  | 0, p, t, ω, _, e => absurd (show (1 : Int) = 0 from e) (by decide)
  | m + 1, p, t, ω, b, e => by
    rw [stS] at e ⊢
    by_cases c5 : isW T n (sk T n p) 5 = true
    · rw [if_pos c5] at e ⊢
      have tp := tlS_p (T := T) hn (s := s) 13 (sk T n p + 2) t ω
      generalize tlS T n s 13 (sk T n p + 2) t ω = R at *
      by_cases z : R.1 = 0
      · rw [if_neg (by simpa using z)] at e ⊢
        obtain ⟨-, -, v3⟩ := tp z
        obtain ⟨h1, h2⟩ := stS_S hn m _ _ _ (QS_cg (fun w hw => v3 w (Or.inr hw)) b) e
        exact ⟨h1, fun w hw => by rw [h2 w hw, v3 w (Or.inl hw)]⟩
      · rw [if_pos z] at e; exact absurd e z
    · rw [if_neg c5] at e ⊢
      by_cases c7 : isW T n (sk T n p) 7 = true
      · rw [if_pos c7] at e ⊢
        have tp := shL_S (T := T) (n := n) (s := s) 6 (sk T n p + 4) 0 (shN ω) (by decide) rfl (shN_S s ω)
        generalize shL T n s 6 (sk T n p + 4) 0 (shN ω) = R at *
        by_cases z : R.1 = 0
        · rw [if_neg (by simpa using z)] at e ⊢
          obtain ⟨v1, v2⟩ := tp z
          obtain ⟨h1, h2⟩ := stS_S hn m _ _ _ v1 e
          exact ⟨h1, fun w hw => by
            rw [h2 w hw, v2 w (by omega)]
            unfold shN; rw [if_neg (by omega), if_neg (by omega)]⟩
        · rw [if_pos z] at e; exact absurd e z
      · rw [if_neg c7] at e ⊢
        by_cases d : sk T n p < n
        · rw [if_pos d] at e; exact absurd (show flt 0 (sk T n p) 0 = 0 from e) (flt_n _ _ (by decide))
        · rw [if_neg d]
          exact ⟨b, fun _ _ => rfl⟩
theorem srS_s : srS T n = 0 ∨ srS T n = 1 ∨ srS T n = 2 := by
  unfold srS
  split
  · exact Or.inl rfl
  · split
    · exact Or.inr (Or.inl rfl)
    · exact Or.inr (Or.inr rfl)
theorem bgR_S {s : Int} (hs : s = 0 ∨ s = 1 ∨ s = 2) (a b : Int) : QS s (bgR s a b) := by
  have b14 : ∀ j : Nat, bgR s a b (14 + j) = if 14 + j < 14 + bgN s then lo0 s + ((14 + j - 14 : Nat) : Int) else -1 := fun j => by
    unfold bgR
    rw [if_neg (by omega), if_neg (by omega), if_neg (by omega), if_neg (by omega), if_neg (by omega)]
  have b13 : bgR s a b 13 = (bgN s : Int) := rfl
  have key : lo0 s + (bgN s : Int) = hi0 s + 1 ∧ bgN s ≤ 5 := by
    rcases hs with rfl | rfl | rfl <;> decide
  unfold QS
  rw [b13]
  refine ⟨by omega, fun j h1 h2 => ?_, fun j h1 h2 => ?_⟩
  · rw [b14, if_pos (by omega)]; omega
  · rw [b14, if_neg (by omega)]
theorem bgR_B {s : Int} (hs : s = 0 ∨ s = 1 ∨ s = 2) (a b : Int) : QB1 (bgR s a b) := by
  refine ⟨hs, fun c hc => ?_⟩
  have : c = 0 ∨ c = 1 ∨ c = 2 ∨ c = 3 ∨ c = 4 := by omega
  rcases this with rfl | rfl | rfl | rfl | rfl <;> exact ⟨⟨by show (0 : Int) ≤ 0; decide, by show (0 : Int) ≤ 10; decide⟩, by show (-1 : Int) ≤ 9; decide, by show (9 : Int) ≤ 9; decide⟩
/-- the source's columns -/
theorem srAB (e : srF T n = 0) : (srS T n = 2 → (0 ≤ srA T n ∧ srA T n < 3) ∧ 3 ≤ srB T n ∧ srB T n < 5) ∧ (srS T n ≠ 2 → srA T n = -1 ∧ srB T n = -1) ∧ 1 ≤ srP T n := by
  unfold srF at e
  unfold srS srA srB srP
  by_cases c2 : isW T n (sk T n 0) 2 = true
  · rw [if_pos c2, if_pos c2, if_pos c2, if_pos c2]
    exact ⟨fun h => absurd h (by decide), fun _ => ⟨rfl, rfl⟩, by omega⟩
  · rw [if_neg c2] at e
    rw [if_neg c2, if_neg c2, if_neg c2, if_neg c2]
    by_cases c3 : isW T n (sk T n 0) 3 = true
    · rw [if_pos c3, if_pos c3, if_pos c3, if_pos c3]
      exact ⟨fun h => absurd h (by decide), fun _ => ⟨rfl, rfl⟩, by omega⟩
    · rw [if_neg c3] at e
      rw [if_neg c3, if_neg c3, if_neg c3, if_neg c3]
      by_cases c4 : isW T n (sk T n 0) 4 = true
      · rw [if_pos c4] at e
        unfold jnF at e
        unfold jnQ
        by_cases c : colF T n (sk T n (sk T n 0 + 4)) 0 2 0 = 0
        · rw [if_neg (show ¬ colF T n (sk T n (sk T n 0 + 4)) 0 2 0 ≠ 0 from fun x => x c)] at e
          by_cases d : sk T n (sk T n (sk T n 0 + 4) + 1) < n ∧ T (sk T n (sk T n (sk T n 0 + 4) + 1)) = 61
          · rw [if_pos d] at e
            have a1 := (colF_0 c).2.2.2
            have a2 := (colF_0 e).2.2.2
            exact ⟨fun _ => by omega, fun h => absurd rfl h, by omega⟩
          · rw [if_neg d] at e; exact absurd e (flt_n _ _ (by decide))
        · rw [if_pos c] at e; exact absurd e c
      · rw [if_neg c4] at e; exact absurd e (flt_n _ _ (by decide))
theorem qyF_p : 0 ≤ qyF T n := by
  unfold qyF
  split
  · rename_i c
    unfold srF at c ⊢
    have f0 := flt_p (sk T n 0) (k := 0) (by decide)
    have f1 := flt_p (sk T n (sk T n (sk T n 0 + 4) + 1)) (k := 0) (by decide)
    have c1 := colF_p (T := T) (n := n) (lo := 0) (hi := 2) (sk T n (sk T n 0 + 4))
    have c2 := colF_p (T := T) (n := n) (lo := 3) (hi := 4) (sk T n (sk T n (sk T n (sk T n 0 + 4) + 1) + 1))
    unfold jnF
    repeat' split
    all_goals omega
  · exact stS_q _ _ _ _
theorem bgR_0 (s a b : Int) : bgR s a b 0 = s ∧ bgR s a b 1 = a ∧ bgR s a b 2 = b := ⟨rfl, rfl, rfl⟩
theorem qyW_e (T : Nat → Int) (n : Nat) : qyW T n = (stS T n (srS T n) 400 (srP T n) 0 (bgR (srS T n) (srA T n) (srB T n))).2 := by unfold qyW; rfl
/-- a query's row, fault-free -/
theorem qyW_ok (hn : n ≤ 400) (e : qyF T n = 0) : QS (srS T n) (qyW T n) ∧ qyW T n 0 = srS T n ∧ qyW T n 1 = srA T n ∧ qyW T n 2 = srB T n ∧ (srS T n = 2 → (0 ≤ srA T n ∧ srA T n < 3) ∧ 3 ≤ srB T n ∧ srB T n < 5) ∧ (srS T n ≠ 2 → srA T n = -1 ∧ srB T n = -1) := by
  unfold qyF at e
  rw [qyW_e]
  by_cases c : srF T n = 0
  · rw [if_neg (show ¬ srF T n ≠ 0 from fun x => x c)] at e
    obtain ⟨a1, a2, a3⟩ := srAB c
    have ss := stS_S hn 400 (srP T n) 0 _ (bgR_S srS_s (srA T n) (srB T n)) e
    generalize (stS T n (srS T n) 400 (srP T n) 0 (bgR (srS T n) (srA T n) (srB T n))).2 = R at *
    obtain ⟨b1, b2⟩ := ss
    obtain ⟨g0, g1, g2⟩ := bgR_0 (srS T n) (srA T n) (srB T n)
    exact ⟨b1, by rw [b2 0 (by decide), g0], by rw [b2 1 (by decide), g1], by rw [b2 2 (by decide), g2], a1, a2⟩
  · rw [if_pos c] at e; exact absurd e c
theorem q36_s (hq : q < 8) (m0 : MS K) {c m : Nat} (hc : c < 5) : Mod_query_L36 (m + 1) 401 (c : Int) (S41 (R4 K q ω t) p φ) = Mod_query_L36 m 401 ((c + 1 : Nat) : Int) (S41 (R4 K q (u1 (u1 ω (3 + 2 * c) 0) (4 + 2 * c) 9) t) p φ) := by
  have mR : ∀ ω t, MS (R4 K q ω t) := fun _ _ => m0
  rw [Mod_query_L36, if_neg (by omega), r_14 (s41_m (mR _ _) _ _), g_m (s41_m (mR _ _) _ _), y_22, ix_w hq (show c ≤ 5 by omega), w_411 (s41_m (mR _ _) _ _) (by omega) (by omega), tN ((5 * q + c : Nat) : Int) _ rfl, z_411 hc, r_15 (s41_m (mR _ _) _ _), g_m (s41_m (mR _ _) _ _), y_22, ix_w hq (show c ≤ 5 by omega), w_412 (s41_m (mR _ _) _ _) (by omega) (by omega), tN ((5 * q + c : Nat) : Int) _ rfl, z_412 hc, wr_id (by omega) (by omega), show (c : Int) + 1 = ((c + 1 : Nat) : Int) by omega]
theorem om_id (h : AH) (q : Nat) : sI (sI (sI (sI h 401 22 (q : Int)) 401 19 0) 401 20 0) 401 23 0 = S41 (R4 h q (om0 h q) 0) 0 0 := by
  show WI h (up2 (up2 (up2 (up2 (hI h) 401 22 (q : Int)) 401 19 0) 401 20 0) 401 23 0) = WI h (r41 (r4F (hI h) q (om0 h q) 0) 0 0)
  have n41 : ∀ (f : Nat → Nat → Int) (a i : Nat) (p φ : Int), a ≠ 401 → r41 f p φ a i = f a i := fun f a i p φ ha => by
    unfold r41; rw [if_neg (by omega), if_neg (by omega)]
  have nu : ∀ a, a ≠ 401 → up2 (up2 (up2 (up2 (hI h) 401 22 (q : Int)) 401 19 0) 401 20 0) 401 23 0 a = hI h a := fun a ha => by rw [up2_ne ha, up2_ne ha, up2_ne ha, up2_ne ha]
  refine WI_ext h (rF_x (fun i => ?_) (fun i => ?_) (fun i => ?_) (fun i => ?_) (fun i => ?_) (fun i => ?_) (fun i => ?_) (fun i => ?_) (fun a i h1 h2 => ?_))
  · unfold r41
    rw [rF_401]; simp only [up2_e]; grind
  · rw [nu _ (by decide), n41 _ _ _ _ _ (by decide), rF_408]
    by_cases c : i = q
    · rw [if_pos c, c]; rfl
    · rw [if_neg c]
  · rw [nu _ (by decide), n41 _ _ _ _ _ (by decide), rF_409]
    by_cases c : i = q
    · rw [if_pos c, c]; rfl
    · rw [if_neg c]
  · rw [nu _ (by decide), n41 _ _ _ _ _ (by decide), rF_410]
    by_cases c : i = q
    · rw [if_pos c, c]; rfl
    · rw [if_neg c]
  · rw [nu _ (by decide), n41 _ _ _ _ _ (by decide), rF_411]
    by_cases c : 5 * q ≤ i ∧ i < 5 * q + 5
    · rw [if_pos c]
      unfold om0
      rw [if_neg (by omega), if_neg (by omega), if_neg (by omega), if_pos (by omega), if_pos (by omega), show 5 * q + (3 + 2 * (i - 5 * q) - 3) / 2 = i by omega]
    · rw [if_neg c]
  · rw [nu _ (by decide), n41 _ _ _ _ _ (by decide), rF_412]
    by_cases c : 5 * q ≤ i ∧ i < 5 * q + 5
    · rw [if_pos c]
      unfold om0
      rw [if_neg (by omega), if_neg (by omega), if_neg (by omega), if_pos (by omega), if_neg (by omega), show 5 * q + (4 + 2 * (i - 5 * q) - 4) / 2 = i by omega]
    · rw [if_neg c]
  · rw [nu _ (by decide), n41 _ _ _ _ _ (by decide), rF_413]
    by_cases c : i = q
    · rw [if_pos c, c]; rfl
    · rw [if_neg c]
  · rw [nu _ (by decide), n41 _ _ _ _ _ (by decide), rF_414]
    by_cases c : (5 * q ≤ i ∧ i < 5 * q + 5) ∧ ((i - 5 * q : Nat) : Int) < om0 h q 13
    · rw [if_pos c]
      unfold om0
      rw [if_neg (by omega), if_neg (by omega), if_neg (by omega), if_neg (by omega), if_neg (by omega), show 5 * q + (14 + (i - 5 * q) - 14) = i by omega]
    · rw [if_neg c]
  · rw [nu _ h1, n41 _ _ _ _ _ h1, rF_n h1 h2]
/-- query of the reference, up to its end -/
theorem query_M (r : RDM h n T) (hq : q < 8) (hc : hI h 401 10 = (q : Int)) : ∃ K p' ω' t', Mod_query 401 h = Mod_query_L95 401 (S41 (R4 K q ω' t') p' (qyF T n)) ∧ FQ q h K ∧ (qyF T n = 0 → ω' = qyW T n ∧ QB1 ω') := by
  have big := FU_big
  have m := r.1
  have r5 := r.2.2.1
  generalize hW : u1 (u1 (u1 (u1 (u1 (u1 (u1 (u1 (u1 (u1 (om0 h q) (3 + 2 * 0) 0) (4 + 2 * 0) 9) (3 + 2 * (0 + 1)) 0) (4 + 2 * (0 + 1)) 9) (3 + 2 * (0 + 1 + 1)) 0) (4 + 2 * (0 + 1 + 1)) 9) (3 + 2 * (0 + 1 + 1 + 1)) 0) (4 + 2 * (0 + 1 + 1 + 1)) 9) (3 + 2 * (0 + 1 + 1 + 1 + 1)) 0) (4 + 2 * (0 + 1 + 1 + 1 + 1)) 9 = W
  have eW : ∀ c, c < 5 → W (3 + 2 * c) = 0 ∧ W (4 + 2 * c) = 9 := fun c hc => by
    have : c = 0 ∨ c = 1 ∨ c = 2 ∨ c = 3 ∨ c = 4 := by omega
    rw [← hW]
    rcases this with rfl | rfl | rfl | rfl | rfl <;> exact ⟨rfl, rfl⟩
  have head : Mod_query 401 h = Mod_query_L36 (999994 + 1) 401 ((0 + 1 + 1 + 1 + 1 + 1 : Nat) : Int) (S41 (R4 h q W 0) 0 0) := by
    have m1 : MS (sI h 401 22 (q : Int)) := m
    have m2 : MS (sI (sI h 401 22 (q : Int)) 401 19 0) := m
    have m3 : MS (sI (sI (sI h 401 22 (q : Int)) 401 19 0) 401 20 0) := m
    unfold Mod_query
    rw [g_m m, hc, if_pos (by omega), g_m m, hc, p_m m, p_m m1, p_m m2, p_m m3, om_id, show FU = 999994 + 1 + 1 + 1 + 1 + 1 + 1 from rfl]
    rw [show Mod_query_L36 (999994 + 1 + 1 + 1 + 1 + 1 + 1) 401 0 (S41 (R4 h q (om0 h q) 0) 0 0) = Mod_query_L36 (999994 + 1 + 1 + 1 + 1 + 1 + 1) 401 ((0 : Nat) : Int) (S41 (R4 h q (om0 h q) 0) 0 0) from rfl, q36_s hq m (by decide), q36_s hq m (by decide), q36_s hq m (by decide), q36_s hq m (by decide), q36_s hq m (by decide), hW]
  obtain ⟨p1, ω1, x1, x2⟩ := sourcePart_m (ω := W) (t := 0) hq r
  have mR : ∀ ω t, MS (R4 h q ω t) := fun _ _ => m
  rw [head, Mod_query_L36, if_pos (by decide), c_m (s41_m (mR _ _) _ _), x1, bnd_some, g_m (s41_m (mR _ _) _ _), s41_20]
  by_cases c : srF T n = 0
  · obtain ⟨y1, y2, y3, y4, y5, y6⟩ := x2 c
    have sp := (srAB c).2.2
    have rK : RDM (R4 h q ω1 0) n T := R4_rd r
    have sa := showsAll_m (p := p1) (φ := 0) (t := 0) hq r srS_s y3 y4 y5 (fun d hd => by rw [y6 _ (by omega), y6 _ (by omega)]; exact eW d hd)
    obtain ⟨K', p2, ω2, t2, z1, z2, z3⟩ := steps_L (T := T) (n := n) hq srS_s 400 (srP T n) 0 FU (R4 h q ω1 0) (bgR (srS T n) (srA T n) (srB T n)) rK (by omega) (by omega) (by omega) (by omega) rfl (bgR_B srS_s _ _)
    have z1' : Mod_stepsPart 401 (S41 (R4 (R4 h q ω1 0) q (bgR (srS T n) (srA T n) (srB T n)) 0) (srP T n) 0) = some ((), S41 (R4 K' q ω2 t2) p2 (stS T n (srS T n) 400 (srP T n) 0 (bgR (srS T n) (srA T n) (srB T n))).1) := z1
    have e0 : qyF T n = (stS T n (srS T n) 400 (srP T n) 0 (bgR (srS T n) (srA T n) (srB T n))).1 := by
      unfold qyF; rw [if_neg (show ¬ srF T n ≠ 0 from fun x => x c)]
    have mK : MS (R4 (R4 h q ω1 0) q (bgR (srS T n) (srA T n) (srB T n)) 0) := m
    rw [e0]
    refine ⟨K', p2, ω2, t2, ?_, (FQ_R4 h q ω1 0).trans z2, z3⟩
    rw [c, if_neg (show ¬ ¬ (0 : Int) = 0 from fun x => x rfl), c_m (s41_m (mR _ _) _ _), sa, bnd_some, c_m (s41_m mK _ _), y1, z1', bnd_some]
  · have e0 : qyF T n = srF T n := by unfold qyF; rw [if_pos c]
    rw [e0, if_pos c]
    exact ⟨h, p1, ω1, 0, rfl, FQ.refl q h, fun e => absurd e c⟩
end N5
