/-! Level 2: drift -/
def eqU (T T' : Nat → Nat → Int) (n : Nat) : Prop := ∀ k, k < n → ∀ t, t < 16 → t ≠ 14 → T k t = T' k t
theorem bfs_cu {T T' : Nat → Nat → Int} {π σ : Nat → Int} (e : eq13 π σ) : ∀ {n : Nat}, eqU T T' n → bfs T π n = bfs T' σ n
  | 0, _ => rfl
  | n + 1, t => by
    have ih := bfs_cu (T := T) (T' := T') e (n := n) (fun k hk => t k (by omega))
    have bb := bfs_b T' σ n
    rw [bfs, bfs, ih, holdF_c (fun j hj => t n (by omega) j (by omega) (by omega)) e, t n (by omega) 15 (by decide) (by decide), t n (by omega) 13 (by decide) (by decide)]
    by_cases e1 : bfs T' σ n = -1
    · simp [e1]
    · rw [t (bfs T' σ n).toNat (by omega) 13 (by decide) (by decide)]
theorem svr_cu {T T' : Nat → Nat → Int} {π σ : Nat → Int} {n : Nat} (e : eq13 π σ) (t : eqU T T' n) (mk : Int) : svr T π n mk = svr T' σ n mk := by
  have bb := bfs_b T' σ n
  unfold svr; rw [bfs_cu e t]
  by_cases e1 : bfs T' σ n = -1
  · rw [if_pos e1, if_pos e1]
  · rw [t (bfs T' σ n).toNat (by omega) 13 (by decide) (by decide)]
theorem cst_cu {T T' : Nat → Nat → Int} {π σ : Nat → Int} {n : Nat} (e : eq13 π σ) (t : eqU T T' n) (mk : Int) : cst T π n mk = cst T' σ n mk := by
  have bb := svr_b T' σ n mk
  unfold cst; rw [svr_cu e t]
  by_cases e1 : svr T' σ n mk = -1
  · rw [if_pos e1, if_pos e1]
  · rw [if_neg e1, if_neg e1, t _ (by omega) 13 (by decide) (by decide)]
theorem apt_cu {T T' : Nat → Nat → Int} {P P' : Int → Nat → Int} {n : Nat} (e0 : eq13 (P 0) (P' 0)) (e1 : eq13 (P 1) (P' 1)) (t : eqU T T' n) {mk mk' : Int → Int} (h0 : mk 0 = mk' 0) (h1 : mk 1 = mk' 1) (pr : Int) : apt T n P mk pr = apt T' n P' mk' pr := by
  unfold apt; rw [cst_cu e0 t, cst_cu e1 t, h0, h1]
theorem jby_cu {T T' : Nat → Nat → Int} {P P' : Int → Nat → Int} {n : Nat} (e0 : eq13 (P 0) (P' 0)) (e1 : eq13 (P 1) (P' 1)) (e2 : eq13 (P 2) (P' 2)) (t : eqU T T' n) {mk mk' : Int → Int} (h0 : mk 0 = mk' 0) (h1 : mk 1 = mk' 1) (pr : Int) : jby T n P mk pr = jby T' n P' mk' pr := by
  have bb := bfs_b T' (P' 2) n
  unfold jby; rw [bfs_cu e2 t, apt_cu e0 e1 t h0 h1]
  by_cases e1 : bfs T' (P' 2) n = -1
  · rw [if_pos e1, if_pos e1]
  · rw [t (bfs T' (P' 2) n).toNat (by omega) 13 (by decide) (by decide)]
theorem cNow_cu {T T' : Nat → Nat → Int} {P P' : Int → Nat → Int} {n : Nat} (e0 : eq13 (P 0) (P' 0)) (e1 : eq13 (P 1) (P' 1)) (e2 : eq13 (P 2) (P' 2)) (t : eqU T T' n) {mk mk' : Int → Int} (h0 : mk 0 = mk' 0) (h1 : mk 1 = mk' 1) (pr : Int) (vd : Bool) {src : Int} (hs : src = 0 ∨ src = 1 ∨ src = 2) : cNow T n P vd src mk pr = cNow T' n P' vd src mk' pr := by
  have bb := jby_b T' n P' mk' pr
  unfold cNow
  cases vd
  · rw [if_neg (show ¬ false = true by decide), if_neg (show ¬ false = true by decide), jby_cu e0 e1 e2 t h0 h1, apt_cu e0 e1 t h0 h1]
    rcases hs with rfl | rfl | rfl
    · rw [if_neg (show ¬ (2 : Int) ≤ 0 by decide), if_neg (show ¬ (2 : Int) ≤ 0 by decide), cst_cu e0 t, h0]
    · rw [if_neg (show ¬ (2 : Int) ≤ 1 by decide), if_neg (show ¬ (2 : Int) ≤ 1 by decide), cst_cu e1 t, h1]
    · rw [if_pos (show (2 : Int) ≤ 2 by decide), if_pos (show (2 : Int) ≤ 2 by decide)]
      by_cases ej : jby T' n P' mk' pr = -1
      · rw [if_pos ej, if_pos ej]
      · rw [if_neg ej, if_neg ej, t _ (by omega) 13 (by decide) (by decide)]
  · rfl
theorem sby_cu {T T' : Nat → Nat → Int} {P P' : Int → Nat → Int} {n : Nat} (e0 : eq13 (P 0) (P' 0)) (e1 : eq13 (P 1) (P' 1)) (e2 : eq13 (P 2) (P' 2)) (t : eqU T T' n) {mk mk' : Int → Int} (h0 : mk 0 = mk' 0) (h1 : mk 1 = mk' 1) (pr : Int) (vd : Bool) (src : Int) {k : Int} (hk : k = 0 ∨ k = 1 ∨ k = 2) : sby T n P vd src mk pr k = sby T' n P' vd src mk' pr k := by
  unfold sby
  cases vd
  · rw [if_neg (show ¬ false = true by decide), if_neg (show ¬ false = true by decide), jby_cu e0 e1 e2 t h0 h1]
    rcases hk with rfl | rfl | rfl
    · rw [svr_cu e0 t, h0]
    · rw [svr_cu e1 t, h1]
    · rw [if_pos (show (2 : Int) = 2 from rfl), if_pos (show (2 : Int) = 2 from rfl)]
  · rfl
/-- a change of a row of R -/
def chF (f : Nat → Nat → Int) (row col v : Int) : Nat → Nat → Int :=
  stF (up2 (stF f (htf f 0 row) (f 402 5).toNat) 403 (3 * row.toNat + col.toNat) v) (htf (up2 (stF f (htf f 0 row) (f 402 5).toNat) 403 (3 * row.toNat + col.toNat) v) 0 row) (f 402 5).toNat
/-- a step's change -/
def dvF (f : Nat → Nat → Int) (p : Int) : Nat → Nat → Int :=
  if dr (f 402 8) / 65536 % 100 < p ∧ 0 < f 402 2 then
    (if numf f (dr (dr (f 402 8)) / 65536 % f 402 2) (dr (dr (dr (f 402 8))) / 65536 % 3) = dr (dr (dr (dr (f 402 8)))) / 65536 % 10 then up2 f 402 8 (dr (dr (dr (dr (f 402 8)))))
     else chF (up2 f 402 8 (dr (dr (dr (dr (f 402 8)))))) (dr (dr (f 402 8)) / 65536 % f 402 2) (dr (dr (dr (f 402 8))) / 65536 % 3) (dr (dr (dr (dr (f 402 8)))) / 65536 % 10))
  else up2 f 402 8 (dr (f 402 8))
section R25
variable {h H : AH} {f f' f1 f2 g : Nat → Nat → Int} {ρ ρ' : Nat → Int}
theorem SQ.cu (s : SQ h H) (mb : MB h) (nk : nK H = nK h) (e : eqU (kT H) (kT h) (nK h)) : bH H (kT H) (nK H) = bH h (kT h) (nK h) := by
  rw [s.bH', nk]
  unfold bH cH
  have b3 := mb.2.2.1
  exact bsum_cc (fun q hq => ⟨rfl, cNow_cu (fun _ _ => rfl) (fun _ _ => rfl) (fun _ _ => rfl) e rfl rfl _ _ (mb.2.2.2.2 q (by unfold nQ at hq; omega) (by unfold nQ at hq; omega)).1⟩)
/-- a heap is as told, but for scratch, time, spent, used -/
def DV (h : AH) (f : Nat → Nat → Int) (H : AH) : Prop := hN H = hN h ∧ hS H = hS h ∧ hK H = hK h ∧ hR H = hR h ∧ (∀ a, scrA a = false → a ≠ 402 → a ≠ 407 → hI H a = f a) ∧ (∀ i, i < 9 → i ≠ 6 → i ≠ 7 → hI H 402 i = f 402 i) ∧ (∀ i, i % 16 ≠ 14 → hI H 407 i = f 407 i) ∧ hI H 401 10 = f 401 10 ∧ hI H 401 18 = f 401 18 ∧ hI H 401 43 = f 401 43
theorem DV.ms (d : DV h f H) (m : MS h) : MS H := by
  obtain ⟨r1, r2, r3, r4, -⟩ := d
  unfold MS; rw [r3, r4]; exact m
theorem DV.eta (d : DV h f H) : H = WI h (hI H) := by
  obtain ⟨r1, r2, r3, r4, -⟩ := d
  unfold WI; rw [← r1, ← r2, ← r3, ← r4]; rfl
theorem DV.sq (d : DV h f H) : SQ (WI h f) H := by
  obtain ⟨r1, r2, r3, r4, r5, r6, r7, r8, r9, r10⟩ := d
  exact ⟨r8, r6 2 (by decide) (by decide) (by decide), r6 3 (by decide) (by decide) (by decide), r6 4 (by decide) (by decide) (by decide), r5 403 (by decide) (by decide) (by decide), r5 404 (by decide) (by decide) (by decide), fun a h1 h2 => r5 a (by unfold scrA; simp; omega) (by omega) (by omega)⟩
theorem DV.kp13 (d : DV h f H) (k u : Nat) (hu : u < 16) (h14 : u ≠ 14) : hI H 407 (16 * k + u) = f 407 (16 * k + u) := d.2.2.2.2.2.2.1 _ (by omega)
theorem DV.row (d : DV h f H) {j : Nat} (h6 : j ≠ 6) (h7 : j ≠ 7) (hk : 60 ≤ j → (j - 60) % 16 ≠ 14) : rr (hI H) j = rr f j := by
  obtain ⟨r1, r2, r3, r4, r5, r6, r7, r8, r9, r10⟩ := d
  unfold rr
  by_cases c1 : j < 8
  · rw [if_pos c1, if_pos c1, r6 j (by omega) h6 h7]
  · rw [if_neg c1, if_neg c1]
    by_cases c2 : j < 44
    · rw [if_pos c2, if_pos c2, r5 403 (by decide) (by decide) (by decide)]
    · rw [if_neg c2, if_neg c2]
      by_cases c3 : j < 60
      · rw [if_pos c3, if_pos c3, r5 404 (by decide) (by decide) (by decide)]
      · rw [if_neg c3, if_neg c3, r7 _ (hk (by omega))]
theorem RB_of {ρ σ : Nat → Int} (b : RB ρ) (e : ∀ j, j < 156 → j ≠ 6 → j ≠ 7 → (60 ≤ j → (j - 60) % 16 ≠ 14) → σ j = ρ j) : RB σ := by
  obtain ⟨b0, b1, b2, b3, b4, b5, b6, b7, b8⟩ := b
  unfold RB
  rw [e 0 (by omega) (by omega) (by omega) (by omega), e 1 (by omega) (by omega) (by omega) (by omega), e 2 (by omega) (by omega) (by omega) (by omega), e 3 (by omega) (by omega) (by omega) (by omega), e 4 (by omega) (by omega) (by omega) (by omega), e 5 (by omega) (by omega) (by omega) (by omega)]
  refine ⟨b0, b1, b2, b3, b4, b5, fun j hj => by rw [e _ (by omega) (by omega) (by omega) (by omega)]; exact b6 j hj, fun j hj => by rw [e _ (by omega) (by omega) (by omega) (by omega)]; exact b7 j hj, fun k hk => ?_⟩
  have z : ∀ u, u < 16 → u ≠ 14 → kp σ k u = kp ρ k u := fun u h1 h2 => e _ (by omega) (by omega) (by omega) (by omega)
  rw [z 13 (by decide) (by decide), z 15 (by decide) (by decide)]
  exact ⟨okP_3 (z 0 (by decide) (by decide)).symm (z 1 (by decide) (by decide)).symm (z 2 (by decide) (by decide)).symm (b8 k hk).1, (b8 k hk).2⟩
theorem DV.rb (d : DV h f H) (b : RB (rr f)) : RB (rr (hI H)) := RB_of b (fun j _ h6 h7 hk => d.row h6 h7 hk)
theorem DV.mb (d : DV h f H) (mb : MB (WI h f)) (b : RB (rr f)) : MB H := by
  have e := d.eta
  have rb := d.rb b
  obtain ⟨r1, r2, r3, r4, r5, r6, r7, r8, r9, r10⟩ := d
  have : MB (WI (WI h f) (hI H)) := MB_of mb rb r8 (fun a h1 h2 => r5 a (by unfold scrA; simp; omega) (by omega) (by omega))
  rw [WI_WI, ← e] at this
  exact this
theorem DV.cost (d : DV h f H) (mb : MB (WI h f)) : bH H (kT H) (nK H) = bH (WI h f) (kT (WI h f)) (nK (WI h f)) :=
  d.sq.cu mb (by unfold nK; rw [d.2.2.2.2.2.1 5 (by decide) (by decide) (by decide)]; rfl) (fun k _ t ht h14 => d.kp13 k t ht h14)
theorem Mod_draws_e (m : MS h) {n : Int} (hx0 : 0 ≤ f 402 8) (hx1 : f 402 8 < 2147483648) (hn0 : 0 < n) (hn1 : n < 1000) : Mod_draws 401 n (WI h f) = some (dr (f 402 8) / 65536 % n, WI h (up2 f 402 8 (dr (f 402 8)))) := by
  have m1 : ∀ f, MS (WI h f) := fun _ => m
  have b := dr_b (f 402 8)
  unfold Mod_draws
  rw [r_1 (m1 _), r_1 (m1 _), a_402 (m1 _) (by decide) (by decide), hI_WI, show (8 : Int).toNat = 8 from rfl, if_neg (by decide), dr_r hx0 hx1, w_402 (m1 _) (by decide) (by decide), WI_sI, show (8 : Int).toNat = 8 from rfl, r_1 (m1 _), a_402 (m1 _) (by decide) (by decide), hI_WI, show (8 : Int).toNat = 8 from rfl, show up2 f 402 8 (dr (f 402 8)) 402 8 = dr (f 402 8) by rw [up2_e, if_pos ⟨rfl, rfl⟩], if_neg (by decide), if_neg (by omega), iDiv_e b.1 b.2 (by decide) (by decide), iRem_e (by omega) (by omega) hn0 (by omega)]
theorem Mod_changes_x (m : MS h) {row col v : Int} (hr : 0 ≤ row) (hr2 : row < 12) (hc0 : 0 ≤ col) (hc3 : col < 3) (h0 : 0 ≤ f 402 5) (h6 : f 402 5 ≤ 6) (hs : ∀ k : Nat, (k : Int) < f 402 5 → f 407 (16 * k + 15) = 0 ∨ f 407 (16 * k + 15) = 1) : Mod_changes 401 0 row col v (WI h f) = some ((), WI h (chF f row col v)) ∧ RM f (chF f row col v) ∧ rr (chF f row col v) = chgRow (rr f) 0 row col v := by
  have m1 : ∀ f, MS (WI h f) := fun _ => m
  unfold Mod_changes
  rw [c_m (m1 _), Mod_turnsStale_e m (Or.inl rfl) hr (by simpa using hr2) h0 h6 hs, bnd_some, c_m (m1 _)]
  unfold chF
  generalize hg : stF f (htf f 0 row) (f 402 5).toNat = g
  have g2 : g 402 = f 402 := by rw [← hg, stF_n _ _ _ (by decide)]
  have gs : ∀ k : Nat, (k : Int) < f 402 5 → g 407 (16 * k + 15) = 0 ∨ g 407 (16 * k + 15) = 1 := fun k hk => by
    rw [← hg]; unfold stF; split
    · exact Or.inr rfl
    · exact hs k hk
  have eg : rr g = spo (rr f) 0 row := by rw [← hg]; exact rr_stF hr (by simpa using hr2)
  have rg : RM f g := by rw [← hg]; exact RM_st _ _ _
  have p := Mod_putsR (f := g) m (r := row.toNat) (c := col.toNat) (by omega) (by omega) v
  rw [show ((row.toNat : Nat) : Int) = row by omega, show ((col.toNat : Nat) : Int) = col by omega] at p
  have e5 : up2 g 403 (3 * row.toNat + col.toNat) v 402 5 = f 402 5 := by rw [up2_e, if_neg (by omega), g2]
  rw [p, bnd_some, c_m (m1 _), Mod_turnsStale_e m (Or.inl rfl) hr (by simpa using hr2) (by rw [e5]; exact h0) (by rw [e5]; exact h6) (by intro k; rw [e5, up2_e, if_neg (by omega)]; exact gs k), bnd_some, e5]
  refine ⟨rfl, rg.trans ((RM_u _ _ (by omega)).trans (RM_st _ _ _)), ?_⟩
  have := rr_stF (f := up2 g 403 (3 * row.toNat + col.toNat) v) (t := 0) hr (by simpa using hr2)
  rw [e5] at this
  rw [this, rr_u3 _ (by omega), eg]
  rfl
theorem htf_c {t row : Int} (e7 : ∀ i, i % 16 ≠ 14 → g 407 i = f 407 i) (e3 : g 403 = f 403) (e4 : g 404 = f 404) : htf g t row = htf f t row := by
  funext k
  unfold htf
  rw [e7 (16 * k) (by omega), show numf g = numf f by funext x y; unfold numf; rw [e3, e4]]
  congr 1
  exact inF_c (fun u hu => e7 _ (by omega)) _ _
theorem DV_ch (d : DV h f H) (row col v : Int) : DV h (chF f row col v) (WI h (chF (hI H) row col v)) := by
  obtain ⟨r1, r2, r3, r4, r5, r6, r7, r8, r9, r10⟩ := d
  have e3 := r5 403 (by decide) (by decide) (by decide)
  have e4 := r5 404 (by decide) (by decide) (by decide)
  have e5 := r6 5 (by decide) (by decide) (by decide)
  have h1 : htf (hI H) 0 row = htf f 0 row := htf_c r7 e3 e4
  have st : ∀ (x y : Nat → Nat → Int) (B : Nat → Bool) (n : Nat), (∀ i, i % 16 ≠ 14 → x 407 i = y 407 i) → ∀ i, i % 16 ≠ 14 → stF x B n 407 i = stF y B n 407 i := fun x y B n e i hi => by unfold stF; rw [e i hi]
  have h2 : htf (up2 (stF (hI H) (htf f 0 row) (f 402 5).toNat) 403 (3 * row.toNat + col.toNat) v) 0 row = htf (up2 (stF f (htf f 0 row) (f 402 5).toNat) 403 (3 * row.toNat + col.toNat) v) 0 row := by
    refine htf_c (fun i hi => ?_) ?_ ?_
    · rw [up2_ne (by decide), up2_ne (by decide)]; exact st _ _ _ _ r7 i hi
    · funext i; rw [up2_e, up2_e, stF_n _ _ _ (by decide), stF_n _ _ _ (by decide), e3]
    · rw [up2_ne (by decide), up2_ne (by decide), stF_n _ _ _ (by decide), stF_n _ _ _ (by decide), e4]
  have ch : ∀ a i, a ≠ 407 → chF (hI H) row col v a i = if a = 403 ∧ i = 3 * row.toNat + col.toNat then v else hI H a i := fun a i ha => by unfold chF; rw [stF_n _ _ _ ha, up2_e, stF_n _ _ _ ha]
  have cf : ∀ a i, a ≠ 407 → chF f row col v a i = if a = 403 ∧ i = 3 * row.toNat + col.toNat then v else f a i := fun a i ha => by unfold chF; rw [stF_n _ _ _ ha, up2_e, stF_n _ _ _ ha]
  refine ⟨rfl, rfl, rfl, rfl, fun a h1 h2 h7 => ?_, fun i h9 h6 h7 => ?_, fun i hi => ?_, ?_, ?_, ?_⟩
  · funext i; rw [hI_WI, ch a i h7, cf a i h7, r5 a h1 h2 h7]
  · rw [hI_WI, ch 402 i (by decide), cf 402 i (by decide), r6 i h9 h6 h7]
  · rw [hI_WI]
    unfold chF
    rw [h1, e5, h2]
    refine st _ _ _ _ (fun i hi => ?_) i hi
    rw [up2_ne (by decide), up2_ne (by decide)]; exact st _ _ _ _ r7 i hi
  · rw [hI_WI, ch 401 10 (by decide), cf 401 10 (by decide), if_neg (by omega), if_neg (by omega), r8]
  · rw [hI_WI, ch 401 18 (by decide), cf 401 18 (by decide), if_neg (by omega), if_neg (by omega), r9]
  · rw [hI_WI, ch 401 43 (by decide), cf 401 43 (by decide), if_neg (by omega), if_neg (by omega), r10]
theorem DV_x (d : DV h f H) (x : Int) : DV h (up2 f 402 8 x) (WI h (up2 (hI H) 402 8 x)) := by
  obtain ⟨r1, r2, r3, r4, r5, r6, r7, r8, r9, r10⟩ := d
  refine ⟨rfl, rfl, rfl, rfl, fun a h1 h2 h7 => ?_, fun i h9 h6 h7 => ?_, fun i hi => ?_, ?_, ?_, ?_⟩
  · rw [hI_WI, up2_ne h2, up2_ne h2, r5 a h1 h2 h7]
  · rw [hI_WI, up2_e, up2_e, r6 i h9 h6 h7]
  · rw [hI_WI, up2_ne (by decide), up2_ne (by decide), r7 i hi]
  · rw [hI_WI, up2_ne (by decide), up2_ne (by decide), r8]
  · rw [hI_WI, up2_ne (by decide), up2_ne (by decide), r9]
  · rw [hI_WI, up2_ne (by decide), up2_ne (by decide), r10]
theorem us_n (ρ : Nat → Int) (tm : Int) (on : Nat → Bool) (S : Nat → Int → Int) {j : Nat} (hj : 60 ≤ j → (j - 60) % 16 ≠ 14) : ∀ (n q : Nat) (ρ : Nat → Int), usR on S tm n q ρ j = ρ j
  | 0, _, _ => rfl
  | n + 1, q, ρ => by
    have z : ∀ (ρ : Nat → Int) (s : Int), us1 ρ tm s j = ρ j := fun ρ s => by
      unfold us1; split
      · rfl
      · exact if_neg (by omega)
    rw [usR, us_n ρ tm on S hj n (q + 1)]
    unfold usq
    split
    · rw [z, z, z]
    · rfl
theorem rn_n (h : AH) {j : Nat} (h6 : j ≠ 6) (h7 : j ≠ 7) (hj : 60 ≤ j → (j - 60) % 16 ≠ 14) : rnRow h j = rr (hI h) j := by
  unfold rnRow
  rw [us_n (rr (hI h)) _ _ _ hj]
  unfold u1
  rw [if_neg h6, if_neg h7]
theorem DV_run (d : DV h f H) (m : MS h) (mb : MB (WI h f)) (b : RB (rr f)) : ∃ H', Mod_runs 401 H = some (bH (WI h f) (kT (WI h f)) (nK (WI h f)), H') ∧ DV h f H' := by
  obtain ⟨H', e, hm, sq, -, er⟩ := Mod_runs_e (d.ms m) (d.mb mb b) (d.rb b)
  rw [d.cost mb] at e
  refine ⟨H', e, ?_⟩
  obtain ⟨r1, r2, r3, r4, r5, r6, r7, r8, r9, r10⟩ := d
  obtain ⟨x1, x2, x3, x4, y1, y2, y3, y4, y5⟩ := hm
  have z : ∀ j, j ≠ 6 → j ≠ 7 → (60 ≤ j → (j - 60) % 16 ≠ 14) → rr (hI H') j = rr (hI H) j := fun j h1 h2 h3 => by rw [er, rn_n H h1 h2 h3]
  refine ⟨by rw [x1, r1], by rw [x2, r2], by rw [x3, r3], by rw [x4, r4], fun a h1 h2 h7 => ?_, fun i h9 h6 h7 => ?_, fun i hi => ?_, by rw [y2, r8], by rw [y3, r9], by rw [y4, r10]⟩
  · by_cases c3 : a = 403
    · rw [c3, sq.2.2.2.2.1]; exact r5 403 (by decide) (by decide) (by decide)
    · by_cases c4 : a = 404
      · rw [c4, sq.2.2.2.2.2.1]; exact r5 404 (by decide) (by decide) (by decide)
      · rw [y1 a h1 h2 c3 c4 h7, r5 a h1 h2 h7]
  · by_cases c8 : i < 8
    · have := z i h6 h7 (by omega)
      rw [rr_s _ c8, rr_s _ c8] at this
      rw [this, r6 i h9 h6 h7]
    · have c9 : i = 8 := by omega
      rw [c9, y5, r6 8 (by decide) (by decide) (by decide)]
  · have := z (60 + i) (by omega) (by omega) (by omega)
    rw [rr_K, rr_K] at this
    rw [this, r7 i hi]
end R25
