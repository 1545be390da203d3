/-! Level 2: the class: a run uses what serves -/
/-- kept ones, their times blank -/
def blk (T : Nat → Nat → Int) : Nat → Nat → Int := fun k t => if t = 14 then 0 else T k t
theorem bfs_k (T : Nat → Nat → Int) (π : Nat → Int) : ∀ n : Nat, bfs (blk T) π n = bfs T π n
  | 0 => rfl
  | n + 1 => by
    have e : holdF (blk T n) π = holdF (T n) π := holdF_c (fun j hj => if_neg (by omega)) (fun _ _ => rfl)
    rw [bfs, bfs, bfs_k T π n, e]
    rfl
theorem svr_k (T : Nat → Nat → Int) (π : Nat → Int) (n : Nat) (mk : Int) : svr (blk T) π n mk = svr T π n mk := by
  unfold svr; rw [bfs_k]; rfl
theorem cst_k (T : Nat → Nat → Int) (π : Nat → Int) (n : Nat) (mk : Int) : cst (blk T) π n mk = cst T π n mk := by
  unfold cst; rw [svr_k]; rfl
theorem apt_k (T : Nat → Nat → Int) (n : Nat) (P : Int → Nat → Int) (mk : Int → Int) (pr : Int) : apt (blk T) n P mk pr = apt T n P mk pr := by
  unfold apt; rw [cst_k, cst_k]
theorem jby_k (T : Nat → Nat → Int) (n : Nat) (P : Int → Nat → Int) (mk : Int → Int) (pr : Int) : jby (blk T) n P mk pr = jby T n P mk pr := by
  unfold jby; rw [bfs_k, apt_k]; rfl
theorem cNow_k (T : Nat → Nat → Int) (n : Nat) (P : Int → Nat → Int) (vd : Bool) (src : Int) (mk : Int → Int) (pr : Int) : cNow (blk T) n P vd src mk pr = cNow T n P vd src mk pr := by
  unfold cNow; rw [jby_k, apt_k, cst_k]; rfl
theorem sby_k (T : Nat → Nat → Int) (n : Nat) (P : Int → Nat → Int) (vd : Bool) (src : Int) (mk : Int → Int) (pr k : Int) : sby (blk T) n P vd src mk pr k = sby T n P vd src mk pr k := by
  unfold sby; rw [jby_k, svr_k]
section C14
variable {h g : AH} {f : Nat → Nat → Int} {ρ : Nat → Int} {a : Nat} {tm : Int}
theorem cH_k (b : MB g) {T T' : Nat → Nat → Int} {n q : Nat} (e : ∀ k, k < n → ∀ t, t < 16 → t ≠ 14 → T k t = T' k t) (hq : (q : Int) < hI g 401 10) : cH g T n q = cH g T' n q := by
  have x : cH g (blk T) n q = cH g (blk T') n q := cH_cc b (fun k hk t ht => by
    unfold blk; split
    · rfl
    · rename_i c; exact e k hk t ht c) hq
  unfold cH at *
  rwa [cNow_k, cNow_k] at x
theorem sH_k {T T' : Nat → Nat → Int} {n q : Nat} (e : ∀ k, k < n → ∀ t, t < 16 → t ≠ 14 → T k t = T' k t) {k : Int} (hk : k = 0 ∨ k = 1 ∨ k = 2) : sH g T n q k = sH g T' n q k := by
  have x : sH g (blk T) n q k = sH g (blk T') n q k := by
    unfold sH
    exact sby_cc (fun _ _ => rfl) (fun _ _ => rfl) (fun _ _ => rfl) (fun k hk t ht => by
      unfold blk; split
      · rfl
      · rename_i c; exact e k hk t ht c) rfl rfl _ _ _ hk
  unfold sH at *
  rwa [sby_k, sby_k] at x
theorem us1_n {ρ : Nat → Int} {tm s : Int} {j : Nat} (hj : j < 60 ∨ (j - 60) % 16 ≠ 14) : us1 ρ tm s j = ρ j := by
  unfold us1; split
  · rfl
  · exact if_neg (by omega)
theorem us1_6 (ρ : Nat → Int) (tm s v : Int) : us1 (u1 ρ 6 v) tm s = u1 (us1 ρ tm s) 6 v := by
  unfold us1
  by_cases c : s = -1
  · rw [if_pos c, if_pos c]
  · rw [if_neg c, if_neg c]
    funext j
    unfold u1
    by_cases d : j = 60 + (16 * s.toNat + 14)
    · rw [if_pos d, if_neg (by omega), if_pos d]
    · rw [if_neg d, if_neg d]
theorem usq_6 (ρ : Nat → Int) (tm v : Int) (on : Bool) (S : Int → Int) : usq (u1 ρ 6 v) tm on S = u1 (usq ρ tm on S) 6 v := by
  unfold usq
  cases on
  · rfl
  · rw [if_pos rfl, if_pos rfl, us1_6, us1_6, us1_6]
theorem usR_6 (on : Nat → Bool) (S : Nat → Int → Int) (tm v : Int) : ∀ (n q : Nat) (ρ : Nat → Int), usR on S tm n q (u1 ρ 6 v) = u1 (usR on S tm n q ρ) 6 v
  | 0, q, ρ => rfl
  | n + 1, q, ρ => by rw [usR, usR, usq_6, usR_6 on S tm v n]
theorem useServing_s (ps : PS h) (ha : a + 26 ≤ 75) (st : ST (WI h f) a ρ) {k : Nat} (hk : k < 3) {S : Int} (hv : f 78 k = n2 S) (hb : S = -1 ∨ (0 ≤ S ∧ S < ρ 5)) (n : Nat) : ∃ f', Pri_useServing_L2 (n + 1) 75 (a + 2) tm (k : Int) (WI h f) = Pri_useServing_L2 n 75 (a + 2) tm ((k + 1 : Nat) : Int) (WI h f') ∧ IN f f' a (a + 26) ∧ ST (WI h f') a (us1 ρ tm S) := by
  obtain ⟨ps1, ps2, ps3, ps4, ps5, ps6, ps7, ps8⟩ := ps
  have b5 := st.2.2.n5
  have e5 : hI (WI h f) (a + 2) 1 = ρ 5 := st.2.1.2.2.2.2.2.1
  have k75 : hK (WI h f) 75 = (5, 0) := ps1
  have k78 : hK (WI h f) 78 = (21, 3) := ps8
  rw [Pri_useServing_L2, if_neg (by omega), gR_k k75, show hR (WI h f) 75 3 = 78 from ps5, aI_k k78 (by omega) (by omega), tN (k : Int) k rfl, hI_WI, hv, wr_id (z := (k : Int) + 1) (by omega) (by omega), show (k : Int) + 1 = ((k + 1 : Nat) : Int) by omega]
  unfold us1
  by_cases c : S = -1
  · rw [if_pos c]
    unfold n2
    rw [if_pos c, if_pos (by decide)]
    exact ⟨f, rfl, IN.refl _ _ _, st⟩
  · rw [if_neg c]
    unfold n2 at hv ⊢
    rw [if_neg c] at hv ⊢
    obtain ⟨i, rfl⟩ : ∃ i : Nat, S = (i : Int) := ⟨S.toNat, by omega⟩
    have hi : (i : Int) < ρ 5 := by omega
    have ki := (st.it hi).1.1
    have w := st.wk (i := i) (c := 2) hi (Or.inr (Or.inl rfl)) (v := tm) (RB_of st.2.2 (fun j h1 h2 h3 h4 => by unfold u1; rw [if_neg (by omega)]))
    rw [if_neg (by omega), gR_k k75, show hR (WI h f) 75 3 = 78 from ps5, aI_k k78 (by omega) (by omega), tN (k : Int) k rfl, hI_WI, hv, gI_k st.sh.1, e5, if_neg (by omega), gR_k st.sh.1, st.sh.2.1, gR_k k75, show hR (WI h f) 75 3 = 78 from ps5, aI_k k78 (by omega) (by omega), tN (k : Int) k rfl, hI_WI, hv, aR_k st.sh.2.2.1 (by omega) (by omega), tN (i : Int) i rfl, pI_k ki, WI_sI]
    refine ⟨_, rfl, fun x hx => ?_, w.1⟩
    exact (w.2.2.2.2 x hx).1
theorem Pri_useServing_e (ps : PS h) (ha : a + 26 ≤ 75) (st : ST (WI h f) a ρ) {S : Int → Int} (hv : ∀ k : Nat, k < 3 → f 78 k = n2 (S k)) (hb : ∀ k, S k = -1 ∨ (0 ≤ S k ∧ S k < ρ 5)) : ∃ f', Pri_useServing 75 (a + 2) tm (WI h f) = some ((), WI h f') ∧ IN f f' a (a + 26) ∧ ST (WI h f') a (us1 (us1 (us1 ρ tm (S 0)) tm (S 1)) tm (S 2)) := by
  obtain ⟨f1, x1, i1, s1⟩ := useServing_s (tm := tm) ps ha st (k := 0) (by decide) (S := S 0) (hv 0 (by decide)) (hb 0) 999999
  obtain ⟨f2, x2, i2, s2⟩ := useServing_s (tm := tm) ps ha s1 (k := 1) (by decide) (S := S 1) (by rw [i1 78 (by omega)]; exact hv 1 (by decide)) (by rw [us1_n (Or.inl (by decide))]; exact hb 1) 999998
  obtain ⟨f3, x3, i3, s3⟩ := useServing_s (tm := tm) ps ha s2 (k := 2) (by decide) (S := S 2) (by rw [i2 78 (by omega), i1 78 (by omega)]; exact hv 2 (by decide)) (by rw [us1_n (Or.inl (by decide)), us1_n (Or.inl (by decide))]; exact hb 2) 999997
  refine ⟨f3, ?_, (i1.trans i2).trans i3, s3⟩
  unfold Pri_useServing
  rw [show FU = 999999 + 1 from rfl, show (0 : Int) = ((0 : Nat) : Int) from rfl, x1, show 999999 = 999998 + 1 from rfl, x2, show 999998 = 999997 + 1 from rfl, x3, show 999997 = 999996 + 1 from rfl, Pri_useServing_L2, if_pos (by decide)]
theorem Pri_batchUsing_e (ps : PS h) (cq : CQ (WI h f) g) (b : MB g) (rb : RB (rr (hI g))) (lk : LK f g) (st : ST (WI h f) a ρ) (ha : a + 26 ≤ 75) (e5 : ρ 5 = hI g 402 5) (kk : ∀ i, i < nK g → ∀ t, t < 16 → t ≠ 14 → kp ρ i t = kT g i t) : ∃ f', Pri_batchUsing 75 (a + 2) tm (WI h f) = some (bH g (kT g) (nK g), WI h f') ∧ (∀ x, ¬ (a ≤ x ∧ x < a + 26) → x ≠ 78 → f' x = f x) ∧ ST (WI h f') a (usR (onH g) (sH g (kT g) (nK g)) tm (nQ g) 0 ρ) := by
  have b3 := b.2.2.1
  have ps1 := ps.1
  have b5 := rb.n5
  rw [rr_s _ (by decide)] at b5
  have tbT := rb.tb
  have L : ∀ (n q : Nat), (q : Int) + n = hI g 401 10 → ∀ (fuel : Nat) (f1 : Nat → Nat → Int) (ρ1 : Nat → Int), n < fuel → (∀ x, ¬ (a ≤ x ∧ x < a + 26) → x ≠ 78 → f1 x = f x) → ST (WI h f1) a ρ1 → ρ1 5 = hI g 402 5 → (∀ i, i < nK g → ∀ t, t < 16 → t ≠ 14 → kp ρ1 i t = kT g i t) → ∃ f', Pri_batchUsing_L5 fuel 75 (a + 2) tm (bsum (onH g) (cH g (kT g) (nK g)) q) (q : Int) (WI h f1) = some (bH g (kT g) (nK g), WI h f') ∧ (∀ x, ¬ (a ≤ x ∧ x < a + 26) → x ≠ 78 → f' x = f x) ∧ ST (WI h f') a (usR (onH g) (sH g (kT g) (nK g)) tm n q ρ1) := by
    intro n
    induction n with
    | zero =>
      intro q hq fuel f1 ρ1 hf fr s1 e51 kk1
      obtain ⟨fuel, rfl⟩ : ∃ j, fuel = j + 1 := ⟨fuel - 1, by omega⟩
      refine ⟨f1, ?_, fr, s1⟩
      rw [Pri_batchUsing_L5, gI_k (h := WI h f1) ps1, hI_WI, fr 75 (by omega) (by decide), lk.1, if_pos (by omega)]
      unfold bH nQ
      rw [show (hI g 401 10).toNat = q by omega]
    | succ n ih =>
      intro q hq fuel f1 ρ1 hf fr s1 e51 kk1
      obtain ⟨fuel, rfl⟩ : ∃ j, fuel = j + 1 := ⟨fuel - 1, by omega⟩
      have sb := bH_b2 b tbT q (by omega)
      have cb := cH_b b tbT (q := q) (by omega)
      have ih := ih (q + 1) (by omega) fuel
      rw [bsum] at ih
      have eo : onH g q = (!rVd g q && !hasB (hI g 402 4) q) := rfl
      rw [Pri_batchUsing_L5, gI_k (h := WI h f1) ps1, hI_WI, fr 75 (by omega) (by decide), lk.1, if_neg (by omega), gI_k (h := WI h f1) ps1, hI_WI, fr 75 (by omega) (by decide), lk.2.1, stk rb (by omega), ite_nbi, wr_id (z := (q : Int) + 1) (by omega) (by omega), show (q : Int) + 1 = ((q + 1 : Nat) : Int) by omega, usR]
      cases hs : hasB (hI g 402 4) q
      · have cq1 : CQ (WI h f1) g := CQ_to cq rfl (fun _ _ => rfl) (fun x h1 h2 => fr x (by omega) (by omega)) b
        have lk1 : LK f1 g := by
          obtain ⟨l1, l2, l3, l4, l5⟩ := lk
          exact ⟨by rw [fr 75 (by omega) (by decide)]; exact l1, by rw [fr 75 (by omega) (by decide)]; exact l2, by rw [fr 76 (by omega) (by decide)]; exact l3, by rw [fr 76 (by omega) (by decide)]; exact l4, fun q h1 h2 h3 => by rw [fr 77 (by omega) (by decide)]; exact l5 q h1 h2 h3⟩
        have n5 : f1 (a + 2) 1 = hI g 402 5 := by rw [← e51]; exact s1.2.1.2.2.2.2.2.1
        have kT1 : ∀ i, i < nK g → ∀ t, t < 16 → t ≠ 14 → kv (WI h f1) (a + 2) i t = kT g i t := fun i hi t ht h14 => by
          rw [s1.kk (by rw [e51]; unfold nK at hi; omega) ht]; exact kk1 i hi t ht h14
        have nk : (f1 (a + 2) 1).toNat = nK g := by rw [n5]; rfl
        have px : PX h f1 g (a + 2) 6 := ⟨ps, cq1, b, lk1, s1.sh, by omega, by decide, by omega, fun i hi => by
          rw [nk] at hi
          rw [kT1 i hi 13 (by decide) (by decide)]; exact tbT i hi⟩
        obtain ⟨v, x1, x2⟩ := Pri_costBy_e px (q := q) (by omega)
        rw [nk, cH_k b kT1 (by omega)] at x1
        rw [nk] at x2
        have s2 : ST (WI h (s78 f1 v)) a ρ1 := ST_to s1 (fun _ _ _ => rfl) (fun _ _ _ => rfl) (fun x h1 h2 => s78_n _ _ (by omega))
        obtain ⟨f2, y1, y2, y3⟩ := Pri_useServing_e (tm := tm) ps ha s2 (S := sH g (kT g) (nK g) q) (fun k hk => by
          rw [← sH_k kT1 (k := (k : Int)) (by omega), ← x2 k hk]; rfl) (fun k => by
          rw [e51]
          have := sby_b (kT g) (nK g) (qp g q) (rVd g q) (hI g 408 q) (MK g q) (RW g q 0 * RW g q 1) k
          unfold sH
          unfold nK at this ⊢
          omega)
        have fr2 : ∀ x, ¬ (a ≤ x ∧ x < a + 26) → x ≠ 78 → f2 x = f x := fun x h1 h2 => by rw [y2 x h1, s78_n _ _ h2, fr x h1 h2]
        have eu : usq ρ1 tm (onH g q) (sH g (kT g) (nK g) q) = us1 (us1 (us1 ρ1 tm (sH g (kT g) (nK g) q 0)) tm (sH g (kT g) (nK g) q 1)) tm (sH g (kT g) (nK g) q 2) := by
          unfold usq
          rw [eo, hs]
          cases vd : rVd g q
          · rfl
          · have z : ∀ k, sH g (kT g) (nK g) q k = -1 := fun k => by unfold sH sby; rw [vd]; rfl
            rw [z, z, z]
            unfold us1
            rfl
        rw [if_neg (by decide), rc_k (h := WI h f1) ps1, x1, bnd_some, rc_k (h := WI h (s78 f1 v)) ps1, y1, bnd_some, wr_id (by omega) (by omega), eu]
        obtain ⟨f', e6, e7, e8⟩ := ih f2 _ (by omega) fr2 y3 (by rw [us1_n (Or.inl (by decide)), us1_n (Or.inl (by decide)), us1_n (Or.inl (by decide))]; exact e51) (fun i hi t ht h14 => by
          rw [← kk1 i hi t ht h14]
          unfold kp
          rw [us1_n (Or.inr (by omega)), us1_n (Or.inr (by omega)), us1_n (Or.inr (by omega))])
        refine ⟨f', ?_, e7, e8⟩
        rw [eo, hs] at e6
        cases vd : rVd g q
        · rw [vd, if_pos (show (!false && !false) = true from rfl)] at e6; exact e6
        · have z : cH g (kT g) (nK g) q = 0 := by unfold cH cNow; rw [vd]; rfl
          rw [vd, if_neg (show ¬ (!true && !false) = true by decide)] at e6
          rw [z]; exact e6
      · have eu : usq ρ1 tm (onH g q) (sH g (kT g) (nK g) q) = ρ1 := by
          unfold usq; rw [eo, hs, Bool.not_true, Bool.and_false, if_neg (by decide)]
        obtain ⟨f', e6, e7, e8⟩ := ih f1 ρ1 (by omega) fr s1 e51 kk1
        rw [eo, hs, Bool.not_true, Bool.and_false, if_neg (by decide), Int.add_zero] at e6
        rw [if_pos rfl, eu]
        exact ⟨f', e6, e7, e8⟩
  obtain ⟨f', e6, e7, e8⟩ := L (hI g 401 10).toNat 0 (by omega) FU f ρ (by have := FU_big; omega) (fun _ _ _ => rfl) st e5 kk
  exact ⟨f', e6, e7, e8⟩
end C14
