/-! Level 2: the class: room, adding, making anew -/
/-- a row with one kept more -/
def ad0 (ρ : Nat → Int) (X : Nat → Int) : Nat → Int := fun j => if 60 + 16 * (ρ 5).toNat ≤ j ∧ j < 60 + 16 * (ρ 5).toNat + 16 then (if j = 60 + 16 * (ρ 5).toNat + 14 then ρ 7 else X (j - (60 + 16 * (ρ 5).toNat))) else if j = 5 then ρ 5 + 1 else ρ j
def bitC (v : Int) : Int := match Itg_bitCount v (0, 0, fun _ => (0, 0), fun _ _ => 0, fun _ _ => 0) with | some (x, _) => x | none => 0
theorem bitC_e (v : Int) (h : AH) : Itg_bitCount v h = some (bitC v, h) := rfl
theorem bitC_b : ∀ s : Nat, s < 256 → bitC (s : Int) = bitE (s : Int) 16 := by decide +kernel
section C13
variable {h : AH} {ρ σ : Nat → Int} {a : Nat}
theorem add_0 (ρ X : Nat → Int) (mk : Int) : addRow ρ X mk = u1 (ad0 ρ X) 6 (wr (ρ 6 + mk)) := by
  funext j
  unfold addRow u1 ad0
  by_cases c : 60 + 16 * (ρ 5).toNat ≤ j ∧ j < 60 + 16 * (ρ 5).toNat + 16
  · rw [if_pos c, if_neg (show ¬ j = 6 by omega)]
    exact (if_pos c).symm
  · rw [if_neg c, if_neg c]
    by_cases d : j = 5
    · rw [if_pos d, if_neg (by omega), if_pos d]
    · rw [if_neg d, if_neg d]
theorem rows1_60 (b : RB ρ) (e : ∀ j, 8 ≤ j → j < 60 → σ j = ρ j) (π : Nat → Int) {t : Int} (ht : t = 0 ∨ t = 1) : rows1 π (numr σ) t (ρ (if t = 0 then 2 else 3)).toNat = rows1 π (numr ρ) t (ρ (if t = 0 then 2 else 3)).toNat := by
  unfold rows1
  refine cntR_c (fun r _ hr => inF_60 b e π ht (by omega) (by omega))
theorem makeF_60 (b : RB ρ) (e : ∀ j, 8 ≤ j → j < 60 → σ j = ρ j) (π : Nat → Int) : makeF π (numr σ) (ρ 2).toNat (ρ 3).toNat = makeF π (numr ρ) (ρ 2).toNat (ρ 3).toNat := by
  unfold makeF
  have h1 := rows1_60 b e π (t := 0) (Or.inl rfl)
  have h2 := rows1_60 b e π (t := 1) (Or.inr rfl)
  rw [if_pos rfl] at h1
  rw [if_neg (by decide)] at h2
  rw [h1, h2]
theorem ST.sp (s : ST h a ρ) : hR h a 1 = a + 2 := s.1.2.2.1
theorem ST.lacks (s : ST h a ρ) {R : Int} (h0 : 0 ≤ R) (h1 : R ≤ 1000) : Sta_lacksRoom a R h = some (bi (lck ρ R), h) := by
  have b5 := s.2.2.n5
  have e5 := s.2.1.2.2.2.2.2.1
  have e1 := s.2.1.2.1
  have r1 := rsm_b (fun k hk => (s.2.2.k hk).2.1) (ρ 5).toNat (by omega)
  unfold Sta_lacksRoom lck
  rw [gR_k s.1.1, s.sp, gI_k s.sh.1, e5, gR_k s.1.1, s.sp, rc_k s.sh.1, s.rowsAll, bnd_some, gI_k s.1.1, e1, wr_id (by omega) (by omega)]
  by_cases c : 6 ≤ ρ 5
  · rw [if_pos c, decide_eq_true (show ρ 5 = 6 by omega), Bool.or_true]; rfl
  · rw [if_neg c, decide_eq_false (show ¬ ρ 5 = 6 by omega), Bool.or_false]
    by_cases d : rsm ρ (ρ 5).toNat + R ≤ ρ 1
    · rw [if_pos d, bi_n (by omega)]
    · rw [if_neg d, bi_d (by omega)]
theorem ST.room_L {R : Int} (h0 : 0 ≤ R) (h1 : R ≤ 1000) : ∀ (n : Nat) (ρ : Nat → Int) (h : AH) (c : Nat) (F : Nat), ST h a ρ → ρ 5 ≤ n → R ≤ ρ 1 → n < F → c + n = 6 → ∃ H, Sta_makeRoom_L2 F a R (c : Int) h = some ((c : Int) + (mkr R n ρ).2, H) ∧ FR h H a (a + 26) ∧ ST H a (mkr R n ρ).1 ∧ (mkr R n ρ).1 5 < 6 ∧ ∀ j, j < 60 → j ≠ 5 → (mkr R n ρ).1 j = ρ j
  | 0, ρ, h, c, F, s, h5, hR1, hF, hc => by
    have b5 := s.2.2.n5
    obtain ⟨F, rfl⟩ : ∃ j, F = j + 1 := ⟨F - 1, by omega⟩
    refine ⟨h, ?_, FR.refl _ _ _, by rw [mkr]; exact s, by rw [mkr]; show ρ 5 < 6; omega, fun j _ _ => by rw [mkr]⟩
    rw [Sta_makeRoom_L2, if_pos (by omega), mkr]; simp
  | n + 1, ρ, h, c, F, s, h5, hR1, hF, hc => by
    have b5 := s.2.2.n5
    obtain ⟨F, rfl⟩ : ∃ j, F = j + 1 := ⟨F - 1, by omega⟩
    rw [mkr]
    cases el : lck ρ R
    · rw [if_neg (by decide)]
      have n6 : ρ 5 ≠ 6 := fun e => by unfold lck at el; rw [decide_eq_true e, Bool.or_true] at el; exact absurd el (by decide)
      refine ⟨h, ?_, FR.refl _ _ _, s, by show ρ 5 < 6; omega, fun j _ _ => rfl⟩
      rw [Sta_makeRoom_L2, if_neg (by omega), rc_k s.1.1, s.lacks h0 h1, el, bnd_some, if_pos (show bi false = 0 from rfl)]; simp
    · rw [if_pos rfl]
      have p5 : 0 < ρ 5 := by
        unfold lck at el
        simp only [Bool.or_eq_true, decide_eq_true_eq] at el
        by_cases z : ρ 5 = 0
        · rw [z, show rsm ρ (0 : Int).toNat = 0 from rfl] at el; omega
        · omega
      have lb := lu_b ρ (ρ 5).toNat (by omega)
      obtain ⟨H, x1, x2, x3⟩ := s.fg (k := lu ρ (ρ 5).toNat) (by omega)
      obtain ⟨H', y1, y2, y3, y4, y5⟩ := ST.room_L h0 h1 n _ H (c + 1) F x3 (by rw [fg_5]; omega) (by rw [fg_s (by decide) (by decide)]; exact hR1) (by omega) (by omega)
      refine ⟨H', ?_, x2.trans y2, y3, y4, fun j q1 q2 => by rw [y5 j q1 q2, fg_s q1 q2]⟩
      rw [Sta_makeRoom_L2, if_neg (by omega), rc_k s.1.1, s.lacks h0 h1, el, bnd_some, if_neg (by decide), gR_k s.1.1, s.sp, gR_k s.1.1, s.sp, rc_k s.sh.1, s.least, bnd_some, rc_k s.sh.1, x1, bnd_some, wr_id (z := (c : Int) + 1) (by omega) (by omega), show (c : Int) + 1 = ((c + 1 : Nat) : Int) by omega, y1]
      congr 2
      show ((c + 1 : Nat) : Int) + (mkr R n (fgRow ρ (lu ρ (ρ 5).toNat))).2 = (c : Int) + ((mkr R n (fgRow ρ (lu ρ (ρ 5).toNat))).2 + 1)
      omega
theorem ST.room (s : ST h a ρ) {R : Int} (h0 : 0 ≤ R) (h1 : R ≤ 1000) (hR1 : R ≤ ρ 1) : ∃ H, Sta_makeRoom a R h = some ((mkr R 6 ρ).2, H) ∧ FR h H a (a + 26) ∧ ST H a (mkr R 6 ρ).1 ∧ (mkr R 6 ρ).1 5 < 6 ∧ ∀ j, j < 60 → j ≠ 5 → (mkr R 6 ρ).1 j = ρ j := by
  have b5 := s.2.2.n5
  obtain ⟨H, x1, x2⟩ := ST.room_L h0 h1 6 ρ h 0 FU s (by omega) hR1 (by decide) rfl
  rw [show ((0 : Nat) : Int) = 0 from rfl, Int.zero_add] at x1
  exact ⟨H, x1, x2⟩
theorem RB_ad (b : RB ρ) (h5 : ρ 5 < 6) {X : Nat → Int} (ok : okP X) (h13 : 0 ≤ X 13 ∧ X 13 ≤ 1000) (h15 : X 15 = 0) : RB (ad0 ρ X) := by
  obtain ⟨b0, b1, b2, b3, b4, b5, b6, b7, b8⟩ := b
  have z : ∀ j, j < 60 → j ≠ 5 → ad0 ρ X j = ρ j := fun j h1 h2 => by unfold ad0; rw [if_neg (by omega), if_neg h2]
  have z5 : ad0 ρ X 5 = ρ 5 + 1 := by unfold ad0; rw [if_neg (by omega), if_pos rfl]
  unfold RB
  rw [z 0 (by decide) (by decide), z 1 (by decide) (by decide), z 2 (by decide) (by decide), z 3 (by decide) (by decide), z 4 (by decide) (by decide), z5]
  refine ⟨b0, b1, b2, b3, b4, by omega, fun j hj => by rw [z _ (by omega) (by omega)]; exact b6 j hj, fun j hj => by rw [z _ (by omega) (by omega)]; exact b7 j hj, fun k hk => ?_⟩
  by_cases c : (k : Int) < ρ 5
  · have zk : ∀ u, u < 16 → kp (ad0 ρ X) k u = kp ρ k u := fun u hu => by unfold kp ad0; rw [if_neg (by omega), if_neg (by omega)]
    rw [zk 13 (by decide), zk 15 (by decide)]
    exact ⟨okP_3 (zk 0 (by decide)).symm (zk 1 (by decide)).symm (zk 2 (by decide)).symm (b8 k c).1, (b8 k c).2⟩
  · have zk : ∀ u, u < 16 → u ≠ 14 → kp (ad0 ρ X) k u = X u := fun u hu h14 => by
      unfold kp ad0; rw [if_pos (by omega), if_neg (by omega)]; congr 1; omega
    rw [zk 13 (by decide) (by decide), zk 15 (by decide) (by decide)]
    exact ⟨okP_3 (zk 0 (by decide) (by decide)).symm (zk 1 (by decide) (by decide)).symm (zk 2 (by decide) (by decide)).symm ok, h13, Or.inl h15⟩
/-- one is kept more -/
theorem ST.add (s : ST h a ρ) (h5 : ρ 5 < 6) {p : Nat} (p1 : PA h p) (hp : p + 2 ≤ a ∨ a + 26 ≤ p) (ok : okP (hI h (p + 1))) {X : Nat → Int} (eX : eq13 X (hI h (p + 1))) (h13 : 0 ≤ X 13 ∧ X 13 ≤ 1000) (h15 : X 15 = 0) : ∃ H, She_add (a + 2) p (X 13) (ρ 7) h = some ((), H) ∧ FR h H a (a + 26) ∧ ST H a (ad0 ρ X) := by
  have b5 := s.2.2.n5
  have b2 := s.2.2.2.2.1
  have b3 := s.2.2.2.2.2.1
  obtain ⟨N, hn⟩ : ∃ n : Nat, ρ 5 = (n : Int) := ⟨(ρ 5).toNat, by omega⟩
  obtain ⟨sb, ⟨e0, e1, e2, e3, e4, e5, e6, e7, eR, eS, eK⟩, b⟩ := id s
  obtain ⟨f', x1, x2, x3, x4, x5⟩ := She_add_e (f := hI h) s.sh (N := N) (by omega) (by decide) (by rw [e5, hn]) p1 (by omega) (X 13) (ρ 7)
  rw [WI_id] at x1
  have n2 : ∀ x, ¬ (a + 2 ≤ x ∧ x < a + 22) → f' x = hI h x := fun x hx => x2 x (by omega)
  have z : ∀ j, j < 60 → j ≠ 5 → ad0 ρ X j = ρ j := fun j h1 h2 => by unfold ad0; rw [if_neg (by omega), if_neg h2]
  have z5 : ad0 ρ X 5 = ρ 5 + 1 := by unfold ad0; rw [if_neg (by omega), if_pos rfl]
  have rb := RB_ad b h5 (okP_3 (eX 0 (by decide)).symm (eX 1 (by decide)).symm (eX 2 (by decide)).symm ok) h13 h15
  refine ⟨_, x1, FR_IN (fun x hx => n2 x (by omega)), SB_to sb (fun _ _ _ => rfl) (fun _ _ _ => rfl) (fun j _ => by rw [hI_WI, n2 _ (by omega)]) (fun j _ => by rw [hI_WI, n2 _ (by omega)]), ?_, rb⟩
  unfold ER
  rw [hI_WI, n2 a (by omega), n2 (a + 22) (by omega), n2 (a + 24) (by omega), n2 (a + 23) (by omega), n2 (a + 25) (by omega), z 0 (by decide) (by decide), z 1 (by decide) (by decide), z 2 (by decide) (by decide), z 3 (by decide) (by decide), z 4 (by decide) (by decide), z5, z 6 (by decide) (by decide), z 7 (by decide) (by decide)]
  refine ⟨e0, e1, e2, e3, e4, by rw [x3]; omega, e6, e7, fun j hj => by rw [z _ (by omega) (by omega)]; exact eR j hj, fun j hj => by rw [z _ (by omega) (by omega)]; exact eS j hj, fun i hi t ht => ?_⟩
  by_cases c : i < N
  · rw [x4 i c, WI_id, s.kk (by omega) ht]
    unfold kp ad0
    rw [if_neg (by omega), if_neg (by omega)]
  · have ei : i = N := by omega
    rw [ei, x5 t ht]
    unfold kp ad0
    rw [if_pos (show 60 + 16 * (ρ 5).toNat ≤ 60 + (16 * N + t) ∧ 60 + (16 * N + t) < 60 + 16 * (ρ 5).toNat + 16 by omega), show 60 + (16 * N + t) - (60 + 16 * (ρ 5).toNat) = t by omega]
    by_cases c1 : t < 13
    · rw [if_pos c1, if_neg (by omega), eX t c1]
    · rw [if_neg c1]
      have : t = 13 ∨ t = 14 ∨ t = 15 := by omega
      rcases this with rfl | rfl | rfl
      · rw [if_pos rfl, if_neg (by omega)]
      · rw [if_neg (by decide), if_pos rfl, if_pos (by omega)]
      · rw [if_neg (by decide), if_neg (by decide), if_neg (by omega), h15]
theorem RB_k13 (b : RB ρ) {i : Nat} {v : Int} (hv : 0 ≤ v ∧ v ≤ 1000) : RB (u1 ρ (60 + (16 * i + (12 + 1))) v) := by
  obtain ⟨b0, b1, b2, b3, b4, b5, b6, b7, b8⟩ := b
  have z : ∀ j, j ≠ 60 + (16 * i + (12 + 1)) → u1 ρ (60 + (16 * i + (12 + 1))) v j = ρ j := fun j hj => if_neg hj
  unfold RB
  rw [z 0 (by omega), z 1 (by omega), z 2 (by omega), z 3 (by omega), z 4 (by omega), z 5 (by omega)]
  refine ⟨b0, b1, b2, b3, b4, b5, fun j hj => by rw [z _ (by omega)]; exact b6 j hj, fun j hj => by rw [z _ (by omega)]; exact b7 j hj, fun k hk => ?_⟩
  have zk : ∀ u, u < 16 → u ≠ 13 → kp (u1 ρ (60 + (16 * i + (12 + 1))) v) k u = kp ρ k u := fun u hu h13 => z _ (by omega)
  rw [zk 15 (by decide) (by decide)]
  refine ⟨okP_3 (zk 0 (by decide) (by decide)).symm (zk 1 (by decide) (by decide)).symm (zk 2 (by decide) (by decide)).symm (b8 k hk).1, ?_, (b8 k hk).2.2⟩
  unfold kp u1
  split
  · exact hv
  · exact (b8 k hk).2.1
/-- one is made anew -/
theorem ST.anew (s : ST h a ρ) {k : Nat} (hk : (k : Int) < ρ 5) : ∃ H, Sta_makeAnew a (k : Int) h = some (bi (decide (rsm ρ (ρ 5).toNat - kp ρ k 13 + (rowsF (kp ρ k) (numr ρ) (ρ 2).toNat (ρ 3).toNat : Nat) ≤ ρ 1)), H) ∧ FR h H a (a + 26) ∧ ST H a (if rsm ρ (ρ 5).toNat - kp ρ k 13 + (rowsF (kp ρ k) (numr ρ) (ρ 2).toNat (ρ 3).toNat : Nat) ≤ ρ 1 then u1 (u1 (u1 ρ (60 + (16 * k + 13)) (rowsF (kp ρ k) (numr ρ) (ρ 2).toNat (ρ 3).toNat : Nat)) (60 + (16 * k + 15)) 0) 6 (wr (ρ 6 + (makeF (kp ρ k) (numr ρ) (ρ 2).toNat (ρ 3).toNat : Nat))) else fgRow ρ k) := by
  have b5 := s.2.2.n5
  have b2 := s.2.2.2.2.1
  have b3 := s.2.2.2.2.2.1
  have e1 := s.2.1.2.1
  have r1 := rsm_b (fun k hk => (s.2.2.k hk).2.1) (ρ 5).toNat (by omega)
  have r2 := (s.2.2.k hk).2.1
  have ok := (s.2.2.k hk).1
  obtain ⟨ke, k0, k1, k2, k3, k4⟩ := s.it hk
  have rf := rowsF_b (kp ρ k) (numr ρ) (NR := (ρ 2).toNat) (NS := (ρ 3).toNat) (by omega) (by omega)
  have okh : okP (hI h (hR h (a + 2 + 1) k + 1 + 1)) := okP_3 (k4 0 (by decide)).symm (k4 1 (by decide)).symm (k4 2 (by decide)).symm ok
  have ri := s.rowsIn ke.2.2 okh
  rw [rowsF_c (show eq13 (hI h (hR h (a + 2 + 1) k + 1 + 1)) (kp ρ k) from k4)] at ri
  have eM := makeF_60 (σ := u1 (u1 ρ (60 + (16 * k + 13)) (rowsF (kp ρ k) (numr ρ) (ρ 2).toNat (ρ 3).toNat : Nat)) (60 + (16 * k + 15)) 0) s.2.2 (fun j q1 q2 => by unfold u1; rw [if_neg (by omega), if_neg (by omega)]) (kp ρ k)
  generalize hRR : rowsF (kp ρ k) (numr ρ) (ρ 2).toNat (ρ 3).toNat = R at *
  generalize hMM : makeF (kp ρ k) (numr ρ) (ρ 2).toNat (ρ 3).toNat = M at *
  have pre : ∀ {β : Type} (K : Nat → Option β), (gR h 9 a 1 fun r1 => gR h 8 r1 0 fun r2 => aR h 35 r2 (k : Int) fun r3 => if r3 = 0 then none else K r3) = K (hR h (a + 2 + 1) k) := fun K => by
    rw [gR_k s.1.1, s.sp, s.sh.g (by omega), if_neg k0]
  unfold Sta_makeAnew
  rw [pre, gR_k ke.1, ke.2.1, rc_k ke.2.2.1, ri, bnd_some, gR_k s.1.1, s.sp, rc_k s.sh.1, s.rowsAll, bnd_some, gI_k ke.1, k1, gI_k s.1.1, e1, wr_id (z := rsm ρ (ρ 5).toNat - kp ρ k 13) (by omega) (by omega), wr_id (z := rsm ρ (ρ 5).toNat - kp ρ k 13 + (R : Int)) (by omega) (by omega)]
  by_cases c : rsm ρ (ρ 5).toNat - kp ρ k 13 + (R : Int) ≤ ρ 1
  · rw [if_pos c, if_pos c, decide_eq_true c]
    have w1 := s.wk (i := k) (c := 1) hk (Or.inl rfl) (v := (R : Int)) (RB_k13 s.2.2 (by omega))
    have w2 := w1.1.wk (i := k) (c := 3) (by unfold u1; rw [if_neg (by omega)]; exact hk) (Or.inr (Or.inr rfl)) (v := 0) (RB_k15 w1.1.2.2 (Or.inl rfl))
    have w3 := w2.1.fld (c := 5) (k := 6) (by omega) (v := wr (ρ 6 + (M : Int))) (RB_67 w2.1.2.2 (Or.inl rfl) _)
    obtain ⟨st1, fr1⟩ := w1
    obtain ⟨st2, fr2⟩ := w2
    obtain ⟨st3, fr3⟩ := w3
    rw [show hR (sI h (hR h (a + 3) k) 1 (R : Int)) (a + 3) k = hR h (a + 3) k from rfl] at st2 fr2 st3 fr3
    rw [show a + 2 + 1 = a + 3 from rfl] at *
    generalize hκ : hR h (a + 3) k = κ at *
    have e3 := ke.2.2
    have kk1 : hK (sI (sI h κ 1 (R : Int)) κ 3 0) κ = (3, 0) := ke.1
    have pp : PA (sI (sI h κ 1 (R : Int)) κ 3 0) (κ + 1) := ke.2.2
    have hh : hI (sI (sI h κ 1 (R : Int)) κ 3 0) (κ + 1 + 1) = hI h (κ + 1 + 1) := by rw [hI_sIn _ _ (by omega), hI_sIn _ _ (by omega)]
    have mi := st2.makeIn pp (by rw [hh]; exact okh)
    rw [hh, makeF_c (show eq13 (hI h (κ + 1 + 1)) (kp ρ k) from k4)] at mi
    have g2 : u1 (u1 ρ (60 + (16 * k + (12 + 1))) (R : Int)) (60 + (16 * k + (12 + 3))) 0 2 = ρ 2 := by unfold u1; rw [if_neg (by omega), if_neg (by omega)]
    have g3 : u1 (u1 ρ (60 + (16 * k + (12 + 1))) (R : Int)) (60 + (16 * k + (12 + 3))) 0 3 = ρ 3 := by unfold u1; rw [if_neg (by omega), if_neg (by omega)]
    have g6 : u1 (u1 ρ (60 + (16 * k + (12 + 1))) (R : Int)) (60 + (16 * k + (12 + 3))) 0 6 = ρ 6 := by unfold u1; rw [if_neg (by omega), if_neg (by omega)]
    have e6 : hI (sI (sI h κ 1 (R : Int)) κ 3 0) a 5 = ρ 6 := by rw [st2.2.1.2.2.2.2.2.2.1, g6]
    rw [g2, g3] at mi
    rw [show (12 + 1) = 13 from rfl, show (12 + 3) = 15 from rfl] at mi st3
    rw [eM] at mi
    refine ⟨_, ?_, (fr1.trans fr2).trans fr3, st3⟩
    rw [pI_k ke.1, pZ_k (show hK (sI h κ 1 (R : Int)) κ = (3, 0) from ke.1) (Or.inl rfl), gI_k st2.1.1, e6, gR_k kk1, show hR (sI (sI h κ 1 (R : Int)) κ 3 0) κ 0 = κ + 1 from ke.2.1, rc_k pp.1, mi, bnd_some, pI_k st2.1.1]; rfl
  · rw [if_neg c, if_neg c, decide_eq_false c]
    obtain ⟨H, x1, x2, x3⟩ := s.fg hk
    refine ⟨H, ?_, x2, x3⟩
    rw [gR_k s.1.1, s.sp, rc_k s.sh.1, x1, bnd_some]; rfl
theorem RB_4 (b : RB ρ) {v : Int} (hv : 0 ≤ v ∧ v < 256) : RB (u1 ρ 4 v) := by
  obtain ⟨b0, b1, b2, b3, b4, b5, b6, b7, b8⟩ := b
  have z : ∀ j, j ≠ 4 → u1 ρ 4 v j = ρ j := fun j hj => if_neg hj
  unfold RB
  rw [z 0 (by omega), z 1 (by omega), z 2 (by omega), z 3 (by omega), show u1 ρ 4 v 4 = v from if_pos rfl, z 5 (by omega)]
  refine ⟨b0, b1, b2, b3, hv, b5, fun j hj => by rw [z _ (by omega)]; exact b6 j hj, fun j hj => by rw [z _ (by omega)]; exact b7 j hj, fun k hk => ?_⟩
  have zk : ∀ u, kp (u1 ρ 4 v) k u = kp ρ k u := fun u => z _ (by omega)
  rw [zk 13, zk 15]
  exact ⟨okP_3 (zk 0).symm (zk 1).symm (zk 2).symm (b8 k hk).1, (b8 k hk).2⟩
theorem ST.strike (s : ST h a ρ) {q : Int} (q0 : 0 ≤ q) (q8 : q < 8) : ST (sI h a 4 (iXor (ρ 4) (iShl 1 q))) a (strRow ρ q) ∧ FR h (sI h a 4 (iXor (ρ 4) (iShl 1 q))) a (a + 26) ∧ bitC (iXor (ρ 4) (iShl 1 q)) = bitE (iXor (ρ 4) (iShl 1 q)) 16 := by
  have b4 := s.2.2.2.2.2.2.1
  obtain ⟨n, hn⟩ : ∃ n : Nat, ρ 4 = (n : Int) := ⟨(ρ 4).toNat, by omega⟩
  obtain ⟨m, rfl⟩ : ∃ m : Nat, q = (m : Int) := ⟨q.toNat, by omega⟩
  have sx := stk_x n (by omega) m (by omega)
  rw [← hn] at sx
  have w := s.fld (c := 4) (k := 4) (by omega) (RB_4 s.2.2 sx)
  refine ⟨w.1, w.2, ?_⟩
  generalize iXor (ρ 4) (iShl 1 (m : Int)) = x at *
  obtain ⟨y, rfl⟩ : ∃ y : Nat, x = (y : Int) := ⟨x.toNat, by omega⟩
  exact bitC_b y (by omega)
end C13
