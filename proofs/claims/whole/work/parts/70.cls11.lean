/-! Level 2: the class: rows and kept ones are dropped -/
def rot (k n i : Nat) : Nat := if i + 1 = n then k else if k ≤ i ∧ i + 1 < n then i + 1 else i
section C12
variable {h : AH} {ρ σ : Nat → Int} {a : Nat}
theorem hI_cI2n (h : AH) (src sp dst dp n : Nat) {x : Nat} (hx : x ≠ dst) : hI (cI2 h src sp dst dp n) x = hI h x := by
  show (if x = dst then _ else _) = _; rw [if_neg hx]
theorem hI_cI2s (h : AH) (src sp dst dp n : Nat) : hI (cI2 h src sp dst dp n) dst = va_cpy (hI h src) (hI h dst) sp dp n := by
  show (if dst = dst then _ else _) = _; rw [if_pos rfl]
theorem Tab_drop_e {T fc w len : Nat} (t : TA h T fc w len) (hw : w < 100) (hl : len < 1000) {n r : Nat} (hn : hI h T 3 = n) (h100 : n < 100) (hr : r < n) (hf : n * w ≤ len) : Tab_drop T (r : Int) h = some ((), sI (cI2 h (T + 1) ((r + 1) * w) (T + 1) (r * w) ((n - 1 - r) * w)) T 3 (n - 1 : Nat)) := by
  obtain ⟨t1, t2, t3, t4, t5⟩ := id t
  have e1 : ((r : Int) + 1) * (w : Int) = (((r + 1) * w : Nat) : Int) := by rw [Int.natCast_mul]; rfl
  have e2 : (r : Int) * (w : Int) = ((r * w : Nat) : Int) := by rw [Int.natCast_mul]
  have e3 : ((n : Int) - 1 - r) * (w : Int) = (((n - 1 - r) * w : Nat) : Int) := by rw [Int.natCast_mul, show ((n - 1 - r : Nat) : Int) = (n : Int) - 1 - r by omega]
  have s1 : (r + 1) * w + (n - 1 - r) * w = n * w := by rw [← Nat.add_mul]; congr 1; omega
  have s2 : (r + 1) * w = r * w + w := Nat.succ_mul r w
  unfold Tab_drop
  rw [rc_k t1, Tab_hasRow_e t, bnd_some, ite_bi, decide_eq_true (show 0 ≤ (r : Int) ∧ (r : Int) < hI h T 3 by omega), if_pos rfl, gR_k t1, t4, gI_k t1, t3, gR_k t1, t4, gI_k t1, t3, gI_k t1, hn, gI_k t1, t3, wr_id (z := (r : Int) + 1) (by omega) (by omega), wr_id (z := (n : Int) - 1) (by omega) (by omega), wr_id (z := (n : Int) - 1 - r) (by omega) (by omega), e1, e2, e3]
  generalize (r + 1) * w = A at *
  generalize r * w = B at *
  generalize (n - 1 - r) * w = C at *
  generalize n * w = D at *
  have kk : hK (cI2 h (T + 1) A (T + 1) B C) T = (10, 0) := t1
  have i3 : hI (cI2 h (T + 1) A (T + 1) B C) T 3 = n := by rw [hI_cI2n _ _ _ _ _ _ (by omega)]; exact hn
  rw [wr_id (z := (A : Int)) (by omega) (by omega), wr_id (z := (B : Int)) (by omega) (by omega), wr_id (z := (C : Int)) (by omega) (by omega), cp_k t5 t5 (by omega) (by omega) (by omega) (by omega) (by omega), tN (A : Int) A rfl, tN (B : Int) B rfl, tN (C : Int) C rfl, gI_k kk, i3, pI_k kk, wr_id (by omega) (by omega), show (n : Int) - 1 = ((n - 1 : Nat) : Int) by omega]
theorem RB_drR (b : RB ρ) (h2 : 0 < ρ 2) (r : Nat) : RB (shr (u1 ρ 2 (ρ 2 - 1)) 8 3 (3 * r) (3 * (ρ 2 - 1).toNat)) := by
  obtain ⟨b0, b1, b2, b3, b4, b5, b6, b7, b8⟩ := b
  generalize hσ : shr (u1 ρ 2 (ρ 2 - 1)) 8 3 (3 * r) (3 * (ρ 2 - 1).toNat) = σ
  have zz : ∀ j, j ≠ 2 → (j < 8 ∨ 44 ≤ j) → σ j = ρ j := fun j h1 h2 => by
    rw [← hσ]; unfold shr u1; rw [if_neg (by omega), if_neg (by omega)]
  have z2 : σ 2 = ρ 2 - 1 := by rw [← hσ]; unfold shr u1; rw [if_neg (by omega), if_pos rfl]
  unfold RB
  rw [zz 0 (by omega) (by omega), zz 1 (by omega) (by omega), z2, zz 3 (by omega) (by omega), zz 4 (by omega) (by omega), zz 5 (by omega) (by omega)]
  refine ⟨b0, b1, by omega, b3, b4, b5, fun j hj => ?_, fun j hj => by rw [zz _ (by omega) (by omega)]; exact b7 j hj, fun k hk => ?_⟩
  · rw [← hσ]; unfold shr u1
    by_cases c : 3 * r ≤ j
    · rw [if_pos (by omega), if_neg (by omega)]; exact b6 (j + 3) (by omega)
    · rw [if_neg (by omega), if_neg (by omega)]; exact b6 j (by omega)
  · have zk : ∀ u, kp σ k u = kp ρ k u := fun u => zz _ (by omega) (by omega)
    rw [zk 13, zk 15]
    exact ⟨okP_3 (zk 0).symm (zk 1).symm (zk 2).symm (b8 k hk).1, (b8 k hk).2⟩
theorem RB_drS (b : RB ρ) (h2 : 0 < ρ 3) (r : Nat) : RB (shr (u1 ρ 3 (ρ 3 - 1)) 44 2 (2 * r) (2 * (ρ 3 - 1).toNat)) := by
  obtain ⟨b0, b1, b2, b3, b4, b5, b6, b7, b8⟩ := b
  generalize hσ : shr (u1 ρ 3 (ρ 3 - 1)) 44 2 (2 * r) (2 * (ρ 3 - 1).toNat) = σ
  have zz : ∀ j, j ≠ 3 → (j < 44 ∨ 60 ≤ j) → σ j = ρ j := fun j h1 h2 => by
    rw [← hσ]; unfold shr u1; rw [if_neg (by omega), if_neg (by omega)]
  have z3 : σ 3 = ρ 3 - 1 := by rw [← hσ]; unfold shr u1; rw [if_neg (by omega), if_pos rfl]
  unfold RB
  rw [zz 0 (by omega) (by omega), zz 1 (by omega) (by omega), z3, zz 2 (by omega) (by omega), zz 4 (by omega) (by omega), zz 5 (by omega) (by omega)]
  refine ⟨b0, b1, b2, by omega, b4, b5, fun j hj => by rw [zz _ (by omega) (by omega)]; exact b6 j hj, fun j hj => ?_, fun k hk => ?_⟩
  · rw [← hσ]; unfold shr u1
    by_cases c : 2 * r ≤ j
    · rw [if_pos (by omega), if_neg (by omega)]; exact b7 (j + 2) (by omega)
    · rw [if_neg (by omega), if_neg (by omega)]; exact b7 j (by omega)
  · have zk : ∀ u, kp σ k u = kp ρ k u := fun u => zz _ (by omega) (by omega)
    rw [zk 13, zk 15]
    exact ⟨okP_3 (zk 0).symm (zk 1).symm (zk 2).symm (b8 k hk).1, (b8 k hk).2⟩
theorem ST.drR (s : ST h a ρ) {r : Nat} (hr : (r : Int) < ρ 2) : ∃ H, Tab_drop (a + 22) (r : Int) h = some ((), H) ∧ FR h H a (a + 26) ∧ ST H a (shr (u1 ρ 2 (ρ 2 - 1)) 8 3 (3 * r) (3 * (ρ 2 - 1).toNat)) := by
  have b2 := s.2.2.2.2.1
  have b3 := s.2.2.2.2.2.1
  have rb := RB_drR s.2.2 (by omega) r
  obtain ⟨sb, ⟨e0, e1, e2, e3, e4, e5, e6, e7, eR, eS, eK⟩, b⟩ := id s
  obtain ⟨n, hn⟩ : ∃ n : Nat, ρ 2 = (n : Int) := ⟨(ρ 2).toNat, by omega⟩
  have ap := Tab_drop_e s.TR (by decide) (by decide) (n := n) (r := r) (by rw [e2, hn]) (by omega) (by omega) (by omega)
  generalize hσ : shr (u1 ρ 2 (ρ 2 - 1)) 8 3 (3 * r) (3 * (ρ 2 - 1).toNat) = σ at *
  have zz : ∀ j, j ≠ 2 → (j < 8 ∨ 44 ≤ j) → σ j = ρ j := fun j h1 h2 => by
    rw [← hσ]; unfold shr u1; rw [if_neg (by omega), if_neg (by omega)]
  have z2 : σ 2 = ρ 2 - 1 := by rw [← hσ]; unfold shr u1; rw [if_neg (by omega), if_pos rfl]
  generalize hF : hI (sI (cI2 h (a + 22 + 1) ((r + 1) * 3) (a + 22 + 1) (r * 3) ((n - 1 - r) * 3)) (a + 22) 3 (n - 1 : Nat)) = F
  have nn : ∀ k, k ≠ a + 22 → k ≠ a + 23 → F k = hI h k := fun k h1 h2 => by rw [← hF, hI_sIn _ _ h1, hI_cI2n _ _ _ _ _ _ (by omega)]
  have n22 : ∀ j, F (a + 22) j = if j = 3 then ((n - 1 : Nat) : Int) else hI h (a + 22) j := fun j => by
    rw [← hF, hI_sI, up2_e]
    by_cases q : j = 3
    · rw [if_pos ⟨rfl, q⟩, if_pos q]
    · rw [if_neg (by omega), if_neg q, hI_cI2n _ _ _ _ _ _ (by omega)]
  have w := s.put (f' := F) (σ := σ) (fun k hk => nn k (by omega) (by omega)) (fun k h1 h2 => nn k (by omega) (by omega)) (by rw [nn _ (by omega) (by omega), zz 0 (by omega) (by omega)]; exact e0) (by rw [nn _ (by omega) (by omega), zz 1 (by omega) (by omega)]; exact e1) (by rw [n22, if_pos rfl, z2]; omega) (by rw [nn _ (by omega) (by omega), zz 3 (by omega) (by omega)]; exact e3) (by rw [nn _ (by omega) (by omega), zz 4 (by omega) (by omega)]; exact e4) (by rw [nn _ (by omega) (by omega), zz 5 (by omega) (by omega)]; exact e5) (by rw [nn _ (by omega) (by omega), zz 6 (by omega) (by omega)]; exact e6) (by rw [nn _ (by omega) (by omega), zz 7 (by omega) (by omega)]; exact e7) (by rw [zz 5 (by omega) (by omega)]; omega) (fun j hj => by rw [n22, if_neg (by omega)]) (fun j hj => by rw [nn _ (by omega) (by omega)]) (fun j hj => ?_) (fun j hj => by rw [zz 3 (by omega) (by omega)] at hj; rw [nn _ (by omega) (by omega), zz _ (by omega) (by omega)]; exact eS j hj) (fun j hj => zz _ (by omega) (by omega)) rb
  · subst hF
    exact ⟨_, ap, w.2, w.1⟩
  · rw [z2] at hj
    rw [← hF, hI_sIn _ _ (by omega), show a + 23 = a + 22 + 1 from rfl, hI_cI2s, ← hσ]
    unfold shr u1 va_cpy
    rw [show a + 22 + 1 = a + 23 from rfl]
    by_cases c : 3 * r ≤ j
    · rw [if_pos (by omega), if_pos (by omega), if_neg (by omega), show (r + 1) * 3 + (j - r * 3) = j + 3 by omega]; exact eR (j + 3) (by omega)
    · rw [if_neg (by omega), if_neg (by omega), if_neg (by omega)]; exact eR j (by omega)
theorem ST.drS (s : ST h a ρ) {r : Nat} (hr : (r : Int) < ρ 3) : ∃ H, Tab_drop (a + 24) (r : Int) h = some ((), H) ∧ FR h H a (a + 26) ∧ ST H a (shr (u1 ρ 3 (ρ 3 - 1)) 44 2 (2 * r) (2 * (ρ 3 - 1).toNat)) := by
  have b2 := s.2.2.2.2.1
  have b3 := s.2.2.2.2.2.1
  have rb := RB_drS s.2.2 (by omega) r
  obtain ⟨sb, ⟨e0, e1, e2, e3, e4, e5, e6, e7, eR, eS, eK⟩, b⟩ := id s
  obtain ⟨n, hn⟩ : ∃ n : Nat, ρ 3 = (n : Int) := ⟨(ρ 3).toNat, by omega⟩
  have ap := Tab_drop_e s.TS (by decide) (by decide) (n := n) (r := r) (by rw [e3, hn]) (by omega) (by omega) (by omega)
  generalize hσ : shr (u1 ρ 3 (ρ 3 - 1)) 44 2 (2 * r) (2 * (ρ 3 - 1).toNat) = σ at *
  have zz : ∀ j, j ≠ 3 → (j < 44 ∨ 60 ≤ j) → σ j = ρ j := fun j h1 h2 => by
    rw [← hσ]; unfold shr u1; rw [if_neg (by omega), if_neg (by omega)]
  have z3 : σ 3 = ρ 3 - 1 := by rw [← hσ]; unfold shr u1; rw [if_neg (by omega), if_pos rfl]
  generalize hF : hI (sI (cI2 h (a + 24 + 1) ((r + 1) * 2) (a + 24 + 1) (r * 2) ((n - 1 - r) * 2)) (a + 24) 3 (n - 1 : Nat)) = F
  have nn : ∀ k, k ≠ a + 24 → k ≠ a + 25 → F k = hI h k := fun k h1 h2 => by rw [← hF, hI_sIn _ _ h1, hI_cI2n _ _ _ _ _ _ (by omega)]
  have n24 : ∀ j, F (a + 24) j = if j = 3 then ((n - 1 : Nat) : Int) else hI h (a + 24) j := fun j => by
    rw [← hF, hI_sI, up2_e]
    by_cases q : j = 3
    · rw [if_pos ⟨rfl, q⟩, if_pos q]
    · rw [if_neg (by omega), if_neg q, hI_cI2n _ _ _ _ _ _ (by omega)]
  have w := s.put (f' := F) (σ := σ) (fun k hk => nn k (by omega) (by omega)) (fun k h1 h2 => nn k (by omega) (by omega)) (by rw [nn _ (by omega) (by omega), zz 0 (by omega) (by omega)]; exact e0) (by rw [nn _ (by omega) (by omega), zz 1 (by omega) (by omega)]; exact e1) (by rw [nn _ (by omega) (by omega), zz 2 (by omega) (by omega)]; exact e2) (by rw [n24, if_pos rfl, z3]; omega) (by rw [nn _ (by omega) (by omega), zz 4 (by omega) (by omega)]; exact e4) (by rw [nn _ (by omega) (by omega), zz 5 (by omega) (by omega)]; exact e5) (by rw [nn _ (by omega) (by omega), zz 6 (by omega) (by omega)]; exact e6) (by rw [nn _ (by omega) (by omega), zz 7 (by omega) (by omega)]; exact e7) (by rw [zz 5 (by omega) (by omega)]; omega) (fun j hj => by rw [nn _ (by omega) (by omega)]) (fun j hj => by rw [n24, if_neg (by omega)]) (fun j hj => by rw [zz 2 (by omega) (by omega)] at hj; rw [nn _ (by omega) (by omega), zz _ (by omega) (by omega)]; exact eR j hj) (fun j hj => ?_) (fun j hj => zz _ (by omega) (by omega)) rb
  · subst hF
    exact ⟨_, ap, w.2, w.1⟩
  · rw [z3] at hj
    rw [← hF, hI_sIn _ _ (by omega), show a + 25 = a + 24 + 1 from rfl, hI_cI2s, ← hσ]
    unfold shr u1 va_cpy
    rw [show a + 24 + 1 = a + 25 from rfl]
    by_cases c : 2 * r ≤ j
    · rw [if_pos (by omega), if_pos (by omega), if_neg (by omega), show (r + 1) * 2 + (j - r * 2) = j + 2 by omega]; exact eS (j + 2) (by omega)
    · rw [if_neg (by omega), if_neg (by omega), if_neg (by omega)]; exact eS j (by omega)
theorem She_drop_e {s R n k : Nat} (sh : SH h s R) (hn : hI h s 1 = n) (hR1 : R < 100) (hnR : n ≤ R) (hk : k < n) : ∃ H, She_drop s (k : Int) h = some ((), H) ∧ hI H = up2 (hI h) s 1 (n - 1 : Nat) ∧ hK H = hK h ∧ hN H = hN h ∧ hS H = hS h ∧ (∀ x, x ≠ s + 1 → hR H x = hR h x) ∧ (∀ i, hR H (s + 1) i = hR h (s + 1) (rot k n i)) ∧ SH H s R := by
  have L : ∀ (m j : Nat), j + m + 1 = n → k ≤ j → ∀ (F : Nat) (H : AH), m < F → hI H = hI h → hK H = hK h → hN H = hN h → hS H = hS h → (∀ x, x ≠ s + 1 → hR H x = hR h x) → (∀ i, hR H (s + 1) i = hR h (s + 1) (if k ≤ i ∧ i < j then i + 1 else i)) → ∃ H', She_drop_L22 F s (hR h (s + 1) k) (j : Int) H = some ((), H') ∧ hI H' = up2 (hI h) s 1 (n - 1 : Nat) ∧ hK H' = hK h ∧ hN H' = hN h ∧ hS H' = hS h ∧ (∀ x, x ≠ s + 1 → hR H' x = hR h x) ∧ (∀ i, hR H' (s + 1) i = hR h (s + 1) (rot k n i)) := by
    intro m
    induction m with
    | zero =>
      intro j hj hkj F H hF i1 i2 i3 i4 i5 i6
      obtain ⟨F, rfl⟩ : ∃ j, F = j + 1 := ⟨F - 1, by omega⟩
      have k8 : hK H s = (8, 0) := by rw [i2]; exact sh.1
      have k35 : hK H (s + 1) = (35, R) := by rw [i2]; exact sh.2.2.1
      have k3 : hK H (hR h (s + 1) k) = (3, 0) := by rw [i2]; exact (sh.it (by omega)).1.1
      have r0 : hR H s 0 = s + 1 := by rw [i5 s (by omega)]; exact sh.2.1
      refine ⟨sI (sR H (s + 1) (n - 1) (hR h (s + 1) k)) s 1 (n - 1 : Nat), ?_, ?_, i2, i3, i4, fun x hx => ?_, fun i => ?_⟩
      · rw [She_drop_L22, gI_k k8, i1, hn, wr_id (by omega) (by omega), if_pos (by omega), gR_k k8, r0, gI_k k8, i1, hn, wr_id (by omega) (by omega), wR_k k35 (by omega) (by omega) k3, tN ((n : Int) - 1) (n - 1) (by omega), gI_k (show hK (sR H (s + 1) (n - 1) (hR h (s + 1) k)) s = (8, 0) from k8), show hI (sR H (s + 1) (n - 1) (hR h (s + 1) k)) = hI h from i1, hn, wr_id (by omega) (by omega), pI_k (show hK (sR H (s + 1) (n - 1) (hR h (s + 1) k)) s = (8, 0) from k8), show (n : Int) - 1 = ((n - 1 : Nat) : Int) by omega]
      · rw [hI_sI, show hI (sR H (s + 1) (n - 1) (hR h (s + 1) k)) = hI h from i1]
      · show up2 (hR H) (s + 1) (n - 1) _ x = _
        rw [up2_ne hx, i5 x hx]
      · show up2 (hR H) (s + 1) (n - 1) _ (s + 1) i = _
        rw [up2_e]
        unfold rot
        by_cases c : i = n - 1
        · rw [if_pos ⟨rfl, c⟩, if_pos (by omega)]
        · rw [if_neg (by omega), if_neg (by omega), i6]
          by_cases d : k ≤ i ∧ i < j
          · rw [if_pos d, if_pos (by omega)]
          · rw [if_neg d, if_neg (by omega)]
    | succ m ih =>
      intro j hj hkj F H hF i1 i2 i3 i4 i5 i6
      obtain ⟨F, rfl⟩ : ∃ j, F = j + 1 := ⟨F - 1, by omega⟩
      have k8 : hK H s = (8, 0) := by rw [i2]; exact sh.1
      have k35 : hK H (s + 1) = (35, R) := by rw [i2]; exact sh.2.2.1
      have k3 : hK H (hR h (s + 1) (j + 1)) = (3, 0) := by rw [i2]; exact (sh.it (by omega)).1.1
      have r0 : hR H s 0 = s + 1 := by rw [i5 s (by omega)]; exact sh.2.1
      have r1 : hR H (s + 1) (j + 1) = hR h (s + 1) (j + 1) := by rw [i6, if_neg (by omega)]
      rw [She_drop_L22, gI_k k8, i1, hn, wr_id (by omega) (by omega), if_neg (by omega), gR_k k8, r0, gR_k k8, r0, wr_id (z := (j : Int) + 1) (by omega) (by omega), aR_k k35 (by omega) (by omega), tN ((j : Int) + 1) (j + 1) (by omega), r1, wR_k k35 (by omega) (by omega) k3, tN (j : Int) j rfl, show (j : Int) + 1 = ((j + 1 : Nat) : Int) by omega]
      refine ih (j + 1) (by omega) (by omega) F _ (by omega) i1 i2 i3 i4 (fun x hx => ?_) (fun i => ?_)
      · rw [hR_sR, up2_ne hx, i5 x hx]
      · rw [hR_sR, up2_e]
        by_cases c : i = j
        · rw [if_pos ⟨rfl, c⟩, if_pos (by omega), c]
        · rw [if_neg (by omega), i6]
          by_cases d : k ≤ i ∧ i < j
          · rw [if_pos d, if_pos (by omega)]
          · rw [if_neg d, if_neg (by omega)]
  obtain ⟨H, x1, x2, x3, x4, x5, x6, x7⟩ := L (n - 1 - k) k (by omega) (by omega) FU h (by have := FU_big; omega) rfl rfl rfl rfl (fun _ _ => rfl) (fun i => by rw [if_neg (by omega)])
  have rl : ∀ i, i < R → rot k n i < R := fun i hi => by unfold rot; split <;> (try split) <;> omega
  refine ⟨H, ?_, x2, x3, x4, x5, x6, x7, by rw [x3]; exact sh.1, by rw [x6 s (by omega)]; exact sh.2.1, by rw [x3]; exact sh.2.2.1, fun j hj => ?_, fun i hi => ?_, fun i j hi hj e => ?_⟩
  · obtain ⟨ke, k1, k2⟩ := sh.it (i := k) (by omega)
    unfold She_drop
    rw [if_neg (by omega), gI_k sh.1, hn, if_pos (by omega), sh.g (by omega), if_neg (by omega), x1]
  · obtain ⟨c1, c2, c3, c4, c5⟩ := sh.2.2.2.1 j hj
    exact ⟨by rw [x3]; exact c1, by rw [x6 _ (by omega)]; exact c2, by rw [x3]; exact c3, by rw [x6 _ (by omega)]; exact c4, by rw [x3]; exact c5⟩
  · rw [x7]
    exact sh.2.2.2.2.1 _ (rl i hi)
  · rw [x7, x7] at e
    have := sh.2.2.2.2.2 _ _ (rl i hi) (rl j hj) e
    unfold rot at this
    revert this
    split <;> split <;> (try split) <;> (try split) <;> omega
/-- one is forgotten -/
theorem ST.fg (s : ST h a ρ) {k : Nat} (hk : (k : Int) < ρ 5) : ∃ H, She_drop (a + 2) (k : Int) h = some ((), H) ∧ FR h H a (a + 26) ∧ ST H a (fgRow ρ k) := by
  have b5 := s.2.2.n5
  have b2 := s.2.2.2.2.1
  have b3 := s.2.2.2.2.2.1
  obtain ⟨n, hn⟩ : ∃ n : Nat, ρ 5 = (n : Int) := ⟨(ρ 5).toNat, by omega⟩
  obtain ⟨sb, ⟨e0, e1, e2, e3, e4, e5, e6, e7, eR, eS, eK⟩, b⟩ := id s
  obtain ⟨H, x1, x2, x3, x4, x5, x6, x7, x8⟩ := She_drop_e s.sh (n := n) (k := k) (by rw [e5, hn]) (by decide) (by omega) (by omega)
  have n2 : ∀ x, x ≠ a + 2 → hI H x = hI h x := fun x hx => by rw [x2, up2_ne hx]
  obtain ⟨s1, s2, s3, s4, s5, s6, ⟨s7, s8, s9, s10, s11⟩, ⟨s12, s13, s14, s15, s16⟩, s17⟩ := sb
  refine ⟨H, x1, ⟨x4, x5, x3, fun x hx => ⟨n2 x (by omega), x6 x (by omega)⟩⟩, ⟨?_, ⟨?_, ?_, ?_, ?_, ?_, ?_, ?_, ?_, fun j hj => ?_, fun j hj => ?_, fun i hi t ht => ?_⟩, RB_fg b hk⟩⟩
  · unfold SB TA
    rw [x3, n2 (a + 22) (by omega), n2 (a + 24) (by omega), x6 a (by omega), x6 (a + 1) (by omega), x6 (a + 22) (by omega), x6 (a + 24) (by omega)]
    exact ⟨s1, s2, s3, s4, s5, s6, ⟨s7, s8, s9, s10, s11⟩, ⟨s12, s13, s14, s15, s16⟩, x8⟩
  · rw [n2 _ (by omega), fg_s (by omega) (by omega)]; exact e0
  · rw [n2 _ (by omega), fg_s (by omega) (by omega)]; exact e1
  · rw [n2 _ (by omega), fg_s (by omega) (by omega)]; exact e2
  · rw [n2 _ (by omega), fg_s (by omega) (by omega)]; exact e3
  · rw [n2 _ (by omega), fg_s (by omega) (by omega)]; exact e4
  · rw [x2, up2_e, if_pos ⟨rfl, rfl⟩, fg_5]; omega
  · rw [n2 _ (by omega), fg_s (by omega) (by omega)]; exact e6
  · rw [n2 _ (by omega), fg_s (by omega) (by omega)]; exact e7
  · rw [fg_s (by omega) (by omega)] at hj
    rw [n2 _ (by omega), fg_s (by omega) (by omega)]; exact eR j hj
  · rw [fg_s (by omega) (by omega)] at hj
    rw [n2 _ (by omega), fg_s (by omega) (by omega)]; exact eS j hj
  · rw [fg_5] at hi
    have hi' : (i : Int) < ρ 5 - 1 := by omega
    have q : kv H (a + 2) i t = kv h (a + 2) (rot k n i) t := by
      have rl : rot k n i < 6 := by unfold rot; split <;> (try split) <;> omega
      obtain ⟨-, m1, m2⟩ := s.sh.it rl
      unfold kv
      rw [x7, n2 _ (by omega), n2 _ (by omega)]
    rw [q, fg_k hi' ht]
    unfold rot
    rw [if_neg (by omega)]
    by_cases c : k ≤ i
    · rw [if_pos ⟨c, by omega⟩, if_pos c]; exact s.kk (by omega) ht
    · rw [if_neg (by omega), if_neg c]; exact s.kk (by omega) ht
theorem ST.it (s : ST h a ρ) {i : Nat} (hi : (i : Int) < ρ 5) : KE h (hR h (a + 2 + 1) i) ∧ hR h (a + 2 + 1) i ≠ 0 ∧ hI h (hR h (a + 2 + 1) i) 1 = kp ρ i 13 ∧ hI h (hR h (a + 2 + 1) i) 2 = kp ρ i 14 ∧ hI h (hR h (a + 2 + 1) i) 3 = kp ρ i 15 ∧ eq13 (hI h (hR h (a + 2 + 1) i + 2)) (kp ρ i) := by
  have b5 := s.2.2.n5
  obtain ⟨k0, k1, k2⟩ := s.sh.it (i := i) (by omega)
  exact ⟨k0, by omega, s.kk hi (t := 13) (by decide), s.kk hi (t := 14) (by decide), s.kk hi (t := 15) (by decide), fun u hu => by rw [kv_lt h (a + 2) i u hu, s.kk hi (by omega)]⟩
theorem ST.rowsAll (s : ST h a ρ) : She_rowsOfAll (a + 2) h = some (rsm ρ (ρ 5).toNat, h) := by
  have b5 := s.2.2.n5
  have e5 := s.2.1.2.2.2.2.2.1
  have L : ∀ (m k : Nat), (k : Int) + m = ρ 5 → ∀ F, m < F → She_rowsOfAll_L4 F (a + 2) (rsm ρ k) (k : Int) h = some (rsm ρ (ρ 5).toNat, h) := by
    intro m
    induction m with
    | zero =>
      intro k hk F hF
      obtain ⟨F, rfl⟩ : ∃ j, F = j + 1 := ⟨F - 1, by omega⟩
      rw [She_rowsOfAll_L4, gI_k s.sh.1, e5, if_pos (by omega), show (ρ 5).toNat = k by omega]
    | succ m ih =>
      intro k hk F hF
      obtain ⟨F, rfl⟩ : ∃ j, F = j + 1 := ⟨F - 1, by omega⟩
      obtain ⟨ke, k0, k1, k2, k3, k4⟩ := s.it (i := k) (by omega)
      have r1 := rsm_b (fun k hk => (s.2.2.k hk).2.1) k (by omega)
      have r2 := (s.2.2.k (k := k) (by omega)).2.1
      rw [She_rowsOfAll_L4, gI_k s.sh.1, e5, if_neg (by omega), s.sh.g (by omega), gI_k ke.1, k1, wr_id (z := rsm ρ k + kp ρ k 13) (by omega) (by omega), wr_id (z := (k : Int) + 1) (by omega) (by omega), show (k : Int) + 1 = ((k + 1 : Nat) : Int) by omega]
      exact ih (k + 1) (by omega) F (by omega)
  exact L (ρ 5).toNat 0 (by omega) FU (by have := FU_big; omega)
theorem ST.stale (s : ST h a ρ) : She_staleOnes (a + 2) h = some (stl ρ (ρ 5).toNat, h) := by
  have b5 := s.2.2.n5
  have e5 := s.2.1.2.2.2.2.2.1
  have L : ∀ (m k : Nat), (k : Int) + m = ρ 5 → ∀ F, m < F → She_staleOnes_L4 F (a + 2) (stl ρ k) (k : Int) h = some (stl ρ (ρ 5).toNat, h) := by
    intro m
    induction m with
    | zero =>
      intro k hk F hF
      obtain ⟨F, rfl⟩ : ∃ j, F = j + 1 := ⟨F - 1, by omega⟩
      rw [She_staleOnes_L4, gI_k s.sh.1, e5, if_pos (by omega), show (ρ 5).toNat = k by omega]
    | succ m ih =>
      intro k hk F hF
      obtain ⟨F, rfl⟩ : ∃ j, F = j + 1 := ⟨F - 1, by omega⟩
      obtain ⟨ke, k0, k1, k2, k3, k4⟩ := s.it (i := k) (by omega)
      have r1 := stl_b s.2.2 k (by omega)
      have r2 := (s.2.2.k (k := k) (by omega)).2.2
      have ih' := ih (k + 1) (by omega) F (by omega)
      rw [stl] at ih'
      rw [She_staleOnes_L4, gI_k s.sh.1, e5, if_neg (by omega), s.sh.g (by omega), gI_k ke.1, k3, wr_id (z := stl ρ k + 0) (by omega) (by omega), wr_id (z := stl ρ k + 1) (by omega) (by omega), wr_id (z := (k : Int) + 1) (by omega) (by omega), show (k : Int) + 1 = ((k + 1 : Nat) : Int) by omega]
      rcases r2 with e | e
      · rw [if_pos e]; rw [e] at ih'; exact ih'
      · rw [if_neg (by omega)]; rw [e] at ih'; exact ih'
  exact L (ρ 5).toNat 0 (by omega) FU (by have := FU_big; omega)
theorem ST.least (s : ST h a ρ) : She_leastUsed (a + 2) h = some (((lu ρ (ρ 5).toNat : Nat) : Int), h) := by
  have b5 := s.2.2.n5
  have e5 := s.2.1.2.2.2.2.2.1
  have L : ∀ (m k : Nat), 0 < k → (k : Int) + m = ρ 5 → ∀ F, m < F → She_leastUsed_L4 F (a + 2) ((lu ρ k : Nat) : Int) (k : Int) h = some (((lu ρ (ρ 5).toNat : Nat) : Int), h) := by
    intro m
    induction m with
    | zero =>
      intro k h0 hk F hF
      obtain ⟨F, rfl⟩ : ∃ j, F = j + 1 := ⟨F - 1, by omega⟩
      rw [She_leastUsed_L4, gI_k s.sh.1, e5, if_pos (by omega), show (ρ 5).toNat = k by omega]
    | succ m ih =>
      intro k h0 hk F hF
      obtain ⟨F, rfl⟩ : ∃ j, F = j + 1 := ⟨F - 1, by omega⟩
      have lb := lu_b ρ k h0
      obtain ⟨ke, k0, k1, k2, k3, k4⟩ := s.it (i := k) (by omega)
      obtain ⟨le, l0, l1, l2, l3, l4⟩ := s.it (i := lu ρ k) (by omega)
      have ih' := ih (k + 1) (by omega) (by omega) F (by omega)
      rw [lu] at ih'
      rw [She_leastUsed_L4, gI_k s.sh.1, e5, if_neg (by omega), s.sh.g (by omega), gI_k ke.1, k2, s.sh.g (by omega), gI_k le.1, l2, wr_id (z := (k : Int) + 1) (by omega) (by omega), show (k : Int) + 1 = ((k + 1 : Nat) : Int) by omega]
      by_cases c : kp ρ k 14 < kp ρ (lu ρ k) 14
      · rw [if_neg (by omega)]; rw [if_pos c] at ih'; exact ih'
      · rw [if_pos (by omega)]; rw [if_neg c] at ih'; exact ih'
  by_cases c : ρ 5 = 0
  · unfold She_leastUsed
    rw [show FU = 999999 + 1 from rfl, She_leastUsed_L4, gI_k s.sh.1, e5, c, if_pos (by decide)]; rfl
  · have := L ((ρ 5).toNat - 1) 1 (by omega) (by omega) FU (by have := FU_big; omega)
    rw [lu_1] at this
    exact this
theorem ST.has (s : ST h a ρ) {p : Nat} (p1 : PA h p) : She_has (a + 2) p h = some (bi (!allR (fun i => !sameF (kp ρ i) (hI h (p + 1))) 0 (ρ 5).toNat), h) := by
  have b5 := s.2.2.n5
  have e5 := s.2.1.2.2.2.2.2.1
  have L : ∀ (m k : Nat), (k : Int) + m = ρ 5 → ∀ F, m < F → She_has_L2 F (a + 2) p (k : Int) h = some (bi (!allR (fun i => !sameF (kp ρ i) (hI h (p + 1))) k m), h) := by
    intro m
    induction m with
    | zero =>
      intro k hk F hF
      obtain ⟨F, rfl⟩ : ∃ j, F = j + 1 := ⟨F - 1, by omega⟩
      rw [She_has_L2, gI_k s.sh.1, e5, if_pos (by omega), allR_0]; rfl
    | succ m ih =>
      intro k hk F hF
      obtain ⟨F, rfl⟩ : ∃ j, F = j + 1 := ⟨F - 1, by omega⟩
      obtain ⟨ke, k0, k1, k2, k3, k4⟩ := s.it (i := k) (by omega)
      rw [She_has_L2, gI_k s.sh.1, e5, if_neg (by omega), s.sh.g (by omega), gR_k ke.1, ke.2.1, rc_k ke.2.2.1, Par_isLike_e ke.2.2 p1, bnd_some, ite_bi, show hR h (a + 2 + 1) k + 1 + 1 = hR h (a + 2 + 1) k + 2 by omega, sameF_c k4 (fun _ _ => rfl), wr_id (z := (k : Int) + 1) (by omega) (by omega), show (k : Int) + 1 = ((k + 1 : Nat) : Int) by omega, ih (k + 1) (by omega) F (by omega), allR_s]
      cases sameF (kp ρ k) (hI h (p + 1))
      · rw [if_neg (by decide)]; rfl
      · rw [if_pos rfl]; rfl
  exact L (ρ 5).toNat 0 (by omega) FU (by have := FU_big; omega)
end C12
