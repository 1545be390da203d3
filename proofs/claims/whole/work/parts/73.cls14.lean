/-! Level 2: the class: states laid anew -/
/-- what was there is as it was -/
def NX (h H : AH) : Prop := hN h ≤ hN H ∧ ∀ x, x < 16 + hN h → hK H x = hK h x ∧ hI H x = hI h x ∧ hR H x = hR h x
theorem nO_k {β : Type} (h : AH) (t sl : Nat) (f : Nat → AH → Option β) : nO h t sl f = f (16 + hN h) (nw h t 0 sl) := rfl
theorem NX.refl (h : AH) : NX h h := ⟨Nat.le_refl _, fun _ _ => ⟨rfl, rfl, rfl⟩⟩
theorem NX.trans {a b c : AH} (x : NX a b) (y : NX b c) : NX a c := by
  obtain ⟨x1, x2⟩ := x
  obtain ⟨y1, y2⟩ := y
  exact ⟨by omega, fun k hk => ⟨by rw [(y2 k (by omega)).1, (x2 k hk).1], by rw [(y2 k (by omega)).2.1, (x2 k hk).2.1], by rw [(y2 k (by omega)).2.2, (x2 k hk).2.2]⟩⟩
theorem NX_nw (h : AH) (t n sl : Nat) : NX h (nw h t n sl) := ⟨by rw [hN_nw]; omega, fun x hx => by rw [hK_nw, hI_nw, hR_nw, if_neg (by omega), if_neg (by omega), if_neg (by omega)]; exact ⟨rfl, rfl, rfl⟩⟩
theorem NX.sI {h H : AH} (n : NX h H) {x : Nat} (hx : 16 + hN h ≤ x) (k : Nat) (v : Int) : NX h (sI H x k v) := ⟨n.1, fun y hy => ⟨(n.2 y hy).1, by rw [hI_sI, up2_ne (by omega)]; exact (n.2 y hy).2.1, (n.2 y hy).2.2⟩⟩
theorem NX.sR {h H : AH} (n : NX h H) {x : Nat} (hx : 16 + hN h ≤ x) (k : Nat) (v : Nat) : NX h (sR H x k v) := ⟨n.1, fun y hy => ⟨(n.2 y hy).1, (n.2 y hy).2.1, by rw [hR_sR, up2_ne (by omega)]; exact (n.2 y hy).2.2⟩⟩
theorem PA.nx {h H : AH} {p : Nat} (n : NX h H) (q : PA h p) (hp : p + 1 < 16 + hN h) : PA H p := by
  obtain ⟨q1, q2, q3⟩ := q
  exact ⟨by rw [(n.2 p (by omega)).1]; exact q1, by rw [(n.2 p (by omega)).2.2]; exact q2, by rw [(n.2 (p + 1) (by omega)).1]; exact q3⟩
theorem KE.nx {h H : AH} {k : Nat} (n : NX h H) (q : KE h k) (hp : k + 2 < 16 + hN h) : KE H k := by
  obtain ⟨q1, q2, q3⟩ := q
  exact ⟨by rw [(n.2 k (by omega)).1]; exact q1, by rw [(n.2 k (by omega)).2.2]; exact q2, q3.nx n (by omega)⟩
theorem PA.sR {h : AH} {p x k v : Nat} (q : PA h p) (hx : x ≠ p) : PA (sR h x k v) p := ⟨q.1, by rw [hR_sR, up2_ne (Ne.symm hx)]; exact q.2.1, q.2.2⟩
theorem KE.sR {h : AH} {p x k v : Nat} (q : KE h p) (h1 : x ≠ p) (h2 : x ≠ p + 1) : KE (sR h x k v) p := ⟨q.1, by rw [hR_sR, up2_ne (Ne.symm h1)]; exact q.2.1, q.2.2.sR h2⟩
theorem Par_new (h : AH) : ∃ H, Par_init (16 + hN h) (nw h 4 0 1) = some ((), H) ∧ hN H = hN h + 2 ∧ hS H = hS h + 14 ∧ NX h H ∧ PA H (16 + hN h) := by
  have n1 : NX h (nw (nw h 4 0 1) 21 13 13) := (NX_nw _ _ _ _).trans (NX_nw _ _ _ _)
  have a1 : 16 + hN (nw h 4 0 1) = 16 + hN h + 1 := by rw [hN_nw]; omega
  have k4 : hK (nw (nw h 4 0 1) 21 13 13) (16 + hN h) = (4, 0) := by rw [hK_nw, if_neg (by omega), hK_nw, if_pos rfl]
  refine ⟨sR (nw (nw h 4 0 1) 21 13 13) (16 + hN h) 0 (16 + hN h + 1), ?_, rfl, rfl, n1.sR (by omega) _ _, k4, ?_, ?_⟩
  · unfold Par_init
    rw [oi_k (by omega), nA_k (by decide) (by decide), a1, show (13 : Int).toNat = 13 from rfl, pR_k k4]
  · rw [hR_sR, up2_e, if_pos ⟨rfl, rfl⟩]
  · show hK (nw (nw h 4 0 1) 21 13 13) (16 + hN h + 1) = _
    rw [hK_nw, if_pos (by omega)]
theorem Kep_new (h : AH) : ∃ H, Kep_init (16 + hN h) (nw h 3 0 4) = some ((), H) ∧ hN H = hN h + 3 ∧ hS H = hS h + 18 ∧ NX h H ∧ KE H (16 + hN h) := by
  obtain ⟨H, x1, x2, x3, x4, x5⟩ := Par_new (nw h 3 0 4)
  have a1 : 16 + hN (nw h 3 0 4) = 16 + hN h + 1 := by rw [hN_nw]; omega
  have n1 := (NX_nw h 3 0 4).trans x4
  rw [a1] at x1 x5
  rw [hN_nw] at x2
  rw [hS_nw] at x3
  have k3 : hK H (16 + hN h) = (3, 0) := by rw [(x4.2 _ (by omega)).1, hK_nw, if_pos rfl]
  refine ⟨sR H (16 + hN h) 0 (16 + hN h + 1), ?_, by show hN H = _; omega, by show hS H = _; omega, n1.sR (by omega) _ _, k3, ?_, x5.sR (by omega)⟩
  · unfold Kep_init
    rw [oi_k (by omega), nO_k, a1, x1, bnd_some, pR_k k3]
  · rw [hR_sR, up2_e, if_pos ⟨rfl, rfl⟩]
theorem She_new (h : AH) {R : Nat} (hR1 : R < 100) : ∃ H, She_init (16 + hN h) (R : Int) (nw h 8 0 2) = some ((), H) ∧ hN H = hN h + 2 + 3 * R ∧ hS H = hS h + 2 + R + 18 * R ∧ NX h H ∧ SH H (16 + hN h) R := by
  generalize hs : 16 + hN h = s
  have L : ∀ (n i : Nat), i + n = R → ∀ (F : Nat) (H : AH), n < F → NX h H → hN H = hN h + 2 + 3 * i → hS H = hS h + 2 + R + 18 * i → hK H s = (8, 0) → hR H s 0 = s + 1 → hK H (s + 1) = (35, R) → (∀ j, j < i → hR H (s + 1) j = s + 2 + 3 * j ∧ KE H (s + 2 + 3 * j)) → ∃ H', She_init_L14 F s (R : Int) (i : Int) H = some ((), H') ∧ hN H' = hN h + 2 + 3 * R ∧ hS H' = hS h + 2 + R + 18 * R ∧ NX h H' ∧ hK H' s = (8, 0) ∧ hR H' s 0 = s + 1 ∧ hK H' (s + 1) = (35, R) ∧ ∀ j, j < R → hR H' (s + 1) j = s + 2 + 3 * j ∧ KE H' (s + 2 + 3 * j) := by
    intro n
    induction n with
    | zero =>
      intro i hi F H hF nx hn hss k8 r0 k35 ke
      obtain ⟨F, rfl⟩ : ∃ j, F = j + 1 := ⟨F - 1, by omega⟩
      have : i = R := by omega
      subst this
      refine ⟨H, ?_, hn, hss, nx, k8, r0, k35, ke⟩
      rw [She_init_L14, if_pos (by omega)]
    | succ n ih =>
      intro i hi F H hF nx hn hss k8 r0 k35 ke
      obtain ⟨F, rfl⟩ : ∃ j, F = j + 1 := ⟨F - 1, by omega⟩
      obtain ⟨K, x1, x2, x3, x4, x5⟩ := Kep_new H
      have a1 : 16 + hN H = s + 2 + 3 * i := by omega
      rw [a1] at x1 x5
      have k35' : hK K (s + 1) = (35, R) := by rw [(x4.2 _ (by omega)).1]; exact k35
      have k8' : hK K s = (8, 0) := by rw [(x4.2 _ (by omega)).1]; exact k8
      have r0' : hR K s 0 = s + 1 := by rw [(x4.2 _ (by omega)).2.2]; exact r0
      rw [She_init_L14, if_neg (by omega), gR_k k8, r0, nO_k, a1, x1, bnd_some, wR_k k35' (by omega) (by omega) x5.1, tN (i : Int) i rfl, wr_id (by omega) (by omega), show (i : Int) + 1 = ((i + 1 : Nat) : Int) by omega]
      refine ih (i + 1) (by omega) F _ (by omega) ((nx.trans x4).sR (by omega) _ _) (by show hN K = _; omega) (by show hS K = _; omega) k8' ?_ k35' (fun j hj => ?_)
      · rw [hR_sR, up2_ne (by omega)]; exact r0'
      · rw [hR_sR, up2_e]
        by_cases c : j = i
        · rw [if_pos ⟨rfl, c⟩, c]
          exact ⟨rfl, x5.sR (by omega) (by omega)⟩
        · rw [if_neg (by omega), (x4.2 _ (by omega)).2.2]
          have kj := ke j (by omega)
          exact ⟨kj.1, (kj.2.nx x4 (by omega)).sR (by omega) (by omega)⟩
  have n1 : NX h (nw (nw h 8 0 2) 35 R R) := (NX_nw _ _ _ _).trans (NX_nw _ _ _ _)
  have a1 : 16 + hN (nw h 8 0 2) = s + 1 := by rw [hN_nw]; omega
  have k8 : hK (nw (nw h 8 0 2) 35 R R) s = (8, 0) := by rw [hK_nw, if_neg (by omega), hK_nw, if_pos (by omega)]
  obtain ⟨H, y1, y2, y3, y4, y5, y6, y7, y8⟩ := L R 0 (by omega) FU (sR (nw (nw h 8 0 2) 35 R R) s 0 (s + 1)) (by have := FU_big; omega) (n1.sR (by omega) _ _) rfl (by show hS h + 2 + R = _; omega) k8 (by rw [hR_sR, up2_e, if_pos ⟨rfl, rfl⟩]) (by show hK (nw (nw h 8 0 2) 35 R R) (s + 1) = _; rw [hK_nw, if_pos (by omega)]) (fun j hj => by omega)
  refine ⟨H, ?_, y2, y3, y4, y5, y6, y7, fun j hj => (y8 j hj).2, fun i hi => ⟨i, hi, (y8 i hi).1⟩, fun i j hi hj e => ?_⟩
  · unfold She_init
    rw [oi_k (by omega), nA_k (by omega) (by omega), a1, tN (R : Int) R rfl, pR_k k8]
    exact y1
  · rw [(y8 i hi).1, (y8 j hj).1] at e; omega
theorem Tab_new (h : AH) {fc w n : Nat} (hw : w < 100) (hn : n < 100) : ∃ H, Tab_init (16 + hN h) (fc : Int) (w : Int) (n : Int) (nw h 10 0 4) = some ((), H) ∧ hN H = hN h + 2 ∧ hS H = hS h + 4 + n * w ∧ NX h H ∧ TA H (16 + hN h) fc w (n * w) := by
  have l : n * w ≤ 100 * 100 := Nat.mul_le_mul (by omega) (by omega)
  have e : (n : Int) * (w : Int) = ((n * w : Nat) : Int) := by rw [Int.natCast_mul]
  have k10 : hK (nw h 10 0 4) (16 + hN h) = (10, 0) := by rw [hK_nw, if_pos rfl]
  generalize ht : 16 + hN h = T at *
  generalize hH1 : sI (sI (nw h 10 0 4) T 0 (fc : Int)) T 1 (w : Int) = H1
  have a1 : 16 + hN H1 = T + 1 := by rw [← hH1]; show 16 + (hN h + 1) = _; omega
  have n1 : NX h H1 := by rw [← hH1]; exact ((NX_nw _ _ _ _).sI (by omega) _ _).sI (by omega) _ _
  have n2 : NX H1 (nw H1 21 (n * w) (n * w)) := NX_nw _ _ _ _
  have k1 : hK H1 T = (10, 0) := by rw [← hH1]; exact k10
  have k2 : hK (nw H1 21 (n * w) (n * w)) T = (10, 0) := by rw [hK_nw, if_neg (by omega)]; exact k1
  refine ⟨sR (nw H1 21 (n * w) (n * w)) T 2 (T + 1), ?_, ?_, ?_, (n1.trans n2).sR (by omega) _ _, k2, ?_, ?_, ?_, ?_⟩
  · unfold Tab_init
    rw [oi_k (by omega), pI_k k10, pI_k (show hK (sI (nw h 10 0 4) T 0 (fc : Int)) T = (10, 0) from k10), hH1, e, wr_id (by omega) (by omega), nA_k (by omega) (by omega), a1, tN ((n * w : Nat) : Int) (n * w) rfl, pR_k k2]
  · show hN H1 + 1 = _; omega
  · show hS H1 + n * w = _; rw [← hH1]; rfl
  · show hI (nw H1 21 (n * w) (n * w)) T 0 = _
    rw [hI_nw, if_neg (by omega), ← hH1, hI_sId _ _ (by omega), hI_sIs]
  · show hI (nw H1 21 (n * w) (n * w)) T 1 = _
    rw [hI_nw, if_neg (by omega), ← hH1, hI_sIs]
  · rw [hR_sR, up2_e, if_pos ⟨rfl, rfl⟩]
  · show hK (nw H1 21 (n * w) (n * w)) (T + 1) = _
    rw [hK_nw, if_pos (by omega)]
theorem TA.nx {h H : AH} {T fc w len : Nat} (n : NX h H) (t : TA h T fc w len) (hT : T + 1 < 16 + hN h) : TA H T fc w len := by
  obtain ⟨t1, t2, t3, t4, t5⟩ := t
  obtain ⟨x1, x2, x3⟩ := n.2 T (by omega)
  exact ⟨by rw [x1]; exact t1, by rw [x2]; exact t2, by rw [x2]; exact t3, by rw [x3]; exact t4, by rw [(n.2 (T + 1) hT).1]; exact t5⟩
theorem TA.sR {h : AH} {T fc w len x k v : Nat} (t : TA h T fc w len) (hx : x ≠ T) : TA (sR h x k v) T fc w len := by
  obtain ⟨t1, t2, t3, t4, t5⟩ := t
  exact ⟨t1, t2, t3, by rw [hR_sR, up2_ne (Ne.symm hx)]; exact t4, t5⟩
theorem SH.nx {h H : AH} {s R : Nat} (n : NX h H) (t : SH h s R) (hT : s + 2 + 3 * R ≤ 16 + hN h) : SH H s R :=
  SH_to t (fun x _ h2 => (n.2 x (by omega)).1) (fun x _ h2 => (n.2 x (by omega)).2.2)
theorem SH.sR {h : AH} {s R x k v : Nat} (t : SH h s R) (hx : x < s ∨ s + 2 + 3 * R ≤ x) : SH (sR h x k v) s R :=
  SH_to t (fun _ _ _ => rfl) (fun y h1 h2 => by rw [hR_sR, up2_ne (by omega)])
theorem Sta_new (h : AH) : ∃ H, Sta_init (16 + hN h) (nw h 9 0 7) = some ((), H) ∧ hN H = hN h + 26 ∧ hS H = hS h + 185 ∧ NX h H ∧ SB H (16 + hN h) := by
  generalize ha : 16 + hN h = a
  have k9 : hK (nw (nw h 9 0 7) 34 2 2) a = (9, 0) := by rw [hK_nw, if_neg (by rw [hN_nw]; omega), hK_nw, if_pos (by omega)]
  have a1 : 16 + hN (nw h 9 0 7) = a + 1 := by rw [hN_nw]; omega
  generalize hH1 : sR (nw (nw h 9 0 7) 34 2 2) a 0 (a + 1) = H1
  have n1 : NX h H1 := by rw [← hH1]; exact ((NX_nw _ _ _ _).trans (NX_nw _ _ _ _)).sR (by omega) _ _
  have N1 : hN H1 = hN h + 2 := by rw [← hH1]; rfl
  have S1 : hS H1 = hS h + 9 := by rw [← hH1]; rfl
  have k91 : hK H1 a = (9, 0) := by rw [← hH1]; exact k9
  have k341 : hK H1 (a + 1) = (34, 2) := by rw [← hH1]; show hK (nw (nw h 9 0 7) 34 2 2) (a + 1) = _; rw [hK_nw, if_pos (by omega)]
  have r01 : hR H1 a 0 = a + 1 := by rw [← hH1, hR_sR, up2_e, if_pos ⟨rfl, rfl⟩]
  obtain ⟨K2, x1, x2, x3, x4, x5⟩ := She_new H1 (R := 6) (by decide)
  have a2 : 16 + hN H1 = a + 2 := by omega
  rw [a2] at x1 x5
  rw [show ((6 : Nat) : Int) = 6 from rfl] at x1
  have k92 : hK K2 a = (9, 0) := by rw [(x4.2 a (by omega)).1]; exact k91
  generalize hH2 : sR K2 a 1 (a + 2) = H2
  have n2 : NX h H2 := by rw [← hH2]; exact (n1.trans x4).sR (by omega) _ _
  have N2 : hN H2 = hN h + 22 := by rw [← hH2]; show hN K2 = _; omega
  have S2 : hS H2 = hS h + 125 := by rw [← hH2]; show hS K2 = _; omega
  have k2 : hK H2 a = (9, 0) := by rw [← hH2]; exact k92
  have k342 : hK H2 (a + 1) = (34, 2) := by rw [← hH2]; show hK K2 (a + 1) = _; rw [(x4.2 _ (by omega)).1]; exact k341
  have r02 : hR H2 a 0 = a + 1 := by rw [← hH2, hR_sR, up2_e, if_neg (by omega), (x4.2 _ (by omega)).2.2]; exact r01
  have r12 : hR H2 a 1 = a + 2 := by rw [← hH2, hR_sR, up2_e, if_pos ⟨rfl, rfl⟩]
  have sh2 : SH H2 (a + 2) 6 := by rw [← hH2]; exact x5.sR (Or.inl (by omega))
  obtain ⟨K3, y1, y2, y3, y4, y5⟩ := Tab_new H2 (fc := 0) (w := 3) (n := 12) (by decide) (by decide)
  have a3 : 16 + hN H2 = a + 22 := by omega
  rw [a3] at y1 y5
  have k343 : hK K3 (a + 1) = (34, 2) := by rw [(y4.2 _ (by omega)).1]; exact k342
  generalize hH3 : sR K3 (a + 1) 0 (a + 22) = H3
  have n3 : NX h H3 := by rw [← hH3]; exact (n2.trans y4).sR (by omega) _ _
  have N3 : hN H3 = hN h + 24 := by rw [← hH3]; show hN K3 = _; omega
  have S3 : hS H3 = hS h + 165 := by rw [← hH3]; show hS K3 = _; omega
  have k3 : hK H3 a = (9, 0) := by rw [← hH3]; show hK K3 a = _; rw [(y4.2 _ (by omega)).1]; exact k2
  have k34' : hK H3 (a + 1) = (34, 2) := by rw [← hH3]; exact k343
  have r03 : hR H3 a 0 = a + 1 := by rw [← hH3, hR_sR, up2_ne (by omega), (y4.2 _ (by omega)).2.2]; exact r02
  have r13 : hR H3 a 1 = a + 2 := by rw [← hH3, hR_sR, up2_ne (by omega), (y4.2 _ (by omega)).2.2]; exact r12
  have t03 : hR H3 (a + 1) 0 = a + 22 := by rw [← hH3, hR_sR, up2_e, if_pos ⟨rfl, rfl⟩]
  have sh3 : SH H3 (a + 2) 6 := by rw [← hH3]; exact (sh2.nx y4 (by omega)).sR (Or.inl (by omega))
  have tR3 : TA H3 (a + 22) 0 3 36 := by rw [← hH3]; exact y5.sR (by omega)
  obtain ⟨K4, z1, z2, z3, z4, z5⟩ := Tab_new H3 (fc := 3) (w := 2) (n := 8) (by decide) (by decide)
  have a4 : 16 + hN H3 = a + 24 := by omega
  rw [a4] at z1 z5
  have k344 : hK K4 (a + 1) = (34, 2) := by rw [(z4.2 _ (by omega)).1]; exact k34'
  have y1' : Tab_init (a + 22) 0 3 12 (nw H2 10 0 4) = some ((), K3) := y1
  have z1' : Tab_init (a + 24) 3 2 8 (nw H3 10 0 4) = some ((), K4) := z1
  refine ⟨sR K4 (a + 1) 1 (a + 24), ?_, by show hN K4 = _; omega, by show hS K4 = _; omega, (n3.trans z4).sR (by omega) _ _, ?_, ?_, ?_, k344, ?_, ?_, ?_, ?_, ?_⟩
  · unfold Sta_init
    rw [oi_k (by omega), nA_k (by decide) (by decide), a1, show (2 : Int).toNat = 2 from rfl, pR_k k9, hH1, nO_k, a2, x1, bnd_some, pR_k k92, hH2, gR_k k2, r02, nO_k, a3, y1', bnd_some, wR_k k343 (by decide) (by decide) y5.1, show (0 : Int).toNat = 0 from rfl, hH3, gR_k k3, r03, nO_k, a4, z1', bnd_some, wR_k k344 (by decide) (by decide) z5.1, show (1 : Int).toNat = 1 from rfl]
  · show hK K4 a = _; rw [(z4.2 _ (by omega)).1]; exact k3
  · rw [hR_sR, up2_ne (by omega), (z4.2 _ (by omega)).2.2]; exact r03
  · rw [hR_sR, up2_ne (by omega), (z4.2 _ (by omega)).2.2]; exact r13
  · rw [hR_sR, up2_e, if_neg (by omega), (z4.2 _ (by omega)).2.2]; exact t03
  · rw [hR_sR, up2_e, if_pos ⟨rfl, rfl⟩]
  · exact (tR3.nx z4 (by omega)).sR (by omega)
  · exact z5.sR (by omega)
  · exact (sh3.nx z4 (by omega)).sR (Or.inl (by omega))
