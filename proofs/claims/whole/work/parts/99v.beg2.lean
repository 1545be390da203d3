/-! Level 2: the start: what the class makes -/
/-- an array made, and told to the object a -/
def md (X : AH) (a t n k : Nat) : AH := sR (nw X t n n) a k (16 + hN X)
section P2
variable {β : Type} {X h H : AH} {a t n k t0 m0 : Nat}
theorem md_s (ka : hK X a = (t0, m0)) (ha : a < 16 + hN X) (t : Nat) {i : Int} (h0 : 0 ≤ i) (h1 : i ≤ 100000) (k : Nat) (f : AH → Option β) : (nA X t i fun r h2 => pR h2 t0 a k r f) = f (md X a t i.toNat k) := by
  rw [nA_k h0 h1]
  exact pR_k (n := m0) (by rw [hK_nw, if_neg (by omega)]; exact ka)
theorem md_K (x : Nat) : hK (md X a t n k) x = if x = 16 + hN X then (t, n) else hK X x := hK_nw X t n n x
theorem md_I (x : Nat) : hI (md X a t n k) x = if x = 16 + hN X then (fun _ => 0) else hI X x := hI_nw X t n n x
theorem md_R (x j : Nat) : hR (md X a t n k) x j = if x = a ∧ j = k then 16 + hN X else if x = 16 + hN X then 0 else hR X x j := by
  unfold md
  rw [hR_sR, up2_e, hR_nw]
  by_cases c : x = a ∧ j = k
  · rw [if_pos c, if_pos c]
  · rw [if_neg c, if_neg c]
    by_cases d : x = 16 + hN X
    · rw [if_pos d, if_pos d]
    · rw [if_neg d, if_neg d]
theorem md_nx (nx : NX h X) (ha : 16 + hN h ≤ a) : NX h (md X a t n k) := (nx.trans (NX_nw _ _ _ _)).sR ha _ _
theorem Pri_new (h : AH) (v : Nat) : ∃ H, Pri_init (16 + hN h) v (nw h 5 0 6) = some ((), H) ∧ hN H = hN h + 4 ∧ hS H = hS h + 19 ∧ NX h H ∧ hK H (16 + hN h) = (5, 0) ∧ hR H (16 + hN h) 0 = v ∧ hR H (16 + hN h) 1 = 16 + hN h + 1 ∧ hR H (16 + hN h) 2 = 16 + hN h + 2 ∧ hR H (16 + hN h) 3 = 16 + hN h + 3 ∧ hK H (16 + hN h + 1) = (21, 2) ∧ hK H (16 + hN h + 2) = (21, 8) ∧ hK H (16 + hN h + 3) = (21, 3) := by
  generalize ha : 16 + hN h = a
  have k0 : hK (nw h 5 0 6) a = (5, 0) := by rw [hK_nw, if_pos (by omega)]
  have n0 : hN (nw h 5 0 6) = hN h + 1 := rfl
  have s0 : hS (nw h 5 0 6) = hS h + 6 := rfl
  have x0 : NX h (nw h 5 0 6) := NX_nw _ _ _ _
  generalize nw h 5 0 6 = X0 at *
  have e1 := fun f : AH → Option (Unit × AH) => md_s k0 (by omega) 21 (i := 2) (by decide) (by decide) 1 f
  have n1 : hN (md X0 a 21 2 1) = hN h + 2 := by show hN X0 + 1 = _; omega
  have s1 : hS (md X0 a 21 2 1) = hS h + 8 := by show hS X0 + 2 = _; omega
  have x1 : NX h (md X0 a 21 2 1) := md_nx x0 (by omega)
  have K1 : ∀ x, hK (md X0 a 21 2 1) x = if x = 16 + hN X0 then (21, 2) else hK X0 x := fun x => md_K x
  have R1 : ∀ x j, hR (md X0 a 21 2 1) x j = if x = a ∧ j = 1 then 16 + hN X0 else if x = 16 + hN X0 then 0 else hR X0 x j := fun x j => md_R x j
  rw [show (2 : Int).toNat = 2 from rfl] at e1
  generalize md X0 a 21 2 1 = X1 at *
  have k1 : hK X1 a = (5, 0) := by rw [K1, if_neg (by omega)]; exact k0
  have e2 := fun f : AH → Option (Unit × AH) => md_s k1 (by omega) 21 (i := 8) (by decide) (by decide) 2 f
  have n2 : hN (md X1 a 21 8 2) = hN h + 3 := by show hN X1 + 1 = _; omega
  have s2 : hS (md X1 a 21 8 2) = hS h + 16 := by show hS X1 + 8 = _; omega
  have x2 : NX h (md X1 a 21 8 2) := md_nx x1 (by omega)
  have K2 : ∀ x, hK (md X1 a 21 8 2) x = if x = 16 + hN X1 then (21, 8) else hK X1 x := fun x => md_K x
  have R2 : ∀ x j, hR (md X1 a 21 8 2) x j = if x = a ∧ j = 2 then 16 + hN X1 else if x = 16 + hN X1 then 0 else hR X1 x j := fun x j => md_R x j
  rw [show (8 : Int).toNat = 8 from rfl] at e2
  generalize md X1 a 21 8 2 = X2 at *
  have k2 : hK X2 a = (5, 0) := by rw [K2, if_neg (by omega)]; exact k1
  have e3 := fun f : AH → Option (Unit × AH) => md_s k2 (by omega) 21 (i := 3) (by decide) (by decide) 3 f
  have n3 : hN (md X2 a 21 3 3) = hN h + 4 := by show hN X2 + 1 = _; omega
  have s3 : hS (md X2 a 21 3 3) = hS h + 19 := by show hS X2 + 3 = _; omega
  have x3 : NX h (md X2 a 21 3 3) := md_nx x2 (by omega)
  have K3 : ∀ x, hK (md X2 a 21 3 3) x = if x = 16 + hN X2 then (21, 3) else hK X2 x := fun x => md_K x
  have R3 : ∀ x j, hR (md X2 a 21 3 3) x j = if x = a ∧ j = 3 then 16 + hN X2 else if x = 16 + hN X2 then 0 else hR X2 x j := fun x j => md_R x j
  rw [show (3 : Int).toNat = 3 from rfl] at e3
  generalize md X2 a 21 3 3 = X3 at *
  have k3 : hK X3 a = (5, 0) := by rw [K3, if_neg (by omega)]; exact k2
  refine ⟨sR X3 a 0 v, ?_, by rw [hN_sR]; exact n3, by rw [hS_sR]; exact s3, x3.sR (by omega) _ _, by rw [hK_sR]; exact k3, ?_, ?_, ?_, ?_, ?_, ?_, ?_⟩
  · unfold Pri_init
    rw [oi_k (by omega), e1, e2, e3, pR_k k3]
  · rw [hR_sR, up2_e, if_pos ⟨rfl, rfl⟩]
  · rw [hR_sR, up2_e, if_neg (by omega), R3, if_neg (by omega), if_neg (by omega), R2, if_neg (by omega), if_neg (by omega), R1, if_pos ⟨rfl, rfl⟩]; omega
  · rw [hR_sR, up2_e, if_neg (by omega), R3, if_neg (by omega), if_neg (by omega), R2, if_pos ⟨rfl, rfl⟩]; omega
  · rw [hR_sR, up2_e, if_neg (by omega), R3, if_pos ⟨rfl, rfl⟩]; omega
  · rw [hK_sR, K3, if_neg (by omega), K2, if_neg (by omega), K1, if_pos (by omega)]
  · rw [hK_sR, K3, if_neg (by omega), K2, if_pos (by omega)]
  · rw [hK_sR, K3, if_pos (by omega)]
/-- parts made one behind the other, told to an array of parts -/
def PL (h : AH) (s b i : Nat) (H : AH) : Prop := NX h H ∧ ∀ j, j < i → hR H s j = b + 2 * j ∧ PA H (b + 2 * j)
theorem part_s {H : AH} {s b i m : Nat} (pl : PL h s b i H) (hs : 16 + hN h ≤ s) (hb : s < b) (e : 16 + hN H = b + 2 * i) (ks : hK H s = (36, m)) (hi : i < m) (g : AH → Option (Unit × AH)) : ∃ K, (nO H 4 1 fun r2 h3 => bnd (Par_init r2 h3) fun _ h4 => wR h4 36 s (i : Int) 4 r2 g) = g K ∧ hN K = hN H + 2 ∧ hS K = hS H + 14 ∧ PL h s b (i + 1) K ∧ (∀ x, x < b + 2 * i → hK K x = hK H x ∧ (x ≠ s → hR K x = hR H x)) := by
  obtain ⟨K, x1, x2, x3, x4, x5⟩ := Par_new H
  have ks' : hK K s = (36, m) := by rw [(x4.2 s (by omega)).1]; exact ks
  refine ⟨sR K s i (16 + hN H), ?_, by rw [hN_sR]; exact x2, by rw [hS_sR]; exact x3, ⟨(pl.1.trans x4).sR hs _ _, fun j hj => ?_⟩, fun x hx => ⟨by rw [hK_sR]; exact (x4.2 x (by omega)).1, fun ne => by rw [hR_sR, up2_ne ne]; exact (x4.2 x (by omega)).2.2⟩⟩
  · rw [nO_k, x1, bnd_some, wR_k ks' (by omega) (by omega) x5.1, tN (i : Int) i rfl]
  · by_cases c : j = i
    · subst c
      rw [hR_sR, up2_e, if_pos ⟨rfl, rfl⟩, ← e]
      exact ⟨rfl, x5.sR (by omega)⟩
    · have pj := pl.2 j (by omega)
      rw [hR_sR, up2_e, if_neg (by omega), (x4.2 s (by omega)).2.2]
      exact ⟨pj.1, (pj.2.nx x4 (by omega)).sR (by omega)⟩
theorem Cho_new (h : AH) : ∃ H, Cho_init (16 + hN h) (nw h 1 0 5) = some ((), H) ∧ hN H = hN h + 222 ∧ hS H = hS h + 1855 ∧ NX h H ∧ hK H (16 + hN h) = (1, 0) ∧ hR H (16 + hN h) 0 = 16 + hN h + 1 ∧ hR H (16 + hN h) 1 = 16 + hN h + 2 ∧ hR H (16 + hN h) 2 = 16 + hN h + 3 ∧ hR H (16 + hN h) 3 = 16 + hN h + 4 ∧ hK H (16 + hN h + 1) = (36, 108) ∧ hK H (16 + hN h + 2) = (21, 108) ∧ hK H (16 + hN h + 3) = (21, 108) ∧ PA H (16 + hN h + 4) ∧ ∀ i, i < 108 → hR H (16 + hN h + 1) i = 16 + hN h + 6 + 2 * i ∧ PA H (16 + hN h + 6 + 2 * i) := by
  have big := FU_big
  generalize ha : 16 + hN h = a
  have L : ∀ (m i F : Nat) (H : AH), i + m = 108 → m < F → PL h (a + 1) (a + 6) i H → hN H = hN h + 6 + 2 * i → hS H = hS h + 343 + 14 * i → hK H a = (1, 0) → hR H a 0 = a + 1 → hK H (a + 1) = (36, 108) → ∃ H', Cho_init_L42 F a (i : Int) H = some ((), H') ∧ hN H' = hN h + 222 ∧ hS H' = hS h + 1855 ∧ PL h (a + 1) (a + 6) 108 H' ∧ ∀ x, x < a + 6 + 2 * i → hK H' x = hK H x ∧ (x ≠ a + 1 → hR H' x = hR H x) := by
    intro m
    induction m with
    | zero =>
      intro i F H hi hF pl hn hs k1 r0 k36
      obtain ⟨F, rfl⟩ : ∃ j, F = j + 1 := ⟨F - 1, by omega⟩
      have : i = 108 := by omega
      subst this
      exact ⟨H, by rw [Cho_init_L42, if_pos (by decide)], by omega, by omega, pl, fun _ _ => ⟨rfl, fun _ => rfl⟩⟩
    | succ m ih =>
      intro i F H hi hF pl hn hs k1 r0 k36
      obtain ⟨F, rfl⟩ : ∃ j, F = j + 1 := ⟨F - 1, by omega⟩
      obtain ⟨K, x1, x2, x3, x4, x5⟩ := part_s pl (by omega) (by omega) (by omega) k36 (show i < 108 by omega) (fun h7 => Cho_init_L42 F a (wr ((i : Int) + 1)) h7)
      have k1' : hK K a = (1, 0) := by rw [(x5 a (by omega)).1]; exact k1
      have r0' : hR K a 0 = a + 1 := by rw [(x5 a (by omega)).2 (by omega)]; exact r0
      have k36' : hK K (a + 1) = (36, 108) := by rw [(x5 (a + 1) (by omega)).1]; exact k36
      obtain ⟨H', y1, y2, y3, y4, y5⟩ := ih (i + 1) F K (by omega) (by omega) x4 (by omega) (by omega) k1' r0' k36'
      refine ⟨H', ?_, y2, y3, y4, fun x hx => ?_⟩
      · rw [Cho_init_L42, if_neg (by omega), gR_k k1, r0, x1, wr_id (by omega) (by omega), show (i : Int) + 1 = ((i + 1 : Nat) : Int) by omega, y1]
      · obtain ⟨z1, z2⟩ := y5 x (by omega)
        obtain ⟨w1, w2⟩ := x5 x (by omega)
        exact ⟨by rw [z1, w1], fun ne => by rw [z2 ne, w2 ne]⟩
  have k0 : hK (nw h 1 0 5) a = (1, 0) := by rw [hK_nw, if_pos (by omega)]
  have n0 : hN (nw h 1 0 5) = hN h + 1 := rfl
  have s0 : hS (nw h 1 0 5) = hS h + 5 := rfl
  have x0 : NX h (nw h 1 0 5) := NX_nw _ _ _ _
  generalize nw h 1 0 5 = X0 at *
  have e1 := fun f : AH → Option (Unit × AH) => md_s k0 (by omega) 36 (i := 108) (by decide) (by decide) 0 f
  have n1 : hN (md X0 a 36 108 0) = hN h + 2 := by show hN X0 + 1 = _; omega
  have s1 : hS (md X0 a 36 108 0) = hS h + 113 := by show hS X0 + 108 = _; omega
  have x1 : NX h (md X0 a 36 108 0) := md_nx x0 (by omega)
  have K1 : ∀ x, hK (md X0 a 36 108 0) x = if x = 16 + hN X0 then (36, 108) else hK X0 x := fun x => md_K x
  have R1 : ∀ x j, hR (md X0 a 36 108 0) x j = if x = a ∧ j = 0 then 16 + hN X0 else if x = 16 + hN X0 then 0 else hR X0 x j := fun x j => md_R x j
  rw [show (108 : Int).toNat = 108 from rfl] at e1
  generalize md X0 a 36 108 0 = X1 at *
  have k1 : hK X1 a = (1, 0) := by rw [K1, if_neg (by omega)]; exact k0
  have e2 := fun f : AH → Option (Unit × AH) => md_s k1 (by omega) 21 (i := 108) (by decide) (by decide) 1 f
  have n2 : hN (md X1 a 21 108 1) = hN h + 3 := by show hN X1 + 1 = _; omega
  have s2 : hS (md X1 a 21 108 1) = hS h + 221 := by show hS X1 + 108 = _; omega
  have x2 : NX h (md X1 a 21 108 1) := md_nx x1 (by omega)
  have K2 : ∀ x, hK (md X1 a 21 108 1) x = if x = 16 + hN X1 then (21, 108) else hK X1 x := fun x => md_K x
  have R2 : ∀ x j, hR (md X1 a 21 108 1) x j = if x = a ∧ j = 1 then 16 + hN X1 else if x = 16 + hN X1 then 0 else hR X1 x j := fun x j => md_R x j
  rw [show (108 : Int).toNat = 108 from rfl] at e2
  generalize md X1 a 21 108 1 = X2 at *
  have k2 : hK X2 a = (1, 0) := by rw [K2, if_neg (by omega)]; exact k1
  have e3 := fun f : AH → Option (Unit × AH) => md_s k2 (by omega) 21 (i := 108) (by decide) (by decide) 2 f
  have n3 : hN (md X2 a 21 108 2) = hN h + 4 := by show hN X2 + 1 = _; omega
  have s3 : hS (md X2 a 21 108 2) = hS h + 329 := by show hS X2 + 108 = _; omega
  have x3 : NX h (md X2 a 21 108 2) := md_nx x2 (by omega)
  have K3 : ∀ x, hK (md X2 a 21 108 2) x = if x = 16 + hN X2 then (21, 108) else hK X2 x := fun x => md_K x
  have R3 : ∀ x j, hR (md X2 a 21 108 2) x j = if x = a ∧ j = 2 then 16 + hN X2 else if x = 16 + hN X2 then 0 else hR X2 x j := fun x j => md_R x j
  rw [show (108 : Int).toNat = 108 from rfl] at e3
  generalize md X2 a 21 108 2 = X3 at *
  have k3 : hK X3 a = (1, 0) := by rw [K3, if_neg (by omega)]; exact k2
  obtain ⟨K, y1, y2, y3, y4, y5⟩ := Par_new X3
  have a3 : 16 + hN X3 = a + 4 := by omega
  rw [a3] at y1 y5
  have k4 : hK K a = (1, 0) := by rw [(y4.2 a (by omega)).1]; exact k3
  have K36 : hK K (a + 1) = (36, 108) := by rw [(y4.2 _ (by omega)).1, K3, if_neg (by omega), K2, if_neg (by omega), K1, if_pos (by omega)]
  have r0 : hR (sR K a 3 (a + 4)) a 0 = a + 1 := by
    rw [hR_sR, up2_e, if_neg (by omega), (y4.2 a (by omega)).2.2, R3, if_neg (by omega), if_neg (by omega), R2, if_neg (by omega), if_neg (by omega), R1, if_pos ⟨rfl, rfl⟩]; omega
  obtain ⟨H, z1, z2, z3, z4, z5⟩ := L 108 0 FU (sR K a 3 (a + 4)) (by omega) (by omega) ⟨(x3.trans y4).sR (by omega) _ _, fun j hj => absurd hj (Nat.not_lt_zero _)⟩ (by rw [hN_sR]; omega) (by rw [hS_sR]; omega) (by rw [hK_sR]; exact k4) r0 (by rw [hK_sR]; exact K36)
  have Ka : ∀ x, x < a + 6 → hK H x = hK K x := fun x hx => by rw [(z5 x (by omega)).1, hK_sR]
  have Ra : ∀ x, x < a + 6 → x ≠ a + 1 → hR H x = hR (sR K a 3 (a + 4)) x := fun x hx ne => (z5 x (by omega)).2 ne
  refine ⟨H, ?_, z2, z3, z4.1, by rw [Ka a (by omega)]; exact k4, by rw [Ra a (by omega) (by omega)]; exact r0, ?_, ?_, ?_, by rw [Ka _ (by omega)]; exact K36, ?_, ?_, ?_, z4.2⟩
  · unfold Cho_init
    rw [oi_k (by omega), e1, e2, e3, nO_k, a3, y1, bnd_some, pR_k k4]
    exact z1
  · rw [Ra a (by omega) (by omega), hR_sR, up2_e, if_neg (by omega), (y4.2 a (by omega)).2.2, R3, if_neg (by omega), if_neg (by omega), R2, if_pos ⟨rfl, rfl⟩]; omega
  · rw [Ra a (by omega) (by omega), hR_sR, up2_e, if_neg (by omega), (y4.2 a (by omega)).2.2, R3, if_pos ⟨rfl, rfl⟩]; omega
  · rw [Ra a (by omega) (by omega), hR_sR, up2_e, if_pos ⟨rfl, rfl⟩]
  · rw [Ka _ (by omega), (y4.2 _ (by omega)).1, K3, if_neg (by omega), K2, if_pos (by omega)]
  · rw [Ka _ (by omega), (y4.2 _ (by omega)).1, K3, if_pos (by omega)]
  · obtain ⟨p1, p2, p3⟩ := y5
    exact ⟨by rw [Ka _ (by omega)]; exact p1, by rw [Ra _ (by omega) (by omega), hR_sR, up2_ne (by omega)]; exact p2, by rw [Ka _ (by omega)]; exact p3⟩
theorem Que_new (h : AH) : ∃ H, Que_init (16 + hN h) (nw h 6 0 3) = some ((), H) ∧ hN H = hN h + 9 ∧ hS H = hS h + 67 ∧ NX h H ∧ hK H (16 + hN h) = (6, 0) ∧ hR H (16 + hN h) 0 = 16 + hN h + 1 ∧ hR H (16 + hN h) 1 = 16 + hN h + 2 ∧ hK H (16 + hN h + 1) = (21, 19) ∧ hK H (16 + hN h + 2) = (36, 3) ∧ ∀ k, k < 3 → hR H (16 + hN h + 2) k = 16 + hN h + 3 + 2 * k ∧ PA H (16 + hN h + 3 + 2 * k) := by
  have big := FU_big
  generalize ha : 16 + hN h = a
  have L : ∀ (m i F : Nat) (H : AH), i + m = 3 → m < F → PL h (a + 2) (a + 3) i H → hN H = hN h + 3 + 2 * i → hS H = hS h + 25 + 14 * i → hK H a = (6, 0) → hR H a 1 = a + 2 → hK H (a + 2) = (36, 3) → ∃ H', Que_init_L22 F a (i : Int) H = some ((), H') ∧ hN H' = hN h + 9 ∧ hS H' = hS h + 67 ∧ PL h (a + 2) (a + 3) 3 H' ∧ ∀ x, x < a + 3 + 2 * i → hK H' x = hK H x ∧ (x ≠ a + 2 → hR H' x = hR H x) := by
    intro m
    induction m with
    | zero =>
      intro i F H hi hF pl hn hs k1 r0 k36
      obtain ⟨F, rfl⟩ : ∃ j, F = j + 1 := ⟨F - 1, by omega⟩
      have : i = 3 := by omega
      subst this
      exact ⟨H, by rw [Que_init_L22, if_pos (by decide)], by omega, by omega, pl, fun _ _ => ⟨rfl, fun _ => rfl⟩⟩
    | succ m ih =>
      intro i F H hi hF pl hn hs k1 r0 k36
      obtain ⟨F, rfl⟩ : ∃ j, F = j + 1 := ⟨F - 1, by omega⟩
      obtain ⟨K, x1, x2, x3, x4, x5⟩ := part_s pl (by omega) (by omega) (by omega) k36 (show i < 3 by omega) (fun h7 => Que_init_L22 F a (wr ((i : Int) + 1)) h7)
      have k1' : hK K a = (6, 0) := by rw [(x5 a (by omega)).1]; exact k1
      have r0' : hR K a 1 = a + 2 := by rw [(x5 a (by omega)).2 (by omega)]; exact r0
      have k36' : hK K (a + 2) = (36, 3) := by rw [(x5 (a + 2) (by omega)).1]; exact k36
      obtain ⟨H', y1, y2, y3, y4, y5⟩ := ih (i + 1) F K (by omega) (by omega) x4 (by omega) (by omega) k1' r0' k36'
      refine ⟨H', ?_, y2, y3, y4, fun x hx => ?_⟩
      · rw [Que_init_L22, if_neg (by omega), gR_k k1, r0, x1, wr_id (by omega) (by omega), show (i : Int) + 1 = ((i + 1 : Nat) : Int) by omega, y1]
      · obtain ⟨z1, z2⟩ := y5 x (by omega)
        obtain ⟨w1, w2⟩ := x5 x (by omega)
        exact ⟨by rw [z1, w1], fun ne => by rw [z2 ne, w2 ne]⟩
  have k0 : hK (nw h 6 0 3) a = (6, 0) := by rw [hK_nw, if_pos (by omega)]
  have n0 : hN (nw h 6 0 3) = hN h + 1 := rfl
  have s0 : hS (nw h 6 0 3) = hS h + 3 := rfl
  have x0 : NX h (nw h 6 0 3) := NX_nw _ _ _ _
  generalize nw h 6 0 3 = X0 at *
  have e1 := fun f : AH → Option (Unit × AH) => md_s k0 (by omega) 21 (i := 19) (by decide) (by decide) 0 f
  have n1 : hN (md X0 a 21 19 0) = hN h + 2 := by show hN X0 + 1 = _; omega
  have s1 : hS (md X0 a 21 19 0) = hS h + 22 := by show hS X0 + 19 = _; omega
  have x1 : NX h (md X0 a 21 19 0) := md_nx x0 (by omega)
  have K1 : ∀ x, hK (md X0 a 21 19 0) x = if x = 16 + hN X0 then (21, 19) else hK X0 x := fun x => md_K x
  have R1 : ∀ x j, hR (md X0 a 21 19 0) x j = if x = a ∧ j = 0 then 16 + hN X0 else if x = 16 + hN X0 then 0 else hR X0 x j := fun x j => md_R x j
  rw [show (19 : Int).toNat = 19 from rfl] at e1
  generalize md X0 a 21 19 0 = X1 at *
  have k1 : hK X1 a = (6, 0) := by rw [K1, if_neg (by omega)]; exact k0
  have e2 := fun f : AH → Option (Unit × AH) => md_s k1 (by omega) 36 (i := 3) (by decide) (by decide) 1 f
  have n2 : hN (md X1 a 36 3 1) = hN h + 3 := by show hN X1 + 1 = _; omega
  have s2 : hS (md X1 a 36 3 1) = hS h + 25 := by show hS X1 + 3 = _; omega
  have x2 : NX h (md X1 a 36 3 1) := md_nx x1 (by omega)
  have K2 : ∀ x, hK (md X1 a 36 3 1) x = if x = 16 + hN X1 then (36, 3) else hK X1 x := fun x => md_K x
  have R2 : ∀ x j, hR (md X1 a 36 3 1) x j = if x = a ∧ j = 1 then 16 + hN X1 else if x = 16 + hN X1 then 0 else hR X1 x j := fun x j => md_R x j
  rw [show (3 : Int).toNat = 3 from rfl] at e2
  generalize md X1 a 36 3 1 = X2 at *
  have k2 : hK X2 a = (6, 0) := by rw [K2, if_neg (by omega)]; exact k1
  have K36 : hK X2 (a + 2) = (36, 3) := by rw [K2, if_pos (by omega)]
  have r1 : hR X2 a 1 = a + 2 := by rw [R2, if_pos ⟨rfl, rfl⟩]; omega
  obtain ⟨H, z1, z2, z3, z4, z5⟩ := L 3 0 FU X2 (by omega) (by omega) ⟨x2, fun j hj => absurd hj (Nat.not_lt_zero _)⟩ (by omega) (by omega) k2 r1 K36
  refine ⟨H, ?_, z2, z3, z4.1, by rw [(z5 a (by omega)).1]; exact k2, ?_, by rw [(z5 a (by omega)).2 (by omega)]; exact r1, ?_, by rw [(z5 _ (by omega)).1]; exact K36, z4.2⟩
  · unfold Que_init
    rw [oi_k (by omega), e1, e2]
    exact z1
  · rw [(z5 a (by omega)).2 (by omega), R2, if_neg (by omega), if_neg (by omega), R1, if_pos ⟨rfl, rfl⟩]; omega
  · rw [(z5 _ (by omega)).1, K2, if_neg (by omega), K1, if_pos (by omega)]
theorem Chr_new (h : AH) (v w : Nat) : ∃ H, Chr_init (16 + hN h) v w (nw h 2 0 7) = some ((), H) ∧ hN H = hN h + 26 ∧ hS H = hS h + 256 ∧ NX h H ∧ hK H (16 + hN h) = (2, 0) ∧ hR H (16 + hN h) 0 = v ∧ hR H (16 + hN h) 1 = w ∧ hR H (16 + hN h) 2 = 16 + hN h + 1 ∧ hR H (16 + hN h) 3 = 16 + hN h + 24 ∧ hR H (16 + hN h) 4 = 16 + hN h + 25 ∧ SH H (16 + hN h + 1) 7 ∧ hK H (16 + hN h + 24) = (21, 108) ∧ hK H (16 + hN h + 25) = (21, 6) := by
  generalize ha : 16 + hN h = a
  have k0 : hK (nw h 2 0 7) a = (2, 0) := by rw [hK_nw, if_pos (by omega)]
  have n0 : hN (nw h 2 0 7) = hN h + 1 := rfl
  have s0 : hS (nw h 2 0 7) = hS h + 7 := rfl
  have x0 : NX h (nw h 2 0 7) := NX_nw _ _ _ _
  generalize nw h 2 0 7 = X0 at *
  obtain ⟨K, y1, y2, y3, y4, y5⟩ := She_new X0 (R := 7) (by decide)
  have a0 : 16 + hN X0 = a + 1 := by omega
  rw [a0] at y1 y5
  have y1' : She_init (a + 1) 7 (nw X0 8 0 2) = some ((), K) := y1
  have kK : hK K a = (2, 0) := by rw [(y4.2 a (by omega)).1]; exact k0
  generalize hX1 : sR K a 2 (a + 1) = X1
  have n1 : hN X1 = hN h + 24 := by rw [← hX1, hN_sR]; omega
  have s1 : hS X1 = hS h + 142 := by rw [← hX1, hS_sR]; omega
  have x1 : NX h X1 := by rw [← hX1]; exact (x0.trans y4).sR (by omega) _ _
  have k1 : hK X1 a = (2, 0) := by rw [← hX1, hK_sR]; exact kK
  have r2 : hR X1 a 2 = a + 1 := by rw [← hX1, hR_sR, up2_e, if_pos ⟨rfl, rfl⟩]
  have sh1 : SH X1 (a + 1) 7 := by rw [← hX1]; exact y5.sR (Or.inl (by omega))
  have e1 := fun f : AH → Option (Unit × AH) => md_s k1 (by omega) 21 (i := 108) (by decide) (by decide) 3 f
  have n2 : hN (md X1 a 21 108 3) = hN h + 25 := by show hN X1 + 1 = _; omega
  have s2 : hS (md X1 a 21 108 3) = hS h + 250 := by show hS X1 + 108 = _; omega
  have x2 : NX h (md X1 a 21 108 3) := md_nx x1 (by omega)
  have K2 : ∀ x, hK (md X1 a 21 108 3) x = if x = 16 + hN X1 then (21, 108) else hK X1 x := fun x => md_K x
  have R2 : ∀ x j, hR (md X1 a 21 108 3) x j = if x = a ∧ j = 3 then 16 + hN X1 else if x = 16 + hN X1 then 0 else hR X1 x j := fun x j => md_R x j
  rw [show (108 : Int).toNat = 108 from rfl] at e1
  generalize md X1 a 21 108 3 = X2 at *
  have k2 : hK X2 a = (2, 0) := by rw [K2, if_neg (by omega)]; exact k1
  have e2 := fun f : AH → Option (Unit × AH) => md_s k2 (by omega) 21 (i := 6) (by decide) (by decide) 4 f
  have n3 : hN (md X2 a 21 6 4) = hN h + 26 := by show hN X2 + 1 = _; omega
  have s3 : hS (md X2 a 21 6 4) = hS h + 256 := by show hS X2 + 6 = _; omega
  have x3 : NX h (md X2 a 21 6 4) := md_nx x2 (by omega)
  have K3 : ∀ x, hK (md X2 a 21 6 4) x = if x = 16 + hN X2 then (21, 6) else hK X2 x := fun x => md_K x
  have R3 : ∀ x j, hR (md X2 a 21 6 4) x j = if x = a ∧ j = 4 then 16 + hN X2 else if x = 16 + hN X2 then 0 else hR X2 x j := fun x j => md_R x j
  rw [show (6 : Int).toNat = 6 from rfl] at e2
  generalize md X2 a 21 6 4 = X3 at *
  have k3 : hK X3 a = (2, 0) := by rw [K3, if_neg (by omega)]; exact k2
  have k3' : hK (sR X3 a 0 v) a = (2, 0) := by rw [hK_sR]; exact k3
  refine ⟨sR (sR X3 a 0 v) a 1 w, ?_, by rw [hN_sR, hN_sR]; exact n3, by rw [hS_sR, hS_sR]; exact s3, (x3.sR (by omega) _ _).sR (by omega) _ _, by rw [hK_sR]; exact k3', ?_, ?_, ?_, ?_, ?_, ?_, ?_, ?_⟩
  · unfold Chr_init
    rw [oi_k (by omega), nO_k, a0, y1', bnd_some, pR_k kK, hX1, e1, e2, pR_k k3, pR_k k3']
  · rw [hR_sR, up2_e, if_neg (by omega), hR_sR, up2_e, if_pos ⟨rfl, rfl⟩]
  · rw [hR_sR, up2_e, if_pos ⟨rfl, rfl⟩]
  · rw [hR_sR, up2_e, if_neg (by omega), hR_sR, up2_e, if_neg (by omega), R3, if_neg (by omega), if_neg (by omega), R2, if_neg (by omega), if_neg (by omega)]; exact r2
  · rw [hR_sR, up2_e, if_neg (by omega), hR_sR, up2_e, if_neg (by omega), R3, if_neg (by omega), if_neg (by omega), R2, if_pos ⟨rfl, rfl⟩]; omega
  · rw [hR_sR, up2_e, if_neg (by omega), hR_sR, up2_e, if_neg (by omega), R3, if_pos ⟨rfl, rfl⟩]; omega
  · refine SH_to sh1 (fun x h1 h2 => ?_) (fun x h1 h2 => ?_)
    · rw [hK_sR, hK_sR, K3, if_neg (by omega), K2, if_neg (by omega)]
    · rw [hR_sR, up2_ne (by omega), hR_sR, up2_ne (by omega)]
      funext j
      rw [R3, if_neg (by omega), if_neg (by omega), R2, if_neg (by omega), if_neg (by omega)]
  · rw [hK_sR, hK_sR, K3, if_neg (by omega), K2, if_pos (by omega)]
  · rw [hK_sR, hK_sR, K3, if_pos (by omega)]
end P2
