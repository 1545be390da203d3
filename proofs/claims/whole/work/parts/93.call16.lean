/-! Level 2: seed, undo, back, image of both sides -/
section K16
variable {h H K g : AH} {own own' : Nat → Nat}
theorem MS_to (m : MS h) (e : ∀ a, 401 ≤ a → a < 426 → hK H a = hK h a ∧ hR H a = hR h a) : MS H := by
  obtain ⟨m1, m2⟩ := m
  refine ⟨by rw [(e 401 (by decide) (by decide)).1]; exact m1, fun q hq => ?_⟩
  obtain ⟨a1, a2⟩ := m2 q hq
  have b : 401 ≤ q.2.1 ∧ q.2.1 < 426 := by
    have : ∀ q ∈ mArr, 401 ≤ q.2.1 ∧ q.2.1 < 426 := by decide
    exact this q hq
  exact ⟨by rw [(e 401 (by decide) (by decide)).2]; exact a1, by rw [(e _ b.1 b.2).1]; exact a2⟩
/-- both in order, put together -/
theorem JV_asm (j : JV h own) (hn : hN h ≤ hN H) (ho : ∀ x, x < 16 + hN h → own' x = own x) (ek : ∀ x, x < 426 → hK H x = hK h x) (er : ∀ x, x < 426 → ¬ (20 ≤ x ∧ x < 49) → hR H x = hR h x) (ei : ∀ x, x < 401 → ¬ (20 ≤ x ∧ x < 49) → ¬ (75 ≤ x ∧ x < 327) → hI H x = hI h x) (q : QG h H) (e4 : hI H 20 4 = hI H 402 8) (wo : ∃ F, WOF H own' 20 1 100 (rr (hI H)) F (hI H 401 43).toNat (fun i j => hI H 423 (156 * i + j))) (im : IM H own' H) (n43 : 0 ≤ hI H 401 43 ∧ hI H 401 43 ≤ 20) : JV H own' := by
  obtain ⟨c, m⟩ := j
  have bs := c.base (H := H) (own' := own') (g' := H) m.2.1 hn ho (fun x hx => ek x (by omega)) (fun x hx h2 => er x (by omega) h2) ei q
  have rb : RB (rr (hI H)) := by obtain ⟨F, wo⟩ := wo; exact wo.2.2.1.2.2
  have mb : MB H := MB_of (h := h) m.2.1 rb q.1 (fun a h1 h2 => q.2.2 a h1 (by omega))
  exact ⟨⟨bs.1, bs.2.1, bs.2.2, e4, wo, im⟩, MS_to m.1 (fun a h1 h2 => ⟨ek a h2, er a h2 (by omega)⟩), mb, q.qi m.2.2.1, rb, n43.1, n43.2⟩
theorem rr_8 (f : Nat → Nat → Int) (v : Int) : rr (up2 f 402 8 v) = rr f := by
  funext j
  unfold rr
  by_cases a : j < 8
  · rw [if_pos a, if_pos a, up2_e, if_neg (by omega)]
  · rw [if_neg a, if_neg a, up2_ne (by decide), up2_ne (by decide), up2_ne (by decide)]
theorem seed_ok {x : Int} (hx : x < 2147483648) : OKC (Bat_seed 16 x) (Mod_seed 401 x) := by
  intro h own ⟨c, m⟩ sd
  by_cases x0 : 0 ≤ x
  · have c7 := c.1.2.2.2.2.2.2.1
    have c8 := c.1.2.2.2.2.2.2.2
    obtain ⟨F, wo⟩ := c.2.2.2.2.1
    have ms : MS (sI h 20 4 x) := MS_to m.1 (fun _ _ _ => ⟨rfl, rfl⟩)
    have nn : ∀ y, y ≠ 20 → y ≠ 402 → hI (sI (sI h 20 4 x) 402 8 x) y = hI h y := fun y h1 h2 => by rw [hI_sIn _ _ h2, hI_sIn _ _ h1]
    have w1 : WOF (WI h (up2 (hI h) 20 4 x)) own 20 1 100 (rr (hI h)) F (hI h 401 43).toNat (fun i j => hI h 423 (156 * i + j)) := wo.head (f := up2 (hI h) 20 4 x) (fun y hy => up2_ne hy) wo.2.2.2.1.1 (by rw [up2_e, if_neg (by omega)]; exact wo.2.2.2.1.2) wo.2.2.2.2.1.1 (by rw [up2_e, if_neg (by omega)]; exact wo.2.2.2.2.1.2) (fun k hk => ⟨k, hk, rfl, rfl⟩)
    have w2 : WOF (sI (sI h 20 4 x) 402 8 x) own 20 1 100 (rr (hI h)) F (hI h 401 43).toNat (fun i j => hI h 423 (156 * i + j)) := w1.to (Nat.le_refl _) (fun _ _ => rfl) (fun y hy h2 => ⟨rfl, by
      rw [hI_sIn (sI h 20 4 x) _ (fun e => ?_)]
      · rfl
      · rcases h2 with h2 | h2
        · omega
        · rw [c7 y (by omega)] at h2; omega, rfl⟩)
    have er : rr (hI (sI (sI h 20 4 x) 402 8 x)) = rr (hI h) := by
      rw [hI_sI, rr_8]
      funext j
      unfold rr
      rw [hI_sIn _ _ (by decide), hI_sIn _ _ (by decide), hI_sIn _ _ (by decide), hI_sIn _ _ (by decide)]
    refine ⟨hI h 402 8, sI h 20 4 x, sI (sI h 20 4 x) 402 8 x, own, ?_, ?_, JV_asm ⟨c, m⟩ (Nat.le_refl _) (fun _ _ => rfl) (fun _ _ => rfl) (fun _ _ _ => rfl) (fun y h1 h2 _ => nn y (by omega) (by omega)) ⟨by rw [nn 401 (by decide) (by decide)], by rw [nn 401 (by decide) (by decide)], fun a h1 h2 => nn a (by omega) (by omega)⟩ ?_ ⟨F, ?_⟩ ?_ ?_, ⟨rfl, nn 15 (by decide) (by decide)⟩, ⟨rfl, by rw [hI_sIn _ _ (by decide)]⟩, by show hN h ≤ _; omega, by show hS h ≤ _; omega, ?_, rfl⟩
    · unfold Bat_seed
      rw [if_pos x0, gR_k c.fx.1, c.fx.2.2.2.2.1, gI_k c.wh.1, c.2.2.2.1, gR_k c.fx.1, c.fx.2.2.2.2.1, pI_k c.wh.1]
    · rw [Mod_seed_e ms, if_pos x0, hI_sIn _ _ (by decide)]
    · rw [hI_sIn _ _ (by decide), hI_sIs, hI_sIs]
    · rw [er, nn 401 (by decide) (by decide), nn 423 (by decide) (by decide)]
      exact w2
    · exact c.imgs (Nat.le_refl _) (fun _ _ => rfl) rfl (fun y h1 h2 h3 => ⟨rfl, nn y (by omega) (by omega), rfl⟩) (nn 424 (by decide) (by decide)) (nn 425 (by decide) (by decide))
    · rw [nn 401 (by decide) (by decide)]
      exact ⟨m.2.2.2.2.1, m.2.2.2.2.2⟩
    · unfold SD at *
      rw [hI_sIs, nn 424 (by decide) (by decide)]
      exact ⟨⟨x0, hx⟩, sd.2⟩
  · refine ⟨-1, h, h, own, ?_, ?_, ⟨c, m⟩, ⟨rfl, rfl⟩, ⟨rfl, rfl⟩, by omega, by omega, sd, rfl⟩
    · unfold Bat_seed; rw [if_neg x0]
    · rw [Mod_seed_e m.1, if_neg x0]
theorem ld_n (f : Nat → Nat → Int) (k : Nat) {a : Nat} (h1 : a ≠ 401) (h2 : a ≠ 402) (h3 : a ≠ 403) (h4 : a ≠ 404) (h5 : a ≠ 407) : ldF f k a = f a := by
  funext i
  unfold ldF
  rw [if_neg (by omega), if_neg (by omega), if_neg (by omega), if_neg (by omega), if_neg (by omega), if_neg (by omega)]
theorem ld_401 (f : Nat → Nat → Int) (k : Nat) {i : Nat} (h1 : i ≠ 44) (h2 : i ≠ 45) : ldF f k 401 i = f 401 i := by
  unfold ldF
  rw [if_neg (by omega), if_neg (by omega), if_neg (by omega), if_neg (by omega), if_neg (by omega), if_neg (by omega)]
theorem ld_8 (f : Nat → Nat → Int) (k : Nat) : ldF f k 402 8 = f 402 8 := by
  unfold ldF
  rw [if_neg (by omega), if_neg (by omega), if_neg (by omega), if_neg (by omega), if_neg (by omega), if_neg (by omega)]
theorem ld_rr (f : Nat → Nat → Int) (k : Nat) {j : Nat} (hj : j < 156) : rr (ldF f k) j = f 423 (156 * k + j) := by
  unfold rr ldF
  by_cases a : j < 8
  · rw [if_pos a, if_neg (by omega), if_neg (by omega), if_pos ⟨rfl, a⟩]
  · rw [if_neg a]
    by_cases b : j < 44
    · rw [if_pos b, if_neg (by omega), if_neg (by omega), if_neg (by omega), if_pos ⟨rfl, by omega⟩, show 8 + (j - 8) = j by omega]
    · rw [if_neg b]
      by_cases d : j < 60
      · rw [if_pos d, if_neg (by omega), if_neg (by omega), if_neg (by omega), if_neg (by omega), if_pos ⟨rfl, by omega⟩, show 44 + (j - 44) = j by omega]
      · rw [if_neg d, if_neg (by omega), if_neg (by omega), if_neg (by omega), if_neg (by omega), if_neg (by omega), if_pos ⟨rfl, by omega⟩, show 60 + (j - 60) = j by omega]
theorem undo_ok : OKC (Bat_undo 16) (Mod_undo 401) := by
  intro h own ⟨c, m⟩ sd
  have c7 := c.1.2.2.2.2.2.2.1
  have c8 := c.1.2.2.2.2.2.2.2
  have n0 := m.2.2.2.2.1
  have n1 := m.2.2.2.2.2
  obtain ⟨F, wo⟩ := c.2.2.2.2.1
  by_cases z : hI h 401 43 = 0
  · rw [show (hI h 401 43).toNat = 0 by omega] at wo
    refine ⟨-2, h, h, own, ?_, ?_, ⟨c, m⟩, ⟨rfl, rfl⟩, ⟨rfl, rfl⟩, by omega, by omega, sd, rfl⟩
    · unfold Bat_undo
      rw [gR_k c.fx.1, c.fx.2.2.2.2.1, rc_k c.wh.1, Wor_goBack_0 wo, bnd_some]
    · rw [Mod_undo_e m.1 n0 n1, if_pos z]
  · obtain ⟨n, hn⟩ : ∃ n : Nat, hI h 401 43 = (n : Int) + 1 := ⟨(hI h 401 43 - 1).toNat, by omega⟩
    rw [show (hI h 401 43).toNat = n + 1 by omega] at wo
    obtain ⟨f', x1, x2, x3, x4⟩ := Wor_goBack_e wo
    have e43 : hI (WI h f') 401 43 = (n : Int) + 1 := by rw [hI_WI, x3 401 (by decide)]; exact hn
    have ms : MS (WI h f') := m.1
    have md := Mod_undo_e ms (by omega) (by omega)
    rw [e43, if_neg (by omega), show (n : Int) + 1 - 1 = (n : Int) by omega, hI_WI, WI_WI, show ((n : Nat) : Int).toNat = n from rfl] at md
    generalize hG : ldF (up2 f' 401 43 (n : Int)) n = G at md
    have gn : ∀ a, a ≠ 401 → a ≠ 402 → a ≠ 403 → a ≠ 404 → a ≠ 407 → G a = f' a := fun a h1 h2 h3 h4 h5 => by rw [← hG, ld_n _ _ h1 h2 h3 h4 h5, up2_ne h1]
    have g1 : ∀ i, i ≠ 43 → i ≠ 44 → i ≠ 45 → G 401 i = hI h 401 i := fun i h1 h2 h3 => by rw [← hG, ld_401 _ _ h2 h3, up2_e, if_neg (by omega), x3 401 (by decide)]
    have g43 : G 401 43 = (n : Int) := by rw [← hG, ld_401 _ _ (by decide) (by decide), up2_e, if_pos ⟨rfl, rfl⟩]
    have g8 : G 402 8 = hI h 402 8 := by rw [← hG, ld_8, up2_ne (by decide), x3 402 (by decide)]
    have grr : ∀ j, j < 156 → rr G j = hI h 423 (156 * n + j) := fun j hj => by rw [← hG, ld_rr _ _ hj, up2_ne (by decide), x3 423 (by decide)]
    have gh : ∀ a, ¬ (20 ≤ a ∧ a < 47) → a ≠ 401 → a ≠ 402 → a ≠ 403 → a ≠ 404 → a ≠ 407 → G a = hI h a := fun a h0 h1 h2 h3 h4 h5 => by rw [gn a h1 h2 h3 h4 h5, x3 a (by omega)]
    have w2 : WOF (WI h G) own 20 1 100 (fun j => hI h 423 (156 * n + j)) F n (fun i j => hI h 423 (156 * i + j)) := x2.to (Nat.le_refl _) (fun _ _ => rfl) (fun y hy h2 => ⟨rfl, by
      have : y < 401 ∨ 426 ≤ y := by
        rcases h2 with h2 | h2
        · omega
        · by_cases q : y < 426
          · rw [c7 y q] at h2; omega
          · omega
      exact gn y (by omega) (by omega) (by omega) (by omega) (by omega), rfl⟩)
    refine ⟨(n : Int), WI h f', WI h G, own, ?_, md, JV_asm ⟨c, m⟩ (Nat.le_refl _) (fun _ _ => rfl) (fun _ _ => rfl) (fun _ _ _ => rfl) (fun y h1 h2 _ => gh y (by omega) (by omega) (by omega) (by omega) (by omega) (by omega)) ⟨g1 10 (by decide) (by decide) (by decide), g1 18 (by decide) (by decide) (by decide), fun a h1 h2 => gh a (by omega) (by omega) (by omega) (by omega) (by omega) (by omega)⟩ ?_ ⟨F, ?_⟩ ?_ ?_, ⟨rfl, gh 15 (by decide) (by decide) (by decide) (by decide) (by decide) (by decide)⟩, ⟨rfl, x3 15 (by decide)⟩, by show hN h ≤ _; omega, by show hS h ≤ _; omega, sd.of g8 (gh 424 (by decide) (by decide) (by decide) (by decide) (by decide) (by decide)), rfl⟩
    · unfold Bat_undo
      rw [gR_k c.fx.1, c.fx.2.2.2.2.1, rc_k c.wh.1, x1, bnd_some]
    · rw [hI_WI, g8, gn 20 (by decide) (by decide) (by decide) (by decide) (by decide), x4 4 (by decide)]
      exact c.2.2.2.1
    · rw [hI_WI, g43, show ((n : Nat) : Int).toNat = n from rfl, gh 423 (by decide) (by decide) (by decide) (by decide) (by decide) (by decide)]
      exact w2.row2 grr (fun _ _ _ _ => rfl)
    · exact c.imgs (Nat.le_refl _) (fun _ _ => rfl) rfl (fun y h1 h2 h3 => ⟨rfl, gh y (by omega) (by omega) (by omega) (by omega) (by omega) (by omega), rfl⟩) (gh 424 (by decide) (by decide) (by decide) (by decide) (by decide) (by decide)) (gh 425 (by decide) (by decide) (by decide) (by decide) (by decide) (by decide))
    · rw [hI_WI, g43]; omega
theorem ib_n (f : Nat → Nat → Int) (k : Nat) {a : Nat} (h1 : a ≠ 401) (h2 : a ≠ 402) (h3 : a ≠ 423) : ibF f k a = f a := by
  funext i
  unfold ibF
  rw [if_neg (by omega), if_neg (by omega), if_neg (by omega), if_neg (by omega), if_neg (by omega)]
theorem CAS.img {β : Type} (c : CAS h own g) {k : Nat} (hk : k < 4) (f : Nat → Option β) : (gR h 12 16 6 fun r => aR h 32 r (k : Int) f) = f (hR h 48 k) := by
  obtain ⟨x1, x2, x3, x4, x5, x6, x7, x8, x9, x10, x11, x12, x13, x14, x15⟩ := c.fx
  rw [gR_k x1, x6, aR_k x15 (by omega) (by omega), tN (k : Int) k rfl]
theorem back_ok (k : Int) : OKC (Bat_back 16 k) (Mod_back 401 k) := by
  intro h own ⟨c, m⟩ sd
  have c7 := c.1.2.2.2.2.2.2.1
  have c8 := c.1.2.2.2.2.2.2.2
  obtain ⟨F, wo⟩ := c.2.2.2.2.1
  have im := c.2.2.2.2.2
  by_cases o : (0 ≤ k ∧ k ≤ 3) ∧ hI h 425 k.toNat ≠ 0
  · obtain ⟨kk, o2⟩ := o
    obtain ⟨j, rfl⟩ : ∃ j : Nat, k = (j : Int) := ⟨k.toNat, by omega⟩
    have ej : ((j : Nat) : Int).toNat = j := rfl
    rw [ej] at o2
    rcases im j (by omega) with z | ⟨z1, z2, z3, z4, F', z5⟩
    · exact absurd z.2 o2
    · obtain ⟨H, o', x1, x2, x3, x4, x5, x6, x7⟩ := Wor_copy_e wo.wb z5 (by omega) (by omega) (by omega) (by omega)
      obtain ⟨y1, y2⟩ := x4
      have hh : ∀ x, x < 426 → ¬ (20 ≤ x ∧ x < 48) → hK H x = hK h x ∧ hI H x = hI h x ∧ hR H x = hR h x := fun x h1 h2 => by
        obtain ⟨⟨p1, p2⟩, p3⟩ := y2 x (by omega)
        obtain ⟨q1, q2⟩ := p3 (Or.inl (by rw [c7 x h1]; decide)) (by omega)
        exact ⟨p2, q1, q2⟩
      have ms : MS H := MS_to m.1 (fun a h1 h2 => ⟨(hh a h2 (by omega)).1, (hh a h2 (by omega)).2.2⟩)
      have md := Mod_back_e ms (j : Int)
      rw [ej, (hh 425 (by decide) (by decide)).2.1, if_pos ⟨kk, o2⟩, (hh 424 (by decide) (by decide)).2.1] at md
      generalize hG : bckF H j = G at md
      unfold bckF at hG
      have gn : ∀ a, a ≠ 401 → a ≠ 402 → a ≠ 403 → a ≠ 404 → a ≠ 407 → a ≠ 423 → G a = hI H a := fun a h1 h2 h3 h4 h5 h6 => by rw [← hG, ld_n _ _ h1 h2 h3 h4 h5, ib_n _ _ h1 h2 h6]
      have gh : ∀ a, a < 426 → ¬ (20 ≤ a ∧ a < 48) → a ≠ 401 → a ≠ 402 → a ≠ 403 → a ≠ 404 → a ≠ 407 → a ≠ 423 → G a = hI h a := fun a h0 h9 h1 h2 h3 h4 h5 h6 => by rw [gn a h1 h2 h3 h4 h5 h6, (hh a h0 h9).2.1]
      have g1 : ∀ i, i ≠ 43 → i ≠ 44 → i ≠ 45 → i ≠ 48 → i ≠ 49 → G 401 i = hI h 401 i := fun i h1 h2 h3 h4 h5 => by
        rw [← hG, ld_401 _ _ h2 h3, ← (hh 401 (by decide) (by decide)).2.1]
        unfold ibF
        rw [if_neg (by omega), if_neg (by omega), if_neg (by omega), if_neg (by omega), if_neg (by omega)]
      have g43 : G 401 43 = hI h 424 (3278 * j) := by
        rw [← hG, ld_401 _ _ (by decide) (by decide), ← (hh 424 (by decide) (by decide)).2.1]
        unfold ibF
        rw [if_neg (by omega), if_neg (by omega), if_pos ⟨rfl, rfl⟩]
      have g8 : G 402 8 = hI h 424 (3278 * j + 1) := by
        rw [← hG, ld_8, ← (hh 424 (by decide) (by decide)).2.1]
        unfold ibF
        rw [if_neg (by omega), if_neg (by omega), if_neg (by omega), if_pos ⟨rfl, rfl⟩]
      have i423 : ∀ i, i < 3276 → ibF (hI H) j 423 i = hI h 424 (3278 * j + 2 + i) := fun i hi => by
        rw [← (hh 424 (by decide) (by decide)).2.1]
        unfold ibF
        rw [if_neg (by omega), if_neg (by omega), if_neg (by omega), if_neg (by omega), if_pos ⟨rfl, hi⟩]
      have g423 : ∀ i, i < 3276 → G 423 i = hI h 424 (3278 * j + 2 + i) := fun i hi => by
        rw [← hG, ld_n _ _ (by decide) (by decide) (by decide) (by decide) (by decide)]; exact i423 i hi
      have grr : ∀ i, i < 156 → rr G i = hI h 424 (3278 * j + 2 + 3120 + i) := fun i hi => by
        rw [← hG, ld_rr _ _ hi, i423 _ (by omega), show 3278 * j + 2 + (156 * 20 + i) = 3278 * j + 2 + 3120 + i by omega]
      have nof : ∀ y, (20 ≤ y ∧ y < 20 + 28) ∨ (100 ≤ o' y ∧ o' y < 100 + 20) → y < 16 + hN H → y < 401 ∨ 426 ≤ y := fun y h2 hy => by
        rcases h2 with h2 | h2
        · omega
        · by_cases q : y < 426
          · rw [(y2 y (by omega)).1.1, c7 y q] at h2; omega
          · omega
      have w2 : WOF (WI H G) o' 20 1 100 (fun i => hI h 424 (3278 * j + 2 + 3120 + i)) 0 (hI h 424 (3278 * j)).toNat (fun i l => hI h 424 (3278 * j + 2 + (156 * i + l))) := x2.to (Nat.le_refl _) (fun _ _ => rfl) (fun y hy h2 => ⟨rfl, by
        have := nof y h2 hy
        exact gn y (by omega) (by omega) (by omega) (by omega) (by omega) (by omega), rfl⟩)
      have st := x2.2.2.1
      have n20 : (hI h 424 (3278 * j)).toNat ≤ 20 := x2.2.2.2.1.1
      refine ⟨hI h 424 (3278 * j + 2 + 3127), H, WI H G, o', ?_, md, JV_asm ⟨c, m⟩ y1 (fun x hx => (y2 x hx).1.1) (fun x hx => (y2 x (by omega)).1.2) (fun x hx h2 => (hh x hx (by omega)).2.2) (fun y h1 h2 _ => gh y (by omega) (by omega) (by omega) (by omega) (by omega) (by omega) (by omega) (by omega)) ⟨g1 10 (by decide) (by decide) (by decide) (by decide) (by decide), g1 18 (by decide) (by decide) (by decide) (by decide) (by decide), fun a h1 h2 => gh a (by omega) (by omega) (by omega) (by omega) (by omega) (by omega) (by omega) (by omega)⟩ ?_ ⟨0, ?_⟩ ?_ ?_, ⟨(hh 15 (by decide) (by decide)).1, gh 15 (by decide) (by decide) (by decide) (by decide) (by decide) (by decide) (by decide) (by decide)⟩, ⟨(hh 15 (by decide) (by decide)).1, (hh 15 (by decide) (by decide)).2.1⟩, by show hN H ≤ _; omega, by show hS H ≤ _; omega, ?_, (y2 401 (by omega)).1.2⟩
      · have k20 : hK H 20 = (11, 0) := x2.1.1
        have r20 : hR H 20 0 = 21 := x2.1.2.1
        have fx : hK H 16 = (12, 0) ∧ hR H 16 5 = 20 := by rw [(hh 16 (by decide) (by decide)).1, (hh 16 (by decide) (by decide)).2.2]; exact ⟨c.fx.1, c.fx.2.2.2.2.1⟩
        have t6 : hI H 21 6 = hI h 424 (3278 * j + 2 + 3120 + 7) := st.2.1.2.2.2.2.2.2.2.1
        unfold Bat_back
        rw [if_neg (by omega), if_neg (by omega), c.img (by omega), if_pos z2, gR_k c.fx.1, c.fx.2.2.2.2.1, c.img (by omega), rc_k c.wh.1, x1, bnd_some, gR_k fx.1, fx.2, gR_k k20, r20, gI_k st.1.1, t6]
      · rw [hI_WI, g8, gn 20 (by decide) (by decide) (by decide) (by decide) (by decide) (by decide), x5]
        exact z4
      · rw [hI_WI, g43]
        exact w2.row2 grr (fun i hi l hl => g423 _ (by omega))
      · exact c.imgs y1 (fun x hx => (y2 x hx).1.1) (hh 48 (by decide) (by decide)).2.2 (fun y h1 h2 h3 => by
          obtain ⟨⟨p1, p2⟩, p3⟩ := y2 y h1
          obtain ⟨q1, q2⟩ := p3 h3 (by omega)
          exact ⟨p2, by rw [hI_WI, gn y (by omega) (by omega) (by omega) (by omega) (by omega) (by omega)]; exact q1, q2⟩) (gh 424 (by decide) (by decide) (by decide) (by decide) (by decide) (by decide) (by decide) (by decide)) (gh 425 (by decide) (by decide) (by decide) (by decide) (by decide) (by decide) (by decide) (by decide))
      · rw [hI_WI, g43]; exact z3
      · unfold SD at *
        rw [hI_WI, g8, gh 424 (by decide) (by decide) (by decide) (by decide) (by decide) (by decide) (by decide) (by decide)]
        exact ⟨sd.2 j (by omega), sd.2⟩
  · refine ⟨-1, h, h, own, ?_, ?_, ⟨c, m⟩, ⟨rfl, rfl⟩, ⟨rfl, rfl⟩, by omega, by omega, sd, rfl⟩
    · unfold Bat_back
      by_cases a : k < 0
      · rw [if_pos a]
      · rw [if_neg a]
        by_cases b : 4 ≤ k
        · rw [if_pos b]
        · obtain ⟨j, rfl⟩ : ∃ j : Nat, k = (j : Int) := ⟨k.toNat, by omega⟩
          have z : hR h 48 j = 0 := by
            rcases im j (by omega) with z | ⟨z1, -⟩
            · exact z.1
            · exact absurd ⟨by omega, z1⟩ o
          rw [if_neg b, c.img (by omega), if_neg (by simpa using z)]
    · rw [Mod_back_e m.1, if_neg o]
end K16
