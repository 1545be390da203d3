/-! Level 2: the reference's query as it is read -/
def r4F (f : Nat → Nat → Int) (q : Nat) (ω : Nat → Int) (t : Int) : Nat → Nat → Int := fun a i =>
  if a = 401 then (if i = 22 then (q : Int) else if i = 23 then t else f a i)
  else if a = 408 then (if i = q then ω 0 else f a i)
  else if a = 409 then (if i = q then ω 1 else f a i)
  else if a = 410 then (if i = q then ω 2 else f a i)
  else if a = 411 then (if 5 * q ≤ i ∧ i < 5 * q + 5 then ω (3 + 2 * (i - 5 * q)) else f a i)
  else if a = 412 then (if 5 * q ≤ i ∧ i < 5 * q + 5 then ω (4 + 2 * (i - 5 * q)) else f a i)
  else if a = 413 then (if i = q then ω 13 else f a i)
  else if a = 414 then (if (5 * q ≤ i ∧ i < 5 * q + 5) ∧ ((i - 5 * q : Nat) : Int) < ω 13 then ω (14 + (i - 5 * q)) else f a i)
  else f a i
def R4 (K : AH) (q : Nat) (ω : Nat → Int) (t : Int) : AH := WI K (r4F (hI K) q ω t)
/-- only a query's row and the reader are otherwise -/
def FQ (q : Nat) (K H : AH) : Prop := (hN H = hN K ∧ hS H = hS K ∧ hK H = hK K ∧ hR H = hR K) ∧ (∀ a, a ≠ 401 → ¬ (408 ≤ a ∧ a ≤ 414) → hI H a = hI K a) ∧ (∀ i, i ≠ 19 → i ≠ 20 → i ≠ 22 → i ≠ 23 → hI H 401 i = hI K 401 i) ∧ (∀ a i, a = 408 ∨ a = 409 ∨ a = 410 ∨ a = 413 → i ≠ q → hI H a i = hI K a i) ∧ ∀ a i, a = 411 ∨ a = 412 ∨ a = 414 → ¬ (5 * q ≤ i ∧ i < 5 * q + 5) → hI H a i = hI K a i
def QB1 (ω : Nat → Int) : Prop := (ω 0 = 0 ∨ ω 0 = 1 ∨ ω 0 = 2) ∧ ∀ c, c < 5 → (0 ≤ ω (3 + 2 * c) ∧ ω (3 + 2 * c) ≤ 10) ∧ -1 ≤ ω (4 + 2 * c) ∧ ω (4 + 2 * c) ≤ 9
section N1
variable {K H : AH} {n p q : Nat} {φ t : Int} {T : Nat → Int} {ω ω' : Nat → Int}
theorem FQ.refl (q : Nat) (K : AH) : FQ q K K := ⟨⟨rfl, rfl, rfl, rfl⟩, fun _ _ _ => rfl, fun _ _ _ _ _ => rfl, fun _ _ _ _ => rfl, fun _ _ _ _ => rfl⟩
theorem FQ.trans {a b c : AH} (x : FQ q a b) (y : FQ q b c) : FQ q a c := by
  obtain ⟨⟨x1, x2, x3, x4⟩, x5, x6, x7, x8⟩ := x
  obtain ⟨⟨y1, y2, y3, y4⟩, y5, y6, y7, y8⟩ := y
  exact ⟨⟨by rw [y1, x1], by rw [y2, x2], by rw [y3, x3], by rw [y4, x4]⟩, fun k h1 h2 => by rw [y5 k h1 h2, x5 k h1 h2], fun i h1 h2 h3 h4 => by rw [y6 i h1 h2 h3 h4, x6 i h1 h2 h3 h4], fun k i h1 h2 => by rw [y7 k i h1 h2, x7 k i h1 h2], fun k i h1 h2 => by rw [y8 k i h1 h2, x8 k i h1 h2]⟩
theorem r4_e (a i : Nat) : hI (R4 K q ω t) a i = r4F (hI K) q ω t a i := rfl
theorem FQ_R4 (K : AH) (q : Nat) (ω : Nat → Int) (t : Int) : FQ q K (R4 K q ω t) := by
  refine ⟨⟨rfl, rfl, rfl, rfl⟩, fun a h1 h2 => ?_, fun i h1 h2 h3 h4 => ?_, fun a i h1 h2 => ?_, fun a i h1 h2 => ?_⟩
  · funext i
    rw [r4_e]; unfold r4F
    rw [if_neg h1, if_neg (by omega), if_neg (by omega), if_neg (by omega), if_neg (by omega), if_neg (by omega), if_neg (by omega), if_neg (by omega)]
  · rw [r4_e]; unfold r4F
    rw [if_pos rfl, if_neg h3, if_neg h4]
  · rw [r4_e]; unfold r4F
    rcases h1 with rfl | rfl | rfl | rfl <;> simp [h2]
  · rw [r4_e]; unfold r4F
    rcases h1 with rfl | rfl | rfl
    · simp only [if_neg h2]; simp
    · simp only [if_neg h2]; simp
    · rw [if_neg (by decide), if_neg (by decide), if_neg (by decide), if_neg (by decide), if_neg (by decide), if_neg (by decide), if_neg (by decide), if_pos rfl, if_neg (fun x => h2 x.1)]
theorem FQ.rd (f : FQ q K H) (r : RDM K n T) : RDM H n T := by
  obtain ⟨⟨x1, x2, x3, x4⟩, x5, x6, x7, x8⟩ := f
  obtain ⟨m, r4, r5, rT⟩ := r
  refine ⟨MS_to m (fun a _ _ => ⟨by rw [x3], by rw [x4]⟩), by rw [x6 18 (by decide) (by decide) (by decide) (by decide)]; exact r4, r5, ?_⟩
  rw [x5 415 (by decide) (by decide)]
  exact rT
theorem R4_rd (r : RDM K n T) : RDM (R4 K q ω t) n T := (FQ_R4 K q ω t).rd r
theorem rF_401 {f : Nat → Nat → Int} (i : Nat) : r4F f q ω t 401 i = if i = 22 then (q : Int) else if i = 23 then t else f 401 i := rfl
theorem rF_408 {f : Nat → Nat → Int} (i : Nat) : r4F f q ω t 408 i = if i = q then ω 0 else f 408 i := rfl
theorem rF_409 {f : Nat → Nat → Int} (i : Nat) : r4F f q ω t 409 i = if i = q then ω 1 else f 409 i := rfl
theorem rF_410 {f : Nat → Nat → Int} (i : Nat) : r4F f q ω t 410 i = if i = q then ω 2 else f 410 i := rfl
theorem rF_411 {f : Nat → Nat → Int} (i : Nat) : r4F f q ω t 411 i = if 5 * q ≤ i ∧ i < 5 * q + 5 then ω (3 + 2 * (i - 5 * q)) else f 411 i := rfl
theorem rF_412 {f : Nat → Nat → Int} (i : Nat) : r4F f q ω t 412 i = if 5 * q ≤ i ∧ i < 5 * q + 5 then ω (4 + 2 * (i - 5 * q)) else f 412 i := rfl
theorem rF_413 {f : Nat → Nat → Int} (i : Nat) : r4F f q ω t 413 i = if i = q then ω 13 else f 413 i := rfl
theorem rF_414 {f : Nat → Nat → Int} (i : Nat) : r4F f q ω t 414 i = if (5 * q ≤ i ∧ i < 5 * q + 5) ∧ ((i - 5 * q : Nat) : Int) < ω 13 then ω (14 + (i - 5 * q)) else f 414 i := rfl
theorem rF_n {f : Nat → Nat → Int} {a : Nat} (h1 : a ≠ 401) (h2 : ¬ (408 ≤ a ∧ a ≤ 414)) (i : Nat) : r4F f q ω t a i = f a i := by
  unfold r4F
  rw [if_neg h1, if_neg (by omega), if_neg (by omega), if_neg (by omega), if_neg (by omega), if_neg (by omega), if_neg (by omega), if_neg (by omega)]
theorem rF_x {f g : Nat → Nat → Int} (h1 : ∀ i, f 401 i = g 401 i) (h8 : ∀ i, f 408 i = g 408 i) (h9 : ∀ i, f 409 i = g 409 i) (h10 : ∀ i, f 410 i = g 410 i) (h11 : ∀ i, f 411 i = g 411 i) (h12 : ∀ i, f 412 i = g 412 i) (h13 : ∀ i, f 413 i = g 413 i) (h14 : ∀ i, f 414 i = g 414 i) (hn : ∀ a i, a ≠ 401 → ¬ (408 ≤ a ∧ a ≤ 414) → f a i = g a i) (a i : Nat) : f a i = g a i := by
  by_cases c : 408 ≤ a ∧ a ≤ 414
  · have : a = 408 ∨ a = 409 ∨ a = 410 ∨ a = 411 ∨ a = 412 ∨ a = 413 ∨ a = 414 := by omega
    rcases this with rfl | rfl | rfl | rfl | rfl | rfl | rfl
    · exact h8 i
    · exact h9 i
    · exact h10 i
    · exact h11 i
    · exact h12 i
    · exact h13 i
    · exact h14 i
  · by_cases d : a = 401
    · rw [d]; exact h1 i
    · exact hn a i d c
theorem R4_cg (e : ∀ w, w ≤ 13 → ω w = ω' w) (e2 : ∀ j : Nat, j < 5 → (j : Int) < ω 13 → ω (14 + j) = ω' (14 + j)) : R4 K q ω t = R4 K q ω' t := by
  refine WI_ext K (rF_x (fun i => rfl) (fun i => ?_) (fun i => ?_) (fun i => ?_) (fun i => ?_) (fun i => ?_) (fun i => ?_) (fun i => ?_) (fun a i h1 h2 => by rw [rF_n h1 h2, rF_n h1 h2]))
  · rw [rF_408, rF_408, e 0 (by decide)]
  · rw [rF_409, rF_409, e 1 (by decide)]
  · rw [rF_410, rF_410, e 2 (by decide)]
  · rw [rF_411, rF_411]
    by_cases c : 5 * q ≤ i ∧ i < 5 * q + 5
    · rw [if_pos c, if_pos c, e _ (by omega)]
    · rw [if_neg c, if_neg c]
  · rw [rF_412, rF_412]
    by_cases c : 5 * q ≤ i ∧ i < 5 * q + 5
    · rw [if_pos c, if_pos c, e _ (by omega)]
    · rw [if_neg c, if_neg c]
  · rw [rF_413, rF_413, e 13 (by decide)]
  · rw [rF_414, rF_414, ← e 13 (by decide)]
    by_cases c : (5 * q ≤ i ∧ i < 5 * q + 5) ∧ ((i - 5 * q : Nat) : Int) < ω 13
    · rw [if_pos c, if_pos c, e2 _ (by omega) c.2]
    · rw [if_neg c, if_neg c]
theorem y_22 : hI (S41 (R4 K q ω t) p φ) 401 22 = q := by
  rw [s41_o (by decide) (by decide), r4_e]; rfl
theorem y_23 : hI (S41 (R4 K q ω t) p φ) 401 23 = t := by
  rw [s41_o (by decide) (by decide), r4_e]; rfl
theorem y_408 : hI (S41 (R4 K q ω t) p φ) 408 q = ω 0 := by
  rw [s41_n (by decide), r4_e]; unfold r4F; simp
theorem y_413 : hI (S41 (R4 K q ω t) p φ) 413 q = ω 13 := by
  rw [s41_n (by decide), r4_e]; unfold r4F; simp
theorem y_411 {c : Nat} (hc : c < 5) : hI (S41 (R4 K q ω t) p φ) 411 (5 * q + c) = ω (3 + 2 * c) := by
  rw [s41_n (by decide), r4_e]; unfold r4F
  have e : 5 * q + c - 5 * q = c := by omega
  have d : 5 * q ≤ 5 * q + c ∧ 5 * q + c < 5 * q + 5 := by omega
  simp [hc]
theorem y_412 {c : Nat} (hc : c < 5) : hI (S41 (R4 K q ω t) p φ) 412 (5 * q + c) = ω (4 + 2 * c) := by
  rw [s41_n (by decide), r4_e]; unfold r4F
  have e : 5 * q + c - 5 * q = c := by omega
  have d : 5 * q ≤ 5 * q + c ∧ 5 * q + c < 5 * q + 5 := by omega
  simp [hc]
theorem z_ext {f g : Nat → Nat → Int} (e : ∀ a i, f a i = g a i) : S41 (WI K f) p φ = S41 (WI K g) p φ := by
  rw [WI_ext K e]
theorem z_408 (v : Int) : sI (S41 (R4 K q ω t) p φ) 408 q v = S41 (R4 K q (u1 ω 0 v) t) p φ := by
  rw [s41_w (by decide)]
  exact z_ext (fun a i => by rw [up2_e, r4_e]; unfold r4F u1; grind)
theorem z_409 (v : Int) : sI (S41 (R4 K q ω t) p φ) 409 q v = S41 (R4 K q (u1 ω 1 v) t) p φ := by
  rw [s41_w (by decide)]
  exact z_ext (fun a i => by rw [up2_e, r4_e]; unfold r4F u1; grind)
theorem z_410 (v : Int) : sI (S41 (R4 K q ω t) p φ) 410 q v = S41 (R4 K q (u1 ω 2 v) t) p φ := by
  rw [s41_w (by decide)]
  exact z_ext (fun a i => by rw [up2_e, r4_e]; unfold r4F u1; grind)
theorem z_411 {c : Nat} (hc : c < 5) (v : Int) : sI (S41 (R4 K q ω t) p φ) 411 (5 * q + c) v = S41 (R4 K q (u1 ω (3 + 2 * c) v) t) p φ := by
  rw [s41_w (by decide)]
  refine z_ext (K := K) (rF_x (fun i => ?_) (fun i => ?_) (fun i => ?_) (fun i => ?_) (fun i => ?_) (fun i => ?_) (fun i => ?_) (fun i => ?_) (fun a i h1 h2 => ?_))
  · rw [up2_ne (by decide)]; rfl
  · rw [up2_ne (by decide), r4_e, rF_408, rF_408, u1_n (by omega)]
  · rw [up2_ne (by decide), r4_e, rF_409, rF_409, u1_n (by omega)]
  · rw [up2_ne (by decide), r4_e, rF_410, rF_410, u1_n (by omega)]
  · rw [up2_e, rF_411]
    by_cases c0 : i = 5 * q + c
    · rw [if_pos ⟨rfl, c0⟩, if_pos (by omega), c0, show 5 * q + c - 5 * q = c by omega, u1_s]
    · rw [if_neg (fun x => c0 x.2), r4_e, rF_411]
      by_cases d : 5 * q ≤ i ∧ i < 5 * q + 5
      · rw [if_pos d, if_pos d, u1_n (by omega)]
      · rw [if_neg d, if_neg d]
  · rw [up2_ne (by decide), r4_e, rF_412, rF_412]
    by_cases d : 5 * q ≤ i ∧ i < 5 * q + 5
    · rw [if_pos d, if_pos d, u1_n (by omega)]
    · rw [if_neg d, if_neg d]
  · rw [up2_ne (by decide), r4_e, rF_413, rF_413, u1_n (by omega)]
  · rw [up2_ne (by decide), r4_e, rF_414, rF_414, u1_n (by omega)]
    by_cases d : (5 * q ≤ i ∧ i < 5 * q + 5) ∧ ((i - 5 * q : Nat) : Int) < ω 13
    · rw [if_pos d, if_pos d, u1_n (by omega)]
    · rw [if_neg d, if_neg d]
  · rw [up2_ne (by omega), r4_e, rF_n h1 h2, rF_n h1 h2]
theorem z_412 {c : Nat} (hc : c < 5) (v : Int) : sI (S41 (R4 K q ω t) p φ) 412 (5 * q + c) v = S41 (R4 K q (u1 ω (4 + 2 * c) v) t) p φ := by
  rw [s41_w (by decide)]
  refine z_ext (K := K) (rF_x (fun i => ?_) (fun i => ?_) (fun i => ?_) (fun i => ?_) (fun i => ?_) (fun i => ?_) (fun i => ?_) (fun i => ?_) (fun a i h1 h2 => ?_))
  · rw [up2_ne (by decide)]; rfl
  · rw [up2_ne (by decide), r4_e, rF_408, rF_408, u1_n (by omega)]
  · rw [up2_ne (by decide), r4_e, rF_409, rF_409, u1_n (by omega)]
  · rw [up2_ne (by decide), r4_e, rF_410, rF_410, u1_n (by omega)]
  · rw [up2_ne (by decide), r4_e, rF_411, rF_411]
    by_cases d : 5 * q ≤ i ∧ i < 5 * q + 5
    · rw [if_pos d, if_pos d, u1_n (by omega)]
    · rw [if_neg d, if_neg d]
  · rw [up2_e, rF_412]
    by_cases c0 : i = 5 * q + c
    · rw [if_pos ⟨rfl, c0⟩, if_pos (by omega), c0, show 5 * q + c - 5 * q = c by omega, u1_s]
    · rw [if_neg (fun x => c0 x.2), r4_e, rF_412]
      by_cases d : 5 * q ≤ i ∧ i < 5 * q + 5
      · rw [if_pos d, if_pos d, u1_n (by omega)]
      · rw [if_neg d, if_neg d]
  · rw [up2_ne (by decide), r4_e, rF_413, rF_413, u1_n (by omega)]
  · rw [up2_ne (by decide), r4_e, rF_414, rF_414, u1_n (by omega)]
    by_cases d : (5 * q ≤ i ∧ i < 5 * q + 5) ∧ ((i - 5 * q : Nat) : Int) < ω 13
    · rw [if_pos d, if_pos d, u1_n (by omega)]
    · rw [if_neg d, if_neg d]
  · rw [up2_ne (by omega), r4_e, rF_n h1 h2, rF_n h1 h2]
theorem z_23 (v : Int) : sI (S41 (R4 K q ω t) p φ) 401 23 v = S41 (R4 K q ω v) p φ := by
  rw [s41_v (by decide) (by decide)]
  exact z_ext (fun a i => by rw [up2_e, r4_e]; unfold r4F; grind)
theorem z_show {k : Nat} (hk : k < 5) (e : ω 13 = (k : Int)) (v : Int) : sI (sI (S41 (R4 K q ω t) p φ) 414 (5 * q + k) v) 413 q ((k : Int) + 1) = S41 (R4 K q (u1 (u1 ω (14 + k) v) 13 ((k : Int) + 1)) t) p φ := by
  have u : ∀ w, w < 13 → u1 (u1 ω (14 + k) v) 13 ((k : Int) + 1) w = ω w := fun w hw => by rw [u1_n (by omega), u1_n (by omega)]
  have u13 : u1 (u1 ω (14 + k) v) 13 ((k : Int) + 1) 13 = (k : Int) + 1 := u1_s
  rw [s41_w (by decide), s41_w (by decide)]
  refine z_ext (K := K) (rF_x (fun i => ?_) (fun i => ?_) (fun i => ?_) (fun i => ?_) (fun i => ?_) (fun i => ?_) (fun i => ?_) (fun i => ?_) (fun a i h1 h2 => ?_))
  · rw [hI_sI, up2_ne (by decide), up2_ne (by decide)]; rfl
  · rw [hI_sI, up2_ne (by decide), up2_ne (by decide), r4_e, rF_408, rF_408, u 0 (by decide)]
  · rw [hI_sI, up2_ne (by decide), up2_ne (by decide), r4_e, rF_409, rF_409, u 1 (by decide)]
  · rw [hI_sI, up2_ne (by decide), up2_ne (by decide), r4_e, rF_410, rF_410, u 2 (by decide)]
  · rw [hI_sI, up2_ne (by decide), up2_ne (by decide), r4_e, rF_411, rF_411]
    by_cases c : 5 * q ≤ i ∧ i < 5 * q + 5
    · rw [if_pos c, if_pos c, u _ (by omega)]
    · rw [if_neg c, if_neg c]
  · rw [hI_sI, up2_ne (by decide), up2_ne (by decide), r4_e, rF_412, rF_412]
    by_cases c : 5 * q ≤ i ∧ i < 5 * q + 5
    · rw [if_pos c, if_pos c, u _ (by omega)]
    · rw [if_neg c, if_neg c]
  · rw [up2_e, rF_413, u13]
    by_cases c : i = q
    · rw [if_pos ⟨rfl, c⟩, if_pos c]
    · rw [if_neg (fun x => c x.2), if_neg c, hI_sI, up2_ne (by decide), r4_e, rF_413, if_neg c]
  · rw [up2_ne (by decide), hI_sI, up2_e, rF_414, u13]
    by_cases c : i = 5 * q + k
    · rw [if_pos ⟨rfl, c⟩, if_pos (by omega), c, show 5 * q + k - 5 * q = k by omega, u1_n (by omega), u1_s]
    · rw [if_neg (fun x => c x.2), r4_e, rF_414, e]
      by_cases d : (5 * q ≤ i ∧ i < 5 * q + 5) ∧ ((i - 5 * q : Nat) : Int) < k
      · rw [if_pos d, if_pos (by omega), u1_n (by omega), u1_n (by omega)]
      · rw [if_neg d, if_neg (by omega)]
  · rw [hI_sI, up2_ne (by omega), up2_ne (by omega), r4_e, rF_n h1 h2, rF_n h1 h2]
theorem z_none : sI (S41 (R4 K q ω t) p φ) 413 q 0 = S41 (R4 (R4 K q ω t) q (shN ω) t) p φ := by
  rw [s41_w (by decide)]
  have s0 : ∀ w, w < 13 → shN ω w = ω w := fun w hw => by unfold shN; rw [if_neg (by omega), if_neg (by omega)]
  have s13 : shN ω 13 = 0 := rfl
  refine z_ext (K := K) (rF_x (fun i => ?_) (fun i => ?_) (fun i => ?_) (fun i => ?_) (fun i => ?_) (fun i => ?_) (fun i => ?_) (fun i => ?_) (fun a i h1 h2 => ?_))
  · rw [up2_ne (by decide), r4_e, rF_401, rF_401, r4_e, rF_401]
    grind
  · rw [up2_ne (by decide), r4_e, rF_408, rF_408, r4_e, rF_408, s0 0 (by decide)]
    grind
  · rw [up2_ne (by decide), r4_e, rF_409, rF_409, r4_e, rF_409, s0 1 (by decide)]
    grind
  · rw [up2_ne (by decide), r4_e, rF_410, rF_410, r4_e, rF_410, s0 2 (by decide)]
    grind
  · rw [up2_ne (by decide), r4_e, rF_411, rF_411, r4_e, rF_411]
    by_cases c : 5 * q ≤ i ∧ i < 5 * q + 5
    · rw [if_pos c, if_pos c, s0 _ (by omega)]
    · rw [if_neg c, if_neg c]
  · rw [up2_ne (by decide), r4_e, rF_412, rF_412, r4_e, rF_412]
    by_cases c : 5 * q ≤ i ∧ i < 5 * q + 5
    · rw [if_pos c, if_pos c, s0 _ (by omega)]
    · rw [if_neg c, if_neg c]
  · rw [up2_e, rF_413, s13]
    by_cases c : i = q
    · rw [if_pos ⟨rfl, c⟩, if_pos c]
    · rw [if_neg (fun x => c x.2), if_neg c]
  · rw [up2_ne (by decide), rF_414 (f := hI (R4 K q ω t)), s13, if_neg (by omega)]
  · rw [up2_ne (by omega), r4_e, rF_n h1 h2, rF_n h1 h2, r4_e, rF_n h1 h2]
end N1
