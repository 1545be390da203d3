/-! Level 2: the class's query as it is read -/
section M2
variable {K H : AH} {n p Q : Nat} {φ vd t : Int} {T : Nat → Int} {ω ω' : Nat → Int}
theorem c4_e (a i : Nat) : hI (C4 K Q ω vd t) a i = if a = 18 ∧ i = 4 then t else if a = Q + 1 ∧ i < 19 then ω i else if a = Q ∧ i = 2 then vd else hI K a i := rfl
theorem c4_n {a : Nat} (h1 : a ≠ 18) (h2 : a ≠ Q + 1) (h3 : a ≠ Q) : hI (C4 K Q ω vd t) a = hI K a := by
  funext i; rw [c4_e, if_neg (by omega), if_neg (by omega), if_neg (by omega)]
theorem C4_cg (e : ∀ w, w < 19 → ω w = ω' w) : C4 K Q ω vd t = C4 K Q ω' vd t := by
  refine WI_ext K (fun a i => ?_)
  unfold c4F
  by_cases c : a = Q + 1 ∧ i < 19
  · rw [if_pos c, if_pos c, e i c.2]
  · rw [if_neg c, if_neg c]
theorem C4_rd (qo : QO K Q) (r : RDT K n T) : RDT (C4 K Q ω vd t) n T := by
  obtain ⟨⟨r1, r2, r3, r4, r5⟩, r6⟩ := r
  have := qo.1
  refine ⟨⟨r1, r2, r3, ?_, r5⟩, ?_⟩
  · rw [c4_e, if_neg (by decide), if_neg (by omega), if_neg (by omega)]; exact r4
  · rw [c4_n (by decide) (by omega) (by omega)]; exact r6
theorem x_A (qo : QO K Q) {k : Nat} (hk : k < 19) : hI (S18 (C4 K Q ω vd t) p φ) (Q + 1) k = ω k := by
  have := qo.1
  rw [s18_n (by omega), c4_e, if_neg (by omega), if_pos ⟨rfl, hk⟩]
theorem x_v (qo : QO K Q) : hI (S18 (C4 K Q ω vd t) p φ) Q 2 = vd := by
  have := qo.1
  rw [s18_n (by omega), c4_e, if_neg (by omega), if_neg (by omega), if_pos ⟨rfl, rfl⟩]
theorem x_t : hI (S18 (C4 K Q ω vd t) p φ) 18 4 = t := by
  rw [s18_4, c4_e, if_pos ⟨rfl, rfl⟩]
theorem x_w (qo : QO K Q) {k : Nat} (hk : k < 19) (v : Int) : sI (S18 (C4 K Q ω vd t) p φ) (Q + 1) k v = S18 (C4 K Q (u1 ω k v) vd t) p φ := by
  have := qo.1
  show WI K (up2 (r18 (c4F (hI K) Q ω vd t) p φ) (Q + 1) k v) = WI K (r18 (c4F (hI K) Q (u1 ω k v) vd t) p φ)
  refine WI_ext K (fun a i => ?_)
  rw [up2_e]; unfold r18 c4F u1; grind
theorem x_w4 (qo : QO K Q) (v : Int) : sI (S18 (C4 K Q ω vd t) p φ) 18 4 v = S18 (C4 K Q ω vd v) p φ := by
  have := qo.1
  show WI K (up2 (r18 (c4F (hI K) Q ω vd t) p φ) 18 4 v) = WI K (r18 (c4F (hI K) Q ω vd v) p φ)
  refine WI_ext K (fun a i => ?_)
  rw [up2_e]; unfold r18 c4F; grind
theorem x_wv (qo : QO K Q) (v : Int) : sI (S18 (C4 K Q ω vd t) p φ) Q 2 v = S18 (C4 K Q ω v t) p φ := by
  have := qo.1
  show WI K (up2 (r18 (c4F (hI K) Q ω vd t) p φ) Q 2 v) = WI K (r18 (c4F (hI K) Q ω v t) p φ)
  refine WI_ext K (fun a i => ?_)
  rw [up2_e]; unfold r18 c4F; grind
theorem x_k (qo : QO K Q) : hK (S18 (C4 K Q ω vd t) p φ) Q = (6, 0) := qo.2.1
theorem x_r (qo : QO K Q) : hR (S18 (C4 K Q ω vd t) p φ) Q 0 = Q + 1 := qo.2.2.1
theorem x_kA (qo : QO K Q) : hK (S18 (C4 K Q ω vd t) p φ) (Q + 1) = (21, 19) := qo.2.2.2.2.1
theorem x_a {β : Type} (qo : QO K Q) {i : Int} {k : Nat} (hi : i = (k : Int)) (hk : k < 19) (f : Int → Option β) : (gR (S18 (C4 K Q ω vd t) p φ) 6 Q 0 fun r => aI (S18 (C4 K Q ω vd t) p φ) 21 r i f) = f (ω k) := by
  rw [gR_k (x_k qo), x_r qo, aI_k (x_kA qo) (by omega) (by omega), tN i k hi, x_A qo hk]
theorem x_s {β : Type} (qo : QO K Q) {i : Int} {k : Nat} (hi : i = (k : Int)) (hk : k < 19) (v : Int) (f : AH → Option β) : (gR (S18 (C4 K Q ω vd t) p φ) 6 Q 0 fun r => wI (S18 (C4 K Q ω vd t) p φ) 21 r i v f) = f (S18 (C4 K Q (u1 ω k v) vd t) p φ) := by
  rw [gR_k (x_k qo), x_r qo, wI_k (x_kA qo) (by omega) (by omega), tN i k hi, x_w qo hk]
theorem source_c (qo : QO K Q) : Que_source Q (S18 (C4 K Q ω vd t) p φ) = some (ω 0, S18 (C4 K Q ω vd t) p φ) := by
  unfold Que_source
  rw [x_a qo (k := 0) (by rfl) (by decide)]
theorem firstCol_c (qo : QO K Q) : Que_firstCol Q (S18 (C4 K Q ω vd t) p φ) = some (lo0 (ω 0), S18 (C4 K Q ω vd t) p φ) := by
  unfold Que_firstCol lo0
  rw [rc_k (x_k qo), source_c qo, bnd_some]
  by_cases c : ω 0 = 1
  · rw [if_pos c, if_neg (by omega)]
  · rw [if_neg c, if_pos c]
theorem lastCol_c (qo : QO K Q) : Que_lastCol Q (S18 (C4 K Q ω vd t) p φ) = some (hi0 (ω 0), S18 (C4 K Q ω vd t) p φ) := by
  unfold Que_lastCol hi0
  rw [rc_k (x_k qo), source_c qo, bnd_some]
  by_cases c : ω 0 = 0
  · rw [if_pos c, if_neg (by omega)]
  · rw [if_neg c, if_pos c]
theorem all_c (qo : QO K Q) : Que_showsAllItCan Q (S18 (C4 K Q ω vd t) p φ) = some (if ω 13 < 5 then 0 else 1, S18 (C4 K Q ω vd t) p φ) := by
  unfold Que_showsAllItCan
  rw [x_a qo (k := 13) (by rfl) (by decide)]
  by_cases c : ω 13 < 5
  · rw [if_pos c, if_pos c]
  · rw [if_neg c, if_neg c]
theorem show_c (qo : QO K Q) (h0 : 0 ≤ ω 13) (col : Int) : ∃ ω', Que_show Q col (S18 (C4 K Q ω vd t) p φ) = some ((), S18 (C4 K Q ω' vd t) p φ) ∧ (ω 13 < 5 → ω' = u1 (u1 ω (14 + (ω 13).toNat) col) 13 (ω 13 + 1)) := by
  unfold Que_show
  rw [rc_k (x_k qo), all_c qo, bnd_some]
  by_cases c : ω 13 < 5
  · obtain ⟨k, hk⟩ : ∃ k : Nat, ω 13 = (k : Int) := ⟨(ω 13).toNat, by omega⟩
    refine ⟨u1 (u1 ω (14 + k) col) 13 ((k : Int) + 1), ?_, fun _ => by rw [hk]; rfl⟩
    have x13 : u1 ω (14 + k) col 13 = (k : Int) := by rw [u1_n (by omega)]; exact hk
    rw [if_pos c, if_neg (by decide), gR_k (x_k qo), x_r qo, x_a qo (k := 13) (by rfl) (by decide), hk, wr_id (by omega) (by omega), wI_k (x_kA qo) (by omega) (by omega), tN (14 + (k : Int)) (14 + k) (by omega), x_w qo (by omega), gR_k (x_k qo), x_r qo, aI_k (x_kA qo) (by decide) (by decide), show (13 : Int).toNat = 13 from rfl, x_A qo (by decide), x13, wI_k (x_kA qo) (by decide) (by decide), show (13 : Int).toNat = 13 from rfl, x_w qo (by decide), wr_id (by omega) (by omega)]
  · refine ⟨ω, ?_, fun h => absurd h c⟩
    rw [if_neg c, if_pos (by decide)]
theorem nothing_c (qo : QO K Q) : Que_showNothing Q (S18 (C4 K Q ω vd t) p φ) = some ((), S18 (C4 K Q (shN ω) vd t) p φ) := by
  have e : C4 K Q (u1 (u1 (u1 (u1 (u1 (u1 ω 13 0) 14 (-1)) 15 (-1)) 16 (-1)) 17 (-1)) 18 (-1)) vd t = C4 K Q (shN ω) vd t := C4_cg (fun w hw => by unfold u1 shN; grind)
  unfold Que_showNothing
  rw [x_s qo (k := 13) (by rfl) (by decide), show FU = 999994 + 1 + 1 + 1 + 1 + 1 + 1 from rfl]
  rw [Que_showNothing_L10, if_neg (by decide), x_s qo (k := 14) (by rfl) (by decide), show wr ((0 : Int) + 1) = 1 from rfl]
  rw [Que_showNothing_L10, if_neg (by decide), x_s qo (k := 15) (by rfl) (by decide), show wr ((1 : Int) + 1) = 2 from rfl]
  rw [Que_showNothing_L10, if_neg (by decide), x_s qo (k := 16) (by rfl) (by decide), show wr ((2 : Int) + 1) = 3 from rfl]
  rw [Que_showNothing_L10, if_neg (by decide), x_s qo (k := 17) (by rfl) (by decide), show wr ((3 : Int) + 1) = 4 from rfl]
  rw [Que_showNothing_L10, if_neg (by decide), x_s qo (k := 18) (by rfl) (by decide), show wr ((4 : Int) + 1) = 5 from rfl]
  rw [Que_showNothing_L10, if_pos (by decide), e]
theorem iAnd_sg : iAnd 1 1 = 1 ∧ iAnd 1 2 = 0 ∧ iAnd 1 4 = 0 ∧ iAnd 2 1 = 0 ∧ iAnd 2 2 = 2 ∧ iAnd 2 4 = 0 ∧ iAnd 3 1 = 1 ∧ iAnd 3 2 = 2 ∧ iAnd 3 4 = 0 ∧ iAnd 4 1 = 0 ∧ iAnd 4 2 = 0 ∧ iAnd 4 4 = 4 ∧ iAnd 6 1 = 0 ∧ iAnd 6 2 = 2 ∧ iAnd 6 4 = 4 := by decide +kernel
theorem narrow50_c (qo : QO K Q) {c : Nat} (hc : c < 5) {sg b v : Int} {e : Bool} (hv : 0 ≤ v ∧ v ≤ 9) (h4 : iAnd sg 4 = 0 ↔ b ≠ 62) (h2 : iAnd sg 2 = 0 ↔ e = false) : Que_narrow_L50 Q sg v ((4 + 2 * c : Nat) : Int) (S18 (C4 K Q ω vd t) p φ) = some ((), S18 (C4 K Q (nw2 ω c b e v) vd t) p φ) := by
  unfold Que_narrow_L50 nw2
  by_cases d : b = 62
  · rw [if_pos (show ¬ iAnd sg 4 = 0 from fun x => h4.mp x d), if_pos d]
  · rw [if_neg (show ¬ ¬ iAnd sg 4 = 0 from fun x => x (h4.mpr d)), if_neg d, gR_k (x_k qo), x_r qo, x_a qo (k := 4 + 2 * c) (by rfl) (by omega), wI_k (x_kA qo) (by omega) (by omega), wI_k (x_kA qo) (by omega) (by omega), tN ((4 + 2 * c : Nat) : Int) (4 + 2 * c) rfl, x_w qo (by omega), x_w qo (by omega), wr_id (by omega) (by omega)]
    cases e
    · rw [if_neg (show ¬ ¬ iAnd sg 2 = 0 from fun x => x (h2.mpr rfl)), if_neg (by decide)]
    · rw [if_pos (show ¬ iAnd sg 2 = 0 from fun x => absurd (h2.mp x) (by decide)), if_pos rfl]
theorem narrow_c (qo : QO K Q) {c : Nat} (hc : c < 5) {sg b v : Int} {e : Bool} (hv : 0 ≤ v ∧ v ≤ 9) (h1 : iAnd sg 1 = 0 ↔ b ≠ 60) (h4 : iAnd sg 4 = 0 ↔ b ≠ 62) (h2 : iAnd sg 2 = 0 ↔ e = false) : Que_narrow Q (c : Int) sg v (S18 (C4 K Q ω vd t) p φ) = some ((), S18 (C4 K Q (nrw ω c b e v) vd t) p φ) := by
  unfold Que_narrow nrw
  rw [wr_id (z := 2 * (c : Int)) (by omega) (by omega), wr_id (z := 3 + 2 * (c : Int)) (by omega) (by omega), wr_id (z := 4 + 2 * (c : Int)) (by omega) (by omega), show 4 + 2 * (c : Int) = ((4 + 2 * c : Nat) : Int) by omega]
  by_cases d : b = 60
  · have n1 : nw1 ω c b e v = ω := by unfold nw1; rw [if_pos d]
    rw [if_pos (show ¬ iAnd sg 1 = 0 from fun x => h1.mp x d), narrow50_c qo hc hv h4 h2, n1]
  · have n1 : nw1 ω c b e v = u1 ω (3 + 2 * c) (mMax (ω (3 + 2 * c)) (if e then v else v + 1)) := by unfold nw1; rw [if_neg d]
    rw [if_neg (show ¬ ¬ iAnd sg 1 = 0 from fun x => x (h1.mpr d)), gR_k (x_k qo), x_r qo, x_a qo (k := 3 + 2 * c) (by omega) (by omega), wI_k (x_kA qo) (by omega) (by omega), wI_k (x_kA qo) (by omega) (by omega), tN (3 + 2 * (c : Int)) (3 + 2 * c) (by omega), x_w qo (by omega), x_w qo (by omega), wr_id (z := v + 1) (by omega) (by omega), narrow50_c qo hc hv h4 h2, narrow50_c qo hc hv h4 h2, n1]
    cases e
    · rw [if_neg (show ¬ ¬ iAnd sg 2 = 0 from fun x => x (h2.mpr rfl)), if_neg (by decide)]
    · rw [if_pos (show ¬ iAnd sg 2 = 0 from fun x => absurd (h2.mp x) (by decide)), if_pos rfl]
theorem begin_shows (qo : QO K Q) : ∀ (m k fuel : Nat) (ω : Nat → Int), (lo0 (ω 0) + (k : Int)) + m = hi0 (ω 0) + 1 → ω 13 = (k : Int) → k + m ≤ 5 → m < fuel → ∃ ω', Que_begin_L76 fuel Q (lo0 (ω 0) + (k : Int)) (S18 (C4 K Q ω vd t) p φ) = some ((), S18 (C4 K Q ω' vd t) p φ) ∧ ∀ w, w < 19 → ω' w = if w = 13 then ((k + m : Nat) : Int) else if 14 + k ≤ w ∧ w < 14 + (k + m) then lo0 (ω 0) + ((w - 14 : Nat) : Int) else ω w
  | 0, k, fuel + 1, ω, h1, h2, h3, _ => by
    refine ⟨ω, ?_, fun w hw => ?_⟩
    · rw [Que_begin_L76, rc_k (x_k qo), lastCol_c qo, bnd_some, if_pos (by omega)]
    · by_cases c : w = 13
      · rw [if_pos c, c, h2]; rfl
      · rw [if_neg c, if_neg (by omega)]
  | m + 1, k, fuel + 1, ω, h1, h2, h3, hf => by
    have l0 : lo0 (ω 0) = 0 ∨ lo0 (ω 0) = 3 := by unfold lo0; split <;> omega
    obtain ⟨ω1, x1, x2⟩ := show_c (K := K) (vd := vd) (t := t) (p := p) (φ := φ) qo (ω := ω) (by omega) (lo0 (ω 0) + (k : Int))
    have e1 := x2 (by omega)
    rw [h2, tN (k : Int) k rfl] at e1
    have z0 : ω1 0 = ω 0 := by rw [e1, u1_n (by omega), u1_n (by omega)]
    have z13 : ω1 13 = ((k + 1 : Nat) : Int) := by rw [e1, u1_s]; omega
    obtain ⟨ω', y1, y2⟩ := begin_shows qo m (k + 1) fuel ω1 (by rw [z0]; omega) z13 (by omega) (by omega)
    rw [z0] at y1 y2
    refine ⟨ω', ?_, fun w hw => ?_⟩
    · rw [Que_begin_L76, rc_k (x_k qo), lastCol_c qo, bnd_some, if_neg (by omega), rc_k (x_k qo), x1, bnd_some, wr_id (by omega) (by omega), show lo0 (ω 0) + (k : Int) + 1 = lo0 (ω 0) + ((k + 1 : Nat) : Int) by omega, y1]
    · rw [y2 w hw, show k + 1 + m = k + (m + 1) by omega]
      by_cases c : w = 13
      · rw [if_pos c, if_pos c]
      · rw [if_neg c, if_neg c, e1, u1_n c]
        by_cases d : w = 14 + k
        · rw [if_neg (by omega), if_pos (by omega), d, u1_s, show 14 + k - 14 = k by omega]
        · rw [u1_n d]
          by_cases z : 14 + (k + 1) ≤ w ∧ w < 14 + (k + (m + 1))
          · rw [if_pos z, if_pos (by omega)]
          · rw [if_neg z, if_neg (by omega)]
/-- a query is begun -/
theorem begin_c (qo : QO K Q) {s : Int} (hs : s = 0 ∨ s = 1 ∨ s = 2) (a b : Int) : Que_begin Q s a b (S18 (C4 K Q ω vd t) p φ) = some ((), S18 (C4 K Q (bgR s a b) 0 t) p φ) := by
  have big := FU_big
  unfold Que_begin
  rw [x_s qo (k := 0) (by rfl) (by decide), x_s qo (k := 1) (by rfl) (by decide), x_s qo (k := 2) (by rfl) (by decide), pZ_k (x_k qo) (Or.inl rfl), x_wv qo, show FU = 999994 + 1 + 1 + 1 + 1 + 1 + 1 from rfl]
  rw [Que_begin_L29, if_neg (by decide), x_s qo (k := 3) (by rfl) (by decide), x_s qo (k := 4) (by rfl) (by decide), show wr ((0 : Int) + 1) = 1 from rfl]
  rw [Que_begin_L29, if_neg (by decide), x_s qo (k := 5) (by rfl) (by decide), x_s qo (k := 6) (by rfl) (by decide), show wr ((1 : Int) + 1) = 2 from rfl]
  rw [Que_begin_L29, if_neg (by decide), x_s qo (k := 7) (by rfl) (by decide), x_s qo (k := 8) (by rfl) (by decide), show wr ((2 : Int) + 1) = 3 from rfl]
  rw [Que_begin_L29, if_neg (by decide), x_s qo (k := 9) (by rfl) (by decide), x_s qo (k := 10) (by rfl) (by decide), show wr ((3 : Int) + 1) = 4 from rfl]
  rw [Que_begin_L29, if_neg (by decide), x_s qo (k := 11) (by rfl) (by decide), x_s qo (k := 12) (by rfl) (by decide), show wr ((4 : Int) + 1) = 5 from rfl]
  rw [Que_begin_L29, if_pos (by decide), rc_k (x_k qo), nothing_c qo, bnd_some, rc_k (x_k qo), firstCol_c qo, bnd_some]
  generalize hW : shN (u1 (u1 (u1 (u1 (u1 (u1 (u1 (u1 (u1 (u1 (u1 (u1 (u1 ω 0 s) 1 a) 2 b) 3 0) 4 9) 5 0) 6 9) 7 0) 8 9) 9 0) 10 9) 11 0) 12 9) = W
  have W0 : W 0 = s := by rw [← hW]; rfl
  have W13 : W 13 = ((0 : Nat) : Int) := by rw [← hW]; rfl
  have Wa : ∀ w, w < 19 → w ≠ 13 → w < 14 → W w = bgR s a b w := fun w h1 h2 h3 => by
    have : w = 0 ∨ w = 1 ∨ w = 2 ∨ w = 3 ∨ w = 4 ∨ w = 5 ∨ w = 6 ∨ w = 7 ∨ w = 8 ∨ w = 9 ∨ w = 10 ∨ w = 11 ∨ w = 12 := by omega
    rw [← hW]
    rcases this with rfl | rfl | rfl | rfl | rfl | rfl | rfl | rfl | rfl | rfl | rfl | rfl | rfl <;> rfl
  have Wb : ∀ w, w < 19 → 14 ≤ w → W w = -1 := fun w h1 h2 => by
    rw [← hW]; unfold shN; rw [if_neg (by omega), if_pos ⟨h2, h1⟩]
  have key : lo0 s + ((0 : Nat) : Int) + (bgN s : Int) = hi0 s + 1 ∧ bgN s ≤ 5 := by
    rcases hs with rfl | rfl | rfl <;> decide
  obtain ⟨ω', x1, x2⟩ := begin_shows (vd := 0) (t := t) (p := p) (φ := φ) qo (bgN s) 0 FU W (by rw [W0]; exact key.1) W13 (by omega) (by omega)
  rw [W0] at x1 x2
  rw [show lo0 s + ((0 : Nat) : Int) = lo0 s by omega] at x1
  have e : C4 K Q ω' 0 t = C4 K Q (bgR s a b) 0 t := C4_cg (fun w hw => by
    rw [x2 w hw]
    by_cases c : w = 13
    · rw [if_pos c, c, Nat.zero_add]; rfl
    · rw [if_neg c]
      by_cases d : w < 14
      · rw [if_neg (by omega), Wa w hw c d]
      · have eb : bgR s a b w = if w < 14 + bgN s then lo0 s + ((w - 14 : Nat) : Int) else -1 := by
          unfold bgR
          rw [if_neg (by omega), if_neg (by omega), if_neg (by omega), if_neg (by omega), if_neg c]
        rw [eb, Nat.zero_add, Nat.add_zero]
        by_cases z : w < 14 + bgN s
        · rw [if_pos (by omega), if_pos z]
        · rw [if_neg (by omega), if_neg z, Wb w hw (by omega)])
  rw [W0, x1, e]
end M2
