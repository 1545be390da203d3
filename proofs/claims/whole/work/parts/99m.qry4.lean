/-! Level 2: the class reads a query: all of it, and its end -/
def vOr (ω : Nat → Int) : Nat → Nat → Int → Int
  | 0, _, v => v
  | m + 1, c, v => vOr ω m (c + 1) (if v ≠ 0 then 1 else if ω (3 + 2 * c) ≤ ω (4 + 2 * c) then 0 else 1)
def vdB (ω : Nat → Int) : Bool := decide (ω 4 < ω 3 ∨ ω 6 < ω 5 ∨ ω 8 < ω 7 ∨ ω 10 < ω 9 ∨ ω 12 < ω 11)
def vdR (ω : Nat → Int) : Nat → Int := fun w => if 3 ≤ w ∧ w ≤ 12 then (if w % 2 = 1 then 1 else 0) else ω w
def finR (ω : Nat → Int) : Nat → Int := if vdB ω then vdR ω else ω
/-- a part of a query -/
def qpW (ω : Nat → Int) (kind : Int) (k : Nat) : Int :=
  if k = 0 then kind else if k = 1 then (if kind = 2 then ω 1 else -1) else if k = 2 then (if kind = 2 then ω 2 else -1)
  else if k % 2 = 1 then (if isOfB kind ((k - 3) / 2 : Nat) then ω k else 0) else (if isOfB kind ((k - 4) / 2 : Nat) then ω k else 9)
def spF (f : Nat → Nat → Int) (A P lo : Nat) (kind : Int) : Nat → Nat → Int := fun x i => if x = P ∧ lo ≤ i ∧ i < 13 then qpW (f A) kind i else f x i
section M4
variable {K H : AH} {n p Q : Nat} {φ vd t : Int} {T : Nat → Int} {ω ω' : Nat → Int} {f : Nat → Nat → Int}
theorem readQuery_L (qo : QO K Q) (r : RDT K n T) {s : Int} : ∀ (m st p tt fuel : Nat) (ω : Nat → Int), st + m = 400 → n - p < m → p ≤ 400 → m < fuel → tt ≤ 12 → ω 0 = s → ∃ p' ω' t' φ', Rea_readQuery_L12 fuel 18 Q (st : Int) (S18 (C4 K Q ω vd (tt : Int)) p 0) = Rea_readQuery_L63 18 Q (S18 (C4 K Q ω' vd t') p' φ') ∧ p' ≤ 400 ∧ (if sk T n p' < n then flt φ' (sk T n p') 0 else φ') = (stS T n s m p tt ω).1 ∧ ((stS T n s m p tt ω).1 = 0 → ω' = (stS T n s m p tt ω).2) := by
  have k18 : ∀ ω vd t (p : Nat) φ, hK (S18 (C4 K Q ω vd t) p φ) 18 = (7, 0) := fun _ _ _ _ _ => r.1.1
  have rK : ∀ ω vd t, RDT (C4 K Q ω vd t) n T := fun _ _ _ => C4_rd qo r
  have r5 := r.1.2.2.2.2
  have big := FU_big
  have stop : ∀ (fuel st p : Nat) (φ t : Int) (ω : Nat → Int), φ ≠ 0 → Rea_readQuery_L12 (fuel + 1) 18 Q (st : Int) (S18 (C4 K Q ω vd t) p φ) = Rea_readQuery_L63 18 Q (S18 (C4 K Q ω vd t) p φ) := fun fuel st p φ t ω h => by
    rw [Rea_readQuery_L12, gI_k (k18 _ _ _ _ _), s18_3, if_pos h]
    split <;> rfl
  have clf : ∀ (φ : Int) (p : Nat), φ ≠ 0 → (if sk T n p < n then flt φ (sk T n p) 0 else φ) = φ := fun φ p h => by
    rw [flt_f h]; split <;> rfl
  intro m
  induction m with
  | zero => intro st p tt fuel ω h1 h2; omega
  | succ m ih =>
    intro st p tt fuel ω h1 h2 hp hf h12 h0
    obtain ⟨fuel, rfl⟩ : ∃ j, fuel = j + 1 + 1 := ⟨fuel - 2, by omega⟩
    have qb := sk_b T n p
    have qi := sk_i T n _ p rfl
    have w5 := takeWord_t (rK ω vd (tt : Int)) (p := p) (by omega) 0 (w := 5) (by decide)
    have w7 := takeWord_t (rK ω vd (tt : Int)) (p := sk T n p) (by omega) 0 (w := 7) (by decide)
    rw [qi] at w7
    rw [show sLn 5 = 2 from rfl] at w5
    rw [show sLn 7 = 4 from rfl] at w7
    have head : Rea_readQuery_L12 (fuel + 1 + 1) 18 Q (st : Int) (S18 (C4 K Q ω vd (tt : Int)) p 0) = (bnd (Rea_takeWord 18 5 (S18 (C4 K Q ω vd (tt : Int)) p 0)) fun x3 h2 => if (x3 : Int) = 0 then (rc h2 7 18 <| bnd (Rea_takeWord 18 7 h2) fun x6 h5 => if (x6 : Int) = 0 then (Rea_readQuery_L63 18 Q h5) else (rc h5 7 18 <| bnd (Rea_readShown 18 Q h5) fun _ h8 => Rea_readQuery_L12 (fuel + 1) 18 Q ((wr ((st : Int) + 1))) h8)) else (rc h2 7 18 <| bnd (Rea_readTests 18 Q h2) fun _ h11 => Rea_readQuery_L12 (fuel + 1) 18 Q ((wr ((st : Int) + 1))) h11)) := by
      rw [Rea_readQuery_L12, if_neg (by omega), gI_k (k18 _ _ _ _ _), s18_3, if_neg (by simp), rc_k (k18 _ _ _ _ _)]
    rw [head, w5, stS]
    by_cases c5 : isW T n (sk T n p) 5 = true
    · have ib := isW_b (by decide) c5
      rw [show sLn 5 = 2 from rfl] at ib
      obtain ⟨p', ω', t', x1, x2, x3⟩ := readTests_L (vd := vd) qo r (s := s) 12 0 (sk T n p + 2) tt FU ω (by omega) (by omega) h12 (by omega) (by omega) h0
      have x1' : Rea_readTests 18 Q (S18 (C4 K Q ω vd (tt : Int)) (sk T n p + 2) 0) = some ((), S18 (C4 K Q ω' vd t') p' (tlS T n s 13 (sk T n p + 2) tt ω).1) := x1
      have x3' : (tlS T n s 13 (sk T n p + 2) tt ω).1 = 0 → p' = (tlS T n s 13 (sk T n p + 2) tt ω).2.1 ∧ t' = ((tlS T n s 13 (sk T n p + 2) tt ω).2.2.1 : Int) ∧ ω' = (tlS T n s 13 (sk T n p + 2) tt ω).2.2.2 := x3
      have tp := tlS_p (T := T) r5 (s := s) 13 (sk T n p + 2) tt ω
      rw [if_pos c5, if_pos c5, bnd_some, if_neg (by decide), rc_k (k18 _ _ _ _ _), x1', bnd_some, wr_id (by omega) (by omega), show (st : Int) + 1 = ((st + 1 : Nat) : Int) by omega]
      generalize tlS T n s 13 (sk T n p + 2) tt ω = R at *
      by_cases z : R.1 = 0
      · obtain ⟨y1, y2, y3⟩ := x3' z
        obtain ⟨v1, v2, v3⟩ := tp z
        rw [z, y1, y2, y3, if_neg (by simp)]
        exact ih (st + 1) R.2.1 R.2.2.1 (fuel + 1) R.2.2.2 (by omega) (by omega) (by omega) (by omega) v2 (by rw [v3 0 (by omega)]; exact h0)
      · rw [if_pos z, stop _ _ _ _ _ _ z]
        exact ⟨p', ω', t', R.1, rfl, x2, clf _ _ z, fun e => absurd (show R.1 = 0 from e) z⟩
    · rw [if_neg c5, if_neg c5, bnd_some, if_pos rfl, rc_k (k18 _ _ _ _ _), w7]
      by_cases c7 : isW T n (sk T n p) 7 = true
      · have ib := isW_b (by decide) c7
        rw [show sLn 7 = 4 from rfl] at ib
        obtain ⟨p', ω', x1, x2, x3⟩ := readShown_L (vd := vd) (t := (tt : Int)) qo r (s := s) 5 0 (sk T n p + 4) FU (shN ω) (by omega) (by omega) (by omega) h0 rfl
        have x1' : Rea_readShown 18 Q (S18 (C4 K Q ω vd (tt : Int)) (sk T n p + 4) 0) = some ((), S18 (C4 K Q ω' vd (tt : Int)) p' (shL T n s 6 (sk T n p + 4) 0 (shN ω)).1) := by
          unfold Rea_readShown
          rw [rc_k (x_k qo), nothing_c qo, bnd_some]
          exact x1
        have x3' : (shL T n s 6 (sk T n p + 4) 0 (shN ω)).1 = 0 → p' = (shL T n s 6 (sk T n p + 4) 0 (shN ω)).2.1 ∧ ω' = (shL T n s 6 (sk T n p + 4) 0 (shN ω)).2.2 := x3
        have tp := shL_p (T := T) r5 (s := s) 6 (sk T n p + 4) 0 (shN ω)
        rw [if_pos c7, if_pos c7, bnd_some, if_neg (by decide), rc_k (k18 _ _ _ _ _), x1', bnd_some, wr_id (by omega) (by omega), show (st : Int) + 1 = ((st + 1 : Nat) : Int) by omega]
        generalize shL T n s 6 (sk T n p + 4) 0 (shN ω) = R at *
        by_cases z : R.1 = 0
        · obtain ⟨y1, y3⟩ := x3' z
          obtain ⟨v1, v3⟩ := tp z
          rw [z, y1, y3, if_neg (by simp)]
          exact ih (st + 1) R.2.1 tt (fuel + 1) R.2.2 (by omega) (by omega) (by omega) (by omega) h12 (by rw [v3]; exact h0)
        · rw [if_pos z, stop _ _ _ _ _ _ z]
          exact ⟨p', ω', (tt : Int), R.1, rfl, x2, clf _ _ z, fun e => absurd (show R.1 = 0 from e) z⟩
      · rw [if_neg c7, if_neg c7, bnd_some, if_pos rfl]
        refine ⟨sk T n p, ω, (tt : Int), 0, rfl, by omega, ?_, ?_⟩
        · rw [qi]
          by_cases d : sk T n p < n
          · rw [if_pos d, if_pos d]
          · rw [if_neg d, if_neg d]
        · by_cases d : sk T n p < n
          · rw [if_pos d]; exact fun e => absurd (show flt 0 (sk T n p) 0 = 0 from e) (flt_n _ _ (by decide))
          · rw [if_neg d]; exact fun _ => rfl
theorem fin_L2 (qo : QO K Q) : ∀ (m c fuel : Nat) (v : Int), c + m = 5 → m < fuel → Que_finish_L2 fuel Q (c : Int) (S18 (C4 K Q ω v t) p φ) = Que_finish_L54 FU Q 0 (S18 (C4 K Q ω (vOr ω m c v) t) p φ)
  | 0, c, fuel + 1, v, hc, _ => by
    rw [Que_finish_L2, if_pos (by omega)]
    rfl
  | m + 1, c, fuel + 1, v, hc, hf => by
    rw [Que_finish_L2, if_neg (by omega), gI_k (x_k qo), x_v qo, wr_id (z := 2 * (c : Int)) (by omega) (by omega), wr_id (z := 3 + 2 * (c : Int)) (by omega) (by omega), wr_id (z := 4 + 2 * (c : Int)) (by omega) (by omega), wr_id (z := (c : Int) + 1) (by omega) (by omega), show (c : Int) + 1 = ((c + 1 : Nat) : Int) by omega, pZ_k (x_k qo) (Or.inr rfl), x_wv qo, pZ_k (x_k qo) (Or.inl rfl), x_wv qo, fin_L2 qo m (c + 1) fuel 1 (by omega) (by omega), fin_L2 qo m (c + 1) fuel 0 (by omega) (by omega), x_a qo (k := 3 + 2 * c) (by omega) (by omega), x_a qo (k := 4 + 2 * c) (by omega) (by omega), vOr]
    by_cases z : v = 0
    · rw [if_neg (show ¬ ¬ v = 0 from fun x => x z), if_neg (show ¬ v ≠ 0 from fun x => x z)]
      by_cases y : ω (3 + 2 * c) ≤ ω (4 + 2 * c)
      · rw [if_pos y, if_pos y]
      · rw [if_neg y, if_neg y]
    · rw [if_pos z, if_pos z]
theorem vOr_0 (ω : Nat → Int) : vOr ω 5 0 0 = bi (vdB ω) := by
  have one : ∀ m c, vOr ω m c 1 = 1 := fun m => by
    induction m with
    | zero => intro c; rfl
    | succ m ih => intro c; rw [vOr, if_pos (by decide), ih]
  have st : ∀ m c, vOr ω (m + 1) c 0 = if ω (3 + 2 * c) ≤ ω (4 + 2 * c) then vOr ω m (c + 1) 0 else 1 := fun m c => by
    rw [vOr, if_neg (by decide)]
    by_cases y : ω (3 + 2 * c) ≤ ω (4 + 2 * c)
    · rw [if_pos y, if_pos y]
    · rw [if_neg y, if_neg y, one]
  rw [st, st, st, st, st, vOr]
  unfold vdB
  by_cases c0 : ω (3 + 2 * 0) ≤ ω (4 + 2 * 0)
  · rw [if_pos c0]
    by_cases c1 : ω (3 + 2 * (0 + 1)) ≤ ω (4 + 2 * (0 + 1))
    · rw [if_pos c1]
      by_cases c2 : ω (3 + 2 * (0 + 1 + 1)) ≤ ω (4 + 2 * (0 + 1 + 1))
      · rw [if_pos c2]
        by_cases c3 : ω (3 + 2 * (0 + 1 + 1 + 1)) ≤ ω (4 + 2 * (0 + 1 + 1 + 1))
        · rw [if_pos c3]
          by_cases c4 : ω (3 + 2 * (0 + 1 + 1 + 1 + 1)) ≤ ω (4 + 2 * (0 + 1 + 1 + 1 + 1))
          · rw [if_pos c4, bi_n]
            simp only [Nat.reduceMul, Nat.reduceAdd] at c0 c1 c2 c3 c4
            omega
          · rw [if_neg c4, bi_d]
            simp only [Nat.reduceMul, Nat.reduceAdd] at c4
            omega
        · rw [if_neg c3, bi_d]
          simp only [Nat.reduceMul, Nat.reduceAdd] at c3
          omega
      · rw [if_neg c2, bi_d]
        simp only [Nat.reduceMul, Nat.reduceAdd] at c2
        omega
    · rw [if_neg c1, bi_d]
      simp only [Nat.reduceMul, Nat.reduceAdd] at c1
      omega
  · rw [if_neg c0, bi_d]
    simp only [Nat.reduceMul, Nat.reduceAdd] at c0
    omega
theorem fin_L54 (qo : QO K Q) : ∃ ω', Que_finish_L54 FU Q 0 (S18 (C4 K Q ω vd t) p φ) = Que_finish_L96 FU Q 0 (S18 (C4 K Q ω' vd t) p φ) ∧ (∀ w, w < 19 → ω' w = if vd = 0 then ω w else vdR ω w) := by
  by_cases c : vd = 0
  · refine ⟨ω, ?_, fun w _ => by rw [if_pos c]⟩
    rw [show FU = 999999 + 1 from rfl, Que_finish_L54, if_neg (by decide), gI_k (x_k qo), x_v qo, if_pos c]
    rfl
  · refine ⟨u1 (u1 (u1 (u1 (u1 (u1 (u1 (u1 (u1 (u1 ω 3 1) 4 0) 5 1) 6 0) 7 1) 8 0) 9 1) 10 0) 11 1) 12 0, ?_, fun w hw => ?_⟩
    · generalize hX : Que_finish_L96 FU Q 0 = X
      rw [show FU = 999994 + 1 + 1 + 1 + 1 + 1 + 1 from rfl]
      rw [Que_finish_L54, if_neg (by decide), gI_k (x_k qo), x_v qo, if_neg c, x_s qo (k := 3) (by rfl) (by decide), x_s qo (k := 4) (by rfl) (by decide), show wr ((0 : Int) + 1) = 1 from rfl]
      rw [Que_finish_L54, if_neg (by decide), gI_k (x_k qo), x_v qo, if_neg c, x_s qo (k := 5) (by rfl) (by decide), x_s qo (k := 6) (by rfl) (by decide), show wr ((1 : Int) + 1) = 2 from rfl]
      rw [Que_finish_L54, if_neg (by decide), gI_k (x_k qo), x_v qo, if_neg c, x_s qo (k := 7) (by rfl) (by decide), x_s qo (k := 8) (by rfl) (by decide), show wr ((2 : Int) + 1) = 3 from rfl]
      rw [Que_finish_L54, if_neg (by decide), gI_k (x_k qo), x_v qo, if_neg c, x_s qo (k := 9) (by rfl) (by decide), x_s qo (k := 10) (by rfl) (by decide), show wr ((3 : Int) + 1) = 4 from rfl]
      rw [Que_finish_L54, if_neg (by decide), gI_k (x_k qo), x_v qo, if_neg c, x_s qo (k := 11) (by rfl) (by decide), x_s qo (k := 12) (by rfl) (by decide), show wr ((4 : Int) + 1) = 5 from rfl]
      rw [Que_finish_L54, if_pos (by decide), hX]
    · rw [if_neg c]
      have : w = 0 ∨ w = 1 ∨ w = 2 ∨ w = 3 ∨ w = 4 ∨ w = 5 ∨ w = 6 ∨ w = 7 ∨ w = 8 ∨ w = 9 ∨ w = 10 ∨ w = 11 ∨ w = 12 ∨ w = 13 ∨ w = 14 ∨ w = 15 ∨ w = 16 ∨ w = 17 ∨ w = 18 := by omega
      rcases this with rfl | rfl | rfl | rfl | rfl | rfl | rfl | rfl | rfl | rfl | rfl | rfl | rfl | rfl | rfl | rfl | rfl | rfl | rfl <;> rfl
theorem shape_L (qo : QO K Q) {k : Nat} (hk : k < 3) : ∀ (m c fuel : Nat) (f : Nat → Nat → Int), c + m = 5 → m < fuel → Que_shapePart_L51 fuel Q (Q + 3 + 2 * k) (k : Int) (c : Int) (WI K f) = some ((), WI K (spF f (Q + 1) (Q + 4 + 2 * k) (3 + 2 * c) (k : Int))) := by
  have pa := (qo.2.2.2.2.2.2 k hk).2
  have kp' : ∀ f, hK (WI K f) (Q + 3 + 2 * k) = (4, 0) := fun _ => pa.1
  have kq : ∀ f, hK (WI K f) Q = (6, 0) := fun _ => qo.2.1
  have rq : ∀ f, hR (WI K f) Q 0 = Q + 1 := fun _ => qo.2.2.1
  have kA : ∀ f, hK (WI K f) (Q + 1) = (21, 19) := fun _ => qo.2.2.2.2.1
  intro m
  induction m with
  | zero =>
    intro c fuel f hc hf
    obtain ⟨fuel, rfl⟩ : ∃ j, fuel = j + 1 := ⟨fuel - 1, by omega⟩
    rw [Que_shapePart_L51, if_pos (by omega)]
    have : WI K f = WI K (spF f (Q + 1) (Q + 4 + 2 * k) (3 + 2 * c) (k : Int)) := WI_ext K (fun x i => by
      unfold spF; rw [if_neg (by omega)])
    rw [← this]
  | succ m ih =>
    intro c fuel f hc hf
    obtain ⟨fuel, rfl⟩ : ∃ j, fuel = j + 1 := ⟨fuel - 1, by omega⟩
    generalize hx : (if isOfB (k : Int) (c : Int) then f (Q + 1) (3 + 2 * c) else 0) = x
    generalize hy : (if isOfB (k : Int) (c : Int) then f (Q + 1) (4 + 2 * c) else 9) = y
    have l75 : Que_shapePart_L75 (Que_shapePart_L51 fuel) Q (Q + 3 + 2 * k) (k : Int) (c : Int) (WI K f) = Que_shapePart_L51 fuel Q (Q + 3 + 2 * k) (k : Int) ((c + 1 : Nat) : Int) (WI K (up2 (up2 f (Q + 4 + 2 * k) (3 + 2 * c) (f (Q + 1) (3 + 2 * c))) (Q + 4 + 2 * k) (4 + 2 * c) (f (Q + 1) (4 + 2 * c)))) := by
      unfold Que_shapePart_L75
      rw [gR_k (kq _), rq, wr_id (z := 2 * (c : Int)) (by omega) (by omega), wr_id (z := 3 + 2 * (c : Int)) (by omega) (by omega), wr_id (z := 4 + 2 * (c : Int)) (by omega) (by omega), aI_k (kA _) (by omega) (by omega), tN (3 + 2 * (c : Int)) (3 + 2 * c) (by omega), gR_k (kq _), rq, aI_k (kA _) (by omega) (by omega), tN (4 + 2 * (c : Int)) (4 + 2 * c) (by omega), rc_k (kp' _), Par_limit_e (by omega) pa, bnd_some, wr_id (by omega) (by omega), show (c : Int) + 1 = ((c + 1 : Nat) : Int) by omega]
      rw [show Q + 3 + 2 * k + 1 = Q + 4 + 2 * k by omega, hI_WI]
    have one : Que_shapePart_L51 (fuel + 1) Q (Q + 3 + 2 * k) (k : Int) (c : Int) (WI K f) = Que_shapePart_L51 fuel Q (Q + 3 + 2 * k) (k : Int) ((c + 1 : Nat) : Int) (WI K (up2 (up2 f (Q + 4 + 2 * k) (3 + 2 * c) x) (Q + 4 + 2 * k) (4 + 2 * c) y)) := by
      have l72 : ∀ s0 : Int, Que_shapePart_L72 (Que_shapePart_L51 fuel) Q (Q + 3 + 2 * k) (k : Int) (c : Int) s0 (k : Int) (WI K f) = if (k : Int) = s0 then Que_shapePart_L75 (Que_shapePart_L51 fuel) Q (Q + 3 + 2 * k) (k : Int) (c : Int) (WI K f) else Que_shapePart_L51 fuel Q (Q + 3 + 2 * k) (k : Int) ((c + 1 : Nat) : Int) (WI K (up2 (up2 f (Q + 4 + 2 * k) (3 + 2 * c) 0) (Q + 4 + 2 * k) (4 + 2 * c) 9)) := fun s0 => by
        unfold Que_shapePart_L72
        rw [rc_k (kp' _), Par_limit_e (by omega) pa, bnd_some, wr_id (by omega) (by omega), show (c : Int) + 1 = ((c + 1 : Nat) : Int) by omega, show Q + 3 + 2 * k + 1 = Q + 4 + 2 * k by omega]
        by_cases z : (k : Int) = s0
        · rw [if_pos z, if_neg (show ¬ ¬ (k : Int) = s0 from fun x => x z)]
        · rw [if_neg z, if_pos z]
      rw [Que_shapePart_L51, if_neg (by omega), l72, l72, l75]
      unfold isOfB at hx hy
      by_cases k2 : (k : Int) = 2
      · rw [decide_eq_true k2, Bool.true_or, if_pos rfl] at hx hy
        rw [if_pos k2, hx, hy]
      · rw [decide_eq_false k2, Bool.false_or] at hx hy
        rw [if_neg k2]
        by_cases c3 : (3 : Int) ≤ c
        · rw [if_pos c3]
          rw [decide_eq_false (show ¬ (c : Int) < 3 by omega)] at hx hy
          by_cases k1 : (k : Int) = 1
          · rw [decide_eq_false (show ¬ (k : Int) = 0 by omega), if_pos (by decide)] at hx hy
            rw [if_pos k1, hx, hy]
          · rw [decide_eq_true (show (k : Int) = 0 by omega), if_neg (by decide)] at hx hy
            rw [if_neg k1, hx, hy]
        · rw [if_neg c3]
          rw [decide_eq_true (show (c : Int) < 3 by omega)] at hx hy
          by_cases k1 : (k : Int) = 0
          · rw [decide_eq_true k1, if_pos (by decide)] at hx hy
            rw [if_pos k1, hx, hy]
          · rw [decide_eq_false k1, if_neg (by decide)] at hx hy
            rw [if_neg k1, hx, hy]
    rw [one, ih (c + 1) fuel _ (by omega) (by omega)]
    have q1 : qpW (f (Q + 1)) (k : Int) (3 + 2 * c) = x := by
      unfold qpW
      rw [if_neg (by omega), if_neg (by omega), if_neg (by omega), if_pos (by omega), show (3 + 2 * c - 3) / 2 = c by omega, hx]
    have q2 : qpW (f (Q + 1)) (k : Int) (4 + 2 * c) = y := by
      unfold qpW
      rw [if_neg (by omega), if_neg (by omega), if_neg (by omega), if_neg (by omega), show (4 + 2 * c - 4) / 2 = c by omega, hy]
    have e : WI K (spF (up2 (up2 f (Q + 4 + 2 * k) (3 + 2 * c) x) (Q + 4 + 2 * k) (4 + 2 * c) y) (Q + 1) (Q + 4 + 2 * k) (3 + 2 * (c + 1)) (k : Int)) = WI K (spF f (Q + 1) (Q + 4 + 2 * k) (3 + 2 * c) (k : Int)) := WI_ext K (fun z i => by
      unfold spF
      rw [up2_ne (show Q + 1 ≠ Q + 4 + 2 * k by omega), up2_ne (show Q + 1 ≠ Q + 4 + 2 * k by omega), up2_e, up2_e]
      by_cases a : z = Q + 4 + 2 * k ∧ 3 + 2 * c ≤ i ∧ i < 13
      · rw [if_pos a]
        by_cases b : 3 + 2 * (c + 1) ≤ i
        · rw [if_pos ⟨a.1, b, a.2.2⟩]
        · rw [if_neg (fun w => b w.2.1)]
          have : i = 3 + 2 * c ∨ i = 4 + 2 * c := by omega
          rcases this with rfl | rfl
          · rw [if_neg (by omega), if_pos ⟨a.1, rfl⟩, q1]
          · rw [if_pos ⟨a.1, rfl⟩, q2]
      · rw [if_neg a, if_neg (by omega), if_neg (by omega), if_neg (by omega)])
    rw [e]
theorem shape_e (qo : QO K Q) {k : Nat} (hk : k < 3) (f : Nat → Nat → Int) : Que_shapePart Q (Q + 3 + 2 * k) (k : Int) (WI K f) = some ((), WI K (spF f (Q + 1) (Q + 4 + 2 * k) 0 (k : Int))) := by
  have pa := (qo.2.2.2.2.2.2 k hk).2
  have kp' : ∀ f, hK (WI K f) (Q + 3 + 2 * k) = (4, 0) := fun _ => pa.1
  have rp : ∀ f, hR (WI K f) (Q + 3 + 2 * k) 0 = Q + 4 + 2 * k := fun _ => by
    show hR K (Q + 3 + 2 * k) 0 = _
    rw [pa.2.1]; omega
  have kP : ∀ f, hK (WI K f) (Q + 4 + 2 * k) = (21, 13) := fun _ => by
    show hK K (Q + 4 + 2 * k) = _
    rw [show Q + 4 + 2 * k = Q + 3 + 2 * k + 1 by omega]; exact pa.2.2
  have kq : ∀ f, hK (WI K f) Q = (6, 0) := fun _ => qo.2.1
  have rq : ∀ f, hR (WI K f) Q 0 = Q + 1 := fun _ => qo.2.2.1
  have kA : ∀ f, hK (WI K f) (Q + 1) = (21, 19) := fun _ => qo.2.2.2.2.1
  have big := FU_big
  have L := fun f => shape_L (K := K) qo hk 5 0 FU f (by omega) (by omega)
  have e : ∀ x y : Int, x = (if (k : Int) = 2 then f (Q + 1) 1 else -1) → y = (if (k : Int) = 2 then f (Q + 1) 2 else -1) → WI K (spF (up2 (up2 (up2 f (Q + 4 + 2 * k) 0 (k : Int)) (Q + 4 + 2 * k) 1 x) (Q + 4 + 2 * k) 2 y) (Q + 1) (Q + 4 + 2 * k) (3 + 2 * 0) (k : Int)) = WI K (spF f (Q + 1) (Q + 4 + 2 * k) 0 (k : Int)) := fun x y hx hy => WI_ext K (fun z i => by
    unfold spF
    rw [up2_ne (show Q + 1 ≠ Q + 4 + 2 * k by omega), up2_ne (show Q + 1 ≠ Q + 4 + 2 * k by omega), up2_ne (show Q + 1 ≠ Q + 4 + 2 * k by omega), up2_e, up2_e, up2_e]
    by_cases a : z = Q + 4 + 2 * k ∧ 0 ≤ i ∧ i < 13
    · rw [if_pos a]
      by_cases b : 3 + 2 * 0 ≤ i
      · rw [if_pos ⟨a.1, b, a.2.2⟩]
      · rw [if_neg (fun w => b w.2.1)]
        have : i = 0 ∨ i = 1 ∨ i = 2 := by omega
        rcases this with rfl | rfl | rfl
        · rw [if_neg (by omega), if_neg (by omega), if_pos ⟨a.1, rfl⟩]; rfl
        · rw [if_neg (by omega), if_pos ⟨a.1, rfl⟩, hx]; rfl
        · rw [if_pos ⟨a.1, rfl⟩, hy]; rfl
    · rw [if_neg a, if_neg (by omega), if_neg (by omega), if_neg (by omega), if_neg (by omega)])
  have n1 : ∀ v w : Int, up2 f (Q + 4 + 2 * k) 0 v (Q + 1) = f (Q + 1) := fun v w => up2_ne (by omega)
  have n2 : ∀ v w : Int, up2 (up2 f (Q + 4 + 2 * k) 0 v) (Q + 4 + 2 * k) 1 w (Q + 1) = f (Q + 1) := fun v w => by rw [up2_ne (by omega), up2_ne (by omega)]
  unfold Que_shapePart Que_shapePart_L27
  rw [gR_k (kp' _), rp, wI_k (kP _) (by decide) (by decide), WI_sI, show (0 : Int).toNat = 0 from rfl, gR_k (kp' _), rp]
  by_cases k2 : (k : Int) = 2
  · rw [if_neg (show ¬ ¬ (k : Int) = 2 from fun x => x k2), gR_k (kq _), rq, aI_k (kA _) (by decide) (by decide), wI_k (kP _) (by decide) (by decide), WI_sI, show (1 : Int).toNat = 1 from rfl, gR_k (kp' _), rp, if_neg (show ¬ ¬ (k : Int) = 2 from fun x => x k2), gR_k (kq _), rq, aI_k (kA _) (by decide) (by decide), wI_k (kP _) (by decide) (by decide), WI_sI, show (2 : Int).toNat = 2 from rfl, hI_WI, hI_WI, n1 _ 0, n2, show (0 : Int) = ((0 : Nat) : Int) from rfl, L]
    rw [e _ _ (by rw [if_pos k2]) (by rw [if_pos k2])]
  · rw [if_pos k2, wI_k (kP _) (by decide) (by decide), WI_sI, show (1 : Int).toNat = 1 from rfl, gR_k (kp' _), rp, if_pos k2, wI_k (kP _) (by decide) (by decide), WI_sI, show (2 : Int).toNat = 2 from rfl, show (0 : Int) = ((0 : Nat) : Int) from rfl, L]
    rw [e _ _ (by rw [if_neg k2]) (by rw [if_neg k2])]
/-- a query is brought to its end -/
theorem finish_c (qo : QO K Q) : ∃ F, Que_finish Q (S18 (C4 K Q ω vd t) p φ) = some ((), WI K F) ∧ (∀ x, ¬ (Q ≤ x ∧ x < Q + 9) → F x = hI (S18 (C4 K Q ω vd t) p φ) x) ∧ (vd = 0 → (∀ w, w < 19 → F (Q + 1) w = finR ω w) ∧ F Q 2 = bi (vdB ω) ∧ ∀ k : Nat, k < 3 → ∀ i, i < 13 → F (Q + 4 + 2 * k) i = qpW (finR ω) (k : Int) i) := by
  have big := FU_big
  have q1 := qo.1
  have L2 := fin_L2 (ω := ω) (t := t) (p := p) (φ := φ) qo 5 0 FU vd (by omega) (by omega)
  obtain ⟨ω', x1, x2⟩ := fin_L54 (ω := ω) (vd := vOr ω 5 0 vd) (t := t) (p := p) (φ := φ) qo
  generalize hF0 : hI (S18 (C4 K Q ω' (vOr ω 5 0 vd) t) p φ) = F0
  have eX : S18 (C4 K Q ω' (vOr ω 5 0 vd) t) p φ = WI K F0 := by rw [← hF0]; rfl
  have kq : ∀ f, hK (WI K f) Q = (6, 0) := fun _ => qo.2.1
  have r1 : ∀ f, hR (WI K f) Q 1 = Q + 2 := fun _ => qo.2.2.2.1
  have k36 : ∀ f, hK (WI K f) (Q + 2) = (36, 3) := fun _ => qo.2.2.2.2.2.1
  have rp : ∀ (f : Nat → Nat → Int) (k : Nat), k < 3 → hR (WI K f) (Q + 2) k = Q + 3 + 2 * k := fun _ k hk => (qo.2.2.2.2.2.2 k hk).1
  have s0 := fun f => shape_e (K := K) qo (k := 0) (by decide) f
  have s1 := fun f => shape_e (K := K) qo (k := 1) (by decide) f
  have s2 := fun f => shape_e (K := K) qo (k := 2) (by decide) f
  have l96 : Que_finish_L96 FU Q 0 (WI K F0) = some ((), WI K (spF (spF (spF F0 (Q + 1) (Q + 4 + 2 * 0) 0 ((0 : Nat) : Int)) (Q + 1) (Q + 4 + 2 * 1) 0 ((1 : Nat) : Int)) (Q + 1) (Q + 4 + 2 * 2) 0 ((2 : Nat) : Int))) := by
    rw [show FU = 999996 + 1 + 1 + 1 + 1 from rfl]
    rw [Que_finish_L96, if_neg (by decide), gR_k (kq _), r1, aR_k (k36 _) (by decide) (by decide), show (0 : Int).toNat = 0 from rfl, rp _ 0 (by decide), rc_k (kq _)]
    rw [show Que_shapePart Q (Q + 3 + 2 * 0) 0 (WI K F0) = some ((), WI K (spF F0 (Q + 1) (Q + 4 + 2 * 0) 0 ((0 : Nat) : Int))) from s0 F0, bnd_some, show wr ((0 : Int) + 1) = 1 from rfl]
    rw [Que_finish_L96, if_neg (by decide), gR_k (kq _), r1, aR_k (k36 _) (by decide) (by decide), show (1 : Int).toNat = 1 from rfl, rp _ 1 (by decide), rc_k (kq _)]
    rw [show Que_shapePart Q (Q + 3 + 2 * 1) 1 (WI K (spF F0 (Q + 1) (Q + 4 + 2 * 0) 0 ((0 : Nat) : Int))) = some ((), WI K (spF (spF F0 (Q + 1) (Q + 4 + 2 * 0) 0 ((0 : Nat) : Int)) (Q + 1) (Q + 4 + 2 * 1) 0 ((1 : Nat) : Int))) from s1 _, bnd_some, show wr ((1 : Int) + 1) = 2 from rfl]
    rw [Que_finish_L96, if_neg (by decide), gR_k (kq _), r1, aR_k (k36 _) (by decide) (by decide), show (2 : Int).toNat = 2 from rfl, rp _ 2 (by decide), rc_k (kq _)]
    rw [show Que_shapePart Q (Q + 3 + 2 * 2) 2 (WI K (spF (spF F0 (Q + 1) (Q + 4 + 2 * 0) 0 ((0 : Nat) : Int)) (Q + 1) (Q + 4 + 2 * 1) 0 ((1 : Nat) : Int))) = some ((), WI K (spF (spF (spF F0 (Q + 1) (Q + 4 + 2 * 0) 0 ((0 : Nat) : Int)) (Q + 1) (Q + 4 + 2 * 1) 0 ((1 : Nat) : Int)) (Q + 1) (Q + 4 + 2 * 2) 0 ((2 : Nat) : Int))) from s2 _, bnd_some, show wr ((2 : Int) + 1) = 3 from rfl]
    rw [Que_finish_L96, if_pos (by decide)]
  generalize hF : spF (spF (spF F0 (Q + 1) (Q + 4 + 2 * 0) 0 ((0 : Nat) : Int)) (Q + 1) (Q + 4 + 2 * 1) 0 ((1 : Nat) : Int)) (Q + 1) (Q + 4 + 2 * 2) 0 ((2 : Nat) : Int) = F at l96
  have oth : ∀ x, x ≠ Q + 4 + 2 * 0 → x ≠ Q + 4 + 2 * 1 → x ≠ Q + 4 + 2 * 2 → F x = F0 x := fun x h1 h2 h3 => by
    funext i
    rw [← hF]; unfold spF
    rw [if_neg (by omega), if_neg (by omega), if_neg (by omega)]
  have tq : ∀ (a : Nat → Int) (b : Nat → Int), (∀ w, w < 19 → a w = b w) → ∀ (k : Int) i, i < 13 → qpW a k i = qpW b k i := fun a b e k i hi => by
    unfold qpW
    rw [e 1 (by decide), e 2 (by decide), e i (by omega)]
  have A0 : ∀ w, w < 19 → F0 (Q + 1) w = ω' w := fun w hw => by rw [← hF0]; exact x_A qo hw
  refine ⟨F, ?_, fun x hx => ?_, fun hv => ?_⟩
  · unfold Que_finish
    rw [show (0 : Int) = ((0 : Nat) : Int) from rfl, L2, x1, eX]
    exact l96
  · rw [oth x (by omega) (by omega) (by omega), ← hF0]
    by_cases a : x = 18
    · rw [a]; funext i
      rw [s18_e, s18_e, c4_e, c4_e, if_neg (show ¬ ((18 : Nat) = Q + 1 ∧ i < 19) by omega), if_neg (show ¬ ((18 : Nat) = Q ∧ i = 2) by omega), if_neg (show ¬ ((18 : Nat) = Q + 1 ∧ i < 19) by omega), if_neg (show ¬ ((18 : Nat) = Q ∧ i = 2) by omega)]
    · rw [s18_n a, s18_n a, c4_n a (by omega) (by omega), c4_n a (by omega) (by omega)]
  · rw [hv, vOr_0] at x2
    have e' : ∀ w, w < 19 → ω' w = finR ω w := fun w hw => by
      rw [x2 w hw]
      unfold finR
      cases hb : vdB ω
      · rw [bi_f, if_pos rfl, if_neg (by decide)]
      · rw [bi_t, if_neg (by decide), if_pos rfl]
    have B0 : ∀ w, w < 19 → F0 (Q + 1) w = finR ω w := fun w hw => by rw [A0 w hw, e' w hw]
    refine ⟨fun w hw => ?_, ?_, fun k hk i hi => ?_⟩
    · rw [oth (Q + 1) (by omega) (by omega) (by omega), B0 w hw]
    · rw [oth Q (by omega) (by omega) (by omega), ← hF0, x_v qo, hv, vOr_0]
    · have p0 : ∀ (f : Nat → Nat → Int) (P : Nat) (k : Int), P ≠ Q + 1 → spF f (Q + 1) P 0 k (Q + 1) = f (Q + 1) := fun f P k h => by
        funext i; unfold spF; rw [if_neg (by omega)]
      have : k = 0 ∨ k = 1 ∨ k = 2 := by omega
      rw [← hF]
      rcases this with rfl | rfl | rfl
      · have h1 : ∀ f : Nat → Nat → Int, spF f (Q + 1) (Q + 4 + 2 * 2) 0 ((2 : Nat) : Int) (Q + 4 + 2 * 0) i = f (Q + 4 + 2 * 0) i := fun f => by unfold spF; rw [if_neg (by omega)]
        have h2 : ∀ f : Nat → Nat → Int, spF f (Q + 1) (Q + 4 + 2 * 1) 0 ((1 : Nat) : Int) (Q + 4 + 2 * 0) i = f (Q + 4 + 2 * 0) i := fun f => by unfold spF; rw [if_neg (by omega)]
        have h3 : ∀ f : Nat → Nat → Int, spF f (Q + 1) (Q + 4 + 2 * 0) 0 ((0 : Nat) : Int) (Q + 4 + 2 * 0) i = qpW (f (Q + 1)) ((0 : Nat) : Int) i := fun f => by unfold spF; rw [if_pos ⟨rfl, by omega, hi⟩]
        rw [h1, h2, h3, tq _ _ B0 _ i hi]
      · have h1 : ∀ f : Nat → Nat → Int, spF f (Q + 1) (Q + 4 + 2 * 2) 0 ((2 : Nat) : Int) (Q + 4 + 2 * 1) i = f (Q + 4 + 2 * 1) i := fun f => by unfold spF; rw [if_neg (by omega)]
        have h2 : ∀ f : Nat → Nat → Int, spF f (Q + 1) (Q + 4 + 2 * 1) 0 ((1 : Nat) : Int) (Q + 4 + 2 * 1) i = qpW (f (Q + 1)) ((1 : Nat) : Int) i := fun f => by unfold spF; rw [if_pos ⟨rfl, by omega, hi⟩]
        rw [h1, h2, p0 _ _ _ (by omega), tq _ _ B0 _ i hi]
      · have h1 : ∀ f : Nat → Nat → Int, spF f (Q + 1) (Q + 4 + 2 * 2) 0 ((2 : Nat) : Int) (Q + 4 + 2 * 2) i = qpW (f (Q + 1)) ((2 : Nat) : Int) i := fun f => by unfold spF; rw [if_pos ⟨rfl, by omega, hi⟩]
        rw [h1, p0 _ _ _ (by omega), p0 _ _ _ (by omega), tq _ _ B0 _ i hi]
end M4
