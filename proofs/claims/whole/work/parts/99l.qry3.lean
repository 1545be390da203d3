/-! Level 2: the class reads a query: tests, columns shown, source -/
section M3
variable {K H : AH} {n p Q : Nat} {φ vd t : Int} {T : Nat → Int} {ω ω' : Nat → Int}
theorem nmF_f {top : Int} (h : φ ≠ 0) : nmF T n p top φ = φ := nFl_f h _ _
theorem phi_f (h : φ ≠ 0) {A : Prop} [Decidable A] (a b : Nat) : (if A then nmF T n a 9 φ else flt φ b 0) = φ := by
  rw [nmF_f h, flt_f h]
  split <;> rfl
theorem nrw_0 (ω : Nat → Int) (c : Nat) (b : Int) (e : Bool) (v : Int) {w : Nat} (hw : w < 3 ∨ 12 < w) (hc : c < 5) : nrw ω c b e v w = ω w := by
  unfold nrw nw2 nw1
  by_cases c1 : b = 62
  · rw [if_pos c1]
    by_cases c2 : b = 60
    · rw [if_pos c2]
    · rw [if_neg c2, u1_n (by omega)]
  · rw [if_neg c1, u1_n (by omega)]
    by_cases c2 : b = 60
    · rw [if_pos c2]
    · rw [if_neg c2, u1_n (by omega)]
theorem lo_hi (s : Int) : (lo0 s = 0 ∨ lo0 s = 3) ∧ (hi0 s = 2 ∨ hi0 s = 4) := by
  unfold lo0 hi0
  constructor
  · split <;> omega
  · split <;> omega
theorem colF_c {q : Nat} {s : Int} (e : colF T n q (lo0 s) (hi0 s) φ = 0) : ∃ c : Nat, c < 5 ∧ T q - 97 = (c : Int) := by
  obtain ⟨h1, h2, h3, h4, h5⟩ := colF_0 e
  have := lo_hi s
  exact ⟨(T q - 97).toNat, by omega, by omega⟩
theorem tsW_0 {s : Int} {t : Nat} (e : tsF T n s t p = 0) {w : Nat} (hw : w < 3 ∨ 12 < w) : tsW T n p ω w = ω w := by
  unfold tsF at e
  by_cases c : colF T n (sk T n p) (lo0 s) (hi0 s) 0 = 0
  · obtain ⟨k, hk, ek⟩ := colF_c c
    unfold tsW
    exact nrw_0 _ _ _ _ _ hw (by omega)
  · rw [if_pos c] at e; exact absurd e c
theorem tsF_0 {s : Int} {t : Nat} (e : tsF T n s t p = 0) : colF T n (sk T n p) (lo0 s) (hi0 s) 0 = 0 ∧ t < 12 ∧ (sk T n (sk T n p + 1) < n ∧ (T (sk T n (sk T n p + 1)) = 60 ∨ T (sk T n (sk T n p + 1)) = 61 ∨ T (sk T n (sk T n p + 1)) = 62)) ∧ nmF T n (sgQ T n (sk T n (sk T n p + 1))) 9 0 = 0 := by
  unfold tsF at e
  by_cases c : colF T n (sk T n p) (lo0 s) (hi0 s) 0 = 0
  · rw [if_neg (by simpa using c)] at e
    by_cases d : 12 ≤ t
    · rw [if_pos d] at e; exact absurd e (flt_n _ _ (by decide))
    · rw [if_neg d] at e
      by_cases f : sk T n (sk T n p + 1) < n ∧ (T (sk T n (sk T n p + 1)) = 60 ∨ T (sk T n (sk T n p + 1)) = 61 ∨ T (sk T n (sk T n p + 1)) = 62)
      · rw [if_pos f] at e; exact ⟨c, by omega, f, e⟩
      · rw [if_neg f] at e; exact absurd e (flt_n _ _ (by decide))
  · rw [if_pos c] at e; exact absurd e c
theorem tsP_b {s : Int} {t : Nat} (hn : n ≤ 400) (e : tsF T n s t p = 0) : p < tsP T n p ∧ tsP T n p ≤ 400 := by
  obtain ⟨h1, h2, h3, h4⟩ := tsF_0 e
  have a := sk_b T n p
  have b := sk_b T n (sk T n p + 1)
  have c := sgQ_b (T := T) h3.1
  have d := nmP_b (T := T) (n := n) (p := sgQ T n (sk T n (sk T n p + 1))) hn (by omega)
  have f := sk_b T n (sgQ T n (sk T n (sk T n p + 1)))
  unfold tsP
  refine ⟨?_, d⟩
  unfold nmP
  omega
theorem readTest33_c (qo : QO K Q) (r : RDT K n T) (hp : p ≤ 400) {tt : Nat} (ht : tt ≤ 1000) {v : Int} (hv : φ = 0 → ∃ c : Nat, c < 5 ∧ v = (c : Int)) : ∃ p' ω', Rea_readTest_L33 18 Q v (S18 (C4 K Q ω vd (tt : Int)) p φ) = some ((), S18 (C4 K Q ω' vd ((tt + 1 : Nat) : Int)) p' (if sk T n p < n ∧ (T (sk T n p) = 60 ∨ T (sk T n p) = 61 ∨ T (sk T n p) = 62) then nmF T n (sgQ T n (sk T n p)) 9 φ else flt φ (sk T n p) 0)) ∧ p' ≤ 400 ∧ ((if sk T n p < n ∧ (T (sk T n p) = 60 ∨ T (sk T n p) = 61 ∨ T (sk T n p) = 62) then nmF T n (sgQ T n (sk T n p)) 9 φ else flt φ (sk T n p) 0) = 0 → p' = nmP T n (sgQ T n (sk T n p)) ∧ ω' = nrw ω v.toNat (T (sk T n p)) (sgE T n (sk T n p)) (nmV T n (sgQ T n (sk T n p)))) := by
  have rK : ∀ ω vd t, RDT (C4 K Q ω vd t) n T := fun _ _ _ => C4_rd qo r
  have k18 : ∀ ω vd t (p : Nat) φ, hK (S18 (C4 K Q ω vd t) p φ) 18 = (7, 0) := fun _ _ _ _ _ => r.1.1
  have r5 := r.1.2.2.2.2
  have qb := sk_b T n p
  have ts := takeSigns_t (rK ω vd ((tt + 1 : Nat) : Int)) hp φ
  unfold Rea_readTest_L33
  rw [gI_k (k18 _ _ _ _ _), x_t, pI_k (k18 _ _ _ _ _), x_w4 qo, wr_id (by omega) (by omega), show (tt : Int) + 1 = ((tt + 1 : Nat) : Int) by omega, rc_k (k18 _ _ _ _ _), ts]
  generalize sk T n p = q at *
  by_cases c : q < n ∧ (T q = 60 ∨ T q = 61 ∨ T q = 62)
  · have sb := sgQ_b (T := T) c.1
    have b := nmP_b (T := T) (n := n) (p := sgQ T n q) r5 (by omega)
    rw [if_pos c, if_pos c, bnd_some, rc_k (k18 _ _ _ _ _), takeNum_t (rK _ _ _) (by omega), bnd_some, gI_k (k18 _ _ _ _ _), s18_3]
    by_cases z : nmF T n (sgQ T n q) 9 φ = 0
    · obtain ⟨z1, z2, z3⟩ := nmF_0 z
      obtain ⟨cc, hc, rfl⟩ := hv z1
      have sg : (iAnd (sgV T n q) 1 = 0 ↔ T q ≠ 60) ∧ (iAnd (sgV T n q) 4 = 0 ↔ T q ≠ 62) ∧ (iAnd (sgV T n q) 2 = 0 ↔ sgE T n q = false) := by
        obtain ⟨a11, a12, a14, a21, a22, a24, a31, a32, a34, a41, a42, a44, a61, a62, a64⟩ := iAnd_sg
        unfold sgV
        by_cases c1 : T q = 61
        · have : sgE T n q = true := by unfold sgE; exact decide_eq_true (Or.inl c1)
          rw [if_pos c1, a21, a22, a24, this]
          exact ⟨⟨fun _ => by omega, fun _ => rfl⟩, ⟨fun _ => by omega, fun _ => rfl⟩, ⟨fun h => absurd h (by decide), fun h => absurd h (by decide)⟩⟩
        · rw [if_neg c1]
          by_cases c2 : T q = 60
          · rw [if_pos c2]
            cases hE : sgE T n q
            · rw [if_neg (by decide), a11, a12, a14]
              exact ⟨⟨fun h => absurd h (by decide), fun h => absurd c2 h⟩, ⟨fun _ => by omega, fun _ => rfl⟩, ⟨fun _ => rfl, fun _ => rfl⟩⟩
            · rw [if_pos rfl, a31, a32, a34]
              exact ⟨⟨fun h => absurd h (by decide), fun h => absurd c2 h⟩, ⟨fun _ => by omega, fun _ => rfl⟩, ⟨fun h => absurd h (by decide), fun h => absurd h (by decide)⟩⟩
          · have c3 : T q = 62 := by
              rcases c.2 with u | u | u
              · exact absurd u c2
              · exact absurd u c1
              · exact u
            rw [if_neg c2]
            cases hE : sgE T n q
            · rw [if_neg (by decide), a41, a42, a44]
              exact ⟨⟨fun _ => c2, fun _ => rfl⟩, ⟨fun h => absurd h (by decide), fun h => absurd c3 h⟩, ⟨fun _ => rfl, fun _ => rfl⟩⟩
            · rw [if_pos rfl, a61, a62, a64]
              exact ⟨⟨fun _ => c2, fun _ => rfl⟩, ⟨fun h => absurd h (by decide), fun h => absurd c3 h⟩, ⟨fun h => absurd h (by decide), fun h => absurd h (by decide)⟩⟩
      refine ⟨_, nrw ω cc (T q) (sgE T n q) (nmV T n (sgQ T n q)), ?_, b, fun _ => ⟨rfl, by rw [tN (cc : Int) cc rfl]⟩⟩
      rw [z, if_neg (by decide), rc_k (x_k qo), narrow_c qo hc ⟨z2, z3⟩ sg.1 sg.2.1 sg.2.2, bnd_some]
    · refine ⟨_, ω, ?_, b, fun e => absurd e z⟩
      rw [if_pos z]
  · have nb := nmP_b (T := T) (n := n) (p := q) r5 (by omega)
    rw [if_neg c, if_neg c, bnd_some, rc_k (k18 _ _ _ _ _), takeNum_t (rK _ _ _) (by omega), bnd_some, gI_k (k18 _ _ _ _ _), s18_3, nmF_f (flt_n _ _ (by decide)), if_pos (flt_n _ _ (by decide))]
    exact ⟨_, ω, rfl, nb, fun e => absurd e (flt_n _ _ (by decide))⟩
/-- the class reads a test -/
theorem readTest_c (qo : QO K Q) (r : RDT K n T) (hp : p ≤ 400) {tt : Nat} (ht : tt ≤ 1000) : ∃ p' ω', Rea_readTest 18 Q (S18 (C4 K Q ω vd (tt : Int)) p 0) = some ((), S18 (C4 K Q ω' vd ((tt + 1 : Nat) : Int)) p' (tsF T n (ω 0) tt p)) ∧ p' ≤ 400 ∧ (tsF T n (ω 0) tt p = 0 → p' = tsP T n p ∧ ω' = tsW T n p ω) := by
  have rK : ∀ ω vd t, RDT (C4 K Q ω vd t) n T := fun _ _ _ => C4_rd qo r
  have k18 : ∀ ω vd t (p : Nat) φ, hK (S18 (C4 K Q ω vd t) p φ) 18 = (7, 0) := fun _ _ _ _ _ => r.1.1
  have r5 := r.1.2.2.2.2
  have qb := sk_b T n p
  obtain ⟨p1, v, x1, x2, x3⟩ := takeCol_t (rK ω vd (tt : Int)) (p := sk T n p) (by omega) (lo0 (ω 0)) (hi0 (ω 0)) 0
  rw [sk_i T n _ p rfl] at x1 x3
  unfold Rea_readTest
  rw [rc_k (k18 _ _ _ _ _), place_t (rK _ _ _) (by omega), bnd_some, rc_k (x_k qo), firstCol_c qo, bnd_some, rc_k (x_k qo), lastCol_c qo, bnd_some, rc_k (k18 _ _ _ _ _), x1, bnd_some, gI_k (k18 _ _ _ _ _), x_t, rc_k (k18 _ _ _ _ _), fail_e (rK _ _ _).1 (by omega) (by decide) (by decide), bnd_some]
  by_cases c : colF T n (sk T n p) (lo0 (ω 0)) (hi0 (ω 0)) 0 = 0
  · obtain ⟨y1, y2⟩ := x3 c
    obtain ⟨cc, hc, ec⟩ := colF_c c
    rw [c]
    by_cases d : 12 ≤ tt
    · have f4 := flt_n 0 (sk T n p) (k := 4) (by decide)
      have e0 : tsF T n (ω 0) tt p = flt 0 (sk T n p) 4 := by unfold tsF; rw [if_neg (by simpa using c), if_pos d]
      obtain ⟨p', ω', z1, z2, z3⟩ := readTest33_c (ω := ω) (vd := vd) qo r x2 ht (φ := flt 0 (sk T n p) 4) (v := v) (fun e => absurd e f4)
      rw [phi_f f4] at z1
      rw [if_neg (by omega), z1, e0]
      exact ⟨p', ω', rfl, z2, fun e => absurd e f4⟩
    · obtain ⟨p', ω', z1, z2, z3⟩ := readTest33_c (ω := ω) (vd := vd) qo r x2 ht (φ := 0) (v := v) (fun _ => ⟨cc, hc, by omega⟩)
      have e0 : tsF T n (ω 0) tt p = if sk T n p1 < n ∧ (T (sk T n p1) = 60 ∨ T (sk T n p1) = 61 ∨ T (sk T n p1) = 62) then nmF T n (sgQ T n (sk T n p1)) 9 0 else flt 0 (sk T n p1) 0 := by
        unfold tsF; rw [if_neg (by simpa using c), if_neg d, y1]
      rw [if_pos (by omega), z1, e0]
      refine ⟨p', ω', rfl, z2, fun e => ?_⟩
      obtain ⟨w1, w2⟩ := z3 e
      unfold tsP tsW
      rw [w1, w2, y1, y2]
      exact ⟨rfl, rfl⟩
  · have e0 : tsF T n (ω 0) tt p = colF T n (sk T n p) (lo0 (ω 0)) (hi0 (ω 0)) 0 := by unfold tsF; rw [if_pos c]
    obtain ⟨p', ω', z1, z2, z3⟩ := readTest33_c (ω := ω) (vd := vd) qo r x2 ht (φ := colF T n (sk T n p) (lo0 (ω 0)) (hi0 (ω 0)) 0) (v := v) (fun e => absurd e c)
    rw [phi_f c] at z1
    rw [flt_f c, z1, e0]
    refine ⟨p', ω', ?_, z2, fun e => absurd e c⟩
    split <;> rfl
theorem tlS_p (hn : n ≤ 400) {s : Int} : ∀ (m p t : Nat) (ω : Nat → Int), (tlS T n s m p t ω).1 = 0 → p < (tlS T n s m p t ω).2.1 ∧ (tlS T n s m p t ω).2.2.1 ≤ 12 ∧ ∀ w, w < 3 ∨ 12 < w → (tlS T n s m p t ω).2.2.2 w = ω w
  | 0, p, t, ω, e => absurd (show (1 : Int) = 0 from e) (by decide)
  | m + 1, p, t, ω, e => by
    rw [tlS] at e ⊢
    by_cases c : tsF T n s t p = 0
    · have b := tsP_b hn c
      have t12 := (tsF_0 c).2.1
      have sb := sk_b T n (tsP T n p)
      rw [if_neg (by simpa using c)] at e ⊢
      by_cases d : isW T n (sk T n (tsP T n p)) 6 = true
      · rw [if_pos d] at e ⊢
        obtain ⟨h1, h2, h3⟩ := tlS_p hn m _ _ _ e
        exact ⟨by omega, h2, fun w hw => by rw [h3 w hw, tsW_0 c hw]⟩
      · rw [if_neg d] at e ⊢
        exact ⟨by show p < sk T n (tsP T n p); omega, by show t + 1 ≤ 12; omega, fun w hw => tsW_0 c hw⟩
    · rw [if_pos c] at e; exact absurd e c
/-- the class reads tests -/
theorem readTests_L (qo : QO K Q) (r : RDT K n T) {s : Int} : ∀ (m i p tt fuel : Nat) (ω : Nat → Int), i + (m + 1) = 13 → i ≤ tt → tt ≤ 12 → p ≤ 400 → m + 1 < fuel → ω 0 = s → ∃ p' ω' t', Rea_readTests_L2 fuel 18 Q (i : Int) (S18 (C4 K Q ω vd (tt : Int)) p 0) = some ((), S18 (C4 K Q ω' vd t') p' (tlS T n s (m + 1) p tt ω).1) ∧ p' ≤ 400 ∧ ((tlS T n s (m + 1) p tt ω).1 = 0 → p' = (tlS T n s (m + 1) p tt ω).2.1 ∧ t' = ((tlS T n s (m + 1) p tt ω).2.2.1 : Int) ∧ ω' = (tlS T n s (m + 1) p tt ω).2.2.2) := by
  have k18 : ∀ ω vd t (p : Nat) φ, hK (S18 (C4 K Q ω vd t) p φ) 18 = (7, 0) := fun _ _ _ _ _ => r.1.1
  have rK : ∀ ω vd t, RDT (C4 K Q ω vd t) n T := fun _ _ _ => C4_rd qo r
  have r5 := r.1.2.2.2.2
  intro m
  induction m with
  | zero =>
    intro i p tt fuel ω hi h1 h2 hp hf h0
    obtain ⟨fuel, rfl⟩ : ∃ j, fuel = j + 1 := ⟨fuel - 1, by omega⟩
    obtain ⟨p', ω', x1, x2, x3⟩ := readTest_c (ω := ω) (vd := vd) qo r hp (tt := tt) (by omega)
    rw [h0] at x1 x3
    have c : tsF T n s tt p ≠ 0 := fun e => by have := (tsF_0 e).2.1; omega
    refine ⟨p', ω', ((tt + 1 : Nat) : Int), ?_, x2, fun e => ?_⟩
    · rw [Rea_readTests_L2, if_neg (by omega), gI_k (k18 _ _ _ _ _), s18_3, if_neg (by simp), rc_k (k18 _ _ _ _ _), x1, bnd_some, gI_k (k18 _ _ _ _ _), s18_3, if_pos c, tlS, if_pos c]
    · rw [tlS, if_pos c] at e; exact absurd e c
  | succ m ih =>
    intro i p tt fuel ω hi h1 h2 hp hf h0
    obtain ⟨fuel, rfl⟩ : ∃ j, fuel = j + 1 := ⟨fuel - 1, by omega⟩
    obtain ⟨p', ω', x1, x2, x3⟩ := readTest_c (ω := ω) (vd := vd) qo r hp (tt := tt) (by omega)
    rw [h0] at x1 x3
    by_cases c : tsF T n s tt p = 0
    · obtain ⟨y1, y2⟩ := x3 c
      have t12 := (tsF_0 c).2.1
      have sb := sk_b T n (tsP T n p)
      have tb := tsP_b r5 c
      rw [c, y1, y2] at x1
      have tw := takeWord_t (rK (tsW T n p ω) vd ((tt + 1 : Nat) : Int)) (p := tsP T n p) (by omega) 0 (w := 6) (by decide)
      by_cases d : isW T n (sk T n (tsP T n p)) 6 = true
      · have ib := isW_b (by decide) d
        rw [show sLn 6 = 3 from rfl] at ib
        have e0 : tlS T n s (m + 1 + 1) p tt ω = tlS T n s (m + 1) (sk T n (tsP T n p) + 3) (tt + 1) (tsW T n p ω) := by
          rw [tlS, if_neg (by simpa using c), if_pos d]
        rw [if_pos d, show sLn 6 = 3 from rfl] at tw
        obtain ⟨p2, ω2, t2, z1, z2, z3⟩ := ih (i + 1) (sk T n (tsP T n p) + 3) (tt + 1) fuel (tsW T n p ω) (by omega) (by omega) (by omega) (by omega) (by omega) (by rw [tsW_0 c (by omega)]; exact h0)
        rw [e0]
        refine ⟨p2, ω2, t2, ?_, z2, z3⟩
        rw [Rea_readTests_L2, if_neg (by omega), gI_k (k18 _ _ _ _ _), s18_3, if_neg (by simp), rc_k (k18 _ _ _ _ _), x1, bnd_some, gI_k (k18 _ _ _ _ _), s18_3, if_neg (by simp), rc_k (k18 _ _ _ _ _), tw, bnd_some, if_pos (by decide), wr_id (by omega) (by omega), show (i : Int) + 1 = ((i + 1 : Nat) : Int) by omega, z1]
      · have e0 : tlS T n s (m + 1 + 1) p tt ω = (0, sk T n (tsP T n p), tt + 1, tsW T n p ω) := by
          rw [tlS, if_neg (by simpa using c), if_neg d]
        rw [if_neg d] at tw
        rw [e0]
        refine ⟨sk T n (tsP T n p), tsW T n p ω, ((tt + 1 : Nat) : Int), ?_, by omega, fun _ => ⟨rfl, rfl, rfl⟩⟩
        rw [Rea_readTests_L2, if_neg (by omega), gI_k (k18 _ _ _ _ _), s18_3, if_neg (by simp), rc_k (k18 _ _ _ _ _), x1, bnd_some, gI_k (k18 _ _ _ _ _), s18_3, if_neg (by simp), rc_k (k18 _ _ _ _ _), tw, bnd_some, if_neg (by simp)]
    · have e0 : tlS T n s (m + 1 + 1) p tt ω = (tsF T n s tt p, p, tt, ω) := by rw [tlS, if_pos c]
      rw [e0]
      refine ⟨p', ω', ((tt + 1 : Nat) : Int), ?_, x2, fun e => absurd (show tsF T n s tt p = 0 from e) c⟩
      rw [Rea_readTests_L2, if_neg (by omega), gI_k (k18 _ _ _ _ _), s18_3, if_neg (by simp), rc_k (k18 _ _ _ _ _), x1, bnd_some, gI_k (k18 _ _ _ _ _), s18_3, if_pos c]
theorem shL_p (hn : n ≤ 400) {s : Int} : ∀ (m p k : Nat) (ω : Nat → Int), (shL T n s m p k ω).1 = 0 → p < (shL T n s m p k ω).2.1 ∧ (shL T n s m p k ω).2.2 0 = ω 0
  | 0, p, k, ω, e => absurd (show (1 : Int) = 0 from e) (by decide)
  | m + 1, p, k, ω, e => by
    rw [shL] at e ⊢
    by_cases c : colF T n (sk T n p) (lo0 s) (hi0 s) 0 = 0
    · have b := sk_b T n p
      have b2 := sk_b T n (sk T n p + 1)
      have w0 : shW T (sk T n p) k ω 0 = ω 0 := by unfold shW; rw [u1_n (by omega), u1_n (by omega)]
      rw [if_neg (by simpa using c)] at e ⊢
      by_cases k5 : k = 5
      · rw [if_pos k5] at e; exact absurd (show flt 0 (sk T n p) 4 = 0 from e) (flt_n _ _ (by decide))
      · rw [if_neg k5] at e ⊢
        by_cases d : sk T n (sk T n p + 1) < n ∧ T (sk T n (sk T n p + 1)) = 44
        · rw [if_pos d] at e ⊢
          obtain ⟨h1, h2⟩ := shL_p hn m _ _ _ e
          exact ⟨by omega, by rw [h2, w0]⟩
        · rw [if_neg d] at e ⊢
          exact ⟨by show p < sk T n (sk T n p + 1); omega, w0⟩
    · rw [if_pos c] at e; exact absurd e c
/-- the class reads what is shown -/
theorem readShown_L (qo : QO K Q) (r : RDT K n T) {s : Int} : ∀ (m k p fuel : Nat) (ω : Nat → Int), k + (m + 1) = 6 → p ≤ 400 → m + 1 < fuel → ω 0 = s → ω 13 = (k : Int) → ∃ p' ω', Rea_readShown_L6 fuel 18 Q (k : Int) (S18 (C4 K Q ω vd t) p 0) = some ((), S18 (C4 K Q ω' vd t) p' (shL T n s (m + 1) p k ω).1) ∧ p' ≤ 400 ∧ ((shL T n s (m + 1) p k ω).1 = 0 → p' = (shL T n s (m + 1) p k ω).2.1 ∧ ω' = (shL T n s (m + 1) p k ω).2.2) := by
  have k18 : ∀ ω vd t (p : Nat) φ, hK (S18 (C4 K Q ω vd t) p φ) 18 = (7, 0) := fun _ _ _ _ _ => r.1.1
  have rK : ∀ ω vd t, RDT (C4 K Q ω vd t) n T := fun _ _ _ => C4_rd qo r
  have r5 := r.1.2.2.2.2
  intro m
  induction m with
  | zero =>
    intro k p fuel ω hk hp hf h0 h13
    obtain ⟨fuel, rfl⟩ : ∃ j, fuel = j + 1 := ⟨fuel - 1, by omega⟩
    have qb := sk_b T n p
    obtain ⟨p1, v, x1, x2, x3⟩ := takeCol_t (rK ω vd t) (p := sk T n p) (by omega) (lo0 (ω 0)) (hi0 (ω 0)) 0
    rw [sk_i T n _ p rfl] at x1 x3
    obtain ⟨ω', z1, z2⟩ := show_c (K := K) (vd := vd) (t := t) (p := p1) (φ := flt (colF T n (sk T n p) (lo0 (ω 0)) (hi0 (ω 0)) 0) (sk T n p) 4) qo (ω := ω) (by omega) v
    have e0 : (shL T n s (0 + 1) p k ω).1 = flt (colF T n (sk T n p) (lo0 s) (hi0 s) 0) (sk T n p) 4 := by
      rw [shL]
      by_cases c : colF T n (sk T n p) (lo0 s) (hi0 s) 0 = 0
      · rw [if_neg (by simpa using c), if_pos (show k = 5 by omega), c]
      · rw [if_pos c, flt_f c]
    have f4 : flt (colF T n (sk T n p) (lo0 s) (hi0 s) 0) (sk T n p) 4 ≠ 0 := flt_n _ _ (by decide)
    rw [h0] at x1 z1
    refine ⟨p1, ω', ?_, x2, fun e => ?_⟩
    · rw [Rea_readShown_L6, if_neg (by omega), gI_k (k18 _ _ _ _ _), s18_3, if_neg (by simp), rc_k (k18 _ _ _ _ _), place_t (rK _ _ _) (by omega), bnd_some, rc_k (x_k qo), firstCol_c qo, bnd_some, rc_k (x_k qo), lastCol_c qo, bnd_some, h0, rc_k (k18 _ _ _ _ _), x1, bnd_some, rc_k (x_k qo), all_c qo, bnd_some, if_neg (show ¬ ω 13 < 5 by omega), if_neg (by decide), rc_k (k18 _ _ _ _ _), fail_e (rK _ _ _).1 (by omega) (by decide) (by decide), bnd_some]
      unfold Rea_readShown_L50
      rw [rc_k (x_k qo), z1, bnd_some, gI_k (k18 _ _ _ _ _), s18_3, if_pos f4, e0]
    · rw [e0] at e; exact absurd e f4
  | succ m ih =>
    intro k p fuel ω hk hp hf h0 h13
    obtain ⟨fuel, rfl⟩ : ∃ j, fuel = j + 1 := ⟨fuel - 1, by omega⟩
    have qb := sk_b T n p
    obtain ⟨p1, v, x1, x2, x3⟩ := takeCol_t (rK ω vd t) (p := sk T n p) (by omega) (lo0 (ω 0)) (hi0 (ω 0)) 0
    rw [sk_i T n _ p rfl] at x1 x3
    rw [h0] at x1 x3
    obtain ⟨ω', z1, z2⟩ := show_c (K := K) (vd := vd) (t := t) (p := p1) (φ := colF T n (sk T n p) (lo0 s) (hi0 s) 0) qo (ω := ω) (by omega) v
    have z3 := z2 (by omega)
    rw [h13, tN (k : Int) k rfl] at z3
    have head : Rea_readShown_L6 (fuel + 1) 18 Q (k : Int) (S18 (C4 K Q ω vd t) p 0) = if ¬ colF T n (sk T n p) (lo0 s) (hi0 s) 0 = 0 then some ((), S18 (C4 K Q ω' vd t) p1 (colF T n (sk T n p) (lo0 s) (hi0 s) 0)) else (rc (S18 (C4 K Q ω' vd t) p1 (colF T n (sk T n p) (lo0 s) (hi0 s) 0)) 7 18 <| bnd (Rea_takeByte 18 44 (S18 (C4 K Q ω' vd t) p1 (colF T n (sk T n p) (lo0 s) (hi0 s) 0))) fun x6 h5 => if ¬ (x6 : Int) = 0 then (Rea_readShown_L6 fuel 18 Q ((wr ((k : Int) + 1))) h5) else (some ((), h5))) := by
      rw [Rea_readShown_L6, if_neg (by omega), gI_k (k18 _ _ _ _ _), s18_3, if_neg (by simp), rc_k (k18 _ _ _ _ _), place_t (rK _ _ _) (by omega), bnd_some, rc_k (x_k qo), firstCol_c qo, bnd_some, rc_k (x_k qo), lastCol_c qo, bnd_some, h0, rc_k (k18 _ _ _ _ _), x1, bnd_some, rc_k (x_k qo), all_c qo, bnd_some, if_pos (show ω 13 < 5 by omega), if_pos rfl]
      unfold Rea_readShown_L50
      rw [rc_k (x_k qo), z1, bnd_some, gI_k (k18 _ _ _ _ _), s18_3]
    by_cases c : colF T n (sk T n p) (lo0 s) (hi0 s) 0 = 0
    · obtain ⟨y1, y2⟩ := x3 c
      have q1 := (colF_0 c).2.1
      have sb := sk_b T n (sk T n p + 1)
      have eW : ω' = shW T (sk T n p) k ω := by rw [z3, y2]; rfl
      have tb := takeByte_t (rK ω' vd t) (p := sk T n p + 1) (by omega) 0 44
      rw [head, if_neg (by simpa using c), c, y1, rc_k (k18 _ _ _ _ _), tb]
      by_cases d : sk T n (sk T n p + 1) < n ∧ T (sk T n (sk T n p + 1)) = 44
      · have e0 : shL T n s (m + 1 + 1) p k ω = shL T n s (m + 1) (sk T n (sk T n p + 1) + 1) (k + 1) (shW T (sk T n p) k ω) := by
          rw [shL, if_neg (by simpa using c), if_neg (show ¬ k = 5 by omega), if_pos d]
        obtain ⟨p2, ω2, w1, w2, w3⟩ := ih (k + 1) (sk T n (sk T n p + 1) + 1) fuel (shW T (sk T n p) k ω) (by omega) (by omega) (by omega) (by unfold shW; rw [u1_n (by omega), u1_n (by omega)]; exact h0) (by unfold shW; rw [u1_s]; omega)
        rw [e0]
        refine ⟨p2, ω2, ?_, w2, w3⟩
        rw [if_pos d, bnd_some, if_pos (by decide), wr_id (by omega) (by omega), show (k : Int) + 1 = ((k + 1 : Nat) : Int) by omega, eW, w1]
      · have e0 : shL T n s (m + 1 + 1) p k ω = (0, sk T n (sk T n p + 1), shW T (sk T n p) k ω) := by
          rw [shL, if_neg (by simpa using c), if_neg (show ¬ k = 5 by omega), if_neg d]
        rw [e0]
        refine ⟨sk T n (sk T n p + 1), ω', ?_, by omega, fun _ => ⟨rfl, eW⟩⟩
        rw [if_neg d, bnd_some, if_neg (by simp)]
    · have e0 : shL T n s (m + 1 + 1) p k ω = (colF T n (sk T n p) (lo0 s) (hi0 s) 0, p, ω) := by rw [shL, if_pos c]
      rw [e0, head, if_pos c]
      exact ⟨p1, ω', rfl, x2, fun e => absurd (show colF T n (sk T n p) (lo0 s) (hi0 s) 0 = 0 from e) c⟩
/-- the class reads a source -/
theorem readSource_c (qo : QO K Q) (r : RDT K n T) : ∃ p' ω' vd', Rea_readSource 18 Q (S18 (C4 K Q ω vd t) 0 0) = some ((), S18 (C4 K Q ω' vd' t) p' (srF T n)) ∧ p' ≤ 400 ∧ (srF T n = 0 → p' = srP T n ∧ ω' = bgR (srS T n) (srA T n) (srB T n) ∧ vd' = 0) := by
  have k18 : ∀ ω vd t (p : Nat) φ, hK (S18 (C4 K Q ω vd t) p φ) 18 = (7, 0) := fun _ _ _ _ _ => r.1.1
  have rK : ∀ ω vd t, RDT (C4 K Q ω vd t) n T := fun _ _ _ => C4_rd qo r
  have r5 := r.1.2.2.2.2
  have qb := sk_b T n 0
  have qi := sk_i T n _ 0 rfl
  have w2 := takeWord_t (rK ω vd t) (p := 0) (by decide) 0 (w := 2) (by decide)
  have w3 := takeWord_t (rK ω vd t) (p := sk T n 0) (by omega) 0 (w := 3) (by decide)
  have w4 := takeWord_t (rK ω vd t) (p := sk T n 0) (by omega) 0 (w := 4) (by decide)
  have pl := place_t (rK ω vd t) (p := sk T n 0) (by omega) 0
  rw [qi] at w3 w4 pl
  rw [show sLn 2 = 1 from rfl] at w2
  rw [show sLn 3 = 1 from rfl] at w3
  rw [show sLn 4 = 4 from rfl] at w4
  have i2 := fun e => isW_b (T := T) (n := n) (q := sk T n 0) (w := 2) (by decide) e
  have i3 := fun e => isW_b (T := T) (n := n) (q := sk T n 0) (w := 3) (by decide) e
  have i4 := fun e => isW_b (T := T) (n := n) (q := sk T n 0) (w := 4) (by decide) e
  rw [show sLn 2 = 1 from rfl] at i2
  rw [show sLn 3 = 1 from rfl] at i3
  rw [show sLn 4 = 4 from rfl] at i4
  unfold Rea_readSource srF srP srS srA srB
  rw [rc_k (k18 _ _ _ _ _), w2]
  generalize sk T n 0 = q at *
  by_cases c2 : isW T n q 2 = true
  · have := i2 c2
    rw [if_pos c2, if_pos c2, if_pos c2, if_pos c2, if_pos c2, if_pos c2, bnd_some, if_neg (by decide), rc_k (x_k qo), begin_c qo (Or.inl rfl), bnd_some]
    exact ⟨_, _, _, rfl, by omega, fun _ => ⟨rfl, rfl, rfl⟩⟩
  · rw [if_neg c2, if_neg c2, if_neg c2, if_neg c2, if_neg c2, if_neg c2, bnd_some, if_pos rfl, rc_k (k18 _ _ _ _ _), w3]
    by_cases c3 : isW T n q 3 = true
    · have := i3 c3
      rw [if_pos c3, if_pos c3, if_pos c3, if_pos c3, if_pos c3, if_pos c3, bnd_some, if_neg (by decide), rc_k (x_k qo), begin_c qo (Or.inr (Or.inl rfl)), bnd_some]
      exact ⟨_, _, _, rfl, by omega, fun _ => ⟨rfl, rfl, rfl⟩⟩
    · rw [if_neg c3, if_neg c3, if_neg c3, if_neg c3, if_neg c3, if_neg c3, bnd_some, if_pos rfl, rc_k (k18 _ _ _ _ _), w4]
      by_cases c4 : isW T n q 4 = true
      · have := i4 c4
        rw [if_pos c4, if_pos c4, bnd_some, if_neg (by decide)]
        have l72 : ∀ (p2 : Nat) (φ2 v1 : Int), p2 ≤ 400 → ∃ p' ω', Rea_readSource_L72 18 Q v1 (S18 (C4 K Q ω vd t) p2 φ2) = some ((), S18 (C4 K Q ω' 0 t) p' (colF T n (sk T n p2) 3 4 φ2)) ∧ p' ≤ 400 ∧ (colF T n (sk T n p2) 3 4 φ2 = 0 → p' = sk T n p2 + 1 ∧ ω' = bgR 2 v1 (T (sk T n p2) - 97)) := fun p2 φ2 v1 hp2 => by
          obtain ⟨p', v, x1, x2, x3⟩ := takeCol_t (rK ω vd t) hp2 3 4 φ2
          unfold Rea_readSource_L72
          rw [rc_k (k18 _ _ _ _ _), x1, bnd_some, rc_k (x_k qo), begin_c qo (Or.inr (Or.inr rfl)), bnd_some]
          exact ⟨_, _, rfl, x2, fun e => ⟨(x3 e).1, by rw [(x3 e).2]⟩⟩
        obtain ⟨p1, v1, x1, x2, x3⟩ := takeCol_t (rK ω vd t) (p := q + 4) (by omega) 0 2 0
        have tb := takeByte_t (rK ω vd t) (p := p1) (by omega) (colF T n (sk T n (q + 4)) 0 2 0) 61
        have s1 := sk_b T n p1
        have pl2 := place_t (rK ω vd t) (p := sk T n p1) (by omega) (colF T n (sk T n (q + 4)) 0 2 0)
        rw [sk_i T n _ p1 rfl] at pl2
        rw [rc_k (k18 _ _ _ _ _), x1, bnd_some, rc_k (k18 _ _ _ _ _), tb]
        by_cases c : colF T n (sk T n (q + 4)) 0 2 0 = 0
        · obtain ⟨y1, y2⟩ := x3 c
          unfold jnF jnQ
          rw [if_neg (show ¬ colF T n (sk T n (q + 4)) 0 2 0 ≠ 0 from fun x => x c), ← y1]
          by_cases d : sk T n p1 < n ∧ T (sk T n p1) = 61
          · obtain ⟨p', ω', z1, z2, z3⟩ := l72 (sk T n p1 + 1) (colF T n (sk T n (q + 4)) 0 2 0) v1 (by omega)
            rw [c] at z1 z3
            rw [if_pos d, if_pos d, bnd_some, if_pos (by decide), c, z1]
            exact ⟨p', ω', 0, rfl, z2, fun e => ⟨(z3 e).1, by rw [(z3 e).2, y2], rfl⟩⟩
          · have f0 := flt_n 0 (sk T n p1) (k := 0) (by decide)
            obtain ⟨p', ω', z1, z2, z3⟩ := l72 (sk T n p1) (flt 0 (sk T n p1) 0) v1 (by omega)
            rw [colF_f f0] at z1
            rw [if_neg d, if_neg d, bnd_some, if_neg (by simp), rc_k (k18 _ _ _ _ _), pl2, bnd_some, rc_k (k18 _ _ _ _ _), fail_e (rK _ _ _).1 (by omega) (by decide) (by decide), bnd_some, c, z1]
            exact ⟨p', ω', 0, rfl, z2, fun e => absurd e f0⟩
        · unfold jnF
          rw [if_pos c]
          by_cases d : sk T n p1 < n ∧ T (sk T n p1) = 61
          · obtain ⟨p', ω', z1, z2, z3⟩ := l72 (sk T n p1 + 1) (colF T n (sk T n (q + 4)) 0 2 0) v1 (by omega)
            rw [colF_f c] at z1
            rw [if_pos d, bnd_some, if_pos (by decide), z1]
            exact ⟨p', ω', 0, rfl, z2, fun e => absurd e c⟩
          · obtain ⟨p', ω', z1, z2, z3⟩ := l72 (sk T n p1) (colF T n (sk T n (q + 4)) 0 2 0) v1 (by omega)
            rw [colF_f c] at z1
            rw [if_neg d, bnd_some, if_neg (by simp), rc_k (k18 _ _ _ _ _), pl2, bnd_some, rc_k (k18 _ _ _ _ _), fail_e (rK _ _ _).1 (by omega) (by decide) (by decide), bnd_some, flt_f c, z1]
            exact ⟨p', ω', 0, rfl, z2, fun e => absurd e c⟩
      · rw [if_neg c4, if_neg c4, bnd_some, if_pos rfl, rc_k (k18 _ _ _ _ _), pl, bnd_some, rc_k (k18 _ _ _ _ _), fail_e (rK _ _ _).1 (by omega) (by decide) (by decide), bnd_some]
        exact ⟨_, _, _, rfl, by omega, fun e => absurd e (flt_n _ _ (by decide))⟩
end M3
