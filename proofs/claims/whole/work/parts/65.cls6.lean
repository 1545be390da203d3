/-! Level 2: the class: choices -/
def CHS (h : AH) : Prop := hK h 79 = (1, 0) ∧ hR h 79 0 = 80 ∧ hR h 79 1 = 81 ∧ hR h 79 2 = 82 ∧ hR h 79 3 = 83 ∧ hK h 80 = (36, 108) ∧ hK h 81 = (21, 108) ∧ hK h 82 = (21, 108) ∧ PA h 83 ∧ ∀ i, i < 108 → hR h 80 i = 85 + 2 * i ∧ PA h (85 + 2 * i)
/-- the choices lie as in a list -/
def CI2 (f : Nat → Nat → Int) (s : List Pt) : Prop := f 79 4 = s.length ∧ s.length ≤ 108 ∧ ∀ i, i < s.length → eq13 (f (86 + 2 * i)) (pa s i)
theorem wIn_len (a : Nat) : ∀ (n b : Nat) (s : List Pt), s.length ≤ (wIn a n b s).length
  | 0, _, _ => Nat.le_refl _
  | n + 1, b, s => by
    have l := addU_len s (wid (pa s a) (pa s b))
    have := wIn_len a n (b + 1) (if oneF (pa s a) (pa s b) then addU s (wid (pa s a) (pa s b)) else s)
    rw [wIn]
    refine Nat.le_trans ?_ this
    split <;> omega
theorem wOut_len (N : Nat) : ∀ (n a : Nat) (s : List Pt), s.length ≤ (wOut N n a s).length
  | 0, _, _ => Nat.le_refl _
  | n + 1, a, s => by
    rw [wOut]
    exact Nat.le_trans (wIn_len a _ _ s) (wOut_len N n (a + 1) _)
section C7
variable {h g : AH} {f : Nat → Nat → Int} {ρ : Nat → Int} {a p : Nat} {s : List Pt} {π : Pt}
theorem CHS.ix {β : Type} (c : CHS h) {i : Nat} (hi : i < 108) (F : Nat → Nat → Int) (k : Nat → Option β) : (gR (WI h F) 1 79 0 fun r => aR (WI h F) 36 r (i : Int) k) = k (85 + 2 * i) := by
  obtain ⟨c1, c2, c3, c4, c5, c6, c7, c8, c9, c10⟩ := c
  rw [gR_k (h := WI h F) c1, show hR (WI h F) 79 0 = 80 from c2, aR_k (h := WI h F) c6 (by omega) (by omega), show hR (WI h F) 80 (i : Int).toNat = 85 + 2 * i from (c10 i hi).1]
theorem addUnlike_e (c : CHS h) (ci : CI2 f s) (p1 : PA h p) (hp : p = 83 ∨ 301 < p) (e : eq13 (f (p + 1)) π) (hl : (addU s π).length ≤ 108) : ∃ f', Cho_addUnlike 79 p (WI h f) = some ((), WI h f') ∧ IN f f' 79 301 ∧ CI2 f' (addU s π) ∧ f' 84 = f 84 := by
  obtain ⟨i1, i2, i3⟩ := ci
  have k79 : ∀ F, hK (WI h F) 79 = (1, 0) := fun _ => c.1
  have L : ∀ (n k : Nat), k + n = s.length → ∀ fuel, n < fuel → (if allR (fun i => !sameF (pa s i) π) k n then s ++ [π] else s).length ≤ 108 → ∃ f', Cho_addUnlike_L2 fuel 79 p (k : Int) (WI h f) = some ((), WI h f') ∧ IN f f' 79 301 ∧ CI2 f' (if allR (fun i => !sameF (pa s i) π) k n then s ++ [π] else s) ∧ f' 84 = f 84 := by
    intro n
    induction n with
    | zero =>
      intro k hk fuel hf hl
      obtain ⟨fuel, rfl⟩ : ∃ j, fuel = j + 1 := ⟨fuel - 1, by omega⟩
      rw [allR_0, if_pos rfl, List.length_append, List.length_singleton] at hl
      obtain ⟨f1, x1, x2, x3⟩ := Par_copy_e (f := f) ((c.2.2.2.2.2.2.2.2.2 s.length (by omega)).2) p1
      rw [Cho_addUnlike_L2, gI_k (k79 _), hI_WI, i1, if_pos (by omega), gI_k (k79 _), hI_WI, i1, if_neg (by omega)]
      rw [gR_k (k79 _), show hR (WI h f) 79 0 = 80 from c.2.1, gI_k (k79 _), hI_WI, i1, aR_k (h := WI h f) c.2.2.2.2.2.1 (by omega) (by omega), show hR (WI h f) 80 ((s.length : Nat) : Int).toNat = 85 + 2 * s.length from (c.2.2.2.2.2.2.2.2.2 s.length (by omega)).1, rc_k (h := WI h f) ((c.2.2.2.2.2.2.2.2.2 s.length (by omega)).2.1), x1, bnd_some, gI_k (k79 _), hI_WI, x2 79 (by omega), i1, wr_id (by omega) (by omega), pI_k (k79 _), WI_sI, allR_0, if_pos rfl]
      refine ⟨_, rfl, ?_, ⟨?_, ?_, fun i hi t ht => ?_⟩, ?_⟩
      · exact (x2.sub (by omega) (by omega)).trans (IN_u _ _ (by omega) (by omega))
      · rw [up2_e, if_pos ⟨rfl, rfl⟩, List.length_append, List.length_singleton]; omega
      · rw [List.length_append, List.length_singleton]; omega
      · rw [List.length_append, List.length_singleton] at hi
        rw [up2_ne (by omega)]
        by_cases ei : i = s.length
        · subst ei
          rw [pa_n]
          have := x3 t ht
          rw [show 85 + 2 * s.length + 1 = 86 + 2 * s.length by omega] at this
          rw [this]; exact e t ht
        · rw [pa_l (by omega), x2 _ (by omega)]; exact i3 i (by omega) t ht
      · rw [up2_ne (by decide), x2 84 (by omega)]
    | succ n ih =>
      intro k hk fuel hf hl
      obtain ⟨fuel, rfl⟩ : ∃ j, fuel = j + 1 := ⟨fuel - 1, by omega⟩
      have pk := (c.2.2.2.2.2.2.2.2.2 k (by omega)).2
      have es : sameF (hI (WI h f) (85 + 2 * k + 1)) (hI (WI h f) (p + 1)) = sameF (pa s k) π := sameF_c (fun t ht => by
        rw [hI_WI, show 85 + 2 * k + 1 = 86 + 2 * k by omega]; exact i3 k (by omega) t ht) (fun t ht => e t ht)
      rw [Cho_addUnlike_L2, gI_k (k79 _), hI_WI, i1, if_neg (by omega), c.ix (by omega), rc_k (h := WI h f) pk.1, Par_isLike_e (h := WI h f) pk p1, bnd_some, es, ite_bi, wr_id (by omega) (by omega), show (k : Int) + 1 = ((k + 1 : Nat) : Int) by omega, allR_s]
      rw [allR_s] at hl
      cases ek : sameF (pa s k) π
      · rw [ek, Bool.not_false, Bool.true_and] at hl
        rw [if_neg (by decide), Bool.not_false, Bool.true_and]
        exact ih (k + 1) (by omega) fuel (by omega) hl
      · rw [if_pos rfl, Bool.not_true, Bool.false_and, if_neg (by decide)]
        exact ⟨f, rfl, IN.refl _ _ _, ⟨i1, i2, i3⟩, rfl⟩
  exact L s.length 0 (by omega) FU (by have := FU_big; omega) hl
theorem Par_limit_e {c : Nat} (hc : c < 5) (p1 : PA h p) (x y : Int) : Par_limit p (c : Int) x y (WI h f) = some ((), WI h (up2 (up2 f (p + 1) (3 + 2 * c) x) (p + 1) (4 + 2 * c) y)) := by
  obtain ⟨a1, a2, a3⟩ := p1
  have kp1 : ∀ F, hK (WI h F) p = (4, 0) := fun _ => a1
  have kp2 : ∀ F, hK (WI h F) (p + 1) = (21, 13) := fun _ => a3
  have rp : ∀ F, hR (WI h F) p 0 = p + 1 := fun _ => a2
  unfold Par_limit
  rw [gR_k (kp1 _), rp, wr_id (z := 2 * (c : Int)) (by omega) (by omega), wr_id (by omega) (by omega), wI_k (kp2 _) (by omega) (by omega), WI_sI, gR_k (kp1 _), rp, wr_id (by omega) (by omega), wI_k (kp2 _) (by omega) (by omega), WI_sI, tN (3 + 2 * (c : Int)) (3 + 2 * c) (by omega), tN (4 + 2 * (c : Int)) (4 + 2 * c) (by omega)]
theorem Par_least_e {c : Nat} (hc : c < 5) (p1 : PA h p) : Par_least p (c : Int) h = some (hI h (p + 1) (3 + 2 * c), h) := by
  obtain ⟨a1, a2, a3⟩ := p1
  unfold Par_least
  rw [gR_k a1, a2, wr_id (z := 2 * (c : Int)) (by omega) (by omega), wr_id (by omega) (by omega), aI_k a3 (by omega) (by omega), tN (3 + 2 * (c : Int)) (3 + 2 * c) (by omega)]
theorem Par_greatest_e {c : Nat} (hc : c < 5) (p1 : PA h p) : Par_greatest p (c : Int) h = some (hI h (p + 1) (4 + 2 * c), h) := by
  obtain ⟨a1, a2, a3⟩ := p1
  unfold Par_greatest
  rw [gR_k a1, a2, wr_id (z := 2 * (c : Int)) (by omega) (by omega), wr_id (by omega) (by omega), aI_k a3 (by omega) (by omega), tN (4 + 2 * (c : Int)) (4 + 2 * c) (by omega)]
theorem Par_widen_e {q r : Nat} (p1 : PA h p) (q1 : PA h q) (r1 : PA h r) (pq : p + 2 ≤ q ∨ q + 2 ≤ p) (pr : p + 2 ≤ r ∨ r + 2 ≤ p) (o : oneF (f (q + 1)) (f (r + 1)) = true) : ∃ f', Par_widen p q r (WI h f) = some ((), WI h f') ∧ IN f f' (p + 1) (p + 2) ∧ eq13 (f' (p + 1)) (wid (f (q + 1)) (f (r + 1))) := by
  obtain ⟨f1, x1, x2, x3⟩ := Par_copy_e (f := f) p1 q1
  have L : ∀ (n c : Nat), c + n = 5 → ∀ (fuel : Nat) (g : Nat → Nat → Int), n < fuel → IN f g (p + 1) (p + 2) → (∀ t, t < 13 → g (p + 1) t = if t < 3 + 2 * c then wid (f (q + 1)) (f (r + 1)) t else f (q + 1) t) → ∃ f', Par_widen_L7 fuel p q r (c : Int) (WI h g) = some ((), WI h f') ∧ IN f f' (p + 1) (p + 2) ∧ eq13 (f' (p + 1)) (wid (f (q + 1)) (f (r + 1))) := by
    intro n
    induction n with
    | zero =>
      intro c hc fuel g hf g1 g2
      obtain ⟨fuel, rfl⟩ : ∃ j, fuel = j + 1 := ⟨fuel - 1, by omega⟩
      refine ⟨g, ?_, g1, fun t ht => by rw [g2 t ht, if_pos (by omega)]⟩
      rw [Par_widen_L7, if_pos (by omega)]
    | succ n ih =>
      intro c hc fuel g hf g1 g2
      obtain ⟨fuel, rfl⟩ : ∃ j, fuel = j + 1 := ⟨fuel - 1, by omega⟩
      have gq : g (q + 1) = f (q + 1) := g1 _ (by omega)
      have gr : g (r + 1) = f (r + 1) := g1 _ (by omega)
      rw [Par_widen_L7, if_neg (by omega), rc_k (h := WI h g) q1.1, Par_least_e (h := WI h g) (by omega) q1, bnd_some, rc_k (h := WI h g) r1.1, Par_least_e (h := WI h g) (by omega) r1, bnd_some, rc_k (h := WI h g) q1.1, Par_greatest_e (h := WI h g) (by omega) q1, bnd_some, rc_k (h := WI h g) r1.1, Par_greatest_e (h := WI h g) (by omega) r1, bnd_some, rc_k (h := WI h g) p1.1, Par_limit_e (by omega) p1, bnd_some, wr_id (by omega) (by omega), show (c : Int) + 1 = ((c + 1 : Nat) : Int) by omega, hI_WI, gq, gr]
      refine ih (c + 1) (by omega) fuel _ (by omega) (g1.trans ((IN_u _ _ (by omega) (by omega)).trans (IN_u _ _ (by omega) (by omega)))) (fun t ht => ?_)
      rw [up2_e, up2_e]
      by_cases e4 : t = 4 + 2 * c
      · rw [if_pos ⟨rfl, e4⟩, if_pos (by omega), e4]
        unfold wid mMax
        rw [if_neg (show ¬ (4 + 2 * c < 3 ∨ (4 + 2 * c) % 2 = 1) by omega)]
      · rw [if_neg (by omega)]
        by_cases e3 : t = 3 + 2 * c
        · rw [if_pos ⟨rfl, e3⟩, if_pos (by omega), e3]
          unfold wid mMin
          rw [if_pos (show 3 + 2 * c < 3 ∨ (3 + 2 * c) % 2 = 1 by omega)]
          by_cases z : f (q + 1) (3 + 2 * c) < f (r + 1) (3 + 2 * c)
          · rw [if_neg (show ¬ f (r + 1) (3 + 2 * c) < f (q + 1) (3 + 2 * c) by omega), if_pos z]
          · rw [if_neg z]; split <;> omega
        · rw [if_neg (by omega), g2 t ht]
          by_cases z : t < 3 + 2 * c
          · rw [if_pos z, if_pos (by omega)]
          · rw [if_neg z, if_neg (by omega)]
  unfold Par_widen
  rw [rc_k (h := WI h f) p1.1, x1, bnd_some]
  refine L 5 0 rfl FU f1 (by decide) x2 (fun t ht => ?_)
  rw [x3 t ht]
  unfold oneF at o
  simp only [Bool.and_eq_true, decide_eq_true_eq] at o
  by_cases z : t < 3 + 2 * 0
  · rw [if_pos z]
    unfold wid
    rw [if_pos (Or.inl (by omega))]
    have : t = 0 ∨ t = 1 ∨ t = 2 := by omega
    rcases this with rfl | rfl | rfl
    · rw [o.1]; split <;> rfl
    · rw [o.2.1]; split <;> rfl
    · rw [o.2.2]; split <;> rfl
  · rw [if_neg z]
theorem wide_i (c : CHS h) {N i : Nat} (hi : i < N) (K : Nat → Int → Int → AH → Option (Unit × AH)) : ∀ (n j F : Nat) (f : Nat → Nat → Int) (s : List Pt), j + n = N → i < j → n < F → CI2 f s → N ≤ s.length → (wIn i n j s).length ≤ 108 → ∃ f', Cho_addWideOnes_L11 K F 79 (N : Int) (i : Int) (j : Int) (WI h f) = K 79 (N : Int) ((i + 1 : Nat) : Int) (WI h f') ∧ IN f f' 79 301 ∧ CI2 f' (wIn i n j s)
  | 0, j, F + 1, f, s, hj, _, _, ci, hn, hl => by
    refine ⟨f, ?_, IN.refl _ _ _, ci⟩
    have := ci.2.1
    rw [Cho_addWideOnes_L11, if_pos (by omega), wr_id (by omega) (by omega), show (i : Int) + 1 = ((i + 1 : Nat) : Int) by omega]
  | n + 1, j, F + 1, f, s, hj, hij, hF, ci, hn, hl => by
    have l108 := ci.2.1
    have pi := (c.2.2.2.2.2.2.2.2.2 i (by omega)).2
    have pj := (c.2.2.2.2.2.2.2.2.2 j (by omega)).2
    have p83 := c.2.2.2.2.2.2.2.2.1
    have ei : eq13 (f (85 + 2 * i + 1)) (pa s i) := by rw [show 85 + 2 * i + 1 = 86 + 2 * i by omega]; exact ci.2.2 i (by omega)
    have ej : eq13 (f (85 + 2 * j + 1)) (pa s j) := by rw [show 85 + 2 * j + 1 = 86 + 2 * j by omega]; exact ci.2.2 j (by omega)
    have eo : oneF (hI (WI h f) (85 + 2 * i + 1)) (hI (WI h f) (85 + 2 * j + 1)) = oneF (pa s i) (pa s j) := oneF_c ei ej
    have eo' : oneF (f (85 + 2 * i + 1)) (f (85 + 2 * j + 1)) = oneF (pa s i) (pa s j) := eo
    rw [Cho_addWideOnes_L11, if_neg (by omega), c.ix (by omega), c.ix (by omega), rc_k (h := WI h f) pi.1, Par_isOfSort_e (h := WI h f) pi pj, bnd_some, eo, ite_bi, wr_id (z := (j : Int) + 1) (by omega) (by omega), show (j : Int) + 1 = ((j + 1 : Nat) : Int) by omega]
    rw [wIn] at hl ⊢
    cases o : oneF (pa s i) (pa s j)
    · rw [o, if_neg (by decide)] at hl
      rw [if_neg (by decide), if_neg (by decide)]
      exact wide_i c hi K n (j + 1) F f s (by omega) (by omega) (by omega) ci hn hl
    · rw [o, if_pos rfl] at hl
      have l1 := wIn_len i n (j + 1) (addU s (wid (pa s i) (pa s j)))
      have l2 := addU_len s (wid (pa s i) (pa s j))
      obtain ⟨f1, x1, x2, x3⟩ := Par_widen_e (f := f) p83 pi pj (by omega) (by omega) (by rw [eo']; exact o)
      have ci1 : CI2 f1 s := ⟨by rw [x2 79 (by omega)]; exact ci.1, l108, fun k hk => by rw [x2 _ (by omega)]; exact ci.2.2 k hk⟩
      obtain ⟨f2, y1, y2, y3, -⟩ := addUnlike_e (π := wid (pa s i) (pa s j)) c ci1 p83 (Or.inl rfl) (fun t ht => by rw [x3 t ht]; exact wid_c ei ej t ht) (by omega)
      obtain ⟨f3, z1, z2, z3⟩ := wide_i c hi K n (j + 1) F f2 _ (by omega) (by omega) (by omega) y3 (by omega) hl
      rw [if_pos rfl, if_pos rfl, gR_k (h := WI h f) c.1, show hR (WI h f) 79 3 = 83 from c.2.2.2.2.1, c.ix (by omega), c.ix (by omega), rc_k (h := WI h f) p83.1, x1, bnd_some, gR_k (h := WI h f1) c.1, show hR (WI h f1) 79 3 = 83 from c.2.2.2.2.1, rc_k (h := WI h f1) c.1, y1, bnd_some, z1]
      exact ⟨f3, rfl, (x2.sub (by omega) (by omega)).trans (y2.trans z2), z3⟩
theorem wide_o (c : CHS h) {N : Nat} : ∀ (n i F : Nat) (f : Nat → Nat → Int) (s : List Pt), i + n = N → n < F → CI2 f s → N ≤ s.length → (wOut N n i s).length ≤ 108 → ∃ f', Cho_addWideOnes_L2 F 79 (N : Int) (i : Int) (WI h f) = some ((), WI h f') ∧ IN f f' 79 301 ∧ CI2 f' (wOut N n i s)
  | 0, i, F + 1, f, s, hi, _, ci, hn, hl => ⟨f, by rw [Cho_addWideOnes_L2, if_pos (by omega)], IN.refl _ _ _, ci⟩
  | n + 1, i, F + 1, f, s, hi, hF, ci, hn, hl => by
    have l108 := ci.2.1
    have big := FU_big
    rw [wOut] at hl ⊢
    have l1 := wOut_len N n (i + 1) (wIn i (N - (i + 1)) (i + 1) s)
    have l2 := wIn_len i (N - (i + 1)) (i + 1) s
    obtain ⟨f1, x1, x2, x3⟩ := wide_i c (N := N) (i := i) (by omega) (Cho_addWideOnes_L2 F) (N - (i + 1)) (i + 1) FU f s (by omega) (by omega) (by omega) ci hn (by omega)
    obtain ⟨f2, y1, y2, y3⟩ := wide_o c n (i + 1) F f1 _ (by omega) (by omega) x3 (by omega) hl
    refine ⟨f2, ?_, x2.trans y2, y3⟩
    rw [Cho_addWideOnes_L2, if_neg (by omega), wr_id (by omega) (by omega), show (i : Int) + 1 = ((i + 1 : Nat) : Int) by omega, x1, y1]
theorem Sta_isStruck_e (st : ST h a ρ) {q : Nat} (hq : q < 8) : Sta_isStruck a (q : Int) h = some (bi (hasB (ρ 4) q), h) := by
  obtain ⟨⟨s1, -⟩, ⟨-, -, -, -, e4, -⟩, b⟩ := st
  have b4 := b.2.2.2.2.1
  unfold Sta_isStruck
  rw [gI_k s1, e4]
  obtain ⟨S, hS⟩ : ∃ S : Nat, ρ 4 = (S : Int) := ⟨(ρ 4).toNat, by omega⟩
  have := stk_01 S (by omega) q hq
  rw [hS]
  unfold hasB
  rcases this with e | e
  · rw [e]; rfl
  · rw [e]; rfl
theorem collect_k (c : CHS h) (cq : CQ (WI h f) g) (b : MB g) (st : ST (WI h f) a (rr (hI g))) (ha : a + 26 ≤ 75) {q k : Nat} (hq : (q : Int) < hI g 401 10) (hk : k < 3) (ci : CI2 f s) (hl : s.length < 108) (K : Nat → Nat → Int → Nat → Int → AH → Option (Unit × AH)) (F : Nat) (nq : Int) : ∃ f', Cho_collect_L24 K (F + 1) 79 19 nq a (q : Int) (k : Int) (WI h f) = Cho_collect_L24 K F 79 19 nq a (q : Int) ((k + 1 : Nat) : Int) (WI h f') ∧ IN f f' 79 301 ∧ CI2 f' (if onH g q && hasH g q k then addU s (qpH g q k) else s) := by
  have b3 := b.2.2.1
  have q8 : q < 8 := by omega
  obtain ⟨q1, q2, q3, q4, q5, q6, q7⟩ := (show QA h from cq.1).2 q q8
  have k19 : ∀ F, hK (WI h F) 19 = (31, 8) := fun _ => cq.1.1
  have r19 : ∀ F, hR (WI h F) 19 (q : Int).toNat = 329 + 9 * q := fun _ => q1
  have es : rr (hI g) 4 = hI g 402 4 := rr_s _ (by decide)
  have eo : onH g q = (!rVd g q && !hasB (hI g 402 4) q) := rfl
  rw [Cho_collect_L24, if_neg (by omega), rc_k (h := WI h f) st.1.1, Sta_isStruck_e st q8, bnd_some, es, ite_nbi, aR_k (k19 _) (by omega) (by omega), r19, rc_k (h := WI h f) q2, cq.has b hq, bnd_some, ite_bi, wr_id (z := (k : Int) + 1) (by omega) (by omega), show (k : Int) + 1 = ((k + 1 : Nat) : Int) by omega, eo, show hasH g q k = rHas g q k from rfl]
  cases hasB (hI g 402 4) q
  · rw [if_neg (show ¬ false = true by decide), Bool.not_false, Bool.and_true]
    cases hh : (!rVd g q && rHas g q k)
    · rw [if_neg (show ¬ false = true by decide), if_neg (show ¬ false = true by decide)]
      exact ⟨f, rfl, IN.refl _ _ _, ci⟩
    · have l := addU_len s (qpH g q k)
      obtain ⟨f1, x1, x2, x3, -⟩ := addUnlike_e (π := qpH g q k) c ci (q7 k hk).2 (Or.inr (by omega)) (by
        have := (cq.2 q hq).2.2 k hk
        rw [show 332 + 9 * q + 2 * k + 1 = 333 + 9 * q + 2 * k by omega]
        exact this) (by omega)
      rw [if_pos (show true = true from rfl), if_pos (show true = true from rfl), aR_k (k19 _) (by omega) (by omega), r19, gR_k (h := WI h f) q2, show hR (WI h f) (329 + 9 * q) 1 = 331 + 9 * q from q4, aR_k (h := WI h f) q6 (by omega) (by omega), show hR (WI h f) (331 + 9 * q) (k : Int).toNat = 332 + 9 * q + 2 * k from (q7 k hk).1, rc_k (h := WI h f) c.1, x1, bnd_some]
      exact ⟨f1, rfl, x2, x3⟩
  · rw [if_pos (show true = true from rfl), Bool.not_true, Bool.and_false, Bool.false_and, if_neg (show ¬ false = true by decide)]
    exact ⟨f, rfl, IN.refl _ _ _, ci⟩
end C7
section C7b
variable {h g : AH} {f : Nat → Nat → Int} {a : Nat}
theorem IN_ST {f' : Nat → Nat → Int} {lo hi : Nat} {ρ : Nat → Int} (i : IN f f' lo hi) (ha : a + 26 ≤ lo ∨ hi ≤ a) (st : ST (WI h f) a ρ) : ST (WI h f') a ρ :=
  ST_to st (fun _ _ _ => rfl) (fun _ _ _ => rfl) (fun x h1 h2 => i x (by omega))
theorem IN_CQ {f' : Nat → Nat → Int} {lo hi : Nat} (i : IN f f' lo hi) (hh : hi ≤ 329) (b : MB g) (cq : CQ (WI h f) g) : CQ (WI h f') g :=
  CQ_to cq rfl (fun _ _ => rfl) (fun x h1 h2 => i x (by omega)) b
theorem collect_q (c : CHS h) (cq : CQ (WI h f) g) (b : MB g) (st : ST (WI h f) a (rr (hI g))) (ha : a + 26 ≤ 75) {q : Nat} (hq : (q : Int) < hI g 401 10) {s : List Pt} (ci : CI2 f s) (hl : s.length < 100) (K : Nat → Nat → Int → Nat → Int → AH → Option (Unit × AH)) (nq : Int) : ∃ f', Cho_collect_L24 K FU 79 19 nq a (q : Int) 0 (WI h f) = K 79 19 nq a ((q + 1 : Nat) : Int) (WI h f') ∧ IN f f' 79 301 ∧ CI2 f' (if onH g q then add3 s (hasH g q) (qpH g q) else s) := by
  have b3 := b.2.2.1
  obtain ⟨f1, x1, x2, x3⟩ := collect_k c cq b st ha hq (k := 0) (by decide) ci (by omega) K 999999 nq
  have l1 := addU_len s (qpH g q 0)
  generalize hs1 : (if onH g q && hasH g q 0 then addU s (qpH g q 0) else s) = s1 at x3
  have h1 : s1.length ≤ s.length + 1 := by rw [← hs1]; split <;> omega
  obtain ⟨f2, y1, y2, y3⟩ := collect_k c (IN_CQ x2 (by decide) b cq) b (IN_ST x2 (by omega) st) ha hq (k := 1) (by decide) x3 (by omega) K 999998 nq
  have l2 := addU_len s1 (qpH g q 1)
  generalize hs2 : (if onH g q && hasH g q 1 then addU s1 (qpH g q 1) else s1) = s2 at y3
  have h2 : s2.length ≤ s1.length + 1 := by rw [← hs2]; split <;> omega
  obtain ⟨f3, z1, z2, z3⟩ := collect_k c (IN_CQ (x2.trans y2) (by decide) b cq) b (IN_ST (x2.trans y2) (by omega) st) ha hq (k := 2) (by decide) y3 (by omega) K 999997 nq
  refine ⟨f3, ?_, x2.trans (y2.trans z2), ?_⟩
  · rw [show FU = 999999 + 1 from rfl, show (0 : Int) = ((0 : Nat) : Int) from rfl, x1, show 999999 = 999998 + 1 from rfl, y1, show 999998 = 999997 + 1 from rfl, z1, show 999997 = 999996 + 1 from rfl, Cho_collect_L24, if_pos (by decide), wr_id (by omega) (by omega), show (q : Int) + 1 = ((q + 1 : Nat) : Int) by omega]
  · have : (if onH g q then add3 s (hasH g q) (qpH g q) else s) = (if onH g q && hasH g q 2 then addU s2 (qpH g q 2) else s2) := by
      rw [← hs2, ← hs1]
      cases onH g q
      · rfl
      · unfold add3
        rfl
    rw [this]; exact z3
theorem collect_L (c : CHS h) (b : MB g) (ha : a + 26 ≤ 75) {nq : Int} (hn : nq = hI g 401 10) : ∀ (n q F : Nat) (f : Nat → Nat → Int), CQ (WI h f) g → ST (WI h f) a (rr (hI g)) → (q : Int) + n = hI g 401 10 → n < F → CI2 f (cA (onH g) (hasH g) (qpH g) q) → ∃ f', Cho_collect_L8 F 79 19 nq a (q : Int) (WI h f) = some ((), WI h f') ∧ IN f f' 79 301 ∧ CI2 f' (cnd g)
  | 0, q, F + 1, f, cq, st, hq, _, ci => by
    have b3 := b.2.2.1
    have big := FU_big
    have len := cnd_len b
    have eq : (hI g 401 10).toNat = q := by omega
    have ec : cnd g = wOut (cA (onH g) (hasH g) (qpH g) q).length (cA (onH g) (hasH g) (qpH g) q).length 0 (cA (onH g) (hasH g) (qpH g) q) := by unfold cnd cL; rw [eq]
    have l108 := ci.2.1
    obtain ⟨f1, x1, x2, x3⟩ := wide_o c (N := (cA (onH g) (hasH g) (qpH g) q).length) (cA (onH g) (hasH g) (qpH g) q).length 0 FU f _ (by omega) (by omega) ci (Nat.le_refl _) (by rw [← ec]; exact len)
    rw [show ((0 : Nat) : Int) = 0 from rfl] at x1
    refine ⟨f1, ?_, x2, by rw [ec]; exact x3⟩
    rw [Cho_collect_L8, if_pos (by omega), gI_k (h := WI h f) c.1, hI_WI, ci.1, rc_k (h := WI h f) c.1]
    unfold Cho_addWideOnes
    rw [x1, bnd_some]
  | n + 1, q, F + 1, f, cq, st, hq, hF, ci => by
    have b3 := b.2.2.1
    have l24 := (cA_b (onH g) (hasH g) (qpH g) (fun q k => qp0 q k) 0 q).2
    obtain ⟨f1, x1, x2, x3⟩ := collect_q c cq b st ha (q := q) (by omega) ci (by omega) (Cho_collect_L8 F) nq
    obtain ⟨f2, y1, y2, y3⟩ := collect_L c b ha hn n (q + 1) F f1 (IN_CQ x2 (by decide) b cq) (IN_ST x2 (by omega) st) (by omega) (by omega) x3
    refine ⟨f2, ?_, x2.trans y2, y3⟩
    rw [Cho_collect_L8, if_neg (by omega), aN_k (h := WI h f) cq.1.1, if_neg (by omega), x1, y1]
theorem Cho_collect_e (c : CHS h) (cq : CQ (WI h f) g) (b : MB g) (st : ST (WI h f) a (rr (hI g))) (ha : a + 26 ≤ 75) {nq : Int} (hn : nq = hI g 401 10) : ∃ f', Cho_collect 79 19 nq a (WI h f) = some ((), WI h f') ∧ IN f f' 79 301 ∧ CI2 f' (cnd g) := by
  have b3 := b.2.2.1
  have i0 : IN f (up2 f 79 4 0) 79 301 := IN_u _ _ (by omega) (by omega)
  obtain ⟨f1, x1, x2, x3⟩ := collect_L c b ha hn (hI g 401 10).toNat 0 FU (up2 f 79 4 0) (IN_CQ i0 (by decide) b cq) (IN_ST i0 (by omega) st) (by omega) (by have := FU_big; omega) ⟨by rw [up2_e, if_pos ⟨rfl, rfl⟩]; rfl, by simp [cA], fun i hi => by simp [cA] at hi⟩
  refine ⟨f1, ?_, i0.trans x2, x3⟩
  unfold Cho_collect
  rw [pI_k (h := WI h f) c.1, WI_sI]
  exact x1
/-- and they are measured -/
def CM2 (f : Nat → Nat → Int) (g : AH) : Prop := CI2 f (cnd g) ∧ ∀ i, i < (cnd g).length → f 81 i = cR g i ∧ f 82 i = cM g i
theorem Cho_measure_e (c : CHS h) (b : MB g) (mg : MS g) (st : ST (WI h f) a (rr (hI g))) (ha : a + 26 ≤ 75) (ci : CI2 f (cnd g)) : ∃ f', Cho_measure 79 a (WI h f) = some ((), WI h f') ∧ IN f f' 79 301 ∧ CM2 f' g := by
  have len := cnd_len b
  have nb := nRS b
  have ok := cnd_ok mg b
  have e2 : rr (hI g) 2 = hI g 402 2 := rr_s _ (by decide)
  have e3 : rr (hI g) 3 = hI g 402 3 := rr_s _ (by decide)
  have L : ∀ (n i : Nat), i + n = (cnd g).length → ∀ (F : Nat) (f1 : Nat → Nat → Int), n < F → IN f f1 81 83 → (∀ j, j < i → f1 81 j = cR g j ∧ f1 82 j = cM g j) → ∃ f', Cho_measure_L2 F 79 a (i : Int) (WI h f1) = some ((), WI h f') ∧ IN f f' 81 83 ∧ ∀ j, j < (cnd g).length → f' 81 j = cR g j ∧ f' 82 j = cM g j := by
    intro n
    induction n with
    | zero =>
      intro i hi F f1 hF g1 g2
      obtain ⟨F, rfl⟩ : ∃ j, F = j + 1 := ⟨F - 1, by omega⟩
      refine ⟨f1, ?_, g1, fun j hj => g2 j (by omega)⟩
      rw [Cho_measure_L2, gI_k (h := WI h f1) c.1, hI_WI, g1 79 (by omega), ci.1, if_pos (by omega)]
    | succ n ih =>
      intro i hi F f1 hF g1 g2
      obtain ⟨F, rfl⟩ : ∃ j, F = j + 1 := ⟨F - 1, by omega⟩
      have pi := (c.2.2.2.2.2.2.2.2.2 i (by omega)).2
      have st1 : ST (WI h f1) a (rr (hI g)) := IN_ST g1 (by omega) st
      have e13 : ∀ F1, IN f F1 81 83 → eq13 (hI (WI h F1) (85 + 2 * i + 1)) (pa (cnd g) i) := fun F1 h1 t ht => by
        rw [hI_WI, show 85 + 2 * i + 1 = 86 + 2 * i by omega, h1 _ (by omega)]; exact ci.2.2 i (by omega) t ht
      have okp := fun F1 h1 => okP_c (fun t ht => (e13 F1 h1 t ht).symm) (ok i (by omega))
      have R := st1.rowsIn (p := 85 + 2 * i) pi (okp f1 g1)
      rw [rowsF_c (e13 f1 g1), e2, e3, rowsF_num (hI g) (ok i (by omega)) nb.1 nb.2, ← num_h] at R
      have g3 : IN f (up2 f1 81 i (cR g i)) 81 83 := g1.trans (IN_u _ _ (by omega) (by omega))
      have st2 : ST (WI h (up2 f1 81 i (cR g i))) a (rr (hI g)) := IN_ST g3 (by omega) st
      have M := st2.makeIn (p := 85 + 2 * i) pi (okp _ g3)
      rw [makeF_c (e13 _ g3), e2, e3, makeF_num (hI g) _ nb.1 nb.2, ← num_h] at M
      rw [Cho_measure_L2, gI_k (h := WI h f1) c.1, hI_WI, g1 79 (by omega), ci.1, if_neg (by omega), gR_k (h := WI h f1) c.1, show hR (WI h f1) 79 1 = 81 from c.2.2.1, c.ix (by omega), rc_k (h := WI h f1) pi.1, R, bnd_some, wI_k (h := WI h f1) c.2.2.2.2.2.2.1 (by omega) (by omega), WI_sI, tN (i : Int) i rfl]
      rw [show (((rowsF (pa (cnd g) i) (num g) (hI g 402 2).toNat (hI g 402 3).toNat : Nat)) : Int) = cR g i from rfl]
      rw [gR_k (h := WI h (up2 f1 81 i (cR g i))) c.1, show hR (WI h (up2 f1 81 i (cR g i))) 79 2 = 82 from c.2.2.2.1, c.ix (by omega), rc_k (h := WI h (up2 f1 81 i (cR g i))) pi.1, M, bnd_some, wI_k (h := WI h (up2 f1 81 i (cR g i))) c.2.2.2.2.2.2.2.1 (by omega) (by omega), WI_sI, tN (i : Int) i rfl, wr_id (by omega) (by omega), show (i : Int) + 1 = ((i + 1 : Nat) : Int) by omega]
      refine ih (i + 1) (by omega) F _ (by omega) (g3.trans (IN_u _ _ (by omega) (by omega))) (fun j hj => ?_)
      refine ⟨?_, ?_⟩
      · rw [up2_ne (by decide), up2_e]
        by_cases e : j = i
        · rw [if_pos ⟨rfl, e⟩, e]
        · rw [if_neg (by omega)]; exact (g2 j (by omega)).1
      · rw [up2_e]
        by_cases e : j = i
        · rw [if_pos ⟨rfl, e⟩, e]; rfl
        · rw [if_neg (by omega), up2_ne (by decide)]; exact (g2 j (by omega)).2
  obtain ⟨f', x1, x2, x3⟩ := L (cnd g).length 0 (by omega) FU f (by have := FU_big; omega) (IN.refl _ _ _) (fun j hj => by omega)
  exact ⟨f', x1, x2.sub (by omega) (by omega), ⟨by rw [x2 79 (by omega)]; exact ci.1, ci.2.1, fun i hi => by rw [x2 _ (by omega)]; exact ci.2.2 i hi⟩, x3⟩
end C7b
