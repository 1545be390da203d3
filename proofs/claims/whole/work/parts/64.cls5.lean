/-! Level 2: the class: copies -/
/-- changed only within -/
def IN (f f' : Nat → Nat → Int) (lo hi : Nat) : Prop := ∀ x, ¬ (lo ≤ x ∧ x < hi) → f' x = f x
theorem IN.refl (f : Nat → Nat → Int) (lo hi : Nat) : IN f f lo hi := fun _ _ => rfl
theorem IN.trans {f f' f'' : Nat → Nat → Int} {lo hi : Nat} (a : IN f f' lo hi) (b : IN f' f'' lo hi) : IN f f'' lo hi := fun x hx => by rw [b x hx, a x hx]
theorem IN.sub {f f' : Nat → Nat → Int} {lo hi lo' hi' : Nat} (a : IN f f' lo hi) (h1 : lo' ≤ lo) (h2 : hi ≤ hi') : IN f f' lo' hi' := fun x hx => a x (by omega)
theorem IN_u (f : Nat → Nat → Int) {a k lo hi : Nat} (v : Int) (h1 : lo ≤ a) (h2 : a < hi) : IN f (up2 f a k v) lo hi := fun x hx => up2_ne (by omega)
theorem cI2_WI (h : AH) (f : Nat → Nat → Int) (src sp dst dp n : Nat) : cI2 (WI h f) src sp dst dp n = WI h (fun b => if b = dst then va_cpy (f src) (f dst) sp dp n else f b) := rfl
section C6
variable {h : AH} {f : Nat → Nat → Int} {ρ : Nat → Int}
theorem Tab_copy_e {T U fc w len fc' w' : Nat} (t : TA (WI h f) T fc w len) (u : TA (WI h f) U fc' w' len) (hl : len < 1000) : ∃ f', Tab_copy T U (WI h f) = some ((), WI h f') ∧ IN f f' T (T + 2) ∧ (∀ j, j < len → f' (T + 1) j = f (U + 1) j) ∧ (∀ j, j ≠ 3 → f' T j = f T j) ∧ (T + 1 ≠ U → f' T 3 = f U 3) := by
  obtain ⟨t1, t2, t3, t4, t5⟩ := t
  obtain ⟨u1', u2, u3, u4, u5⟩ := u
  have W : ∀ F, hK (WI h F) = hK h := fun _ => rfl
  have mm : mMin (len : Int) (len : Int) = (len : Int) := by unfold mMin; rw [if_neg (by omega)]
  unfold Tab_copy
  rw [gR_k u1', u4, gR_k t1, t4, gR_k t1, t4, aN_k t5, gR_k u1', u4, aN_k u5, mm, cp_k u5 t5 (by decide) (by decide) (by omega) (by omega) (by omega), cI2_WI, gI_k (t := 10) (n := 0) (by rw [W]; exact u1'), pI_k (t := 10) (n := 0) (by rw [W]; exact t1), WI_sI, hI_WI]
  refine ⟨_, rfl, fun x hx => ?_, fun j hj => ?_, fun j hj => ?_, fun e => ?_⟩
  · rw [up2_ne (by omega)]; exact if_neg (by omega)
  · rw [up2_ne (by omega), if_pos rfl]
    unfold va_cpy
    rw [if_pos (by simp; omega)]; congr 1; simp
  · rw [up2_e, if_neg (by omega)]
    show (if T = T + 1 then _ else f T) j = _
    rw [if_neg (by omega)]
  · rw [up2_e, if_pos ⟨rfl, rfl⟩, if_neg (by omega)]
theorem Par_copy_e {p q : Nat} (p1 : PA h p) (q1 : PA h q) : ∃ f', Par_copy p q (WI h f) = some ((), WI h f') ∧ IN f f' (p + 1) (p + 2) ∧ eq13 (f' (p + 1)) (f (q + 1)) := by
  obtain ⟨a1, a2, a3⟩ := p1
  obtain ⟨b1, b2, b3⟩ := q1
  have W : ∀ F, hK (WI h F) = hK h := fun _ => rfl
  have Wr : ∀ F, hR (WI h F) = hR h := fun _ => rfl
  unfold Par_copy
  rw [gR_k (t := 4) (n := 0) (by rw [W]; exact b1), Wr, b2, gR_k (t := 4) (n := 0) (by rw [W]; exact a1), Wr, a2, cp_k (n1 := 13) (n2 := 13) (by rw [W]; exact b3) (by rw [W]; exact a3) (by decide) (by decide) (by decide) (by decide) (by decide), cI2_WI]
  refine ⟨_, rfl, fun x hx => if_neg (by omega), fun j hj => ?_⟩
  show (if (p + 1) = p + 1 then va_cpy (f (q + 1)) (f (p + 1)) (0 : Int).toNat (0 : Int).toNat (13 : Int).toNat else f (p + 1)) j = _
  rw [if_pos rfl]
  unfold va_cpy
  rw [if_pos (show (0 : Int).toNat ≤ j ∧ j < (0 : Int).toNat + (13 : Int).toNat from ⟨Nat.zero_le _, by show j < 0 + 13; omega⟩)]
  congr 1
  show 0 + (j - 0) = j
  omega
theorem Kep_copy_e {k l : Nat} (k1 : KE h k) (l1 : KE h l) (hl : l + 3 ≤ k ∨ k + 3 ≤ l) (s01 : f l 3 = 0 ∨ f l 3 = 1) : ∃ f', Kep_copy k l (WI h f) = some ((), WI h f') ∧ IN f f' k (k + 3) ∧ eq13 (f' (k + 2)) (f (l + 2)) ∧ f' k 1 = f l 1 ∧ f' k 2 = f l 2 ∧ f' k 3 = f l 3 := by
  obtain ⟨a1, a2, a3⟩ := k1
  obtain ⟨b1, b2, b3⟩ := l1
  have W : ∀ F, hK (WI h F) = hK h := fun _ => rfl
  have Wr : ∀ F, hR (WI h F) = hR h := fun _ => rfl
  obtain ⟨f1, x1, x2, x3⟩ := Par_copy_e (f := f) a3 b3
  have el : f1 l = f l := x2 l (by omega)
  unfold Kep_copy
  rw [gR_k (t := 3) (n := 0) (by rw [W]; exact a1), Wr, a2, gR_k (t := 3) (n := 0) (by rw [W]; exact b1), Wr, b2, rc_k (t := 4) (n := 0) (by rw [W]; exact a3.1), x1, bnd_some, gI_k (t := 3) (n := 0) (by rw [W]; exact b1), hI_WI, pI_k (t := 3) (n := 0) (by rw [W]; exact a1), WI_sI, gI_k (t := 3) (n := 0) (by rw [W]; exact b1), hI_WI, pI_k (t := 3) (n := 0) (by rw [W]; exact a1), WI_sI, gI_k (t := 3) (n := 0) (by rw [W]; exact b1), hI_WI, up2_ne (show l ≠ k by omega), up2_ne (show l ≠ k by omega), up2_ne (show l ≠ k by omega), el, pZ_k (t := 3) (n := 0) (by rw [W]; exact a1) s01, WI_sI]
  refine ⟨_, rfl, fun x hx => ?_, fun j hj => ?_, ?_, ?_, ?_⟩
  · rw [up2_ne (by omega), up2_ne (by omega), up2_ne (by omega)]; exact x2 x (by omega)
  · rw [up2_ne (by omega), up2_ne (by omega), up2_ne (by omega)]; exact x3 j hj
  · rw [up2_e, if_neg (by omega), up2_e, if_neg (by omega), up2_e, if_pos ⟨rfl, rfl⟩]
  · rw [up2_e, if_neg (by omega), up2_e, if_pos ⟨rfl, rfl⟩]
  · rw [up2_e, if_pos ⟨rfl, rfl⟩]
theorem KE_of {s R i : Nat} (sh : SH h s R) (hi : i < R) : KE h (hR h (s + 1) i) := (sh.it hi).1
theorem kep_apart {s R i j : Nat} (sh : SH h s R) (hi : i < R) (hj : j < R) (n : i ≠ j) : hR h (s + 1) i + 3 ≤ hR h (s + 1) j ∨ hR h (s + 1) j + 3 ≤ hR h (s + 1) i := by
  obtain ⟨-, -, -, -, h5, h6⟩ := sh
  obtain ⟨a, ha, e1⟩ := h5 i hi
  obtain ⟨b, hb, e2⟩ := h5 j hj
  have : a ≠ b := fun e => n (h6 i j hi hj (by rw [e1, e2, e]))
  rw [e1, e2]; omega
theorem kv_of {s i : Nat} {g : Nat → Nat → Int} {F : Nat → Nat → Int} {t j : Nat} (h13 : eq13 (F (hR h (s + 1) i + 2)) (g (hR h (t + 1) j + 2))) (h1 : F (hR h (s + 1) i) 1 = g (hR h (t + 1) j) 1) (h2 : F (hR h (s + 1) i) 2 = g (hR h (t + 1) j) 2) (h3 : F (hR h (s + 1) i) 3 = g (hR h (t + 1) j) 3) : ∀ u, u < 16 → kv (WI h F) s i u = kv (WI h g) t j u := fun u hu => by
  unfold kv
  by_cases c : u < 13
  · rw [if_pos c, if_pos c]; exact h13 u c
  · rw [if_neg c, if_neg c]
    have : u = 13 ∨ u = 14 ∨ u = 15 := by omega
    rcases this with rfl | rfl | rfl
    · exact h1
    · exact h2
    · exact h3
theorem She_copy_e {s R t Q : Nat} (sh : SH h s R) (th : SH h t Q) (ds : t + 2 + 3 * Q ≤ s ∨ s + 2 + 3 * R ≤ t) {n : Nat} (hn : f t 1 = n) (hR1 : n ≤ R) (hQ : n ≤ Q) (h100 : n < 100) (hR100 : R < 100) (st : ∀ i, i < n → kv (WI h f) t i 15 = 0 ∨ kv (WI h f) t i 15 = 1) : ∃ f', She_copy s t (WI h f) = some ((), WI h f') ∧ IN f f' s (s + 2 + 3 * R) ∧ f' s 1 = n ∧ ∀ i, i < n → ∀ u, u < 16 → kv (WI h f') s i u = kv (WI h f) t i u := by
  have W : ∀ F, hK (WI h F) = hK h := fun _ => rfl
  have Wr : ∀ F, hR (WI h F) = hR h := fun _ => rfl
  have mm : mMin (n : Int) (R : Int) = n := by unfold mMin; rw [if_neg (by omega)]
  have L : ∀ (k i : Nat), i + k = n → ∀ (fuel : Nat) (g : Nat → Nat → Int), k < fuel → IN f g s (s + 2 + 3 * R) → g s 1 = n → (∀ j, j < i → ∀ u, u < 16 → kv (WI h g) s j u = kv (WI h f) t j u) → ∃ f', She_copy_L18 fuel s t (i : Int) (WI h g) = some ((), WI h f') ∧ IN f f' s (s + 2 + 3 * R) ∧ f' s 1 = n ∧ ∀ j, j < n → ∀ u, u < 16 → kv (WI h f') s j u = kv (WI h f) t j u := by
    intro k
    induction k with
    | zero =>
      intro i hi fuel g hf g1 g2 g3
      obtain ⟨fuel, rfl⟩ : ∃ j, fuel = j + 1 := ⟨fuel - 1, by omega⟩
      refine ⟨g, ?_, g1, g2, fun j hj => g3 j (by omega)⟩
      rw [She_copy_L18, gI_k (h := WI h g) sh.1, hI_WI, g2, if_pos (by omega)]
    | succ k ih =>
      intro i hi fuel g hf g1 g2 g3
      obtain ⟨fuel, rfl⟩ : ∃ j, fuel = j + 1 := ⟨fuel - 1, by omega⟩
      obtain ⟨ke, k1, k2⟩ := sh.it (i := i) (by omega)
      obtain ⟨le, l1, l2⟩ := th.it (i := i) (by omega)
      have sg : SH (WI h g) s R := sh
      have tg : SH (WI h g) t Q := th
      have gl : ∀ x, t ≤ x → x < t + 2 + 3 * Q → g x = f x := fun x h1 h2 => g1 x (by omega)
      obtain ⟨f1, x1, x2, x3, x4, x5, x6⟩ := Kep_copy_e (f := g) ke le (by omega) (by rw [gl _ (by omega) (by omega)]; exact st i (by omega))
      rw [She_copy_L18, gI_k (h := WI h g) sh.1, hI_WI, g2, if_neg (by omega), sg.g (by omega), tg.g (by omega), Wr, rc_k (t := 3) (n := 0) (by rw [W]; exact ke.1), x1, bnd_some, wr_id (by omega) (by omega), show (i : Int) + 1 = ((i + 1 : Nat) : Int) by omega]
      refine ih (i + 1) (by omega) fuel f1 (by omega) (g1.trans (x2.sub (by omega) (by omega))) (by rw [x2 s (by omega)]; exact g2) (fun j hj u hu => ?_)
      by_cases e : j = i
      · subst e
        refine (kv_of (s := s) (t := t) x3 x4 x5 x6 u hu).trans ?_
        unfold kv
        rw [hI_WI, hI_WI, Wr, Wr, gl _ (by omega) (by omega), gl _ (by omega) (by omega)]
      · obtain ⟨-, m1, m2⟩ := sh.it (i := j) (by omega)
        have ap := kep_apart sh (i := j) (j := i) (by omega) (by omega) e
        rw [← g3 j (by omega) u hu]
        unfold kv
        rw [hI_WI, hI_WI, Wr, Wr, x2 _ (by omega), x2 _ (by omega)]
  unfold She_copy
  rw [gI_k (h := WI h f) th.1, hI_WI, hn, gR_k (t := 8) (n := 0) (by rw [W]; exact sh.1), Wr, sh.2.1, aN_k (n := R) (by rw [W]; exact sh.2.2.1), mm, pI_k (t := 8) (n := 0) (by rw [W]; exact sh.1), WI_sI]
  exact L n 0 (by omega) FU (up2 f s 1 n) (by have := FU_big; omega) (IN_u f _ (by omega) (by omega)) (by rw [up2_e, if_pos ⟨rfl, rfl⟩]) (fun j hj => by omega)
theorem Sta_copy_e {d a : Nat} (sd : SB (WI h f) d) (sa : ST (WI h f) a ρ) (ds : d + 26 ≤ a ∨ a + 26 ≤ d) : ∃ f', Sta_copy d a (WI h f) = some ((), WI h f') ∧ IN f f' d (d + 26) ∧ ST (WI h f') d ρ := by
  have W : ∀ F, hK (WI h F) = hK h := fun _ => rfl
  have Wr : ∀ F, hR (WI h F) = hR h := fun _ => rfl
  obtain ⟨d1, d2, d3, d4, d5, d6, d7, d8, d9⟩ := id sd
  obtain ⟨⟨s1, s2, s3, s4, s5, s6, s7, s8, s9⟩, ⟨e0, e1, e2, e3, e4, e5, e6, e7, eR, eS, eK⟩, b⟩ := id sa
  have b5 := b.n5
  have b0 := b.1
  have b2 := b.2.2.1
  have b3 := b.2.2.2.1
  have sdT : ∀ F, IN f F d (d + 26) → (∀ j, j < 2 → F (d + 22) j = f (d + 22) j) → (∀ j, j < 2 → F (d + 24) j = f (d + 24) j) → SB (WI h F) d := fun F _ h1 h2 => SB_to sd (fun _ _ _ => rfl) (fun _ _ _ => rfl) h1 h2
  have saT : ∀ F, IN f F d (d + 26) → ST (WI h F) a ρ := fun F hF => ST_to sa (fun _ _ _ => rfl) (fun _ _ _ => rfl) (fun x h1 h2 => hF x (by omega))
  have dt0 : ∀ {β : Type} (F : Nat → Nat → Int) (k : Nat → Option β), (gR (WI h F) 9 d 0 fun r => aR (WI h F) 34 r 0 k) = k (d + 22) := fun F k => by
    rw [gR_k (t := 9) (n := 0) (by rw [W]; exact d1), Wr, show hR h d 0 = d + 1 from d2, aR_k (n := 2) (by rw [W]; exact d4) (by decide) (by decide), Wr, show hR h (d + 1) (0 : Int).toNat = d + 22 from d5]
  have dt1 : ∀ {β : Type} (F : Nat → Nat → Int) (k : Nat → Option β), (gR (WI h F) 9 d 0 fun r => aR (WI h F) 34 r 1 k) = k (d + 24) := fun F k => by
    rw [gR_k (t := 9) (n := 0) (by rw [W]; exact d1), Wr, show hR h d 0 = d + 1 from d2, aR_k (n := 2) (by rw [W]; exact d4) (by decide) (by decide), Wr, show hR h (d + 1) (1 : Int).toNat = d + 24 from d6]
  obtain ⟨f1, x1, x2, x3, x4, x5⟩ := Tab_copy_e d7 s7 (by decide)
  have i1 : IN f f1 d (d + 26) := x2.sub (by omega) (by omega)
  have t24 : ∀ T fc w len, (T < d + 22 ∨ d + 24 ≤ T) → TA (WI h f) T fc w len → TA (WI h f1) T fc w len := fun T fc w len hT t => by
    obtain ⟨t1, t2, t3, t4, t5⟩ := t
    refine ⟨t1, ?_, ?_, t4, t5⟩
    · rw [hI_WI, x2 T (by omega)]; exact t2
    · rw [hI_WI, x2 T (by omega)]; exact t3
  obtain ⟨f2, y1, y2, y3, y4, y5⟩ := Tab_copy_e (f := f1) (t24 (d + 24) 3 2 16 (by omega) d8) (t24 (a + 24) 3 2 16 (by omega) s8) (by decide)
  have i2 : IN f f2 d (d + 26) := i1.trans (y2.sub (by omega) (by omega))
  have a2 : f2 (a + 2) 1 = ((ρ 5).toNat : Nat) := by rw [i2 (a + 2) (by omega)]; have := e5; rw [hI_WI] at this; omega
  have kvA : ∀ i, i < (ρ 5).toNat → ∀ u, u < 16 → kv (WI h f2) (a + 2) i u = kp ρ i u := fun i hi u hu => (saT f2 i2).2.1.2.2.2.2.2.2.2.2.2.2 i hi u hu
  obtain ⟨f3, z1, z2, z3, z4⟩ := She_copy_e (h := h) (f := f2) (s := d + 2) (R := 6) (t := a + 2) (Q := 6) d9 s9 (by omega) a2 (by omega) (by omega) (by omega) (by decide) (fun i hi => by rw [kvA i hi 15 (by decide)]; exact (b.k (by omega)).2.2)
  have i3 : IN f f3 d (d + 26) := i2.trans (z2.sub (by omega) (by omega))
  have fa : ∀ j, f3 a j = f a j := fun j => by rw [i3 a (by omega)]
  have g2 : f a 2 = ρ 0 := e0
  have kd : ∀ F, hK (WI h F) d = (9, 0) := fun _ => d1
  have ka : ∀ F, hK (WI h F) a = (9, 0) := fun _ => s1
  have na : a ≠ d := by omega
  unfold Sta_copy
  rw [dt0, (saT f (IN.refl f d (d + 26))).t0, rc_k (t := 10) (n := 0) (by rw [W]; exact d7.1), x1, bnd_some, dt1, (saT f1 i1).t1, rc_k (t := 10) (n := 0) (by rw [W]; exact d8.1), y1, bnd_some, gR_k (kd _), Wr, show hR h d 1 = d + 2 from d3, gR_k (ka _), Wr, show hR h a 1 = a + 2 from s3, rc_k (t := 8) (n := 0) (by rw [W]; exact d9.1), z1, bnd_some, gI_k (ka _), hI_WI, fa, g2, pZ_k (kd _) b0, WI_sI, gI_k (ka _), hI_WI, up2_ne na, fa, pI_k (kd _), WI_sI, gI_k (ka _), hI_WI, up2_ne na, up2_ne na, fa, pI_k (kd _), WI_sI, gI_k (ka _), hI_WI, up2_ne na, up2_ne na, up2_ne na, fa, pI_k (kd _), WI_sI, gI_k (ka _), hI_WI, up2_ne na, up2_ne na, up2_ne na, up2_ne na, fa, pI_k (kd _), WI_sI]
  generalize hF : up2 (up2 (up2 (up2 (up2 f3 d 2 (ρ 0)) d 3 (f a 3)) d 4 (f a 4)) d 5 (f a 5)) d 6 (f a 6) = F
  have fn : ∀ x, x ≠ d → F x = f3 x := fun x hx => by rw [← hF, up2_ne hx, up2_ne hx, up2_ne hx, up2_ne hx, up2_ne hx]
  have iF : IN f F d (d + 26) := by
    rw [← hF]
    exact i3.trans ((IN_u _ _ (by omega) (by omega)).trans ((IN_u _ _ (by omega) (by omega)).trans ((IN_u _ _ (by omega) (by omega)).trans ((IN_u _ _ (by omega) (by omega)).trans (IN_u _ _ (by omega) (by omega))))))
  have r22 : ∀ j, F (d + 22) j = f1 (d + 22) j := fun j => by rw [fn _ (by omega), z2 _ (by omega), y2 _ (by omega)]
  have r23 : ∀ j, F (d + 23) j = f1 (d + 22 + 1) j := fun j => by rw [fn _ (by omega), z2 _ (by omega), y2 _ (by omega)]
  have r24 : ∀ j, F (d + 24) j = f2 (d + 24) j := fun j => by rw [fn _ (by omega), z2 _ (by omega)]
  have r25 : ∀ j, F (d + 25) j = f2 (d + 24 + 1) j := fun j => by rw [fn _ (by omega), z2 _ (by omega)]
  refine ⟨F, rfl, iF, sdT F iF (fun j hj => by rw [r22, x4 j (by omega)]) (fun j hj => by rw [r24, y4 j (by omega), x2 _ (by omega)]), ⟨?_, ?_, ?_, ?_, ?_, ?_, ?_, ?_, fun j hj => ?_, fun j hj => ?_, fun i hi t ht => ?_⟩, b⟩
  · rw [hI_WI, ← hF, up2_e, if_neg (by omega), up2_e, if_neg (by omega), up2_e, if_neg (by omega), up2_e, if_neg (by omega), up2_e, if_pos ⟨rfl, rfl⟩]
  · rw [hI_WI, ← hF, up2_e, if_neg (by omega), up2_e, if_neg (by omega), up2_e, if_neg (by omega), up2_e, if_pos ⟨rfl, rfl⟩]; exact e1
  · rw [hI_WI, r22, x5 (by omega)]; exact e2
  · rw [hI_WI, r24, y5 (by omega), x2 _ (by omega)]; exact e3
  · rw [hI_WI, ← hF, up2_e, if_neg (by omega), up2_e, if_neg (by omega), up2_e, if_pos ⟨rfl, rfl⟩]; exact e4
  · rw [hI_WI, fn _ (by omega), z3]; omega
  · rw [hI_WI, ← hF, up2_e, if_neg (by omega), up2_e, if_pos ⟨rfl, rfl⟩]; exact e6
  · rw [hI_WI, ← hF, up2_e, if_pos ⟨rfl, rfl⟩]; exact e7
  · rw [hI_WI, r23, x3 j (by omega)]; exact eR j hj
  · rw [hI_WI, r25, y3 j (by omega), x2 _ (by omega)]; exact eS j hj
  · rw [← kvA i hi t ht, ← z4 i hi t ht]
    obtain ⟨-, k1, k2⟩ := d9.it (i := i) (by omega)
    unfold kv
    rw [hI_WI, hI_WI, fn _ (by rw [Wr] at *; omega), fn _ (by rw [Wr] at *; omega)]
    rfl
end C6
