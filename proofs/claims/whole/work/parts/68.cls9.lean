/-! Level 2: the class: what acts do to a state -/
/-- changed only within, references too -/
def FR (h H : AH) (lo hi : Nat) : Prop := hN H = hN h ∧ hS H = hS h ∧ hK H = hK h ∧ ∀ x, ¬ (lo ≤ x ∧ x < hi) → hI H x = hI h x ∧ hR H x = hR h x
theorem FR.refl (h : AH) (lo hi : Nat) : FR h h lo hi := ⟨rfl, rfl, rfl, fun _ _ => ⟨rfl, rfl⟩⟩
theorem FR.trans {a b c : AH} {lo hi : Nat} (x : FR a b lo hi) (y : FR b c lo hi) : FR a c lo hi := by
  obtain ⟨x1, x2, x3, x4⟩ := x
  obtain ⟨y1, y2, y3, y4⟩ := y
  exact ⟨by rw [y1, x1], by rw [y2, x2], by rw [y3, x3], fun k hk => ⟨by rw [(y4 k hk).1, (x4 k hk).1], by rw [(y4 k hk).2, (x4 k hk).2]⟩⟩
theorem FR_IN {h : AH} {f : Nat → Nat → Int} {lo hi : Nat} (i : IN (hI h) f lo hi) : FR h (WI h f) lo hi := ⟨rfl, rfl, rfl, fun x hx => ⟨i x hx, rfl⟩⟩
theorem FR.sub {a b : AH} {lo hi lo' hi' : Nat} (x : FR a b lo hi) (h1 : lo' ≤ lo) (h2 : hi ≤ hi') : FR a b lo' hi' := ⟨x.1, x.2.1, x.2.2.1, fun k hk => x.2.2.2 k (by omega)⟩
section C10
variable {h : AH} {ρ : Nat → Int} {a : Nat}
theorem ST.sh (s : ST h a ρ) : SH h (a + 2) 6 := s.1.2.2.2.2.2.2.2.2
theorem ST.kk (s : ST h a ρ) {i : Nat} (hi : (i : Int) < ρ 5) {t : Nat} (ht : t < 16) : kv h (a + 2) i t = kp ρ i t := s.2.1.2.2.2.2.2.2.2.2.2.2 i (by have := s.2.2.n5; omega) t ht
/-- a number of a kept one is written -/
theorem ST.wk (s : ST h a ρ) {i c : Nat} (hi : (i : Int) < ρ 5) (hc : c = 1 ∨ c = 2 ∨ c = 3) {v : Int} (rb : RB (u1 ρ (60 + (16 * i + (12 + c))) v)) : ST (sI h (hR h (a + 3) i) c v) a (u1 ρ (60 + (16 * i + (12 + c))) v) ∧ FR h (sI h (hR h (a + 3) i) c v) a (a + 26) := by
  have b5 := s.2.2.n5
  have sh := s.sh
  obtain ⟨ke, k1, k2⟩ := sh.it (i := i) (by omega)
  rw [show a + 2 + 1 = a + 3 by omega] at *
  have b2 := s.2.2.2.2.1
  have b3 := s.2.2.2.2.2.1
  obtain ⟨sb, ⟨e0, e1, e2, e3, e4, e5, e6, e7, eR, eS, eK⟩, b⟩ := s
  generalize hκ : hR h (a + 3) i = κ at *
  have z : ∀ j, j < 60 → u1 ρ (60 + (16 * i + (12 + c))) v j = ρ j := fun j hj => if_neg (by omega)
  have n : ∀ x, x ≠ κ → hI (sI h κ c v) x = hI h x := fun x hx => hI_sIn _ _ hx
  refine ⟨⟨SB_to sb (fun _ _ _ => rfl) (fun _ _ _ => rfl) (fun j _ => by rw [n _ (by omega)]) (fun j _ => by rw [n _ (by omega)]), ?_, rb⟩, rfl, rfl, rfl, fun x hx => ⟨n x (by omega), rfl⟩⟩
  unfold ER
  rw [n a (by omega), n (a + 22) (by omega), n (a + 24) (by omega), n (a + 2) (by omega), n (a + 23) (by omega), n (a + 25) (by omega), z 0 (by omega), z 1 (by omega), z 2 (by omega), z 3 (by omega), z 4 (by omega), z 5 (by omega), z 6 (by omega), z 7 (by omega)]
  refine ⟨e0, e1, e2, e3, e4, e5, e6, e7, fun j hj => by rw [z _ (by omega)]; exact eR j hj, fun j hj => by rw [z _ (by omega)]; exact eS j hj, fun j hj t ht => ?_⟩
  have ek := eK j hj t ht
  by_cases e : j = i
  · subst e
    unfold kv kp at ek
    unfold kv kp u1
    rw [show a + 2 + 1 = a + 3 by omega, hκ] at ek
    rw [show a + 2 + 1 = a + 3 by omega, show hR (sI h κ c v) = hR h from rfl, hκ]
    by_cases d : t < 13
    · rw [if_pos d] at ek ⊢
      rw [n _ (by omega), if_neg (by omega)]; exact ek
    · rw [if_neg d] at ek ⊢
      by_cases d2 : t = 12 + c
      · rw [if_pos (by omega), show t - 12 = c by omega, hI_sIs]
      · rw [if_neg (by omega), hI_sId _ _ (by omega)]; exact ek
  · have ap := kep_apart sh (i := j) (j := i) (by omega) (by omega) e
    rw [show a + 2 + 1 = a + 3 by omega, hκ] at ap
    obtain ⟨-, m1, m2⟩ := sh.it (i := j) (by omega)
    rw [show a + 2 + 1 = a + 3 by omega] at m1 m2
    have : kv (sI h κ c v) (a + 2) j t = kv h (a + 2) j t := by
      unfold kv
      rw [show a + 2 + 1 = a + 3 by omega, show hR (sI h κ c v) = hR h from rfl, n _ (by omega), n _ (by omega)]
    rw [this, ek]
    unfold kp u1
    rw [if_neg (by omega)]
theorem RB_k15 (b : RB ρ) {i : Nat} {v : Int} (hv : v = 0 ∨ v = 1) : RB (u1 ρ (60 + (16 * i + (12 + 3))) v) := by
  obtain ⟨b0, b1, b2, b3, b4, b5, b6, b7, b8⟩ := b
  have z : ∀ j, j ≠ 60 + (16 * i + (12 + 3)) → u1 ρ (60 + (16 * i + (12 + 3))) v j = ρ j := fun j hj => if_neg hj
  unfold RB
  rw [z 0 (by omega), z 1 (by omega), z 2 (by omega), z 3 (by omega), z 4 (by omega), z 5 (by omega)]
  refine ⟨b0, b1, b2, b3, b4, b5, fun j hj => by rw [z _ (by omega)]; exact b6 j hj, fun j hj => by rw [z _ (by omega)]; exact b7 j hj, fun k hk => ?_⟩
  have zk : ∀ u, u < 15 → kp (u1 ρ (60 + (16 * i + (12 + 3))) v) k u = kp ρ k u := fun u hu => z _ (by omega)
  rw [zk 13 (by decide)]
  refine ⟨okP_3 (zk 0 (by decide)).symm (zk 1 (by decide)).symm (zk 2 (by decide)).symm (b8 k hk).1, (b8 k hk).2.1, ?_⟩
  unfold kp u1
  split
  · exact hv
  · exact (b8 k hk).2.2
def spK (ρ : Nat → Int) (B : Nat → Bool) (k : Nat) : Nat → Int := fun j => if 60 ≤ j ∧ (j - 60) / 16 < k ∧ (j - 60) % 16 = 15 ∧ B ((j - 60) / 16) = true then 1 else ρ j
theorem spK_0 (ρ : Nat → Int) (B : Nat → Bool) : spK ρ B 0 = ρ := by
  funext j; unfold spK; rw [if_neg (fun x => by have := x.2.1; omega)]
theorem spK_s (ρ : Nat → Int) (B : Nat → Bool) (k : Nat) : spK ρ B (k + 1) = if B k then u1 (spK ρ B k) (60 + (16 * k + (12 + 3))) 1 else spK ρ B k := by
  funext j
  by_cases hb : B k = true
  · rw [if_pos hb]
    unfold spK u1
    by_cases c : j = 60 + (16 * k + (12 + 3))
    · rw [if_pos c, if_pos ⟨by omega, by omega, by omega, by rw [show (j - 60) / 16 = k by omega]; exact hb⟩]
    · rw [if_neg c]
      show (if 60 ≤ j ∧ (j - 60) / 16 < k + 1 ∧ (j - 60) % 16 = 15 ∧ B ((j - 60) / 16) = true then (1 : Int) else ρ j) = (if 60 ≤ j ∧ (j - 60) / 16 < k ∧ (j - 60) % 16 = 15 ∧ B ((j - 60) / 16) = true then 1 else ρ j)
      by_cases d : 60 ≤ j ∧ (j - 60) / 16 < k ∧ (j - 60) % 16 = 15 ∧ B ((j - 60) / 16) = true
      · rw [if_pos d, if_pos ⟨d.1, by omega, d.2.2⟩]
      · rw [if_neg d, if_neg (fun x => d ⟨x.1, by have h1 := x.1; have h2 := x.2.1; have h3 := x.2.2.1; omega, x.2.2⟩)]
  · rw [if_neg hb]
    unfold spK
    by_cases d : 60 ≤ j ∧ (j - 60) / 16 < k ∧ (j - 60) % 16 = 15 ∧ B ((j - 60) / 16) = true
    · rw [if_pos d, if_pos ⟨d.1, by omega, d.2.2⟩]
    · rw [if_neg d, if_neg (fun x => by
        have h1 := x.2.1
        by_cases e : (j - 60) / 16 = k
        · rw [e] at x; exact hb x.2.2.2
        · exact d ⟨x.1, by omega, x.2.2⟩)]
theorem spo_K (ρ : Nat → Int) (t row : Int) : spo ρ t row = spK ρ (hitB ρ t row) (ρ 5).toNat := rfl
theorem ST.tk (s : ST h a ρ) {p : Nat} (p1 : PA h p) {t : Int} (ht : t = 0 ∨ t = 1) {row : Int} (hr0 : 0 ≤ row) (hr : row < ρ (if t = 0 then 2 else 3)) : Par_takes p (if t = 0 then a + 22 else a + 24) row h = some (bi (inF (hI h (p + 1)) (numr ρ row) t), h) := by
  rcases ht with rfl | rfl
  · rw [if_pos rfl] at hr ⊢
    rw [s.tR p1, decide_eq_true (show 0 ≤ row ∧ row < ρ 2 from ⟨hr0, hr⟩), Bool.true_and]
  · rw [if_neg (by decide)] at hr ⊢
    rw [s.tS p1, decide_eq_true (show 0 ≤ row ∧ row < ρ 3 from ⟨hr0, hr⟩), Bool.true_and]
/-- rows that are alike below 60 tell alike -/
theorem inF_60 {ρ σ : Nat → Int} (b : RB ρ) (e : ∀ j, 8 ≤ j → j < 60 → σ j = ρ j) (π : Nat → Int) {t : Int} (ht : t = 0 ∨ t = 1) {row : Int} (hr0 : 0 ≤ row) (hr : row < ρ (if t = 0 then 2 else 3)) : inF π (numr σ row) t = inF π (numr ρ row) t := by
  have b2 := b.2.2.1
  have b3 := b.2.2.2.1
  refine inF_cc (fun h0 => ?_) (fun h1 => ?_)
  · rw [h0, if_pos rfl] at hr
    unfold numr
    simp only [if_neg (show ¬ (3 : Int) ≤ 0 by decide), if_neg (show ¬ (3 : Int) ≤ 1 by decide), if_neg (show ¬ (3 : Int) ≤ 2 by decide)]
    exact ⟨e _ (by omega) (by omega), e _ (by omega) (by omega), e _ (by omega) (by omega)⟩
  · rw [if_neg h1] at hr
    unfold numr
    simp only [if_pos (show (3 : Int) ≤ 3 by decide), if_pos (show (3 : Int) ≤ 4 by decide)]
    exact ⟨e _ (by omega) (by omega), e _ (by omega) (by omega)⟩
theorem ST.spoil (s : ST h a ρ) {t : Int} (ht : t = 0 ∨ t = 1) {row : Int} (hr0 : 0 ≤ row) (hr : row < ρ (if t = 0 then 2 else 3)) : ∃ H, She_spoil (a + 2) t (if t = 0 then a + 22 else a + 24) row h = some ((), H) ∧ FR h H a (a + 26) ∧ ST H a (spo ρ t row) := by
  have b5 := s.2.2.n5
  have rb := s.2.2
  have L : ∀ (n k : Nat), (k : Int) + n = ρ 5 → ∀ (F : Nat) (H : AH), n < F → FR h H a (a + 26) → ST H a (spK ρ (hitB ρ t row) k) → ∃ H', She_spoil_L3 F (a + 2) t (if t = 0 then a + 22 else a + 24) row (k : Int) H = some ((), H') ∧ FR h H' a (a + 26) ∧ ST H' a (spK ρ (hitB ρ t row) (ρ 5).toNat) := by
    intro n
    induction n with
    | zero =>
      intro k hk F H hF fr st
      obtain ⟨F, rfl⟩ : ∃ j, F = j + 1 := ⟨F - 1, by omega⟩
      refine ⟨H, ?_, fr, by rw [show (ρ 5).toNat = k by omega]; exact st⟩
      have e5 : hI H (a + 2) 1 = ρ 5 := by rw [st.2.1.2.2.2.2.2.1]; exact if_neg (by omega)
      rw [She_spoil_L3, gI_k st.sh.1, e5, if_pos (by omega)]
    | succ n ih =>
      intro k hk F H hF fr st
      obtain ⟨F, rfl⟩ : ∃ j, F = j + 1 := ⟨F - 1, by omega⟩
      have sm : ∀ j, j < 60 → spK ρ (hitB ρ t row) k j = ρ j := fun j hj => if_neg (by omega)
      have e5 : hI H (a + 2) 1 = ρ 5 := by rw [st.2.1.2.2.2.2.2.1, sm 5 (by decide)]
      have sh := st.sh
      obtain ⟨ke, k1, k2⟩ := sh.it (i := k) (by omega)
      obtain ⟨e1, e2, e3⟩ := ke
      have e13 : eq13 (hI H (hR H (a + 2 + 1) k + 2)) (kp ρ k) := fun u hu => by
        rw [kv_lt H (a + 2) k u hu, st.kk (by rw [sm 5 (by decide)]; omega) (by omega)]
        unfold kp
        exact if_neg (by omega)
      have hr' : row < spK ρ (hitB ρ t row) k (if t = 0 then 2 else 3) := by rw [sm _ (by split <;> omega)]; exact hr
      have ek := spK_s ρ (hitB ρ t row) k
      have hb : hitB ρ t row k = ((decide (hI H (hR H (a + 2 + 1) k + 2) 0 = 2) || decide (hI H (hR H (a + 2 + 1) k + 2) 0 = t)) && inF (hI H (hR H (a + 2 + 1) k + 2)) (numr ρ row) t) := by
        unfold hitB
        rw [inF_c e13, e13 0 (by decide)]
      have wk := st.wk (i := k) (c := 3) (by rw [sm 5 (by decide)]; omega) (Or.inr (Or.inr rfl)) (v := 1) (RB_k15 st.2.2 (Or.inr rfl))
      rw [show a + 2 + 1 = a + 3 by omega] at *
      rw [She_spoil_L3, gI_k sh.1, e5, if_neg (by omega), gR_k sh.1, sh.2.1, show a + 2 + 1 = a + 3 by omega, aR_k (show hK H (a + 3) = (35, 6) from sh.2.2.1) (by omega) (by omega), tN (k : Int) k rfl, if_neg (by omega), gR_k e1, e2, rc_k e3.1, Par_isOver_e e3, bnd_some, ite_bi, gR_k e1, e2, rc_k e3.1, st.tk e3 ht hr0 hr', bnd_some, ite_bi, inF_60 rb (fun j _ => sm j) _ ht hr0 hr, pZ_k e1 (Or.inr rfl), wr_id (z := (k : Int) + 1) (by omega) (by omega), show (k : Int) + 1 = ((k + 1 : Nat) : Int) by omega]
      rw [show hR H (a + 3) k + 1 + 1 = hR H (a + 3) k + 2 by omega]
      cases c1 : (decide (hI H (hR H (a + 3) k + 2) 0 = 2) || decide (hI H (hR H (a + 3) k + 2) 0 = t))
      · rw [c1, Bool.false_and] at hb
        rw [hb, if_neg (by decide)] at ek
        rw [if_neg (by decide)]
        exact ih (k + 1) (by omega) F H (by omega) fr (by rw [ek]; exact st)
      · rw [c1, Bool.true_and] at hb
        rw [if_pos rfl]
        cases c2 : inF (hI H (hR H (a + 3) k + 2)) (numr ρ row) t
        · rw [c2] at hb
          rw [hb, if_neg (by decide)] at ek
          rw [if_neg (by decide)]
          exact ih (k + 1) (by omega) F H (by omega) fr (by rw [ek]; exact st)
        · rw [c2] at hb
          rw [hb, if_pos rfl] at ek
          rw [if_pos rfl]
          exact ih (k + 1) (by omega) F _ (by omega) (fr.trans wk.2) (by rw [ek]; exact wk.1)
  obtain ⟨H, x1, x2, x3⟩ := L (ρ 5).toNat 0 (by omega) FU h (by have := FU_big; omega) (FR.refl _ _ _) (by rw [spK_0]; exact s)
  exact ⟨H, x1, x2, by rw [spo_K]; exact x3⟩
end C10
