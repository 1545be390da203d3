/-! Level 2: the class reads a base, on -/
def bsS (T : Nat → Int) (n : Nat) : Nat → Nat → Nat → (Nat → Int) → Int × (Nat → Int)
  | 0, _, _, ρ => (1, ρ)
  | m + 1, k, p, ρ =>
    if clF T n k p ρ ≠ 0 then (clF T n k p ρ, ρ)
    else if sk T n (clP T n p) < n ∧ T (sk T n (clP T n p)) = 59 then bsS T n m (k + 1) (sk T n (clP T n p) + 1) (clR T n p ρ)
    else if sk T n (clP T n p) < n then (flt 0 (sk T n (clP T n p)) 0, ρ) else (0, clR T n p ρ)
section L3
variable {K H : AH} {n p : Nat} {φ : Int} {T : Nat → Int} {ρ : Nat → Int}
theorem sk_i (T : Nat → Int) (n : Nat) : ∀ (k p : Nat), n - p = k → sk T n (sk T n p) = sk T n p
  | 0, p, hk => by
    have e : sk T n p = p := by rw [sk_e, if_neg (by omega)]
    rw [e, e]
  | k + 1, p, hk => by
    by_cases c : p < n ∧ T p = 32
    · have e : sk T n p = sk T n (p + 1) := by rw [sk_e, if_pos c]
      rw [e]; exact sk_i T n k (p + 1) (by omega)
    · have e : sk T n p = p := by rw [sk_e, if_neg c]
      rw [e, e]
theorem isW_b {q w : Nat} (hw : 1 ≤ w ∧ w < 8) (e : isW T n q w = true) : q + sLn w ≤ n := by
  have l1 : 1 ≤ sLn w := by
    have : ∀ w, w < 8 → 1 ≤ w → 1 ≤ sLn w := by decide
    exact this w hw.2 hw.1
  have wb := wl_b T n q
  unfold isW at e
  rw [Bool.and_eq_true, decide_eq_true_eq] at e
  omega
theorem RB_1 (b : RB ρ) {v : Int} (hv : 0 ≤ v ∧ v ≤ 99) : RB (u1 ρ 1 v) := by
  obtain ⟨b0, b1, b2, b3, b4, b5, b6, b7, b8⟩ := b
  have z : ∀ j, j ≠ 1 → u1 ρ 1 v j = ρ j := fun j hj => if_neg hj
  have z1 : u1 ρ 1 v 1 = v := if_pos rfl
  have zk : ∀ i u, kp (u1 ρ 1 v) i u = kp ρ i u := fun i u => z _ (by omega)
  unfold RB
  rw [z 0 (by omega), z1, z 2 (by omega), z 3 (by omega), z 4 (by omega), z 5 (by omega)]
  refine ⟨b0, hv, b2, b3, b4, b5, fun j hj => by rw [z _ (by omega)]; exact b6 j hj, fun j hj => by rw [z _ (by omega)]; exact b7 j hj, fun i hi => ?_⟩
  rw [zk, zk]
  exact ⟨okP_3 (zk i 0).symm (zk i 1).symm (zk i 2).symm (b8 i hi).1, (b8 i hi).2⟩
theorem RB_0 (b : RB ρ) {v : Int} (hv : v = 0 ∨ v = 1) : RB (u1 ρ 0 v) := by
  obtain ⟨b0, b1, b2, b3, b4, b5, b6, b7, b8⟩ := b
  have z : ∀ j, j ≠ 0 → u1 ρ 0 v j = ρ j := fun j hj => if_neg hj
  have z1 : u1 ρ 0 v 0 = v := if_pos rfl
  have zk : ∀ i u, kp (u1 ρ 0 v) i u = kp ρ i u := fun i u => z _ (by omega)
  unfold RB
  rw [z1, z 1 (by omega), z 2 (by omega), z 3 (by omega), z 4 (by omega), z 5 (by omega)]
  refine ⟨hv, b1, b2, b3, b4, b5, fun j hj => by rw [z _ (by omega)]; exact b6 j hj, fun j hj => by rw [z _ (by omega)]; exact b7 j hj, fun i hi => ?_⟩
  rw [zk, zk]
  exact ⟨okP_3 (zk i 0).symm (zk i 1).symm (zk i 2).symm (b8 i hi).1, (b8 i hi).2⟩
theorem FB.refl (K : AH) : FB K K := ⟨⟨rfl, rfl, rfl⟩, fun _ _ => rfl, fun _ _ _ => rfl, rfl⟩
theorem SB.s18 (s : SB K 49) (p : Nat) (φ : Int) : SB (S18 K p φ) 49 := SB_to s (fun _ _ _ => rfl) (fun _ _ _ => rfl) (fun _ _ => by rw [s18_n (by decide)]) (fun _ _ => by rw [s18_n (by decide)])
/-- the class reads a clause -/
theorem readClause_e (r : RDR K n) (s : ST K 49 ρ) (hp : p ≤ 400) {k : Nat} (hk : k ≤ 40) : ∃ H p', Rea_readClause 18 (k : Int) 49 (S18 K p 0) = some ((), S18 H p' (clF (hI K 17) n k p ρ)) ∧ FB K H ∧ SB H 49 ∧ p' ≤ 400 ∧ (clF (hI K 17) n k p ρ = 0 → p' = clP (hI K 17) n p ∧ ST H 49 (clR (hI K 17) n p ρ)) := by
  have r1 := r.1
  have r5 := r.2.2.2.2
  have qb := sk_b (hI K 17) n p
  have qi := sk_i (hI K 17) n _ p rfl
  have l1 : sLn 1 = 4 := rfl
  have l2 : sLn 2 = 1 := rfl
  have l3 : sLn 3 = 1 := rfl
  have key : ∀ ms : Bool, (ms = true ↔ 0 < k ∧ k < 40) → ∃ H p', Rea_readClause_L20 18 (k : Int) 49 ((sk (hI K 17) n p : Nat) : Int) (bi ms) (S18 K (sk (hI K 17) n p) 0) = some ((), S18 H p' (clF (hI K 17) n k p ρ)) ∧ FB K H ∧ SB H 49 ∧ p' ≤ 400 ∧ (clF (hI K 17) n k p ρ = 0 → p' = clP (hI K 17) n p ∧ ST H 49 (clR (hI K 17) n p ρ)) := fun ms hms => by
    unfold Rea_readClause_L20 clF clP clR
    have w1 := takeWord_e r (p := sk (hI K 17) n p) (by omega) 0 (w := 1) (by decide)
    have w2 := takeWord_e r (p := sk (hI K 17) n p) (by omega) 0 (w := 2) (by decide)
    have w3 := takeWord_e r (p := sk (hI K 17) n p) (by omega) 0 (w := 3) (by decide)
    rw [qi] at w1 w2 w3
    rw [l1] at w1
    rw [l2] at w2
    rw [l3] at w3
    have i1 := fun e => isW_b (T := hI K 17) (n := n) (q := sk (hI K 17) n p) (w := 1) (by decide) e
    have i2 := fun e => isW_b (T := hI K 17) (n := n) (q := sk (hI K 17) n p) (w := 2) (by decide) e
    have i3 := fun e => isW_b (T := hI K 17) (n := n) (q := sk (hI K 17) n p) (w := 3) (by decide) e
    rw [l1] at i1
    rw [l2] at i2
    rw [l3] at i3
    generalize hq : sk (hI K 17) n p = q at *
    rw [rc_k (s18_k r1), w1]
    by_cases c1 : isW (hI K 17) n q 1 = true
    · have := i1 c1
      rw [if_pos c1, if_pos c1, if_pos c1, if_pos c1, bnd_some, if_neg (by decide)]
      by_cases k0 : k = 0
      · have b := nmP_b (T := hI K 17) (n := n) (p := q + 4) r5 (by omega)
        generalize hφ : nmF (hI K 17) n (q + 4) 99 0 = φ
        generalize hv : nmV (hI K 17) n (q + 4) = v
        generalize hP : nmP (hI K 17) n (q + 4) = P at *
        have sp := s.s18 P φ
        have eH : S18 (sI (S18 K P φ) 49 3 v) P φ = sI (S18 K P φ) 49 3 v := S18_K _ _ _ (by rw [hI_sIn _ _ (by decide), s18_2]) (by rw [hI_sIn _ _ (by decide), s18_3])
        refine ⟨sI (S18 K P φ) 49 3 v, P, ?_, (FB_s18 K P φ).trans ⟨⟨rfl, rfl, rfl⟩, fun _ _ => rfl, fun x h1 h2 => by rw [hI_sIn _ _ (by omega)], by rw [hI_sIn _ _ (by decide)]⟩, SB_to sp.1 (fun _ _ _ => rfl) (fun _ _ _ => rfl) (fun _ _ => by rw [hI_sIn _ _ (by decide)]) (fun _ _ => by rw [hI_sIn _ _ (by decide)]), b, fun e => ⟨rfl, ?_⟩⟩
        · rw [if_pos (by omega), rc_k (s18_k r1), takeN r (by omega), bnd_some, hφ, hv, hP, pI_k (s18_k s.1.1), if_pos k0, eH]
        · rw [if_pos k0] at e
          rw [e] at hφ
          have v99 := (nmF_0 hφ).2
          rw [hv] at v99
          exact (sp.fld (c := 3) (k := 1) (by omega) (RB_1 s.2.2 v99)).1
      · refine ⟨K, q + 4, ?_, FB.refl K, s.1, by omega, fun e => ?_⟩
        · rw [if_neg (by omega), rc_k (s18_k r1), fail_e r (by omega) (by decide) (by decide), bnd_some, if_neg k0]
        · rw [if_neg k0] at e; exact absurd e (flt_n _ _ (by decide))
    · rw [if_neg c1, if_neg c1, if_neg c1, if_neg c1, bnd_some, if_pos rfl, rc_k (s18_k r1), w2]
      by_cases c2 : isW (hI K 17) n q 2 = true
      · have := i2 c2
        rw [if_pos c2, if_pos c2, if_pos c2, if_pos c2, bnd_some, if_neg (by decide), (s.s18 (q + 1) 0).t0, rc_k (s18_k r1)]
        obtain ⟨H, p', x1, x2, x3, x4, x5⟩ := readRow_e r s (p := q + 1) (by omega) (t := 0) (Or.inl rfl) (q := q) (by omega) ms
        rw [if_pos rfl, if_pos rfl, if_pos rfl] at x1
        rw [if_pos rfl, if_pos rfl] at x5
        have ee : (ms = true ∧ ρ 2 < 12) ↔ ((0 < k ∧ k < 40) ∧ ρ 2 < 12) := by rw [hms]
        by_cases o : (0 < k ∧ k < 40) ∧ ρ 2 < 12
        · rw [if_pos (ee.mpr o)] at x1
          obtain ⟨y1, y2⟩ := x5 (ee.mpr o)
          refine ⟨H, p', by rw [x1, bnd_some, if_pos o], x2, x3, x4, fun e => ?_⟩
          rw [if_pos o] at e
          exact ⟨y1, y2 e⟩
        · rw [if_neg (fun x => o (ee.mp x))] at x1
          refine ⟨H, p', by rw [x1, bnd_some, if_neg o], x2, x3, x4, fun e => ?_⟩
          rw [if_neg o] at e
          exact absurd e (flt_n _ _ (by decide))
      · rw [if_neg c2, if_neg c2, if_neg c2, if_neg c2, bnd_some, if_pos rfl, rc_k (s18_k r1), w3]
        by_cases c3 : isW (hI K 17) n q 3 = true
        · have := i3 c3
          rw [if_pos c3, if_pos c3, bnd_some, if_neg (by decide), (s.s18 (q + 1) 0).t1, rc_k (s18_k r1)]
          obtain ⟨H, p', x1, x2, x3, x4, x5⟩ := readRow_e r s (p := q + 1) (by omega) (t := 1) (Or.inr rfl) (q := q) (by omega) ms
          rw [if_neg (show ¬ (1 : Int) = 0 by decide), if_neg (show ¬ (1 : Int) = 0 by decide), if_neg (show ¬ (1 : Int) = 0 by decide)] at x1
          rw [if_neg (show ¬ (1 : Int) = 0 by decide), if_neg (show ¬ (1 : Int) = 0 by decide)] at x5
          have ee : (ms = true ∧ ρ 3 < 8) ↔ ((0 < k ∧ k < 40) ∧ ρ 3 < 8) := by rw [hms]
          by_cases o : (0 < k ∧ k < 40) ∧ ρ 3 < 8
          · rw [if_pos (ee.mpr o)] at x1
            obtain ⟨y1, y2⟩ := x5 (ee.mpr o)
            refine ⟨H, p', by rw [x1, bnd_some, if_pos o], x2, x3, x4, fun e => ?_⟩
            rw [if_pos o] at e
            exact ⟨y1, y2 e⟩
          · rw [if_neg (fun x => o (ee.mp x))] at x1
            refine ⟨H, p', by rw [x1, bnd_some, if_neg o], x2, x3, x4, fun e => ?_⟩
            rw [if_neg o] at e
            exact absurd e (flt_n _ _ (by decide))
        · refine ⟨K, q, ?_, FB.refl K, s.1, by omega, fun e => ?_⟩
          · rw [if_neg c3, if_neg c3, bnd_some, if_pos rfl, rc_k (s18_k r1), fail_e r (by omega) (by decide) (by decide), bnd_some]
          · rw [if_neg c3] at e; exact absurd e (flt_n _ _ (by decide))
  unfold Rea_readClause
  rw [rc_k (s18_k r1), place_e r (by omega), bnd_some]
  have k0 := key false
  have k1 := key true
  rw [bi_f] at k0
  rw [bi_t] at k1
  by_cases a : (k : Int) ≤ 0
  · rw [if_pos a]; exact k0 ⟨fun h => absurd h (by decide), fun h => by omega⟩
  · rw [if_neg a]
    by_cases b : (40 : Int) ≤ k
    · rw [if_pos b]; exact k0 ⟨fun h => absurd h (by decide), fun h => by omega⟩
    · rw [if_neg b]; exact k1 ⟨fun _ => by omega, fun _ => rfl⟩
end L3
