/-! Level 2: a query: what is read, and the class's reader of it -/
def lo0 (s : Int) : Int := if s = 1 then 3 else 0
def hi0 (s : Int) : Int := if s = 0 then 2 else 4
def colF (T : Nat → Int) (n q : Nat) (lo hi φ : Int) : Int := if wl T n q = 1 ∧ T q ≤ 101 then (if lo ≤ T q - 97 ∧ T q - 97 ≤ hi then φ else flt φ q 2) else flt φ q 0
def isS (T : Nat → Int) (n q : Nat) : Prop := q < n ∧ (T q = 60 ∨ T q = 61 ∨ T q = 62)
def sgE (T : Nat → Int) (n q : Nat) : Bool := decide (T q = 61 ∨ (q + 1 < n ∧ T (q + 1) = 61))
def sgQ (T : Nat → Int) (n q : Nat) : Nat := if T q ≠ 61 ∧ q + 1 < n ∧ T (q + 1) = 61 then q + 2 else q + 1
def sgV (T : Nat → Int) (n q : Nat) : Int := if T q = 61 then 2 else if T q = 60 then (if sgE T n q then 3 else 1) else (if sgE T n q then 6 else 4)
def tsF (T : Nat → Int) (n : Nat) (s : Int) (t p : Nat) : Int :=
  if colF T n (sk T n p) (lo0 s) (hi0 s) 0 ≠ 0 then colF T n (sk T n p) (lo0 s) (hi0 s) 0
  else if 12 ≤ t then flt 0 (sk T n p) 4
  else if sk T n (sk T n p + 1) < n ∧ (T (sk T n (sk T n p + 1)) = 60 ∨ T (sk T n (sk T n p + 1)) = 61 ∨ T (sk T n (sk T n p + 1)) = 62) then nmF T n (sgQ T n (sk T n (sk T n p + 1))) 9 0
  else flt 0 (sk T n (sk T n p + 1)) 0
def tsP (T : Nat → Int) (n p : Nat) : Nat := nmP T n (sgQ T n (sk T n (sk T n p + 1)))
def nw1 (ω : Nat → Int) (c : Nat) (b : Int) (e : Bool) (v : Int) : Nat → Int := if b = 60 then ω else u1 ω (3 + 2 * c) (mMax (ω (3 + 2 * c)) (if e then v else v + 1))
def nw2 (ω : Nat → Int) (c : Nat) (b : Int) (e : Bool) (v : Int) : Nat → Int := if b = 62 then ω else u1 ω (4 + 2 * c) (mMin (ω (4 + 2 * c)) (if e then v else v - 1))
def nrw (ω : Nat → Int) (c : Nat) (b : Int) (e : Bool) (v : Int) : Nat → Int := nw2 (nw1 ω c b e v) c b e v
def tsW (T : Nat → Int) (n p : Nat) (ω : Nat → Int) : Nat → Int := nrw ω (T (sk T n p) - 97).toNat (T (sk T n (sk T n p + 1))) (sgE T n (sk T n (sk T n p + 1))) (nmV T n (sgQ T n (sk T n (sk T n p + 1))))
def tlS (T : Nat → Int) (n : Nat) (s : Int) : Nat → Nat → Nat → (Nat → Int) → Int × Nat × Nat × (Nat → Int)
  | 0, p, t, ω => (1, p, t, ω)
  | m + 1, p, t, ω =>
    if tsF T n s t p ≠ 0 then (tsF T n s t p, p, t, ω)
    else if isW T n (sk T n (tsP T n p)) 6 then tlS T n s m (sk T n (tsP T n p) + 3) (t + 1) (tsW T n p ω)
    else (0, sk T n (tsP T n p), t + 1, tsW T n p ω)
def shW (T : Nat → Int) (q k : Nat) (ω : Nat → Int) : Nat → Int := u1 (u1 ω (14 + k) (T q - 97)) 13 ((k : Int) + 1)
def shL (T : Nat → Int) (n : Nat) (s : Int) : Nat → Nat → Nat → (Nat → Int) → Int × Nat × (Nat → Int)
  | 0, p, _, ω => (1, p, ω)
  | m + 1, p, k, ω =>
    if colF T n (sk T n p) (lo0 s) (hi0 s) 0 ≠ 0 then (colF T n (sk T n p) (lo0 s) (hi0 s) 0, p, ω)
    else if k = 5 then (flt 0 (sk T n p) 4, p, ω)
    else if sk T n (sk T n p + 1) < n ∧ T (sk T n (sk T n p + 1)) = 44 then shL T n s m (sk T n (sk T n p + 1) + 1) (k + 1) (shW T (sk T n p) k ω)
    else (0, sk T n (sk T n p + 1), shW T (sk T n p) k ω)
def shN (ω : Nat → Int) : Nat → Int := fun w => if w = 13 then 0 else if 14 ≤ w ∧ w < 19 then -1 else ω w
def stS (T : Nat → Int) (n : Nat) (s : Int) : Nat → Nat → Nat → (Nat → Int) → Int × (Nat → Int)
  | 0, _, _, ω => (1, ω)
  | m + 1, p, t, ω =>
    if isW T n (sk T n p) 5 then
      (if (tlS T n s 13 (sk T n p + 2) t ω).1 ≠ 0 then ((tlS T n s 13 (sk T n p + 2) t ω).1, ω) else stS T n s m (tlS T n s 13 (sk T n p + 2) t ω).2.1 (tlS T n s 13 (sk T n p + 2) t ω).2.2.1 (tlS T n s 13 (sk T n p + 2) t ω).2.2.2)
    else if isW T n (sk T n p) 7 then
      (if (shL T n s 6 (sk T n p + 4) 0 (shN ω)).1 ≠ 0 then ((shL T n s 6 (sk T n p + 4) 0 (shN ω)).1, ω) else stS T n s m (shL T n s 6 (sk T n p + 4) 0 (shN ω)).2.1 t (shL T n s 6 (sk T n p + 4) 0 (shN ω)).2.2)
    else if sk T n p < n then (flt 0 (sk T n p) 0, ω) else (0, ω)
/-- a query begun -/
def bgN (s : Int) : Nat := if s = 0 then 3 else if s = 1 then 2 else 5
def bgR (s a b : Int) : Nat → Int := fun w => if w = 0 then s else if w = 1 then a else if w = 2 then b else if w ≤ 12 then (if w % 2 = 1 then 0 else 9) else if w = 13 then (bgN s : Int) else if w < 14 + bgN s then lo0 s + ((w - 14 : Nat) : Int) else -1
/-- a join's two columns -/
def jnF (T : Nat → Int) (n q : Nat) : Int :=
  if colF T n (sk T n (q + 4)) 0 2 0 ≠ 0 then colF T n (sk T n (q + 4)) 0 2 0
  else if sk T n (sk T n (q + 4) + 1) < n ∧ T (sk T n (sk T n (q + 4) + 1)) = 61 then colF T n (sk T n (sk T n (sk T n (q + 4) + 1) + 1)) 3 4 0
  else flt 0 (sk T n (sk T n (q + 4) + 1)) 0
def jnQ (T : Nat → Int) (n q : Nat) : Nat := sk T n (sk T n (sk T n (q + 4) + 1) + 1)
def srF (T : Nat → Int) (n : Nat) : Int := if isW T n (sk T n 0) 2 then 0 else if isW T n (sk T n 0) 3 then 0 else if isW T n (sk T n 0) 4 then jnF T n (sk T n 0) else flt 0 (sk T n 0) 0
def srP (T : Nat → Int) (n : Nat) : Nat := if isW T n (sk T n 0) 2 then sk T n 0 + 1 else if isW T n (sk T n 0) 3 then sk T n 0 + 1 else jnQ T n (sk T n 0) + 1
def srS (T : Nat → Int) (n : Nat) : Int := if isW T n (sk T n 0) 2 then 0 else if isW T n (sk T n 0) 3 then 1 else 2
def srA (T : Nat → Int) (n : Nat) : Int := if isW T n (sk T n 0) 2 then -1 else if isW T n (sk T n 0) 3 then -1 else T (sk T n (sk T n 0 + 4)) - 97
def srB (T : Nat → Int) (n : Nat) : Int := if isW T n (sk T n 0) 2 then -1 else if isW T n (sk T n 0) 3 then -1 else T (jnQ T n (sk T n 0)) - 97
def qyF (T : Nat → Int) (n : Nat) : Int := if srF T n ≠ 0 then srF T n else (stS T n (srS T n) 400 (srP T n) 0 (bgR (srS T n) (srA T n) (srB T n))).1
def qyW (T : Nat → Int) (n : Nat) : Nat → Int := (stS T n (srS T n) 400 (srP T n) 0 (bgR (srS T n) (srA T n) (srB T n))).2
/-- the class's state as it reads a query -/
def c4F (f : Nat → Nat → Int) (Q : Nat) (ω : Nat → Int) (vd t : Int) : Nat → Nat → Int := fun a i => if a = 18 ∧ i = 4 then t else if a = Q + 1 ∧ i < 19 then ω i else if a = Q ∧ i = 2 then vd else f a i
def C4 (K : AH) (Q : Nat) (ω : Nat → Int) (vd t : Int) : AH := WI K (c4F (hI K) Q ω vd t)
def QO (K : AH) (Q : Nat) : Prop := (329 ≤ Q ∧ Q + 9 ≤ 401) ∧ hK K Q = (6, 0) ∧ hR K Q 0 = Q + 1 ∧ hR K Q 1 = Q + 2 ∧ hK K (Q + 1) = (21, 19) ∧ hK K (Q + 2) = (36, 3) ∧ ∀ k, k < 3 → hR K (Q + 2) k = Q + 3 + 2 * k ∧ PA K (Q + 3 + 2 * k)
def RDT (K : AH) (n : Nat) (T : Nat → Int) : Prop := RDR K n ∧ hI K 17 = T
section M1
variable {K H : AH} {n p Q : Nat} {φ vd t : Int} {T : Nat → Int} {ω ω' : Nat → Int}
theorem place_t (r : RDT K n T) (hp : p < 1000) (φ : Int) : Rea_place 18 (S18 K p φ) = some (((sk T n p : Nat) : Int), S18 K (sk T n p) φ) := by
  rw [← r.2]; exact place_e r.1 hp φ
theorem takeByte_t (r : RDT K n T) (hp : p < 1000) (φ b : Int) : Rea_takeByte 18 b (S18 K p φ) = if sk T n p < n ∧ T (sk T n p) = b then some (1, S18 K (sk T n p + 1) φ) else some (0, S18 K (sk T n p) φ) := by
  rw [← r.2]; exact takeByte_e r.1 hp φ b
theorem wordLen_t (r : RDT K n T) (hp : p < 1000) (φ : Int) : Rea_wordLength 18 (S18 K p φ) = some (((wl T n (sk T n p) : Nat) : Int), S18 K (sk T n p) φ) := by
  rw [← r.2]; exact wordLen_e r.1 hp φ
theorem takeWord_t (r : RDT K n T) (hp : p < 1000) (φ : Int) {w : Nat} (hw : 1 ≤ w ∧ w < 8) : Rea_takeWord 18 w (S18 K p φ) = if isW T n (sk T n p) w then some (1, S18 K (sk T n p + sLn w) φ) else some (0, S18 K (sk T n p) φ) := by
  rw [← r.2]; exact takeWord_e r.1 hp φ hw
theorem takeNum_t (r : RDT K n T) (hp : p ≤ 400) (φ top : Int) : Rea_takeNumber 18 top (S18 K p φ) = some (nmV T n p, S18 K (nmP T n p) (nmF T n p top φ)) := by
  rw [← r.2]; exact takeN r.1 hp φ top
theorem close_t (r : RDT K n T) (hp : p ≤ 400) (φ : Int) : Rea_close 18 (S18 K p φ) = some ((), S18 K (sk T n p) (if sk T n p < n then flt φ (sk T n p) 0 else φ)) := by
  rw [← r.2]; exact close_e r.1 hp φ
theorem sk_400 (hn : n ≤ 400) (hp : p ≤ 400) : p ≤ sk T n p ∧ sk T n p ≤ 400 := by
  have := sk_b T n p; omega
theorem wl_1 {q : Nat} (e : wl T n q = 1) : q < n ∧ 97 ≤ T q ∧ T q ≤ 122 ∧ ¬ (q + 1 < n ∧ 97 ≤ T (q + 1) ∧ T (q + 1) ≤ 122) := by
  rw [wl_e] at e
  by_cases c : q < n ∧ 97 ≤ T q ∧ T q ≤ 122
  · rw [if_pos c] at e
    refine ⟨c.1, c.2.1, c.2.2, fun d => ?_⟩
    rw [wl_e, if_pos d] at e; omega
  · rw [if_neg c] at e; omega
theorem wl_i {q : Nat} (c : q < n ∧ 97 ≤ T q ∧ T q ≤ 122) (d : ¬ (q + 1 < n ∧ 97 ≤ T (q + 1) ∧ T (q + 1) ≤ 122)) : wl T n q = 1 := by
  rw [wl_e, if_pos c, wl_e, if_neg d]
theorem colF_0 {q : Nat} {lo hi : Int} (e : colF T n q lo hi φ = 0) : φ = 0 ∧ q < n ∧ (wl T n q = 1 ∧ T q ≤ 101) ∧ lo ≤ T q - 97 ∧ T q - 97 ≤ hi := by
  unfold colF at e
  by_cases c : wl T n q = 1 ∧ T q ≤ 101
  · rw [if_pos c] at e
    by_cases d : lo ≤ T q - 97 ∧ T q - 97 ≤ hi
    · rw [if_pos d] at e; exact ⟨e, (wl_1 c.1).1, c, d⟩
    · rw [if_neg d] at e; exact absurd e (flt_n _ _ (by decide))
  · rw [if_neg c] at e; exact absurd e (flt_n _ _ (by decide))
theorem colF_f {q : Nat} {lo hi : Int} (h : φ ≠ 0) : colF T n q lo hi φ = φ := by
  unfold colF; rw [flt_f h, flt_f h]
  split
  · split <;> rfl
  · rfl
/-- the class takes a column -/
theorem takeCol_t (r : RDT K n T) (hp : p ≤ 400) (lo hi φ : Int) : ∃ p' v, Rea_takeCol 18 lo hi (S18 K p φ) = some (v, S18 K p' (colF T n (sk T n p) lo hi φ)) ∧ p' ≤ 400 ∧ (colF T n (sk T n p) lo hi φ = 0 → p' = sk T n p + 1 ∧ v = T (sk T n p) - 97) := by
  have r1 := r.1.1
  have r2 := r.1.2.1
  have r3 := r.1.2.2.1
  have r5 := r.1.2.2.2.2
  have qb := sk_b T n p
  unfold Rea_takeCol
  rw [rc_k (s18_k r1), wordLen_t r (by omega), bnd_some]
  generalize sk T n p = q at *
  have rr17 : hR (S18 K q φ) 18 0 = 17 := r2
  have e17 : hI (S18 K q φ) 17 = T := by rw [s18_n (by decide)]; exact r.2
  rw [gI_k (s18_k r1), s18_2, rc_k (s18_k r1), fail_e r.1 (by omega) (by decide) (by decide), bnd_some]
  by_cases c : wl T n q = 1
  · obtain ⟨w1, w2, w3, w4⟩ := wl_1 c
    rw [if_neg (by omega), gR_k (s18_k r1), rr17, gI_k (s18_k r1), s18_2, aI_k (s18_k r3) (by omega) (by omega), e17, tN (q : Int) q rfl]
    by_cases d : T q ≤ 101
    · have e0 : colF T n q lo hi φ = if lo ≤ T q - 97 ∧ T q - 97 ≤ hi then φ else flt φ q 2 := by unfold colF; rw [if_pos ⟨c, d⟩]
      rw [e0, if_pos d, gR_k (s18_k r1), rr17, gI_k (s18_k r1), s18_2, aI_k (s18_k r3) (by omega) (by omega), e17, tN (q : Int) q rfl, wr_id (z := T q - 97) (by omega) (by omega), gI_k (s18_k r1), s18_2, rc_k (s18_k r1), fail_e r.1 (by omega) (by decide) (by decide), bnd_some, gI_k (s18_k r1), s18_2, pI_k (s18_k r1), wr_id (z := (q : Int) + 1) (by omega) (by omega), show (q : Int) + 1 = ((q + 1 : Nat) : Int) by omega, s18_p]
      by_cases a : T q - 97 < lo
      · rw [if_pos a, if_neg (by omega)]
        exact ⟨q, lo, rfl, by omega, fun e => absurd e (flt_n _ _ (by decide))⟩
      · rw [if_neg a]
        by_cases b : T q - 97 ≤ hi
        · rw [if_pos b, if_pos (by omega)]
          exact ⟨q + 1, T q - 97, rfl, by omega, fun _ => ⟨rfl, rfl⟩⟩
        · rw [if_neg b, if_neg (by omega)]
          exact ⟨q, lo, rfl, by omega, fun e => absurd e (flt_n _ _ (by decide))⟩
    · have e0 : colF T n q lo hi φ = flt φ q 0 := by unfold colF; rw [if_neg (fun x => d x.2)]
      rw [e0, if_neg d]
      exact ⟨q, lo, rfl, by omega, fun e => absurd e (flt_n _ _ (by decide))⟩
  · have e0 : colF T n q lo hi φ = flt φ q 0 := by unfold colF; rw [if_neg (fun x => c x.1)]
    rw [e0, if_pos (by omega)]
    exact ⟨q, lo, rfl, by omega, fun e => absurd e (flt_n _ _ (by decide))⟩
theorem sgQ_b {q : Nat} (hq : q < n) : sgQ T n q ≤ n ∧ q < sgQ T n q := by
  unfold sgQ; split <;> omega
theorem iOr_sg : iOr 1 2 = 3 ∧ iOr 4 2 = 6 := by decide +kernel
/-- the class takes signs -/
theorem takeSigns_t (r : RDT K n T) (hp : p ≤ 400) (φ : Int) : Rea_takeSigns 18 (S18 K p φ) = if sk T n p < n ∧ (T (sk T n p) = 60 ∨ T (sk T n p) = 61 ∨ T (sk T n p) = 62) then some (sgV T n (sk T n p), S18 K (sgQ T n (sk T n p)) φ) else some (0, S18 K (sk T n p) (flt φ (sk T n p) 0)) := by
  have r1 := r.1.1
  have r2 := r.1.2.1
  have r3 := r.1.2.2.1
  have r4 := r.1.2.2.2.1
  have r5 := r.1.2.2.2.2
  have qb := sk_b T n p
  have qi := sk_i T n _ p rfl
  have b1 := takeByte_t r (p := p) (by omega) φ 61
  have b2 := takeByte_t r (p := sk T n p) (by omega) φ 60
  have b3 := takeByte_t r (p := sk T n p) (by omega) φ 62
  rw [qi] at b2 b3
  unfold Rea_takeSigns
  rw [rc_k (s18_k r1), b1]
  generalize sk T n p = q at *
  have l38 : ∀ s : Int, (s = 1 ∨ s = 4) → q < n → Rea_takeSigns_L38 18 s (S18 K (q + 1) φ) = if q + 1 < n ∧ T (q + 1) = 61 then some (iOr s 2, S18 K (q + 2) φ) else some (s, S18 K (q + 1) φ) := fun s hs hq => by
    have rr17 : hR (S18 K (q + 1) φ) 18 0 = 17 := r2
    have e17 : hI (S18 K (q + 1) φ) 17 = T := by rw [s18_n (by decide)]; exact r.2
    unfold Rea_takeSigns_L38
    rw [if_pos (by omega), gI_k (s18_k r1), s18_2, gI_k (s18_k r1), s18_1, r4]
    by_cases c : q + 1 < n
    · rw [if_neg (by omega), gR_k (s18_k r1), rr17, gI_k (s18_k r1), s18_2, aI_k (s18_k r3) (by omega) (by omega), e17, tN ((q + 1 : Nat) : Int) (q + 1) rfl, gI_k (s18_k r1), s18_2, pI_k (s18_k r1), wr_id (by omega) (by omega), show ((q + 1 : Nat) : Int) + 1 = ((q + 2 : Nat) : Int) by omega, s18_p]
      by_cases d : T (q + 1) = 61
      · rw [if_neg (by omega), if_pos ⟨c, d⟩]
      · rw [if_pos d, if_neg (fun x => d x.2)]
    · rw [if_pos (by omega), if_neg (fun x => c x.1)]
  by_cases a : q < n
  · by_cases c1 : T q = 61
    · have e1 : sgV T n q = 2 := by unfold sgV; rw [if_pos c1]
      have e2 : sgQ T n q = q + 1 := by unfold sgQ; rw [if_neg (fun x => x.1 c1)]
      rw [if_pos ⟨a, c1⟩, bnd_some, if_neg (by decide), if_pos ⟨a, Or.inr (Or.inl c1)⟩, e1, e2]
    · rw [if_neg (fun x => c1 x.2), bnd_some, if_pos rfl, rc_k (s18_k r1), b2]
      by_cases c2 : T q = 60
      · rw [if_pos ⟨a, c2⟩, bnd_some, if_neg (by decide), l38 1 (Or.inl rfl) a, if_pos (show q < n ∧ (T q = 60 ∨ T q = 61 ∨ T q = 62) from ⟨a, Or.inl c2⟩)]
        by_cases d : q + 1 < n ∧ T (q + 1) = 61
        · have eE : sgE T n q = true := by unfold sgE; exact decide_eq_true (Or.inr d)
          have eQ : sgQ T n q = q + 2 := by unfold sgQ; exact if_pos ⟨c1, d⟩
          have eV : sgV T n q = 3 := by unfold sgV; rw [if_neg c1, if_pos c2, eE]; rfl
          rw [if_pos d, eV, eQ, iOr_sg.1]
        · have eE : sgE T n q = false := by unfold sgE; exact decide_eq_false (fun x => Or.elim x c1 d)
          have eQ : sgQ T n q = q + 1 := by unfold sgQ; exact if_neg (fun x => d x.2)
          have eV : sgV T n q = 1 := by unfold sgV; rw [if_neg c1, if_pos c2, eE]; rfl
          rw [if_neg d, eV, eQ]
      · rw [if_neg (fun x => c2 x.2), bnd_some, if_pos rfl, rc_k (s18_k r1), b3]
        by_cases c3 : T q = 62
        · rw [if_pos ⟨a, c3⟩, bnd_some, if_neg (by decide), l38 4 (Or.inr rfl) a, if_pos (show q < n ∧ (T q = 60 ∨ T q = 61 ∨ T q = 62) from ⟨a, Or.inr (Or.inr c3)⟩)]
          by_cases d : q + 1 < n ∧ T (q + 1) = 61
          · have eE : sgE T n q = true := by unfold sgE; exact decide_eq_true (Or.inr d)
            have eQ : sgQ T n q = q + 2 := by unfold sgQ; exact if_pos ⟨c1, d⟩
            have eV : sgV T n q = 6 := by unfold sgV; rw [if_neg c1, if_neg c2, eE]; rfl
            rw [if_pos d, eV, eQ, iOr_sg.2]
          · have eE : sgE T n q = false := by unfold sgE; exact decide_eq_false (fun x => Or.elim x c1 d)
            have eQ : sgQ T n q = q + 1 := by unfold sgQ; exact if_neg (fun x => d x.2)
            have eV : sgV T n q = 4 := by unfold sgV; rw [if_neg c1, if_neg c2, eE]; rfl
            rw [if_neg d, eV, eQ]
        · rw [if_neg (fun x => c3 x.2), bnd_some, if_pos rfl, if_neg (show ¬ (q < n ∧ (T q = 60 ∨ T q = 61 ∨ T q = 62)) by omega)]
          unfold Rea_takeSigns_L38
          rw [if_neg (by decide), gI_k (s18_k r1), s18_2, rc_k (s18_k r1), fail_e r.1 (by omega) (by decide) (by decide), bnd_some]
  · rw [if_neg (fun x => a x.1), bnd_some, if_pos rfl, rc_k (s18_k r1), b2, if_neg (fun x => a x.1), bnd_some, if_pos rfl, rc_k (s18_k r1), b3, if_neg (fun x => a x.1), bnd_some, if_pos rfl, if_neg (fun x => a x.1)]
    unfold Rea_takeSigns_L38
    rw [if_neg (by decide), gI_k (s18_k r1), s18_2, rc_k (s18_k r1), fail_e r.1 (by omega) (by decide) (by decide), bnd_some]
end M1
