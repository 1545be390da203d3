/-! Level 2: the class reads a base -/
def nmP (T : Nat → Int) (n p : Nat) : Nat := sk T n p + dl T n (sk T n p)
def nmV (T : Nat → Int) (n p : Nat) : Int := nv T (sk T n p) (dl T n (sk T n p))
def nmF (T : Nat → Int) (n p : Nat) (top φ : Int) : Int := nFl T n (sk T n p) top φ
/-- a row's faults -/
def rwF (T : Nat → Int) (n p : Nat) (t : Int) : Int := if t = 0 then nmF T n (nmP T n (nmP T n p)) 9 (nmF T n (nmP T n p) 9 (nmF T n p 9 0)) else nmF T n (nmP T n p) 9 (nmF T n p 9 0)
def rwP (T : Nat → Int) (n p : Nat) (t : Int) : Nat := if t = 0 then nmP T n (nmP T n (nmP T n p)) else nmP T n (nmP T n p)
def rwR (T : Nat → Int) (n p : Nat) (t : Int) (ρ : Nat → Int) : Nat → Int := apRow ρ t (nmV T n p) (nmV T n (nmP T n p)) (if t = 0 then nmV T n (nmP T n (nmP T n p)) else 0)
/-- a clause -/
def clF (T : Nat → Int) (n k p : Nat) (ρ : Nat → Int) : Int :=
  if isW T n (sk T n p) 1 then (if k = 0 then nmF T n (sk T n p + 4) 99 0 else flt 0 (sk T n p) 4)
  else if isW T n (sk T n p) 2 then (if (0 < k ∧ k < 40) ∧ ρ 2 < 12 then rwF T n (sk T n p + 1) 0 else flt 0 (sk T n p) 4)
  else if isW T n (sk T n p) 3 then (if (0 < k ∧ k < 40) ∧ ρ 3 < 8 then rwF T n (sk T n p + 1) 1 else flt 0 (sk T n p) 4)
  else flt 0 (sk T n p) 0
def clP (T : Nat → Int) (n p : Nat) : Nat :=
  if isW T n (sk T n p) 1 then nmP T n (sk T n p + 4) else if isW T n (sk T n p) 2 then rwP T n (sk T n p + 1) 0 else rwP T n (sk T n p + 1) 1
def clR (T : Nat → Int) (n p : Nat) (ρ : Nat → Int) : Nat → Int :=
  if isW T n (sk T n p) 1 then u1 ρ 1 (nmV T n (sk T n p + 4)) else if isW T n (sk T n p) 2 then rwR T n (sk T n p + 1) 0 ρ else rwR T n (sk T n p + 1) 1 ρ
/-- only the block and the reader are otherwise -/
def FB (K H : AH) : Prop := (hN H = hN K ∧ hS H = hS K ∧ hK H = hK K) ∧ (∀ x, ¬ (49 ≤ x ∧ x < 75) → hR H x = hR K x) ∧ (∀ x, ¬ (49 ≤ x ∧ x < 75) → x ≠ 18 → hI H x = hI K x) ∧ hI H 18 1 = hI K 18 1
section L2
variable {K H : AH} {n p : Nat} {φ : Int} {T : Nat → Int} {ρ : Nat → Int}
theorem FB.trans {a b c : AH} (x : FB a b) (y : FB b c) : FB a c := by
  obtain ⟨⟨x1, x2, x3⟩, x4, x5, x6⟩ := x
  obtain ⟨⟨y1, y2, y3⟩, y4, y5, y6⟩ := y
  exact ⟨⟨by rw [y1, x1], by rw [y2, x2], by rw [y3, x3]⟩, fun k hk => by rw [y4 k hk, x4 k hk], fun k h1 h2 => by rw [y5 k h1 h2, x5 k h1 h2], by rw [y6, x6]⟩
theorem FB_s18 (K : AH) (p : Nat) (φ : Int) : FB K (S18 K p φ) := ⟨⟨rfl, rfl, rfl⟩, fun _ _ => rfl, fun _ _ h2 => s18_n h2, s18_1⟩
theorem FR.fb (f : FR K H 49 75) : FB K H := ⟨⟨f.1, f.2.1, f.2.2.1⟩, fun x hx => (f.2.2.2 x hx).2, fun x hx _ => (f.2.2.2 x hx).1, by rw [(f.2.2.2 18 (by decide)).1]⟩
theorem FB.rd (f : FB K H) (r : RDR K n) : RDR H n := by
  obtain ⟨⟨x1, x2, x3⟩, x4, x5, x6⟩ := f
  unfold RDR
  rw [x3, x4 18 (by decide), x6]
  exact r
theorem FB.t (f : FB K H) : hI H 17 = hI K 17 := f.2.2.1 17 (by decide) (by decide)
theorem RDR.s (r : RDR K n) (p : Nat) (φ : Int) : RDR (S18 K p φ) n := (FB_s18 K p φ).rd r
theorem ST.s18 (s : ST K 49 ρ) (p : Nat) (φ : Int) : ST (S18 K p φ) 49 ρ := ST_to s (fun _ _ _ => rfl) (fun _ _ _ => rfl) (fun x h1 h2 => s18_n (by omega))
theorem flt_n (φ : Int) (q : Nat) {k : Int} (hk : 0 ≤ k) : flt φ q k ≠ 0 := by
  unfold flt; split <;> omega
theorem flt_f {φ : Int} (h : φ ≠ 0) (q : Nat) (k : Int) : flt φ q k = φ := if_neg h
theorem nFl_f (h : φ ≠ 0) (q : Nat) (top : Int) : nFl T n q top φ = φ := by
  unfold nFl; rw [flt_f h, flt_f h]; split
  · rfl
  · split <;> rfl
theorem nmF_0 {top : Int} (e : nmF T n p top φ = 0) : φ = 0 ∧ 0 ≤ nmV T n p ∧ nmV T n p ≤ top := by
  have nb := nv_b T (sk T n p) (dl T n (sk T n p)) (fun j hj => dlp_d T n _ _ j hj)
  unfold nmF nFl at e
  unfold nmV
  by_cases c : dl T n (sk T n p) = 0
  · rw [if_pos c] at e; exact absurd e (flt_n _ _ (by decide))
  · rw [if_neg c] at e
    by_cases d : 5 < dl T n (sk T n p) ∨ top < nv T (sk T n p) (dl T n (sk T n p))
    · rw [if_pos d] at e; exact absurd e (flt_n _ _ (by decide))
    · rw [if_neg d] at e; omega
theorem nmP_b (hn : n ≤ 400) (hp : p ≤ 400) : nmP T n p ≤ 400 := by
  have a := sk_b T n p
  have b := dl_b T n (sk T n p)
  unfold nmP; omega
theorem takeN (r : RDR K n) (hp : p ≤ 400) (φ top : Int) : Rea_takeNumber 18 top (S18 K p φ) = some (nmV (hI K 17) n p, S18 K (nmP (hI K 17) n p) (nmF (hI K 17) n p top φ)) := takeNumber_e r (by omega) φ top
/-- a row of whatever is put at the end -/
theorem ST.appG {h : AH} {a : Nat} (s : ST h a ρ) {t : Int} (ht : t = 0 ∨ t = 1) (hf : ρ (if t = 0 then 2 else 3) < if t = 0 then 12 else 8) (x y z : Int) : ∃ H, Tab_append (if t = 0 then a + 22 else a + 24) x y z h = some ((), H) ∧ FR h H a (a + 26) ∧ SB H a := by
  have b2 := s.2.2.2.2.1
  have b3 := s.2.2.2.2.2.1
  have e2 := s.2.1.2.2.1
  have e3 := s.2.1.2.2.2.1
  rcases ht with rfl | rfl
  · rw [if_pos rfl, if_pos rfl] at hf
    rw [if_pos rfl]
    obtain ⟨m, hm⟩ : ∃ m : Nat, ρ 2 = (m : Int) := ⟨(ρ 2).toNat, by omega⟩
    have ap := Tab_append_e s.TR (by decide) (by decide) (by decide) (by decide) (by decide) (n := m) (by rw [e2, hm]) (by omega) (by omega) x y z
    rw [if_pos rfl] at ap
    refine ⟨_, ap, ⟨rfl, rfl, rfl, fun b hb => ⟨?_, rfl⟩⟩, SB_to s.1 (fun _ _ _ => rfl) (fun _ _ _ => rfl) (fun j hj => ?_) (fun j hj => ?_)⟩
    · rw [hI_sIn _ _ (by omega), hI_sIn _ _ (by omega), hI_sIn _ _ (by omega), hI_sIn _ _ (by omega)]
    · rw [hI_sIn _ _ (by omega), hI_sIn _ _ (by omega), hI_sIn _ _ (by omega), hI_sId _ _ (by omega)]
    · rw [hI_sIn _ _ (by omega), hI_sIn _ _ (by omega), hI_sIn _ _ (by omega), hI_sIn _ _ (by omega)]
  · rw [if_neg (by decide), if_neg (by decide)] at hf
    rw [if_neg (by decide)]
    obtain ⟨m, hm⟩ : ∃ m : Nat, ρ 3 = (m : Int) := ⟨(ρ 3).toNat, by omega⟩
    have ap := Tab_append_e s.TS (by decide) (by decide) (by decide) (by decide) (by decide) (n := m) (by rw [e3, hm]) (by omega) (by omega) x y z
    rw [if_neg (by decide)] at ap
    refine ⟨_, ap, ⟨rfl, rfl, rfl, fun b hb => ⟨?_, rfl⟩⟩, SB_to s.1 (fun _ _ _ => rfl) (fun _ _ _ => rfl) (fun j hj => ?_) (fun j hj => ?_)⟩
    · rw [hI_sIn _ _ (by omega), hI_sIn _ _ (by omega), hI_sIn _ _ (by omega)]
    · rw [hI_sIn _ _ (by omega), hI_sIn _ _ (by omega), hI_sIn _ _ (by omega)]
    · rw [hI_sIn _ _ (by omega), hI_sIn _ _ (by omega), hI_sId _ _ (by omega)]
theorem rwF_0 {t : Int} (ht : t = 0 ∨ t = 1) (e : rwF T n p t = 0) : (0 ≤ nmV T n p ∧ nmV T n p ≤ 9) ∧ (0 ≤ nmV T n (nmP T n p) ∧ nmV T n (nmP T n p) ≤ 9) ∧ (t = 0 → 0 ≤ nmV T n (nmP T n (nmP T n p)) ∧ nmV T n (nmP T n (nmP T n p)) ≤ 9) := by
  unfold rwF at e
  rcases ht with rfl | rfl
  · rw [if_pos rfl] at e
    obtain ⟨a1, a2⟩ := nmF_0 e
    obtain ⟨b1, b2⟩ := nmF_0 a1
    obtain ⟨c1, c2⟩ := nmF_0 b1
    exact ⟨c2, b2, fun _ => a2⟩
  · rw [if_neg (by decide)] at e
    obtain ⟨b1, b2⟩ := nmF_0 e
    obtain ⟨c1, c2⟩ := nmF_0 b1
    exact ⟨c2, b2, fun h => absurd h (by decide)⟩
/-- the class reads a row -/
theorem readRow_e (r : RDR K n) (s : ST K 49 ρ) (hp : p ≤ 400) {t : Int} (ht : t = 0 ∨ t = 1) {q : Nat} (hq : q < 1000) (ms : Bool) : ∃ H p', Rea_readRow 18 (if t = 0 then 49 + 22 else 49 + 24) (q : Int) (bi ms) (S18 K p 0) = some ((), S18 H p' (if ms = true ∧ ρ (if t = 0 then 2 else 3) < (if t = 0 then 12 else 8) then rwF (hI K 17) n p t else flt 0 q 4)) ∧ FB K H ∧ SB H 49 ∧ p' ≤ 400 ∧ ((ms = true ∧ ρ (if t = 0 then 2 else 3) < (if t = 0 then 12 else 8)) → p' = rwP (hI K 17) n p t ∧ (rwF (hI K 17) n p t = 0 → ST H 49 (rwR (hI K 17) n p t ρ))) := by
  have r5 := r.2.2.2.2
  have r1 := r.1
  unfold Rea_readRow
  rw [ite_bi, rc_k (s18_k r1), fail_e r hq (by decide) (by decide), bnd_some]
  cases ms
  · refine ⟨K, p, ?_, ⟨⟨rfl, rfl, rfl⟩, fun _ _ => rfl, fun _ _ _ => rfl, rfl⟩, s.1, hp, fun x => absurd x.1 (by decide)⟩
    rw [if_neg (by decide), if_neg (fun x => absurd x.1 (by decide))]
  · rw [if_pos rfl, rc_k ((s.s18 p 0).k10 t), (s.s18 p 0).full ht, bnd_some, ite_bi, rc_k (s18_k r1), fail_e r hq (by decide) (by decide), bnd_some]
    by_cases c : ρ (if t = 0 then 2 else 3) < (if t = 0 then 12 else 8)
    · have b1 := nmP_b (T := hI K 17) r5 hp
      have b2 := nmP_b (T := hI K 17) r5 b1
      have b3 := nmP_b (T := hI K 17) r5 b2
      have wd : hI (S18 K (nmP (hI K 17) n (nmP (hI K 17) n p)) (nmF (hI K 17) n (nmP (hI K 17) n p) 9 (nmF (hI K 17) n p 9 0))) (if t = 0 then 49 + 22 else 49 + 24) 1 = if t = 0 then 3 else 2 := by
        rcases ht with rfl | rfl
        · rw [if_pos rfl, if_pos rfl, s18_n (by decide)]; exact s.TR.2.2.1
        · rw [if_neg (by decide), if_neg (by decide), s18_n (by decide)]; exact s.TS.2.2.1
      rw [decide_eq_true c, if_neg (by decide), rc_k (s18_k r1), takeN r hp, bnd_some, rc_k (s18_k r1), takeN r b1, bnd_some, gI_k ((s.s18 _ _).k10 t), wd, if_pos (show true = true ∧ ρ (if t = 0 then 2 else 3) < (if t = 0 then 12 else 8) from ⟨rfl, c⟩)]
      rcases ht with rfl | rfl
      · have st := s.s18 (nmP (hI K 17) n (nmP (hI K 17) n (nmP (hI K 17) n p))) (rwF (hI K 17) n p 0)
        obtain ⟨H, x1, x2, x3⟩ := st.appG (t := 0) (Or.inl rfl) c (nmV (hI K 17) n p) (nmV (hI K 17) n (nmP (hI K 17) n p)) (nmV (hI K 17) n (nmP (hI K 17) n (nmP (hI K 17) n p)))
        have f1 : FR (S18 K (nmP (hI K 17) n (nmP (hI K 17) n (nmP (hI K 17) n p))) (rwF (hI K 17) n p 0)) H 49 75 := x2
        have eH : S18 H (nmP (hI K 17) n (nmP (hI K 17) n (nmP (hI K 17) n p))) (rwF (hI K 17) n p 0) = H := S18_K _ _ _ (by rw [(f1.2.2.2 18 (by decide)).1, s18_2]) (by rw [(f1.2.2.2 18 (by decide)).1, s18_3])
        refine ⟨H, _, ?_, (FB_s18 _ _ _).trans f1.fb, x3, b3, fun _ => ⟨rfl, fun e => ?_⟩⟩
        · rw [if_pos rfl, if_pos rfl, if_neg (by decide), rc_k (s18_k r1), takeN r b2, bnd_some]
          rw [if_pos rfl] at x1
          have x1' : Tab_append (49 + 22) (nmV (hI K 17) n p) (nmV (hI K 17) n (nmP (hI K 17) n p)) (nmV (hI K 17) n (nmP (hI K 17) n (nmP (hI K 17) n p))) (S18 K (nmP (hI K 17) n (nmP (hI K 17) n (nmP (hI K 17) n p))) (nmF (hI K 17) n (nmP (hI K 17) n (nmP (hI K 17) n p)) 9 (nmF (hI K 17) n (nmP (hI K 17) n p) 9 (nmF (hI K 17) n p 9 0)))) = some ((), H) := x1
          rw [rc_k (s18_k s.TR.1), x1', bnd_some]
          rw [eH]
        · obtain ⟨v1, v2, v3⟩ := rwF_0 (Or.inl rfl) e
          obtain ⟨H', y1, y2, y3⟩ := st.app (t := 0) (Or.inl rfl) c v1 v2 v3
          rw [x1] at y1
          injection y1 with y1
          injection y1 with _ y1
          subst y1
          exact y3
      · have st := s.s18 (nmP (hI K 17) n (nmP (hI K 17) n p)) (rwF (hI K 17) n p 1)
        obtain ⟨H, x1, x2, x3⟩ := st.appG (t := 1) (Or.inr rfl) c (nmV (hI K 17) n p) (nmV (hI K 17) n (nmP (hI K 17) n p)) 0
        have f1 : FR (S18 K (nmP (hI K 17) n (nmP (hI K 17) n p)) (rwF (hI K 17) n p 1)) H 49 75 := x2
        have eH : S18 H (nmP (hI K 17) n (nmP (hI K 17) n p)) (rwF (hI K 17) n p 1) = H := S18_K _ _ _ (by rw [(f1.2.2.2 18 (by decide)).1, s18_2]) (by rw [(f1.2.2.2 18 (by decide)).1, s18_3])
        refine ⟨H, _, ?_, (FB_s18 _ _ _).trans f1.fb, x3, b2, fun _ => ⟨rfl, fun e => ?_⟩⟩
        · rw [if_neg (show ¬ (1 : Int) = 0 by decide), if_neg (show ¬ (1 : Int) = 0 by decide), if_pos (by decide)]
          rw [if_neg (by decide)] at x1
          have x1' : Tab_append (49 + 24) (nmV (hI K 17) n p) (nmV (hI K 17) n (nmP (hI K 17) n p)) 0 (S18 K (nmP (hI K 17) n (nmP (hI K 17) n p)) (nmF (hI K 17) n (nmP (hI K 17) n p) 9 (nmF (hI K 17) n p 9 0))) = some ((), H) := x1
          rw [rc_k (s18_k s.TS.1), x1', bnd_some]
          rw [eH]
        · obtain ⟨v1, v2, v3⟩ := rwF_0 (Or.inr rfl) e
          obtain ⟨H', y1, y2, y3⟩ := st.app (t := 1) (Or.inr rfl) c v1 v2 (fun h => absurd h (by decide))
          rw [x1] at y1
          injection y1 with y1
          injection y1 with _ y1
          subst y1
          exact y3
    · refine ⟨K, p, ?_, ⟨⟨rfl, rfl, rfl⟩, fun _ _ => rfl, fun _ _ _ => rfl, rfl⟩, s.1, hp, fun x => absurd x.2 c⟩
      rw [decide_eq_false c, if_pos (by decide), if_neg (fun x => c x.2)]
end L2
