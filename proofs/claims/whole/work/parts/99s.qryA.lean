/-! Level 2: query of the class -/
section M5
variable {K H h g : AH} {n p Q q : Nat} {φ vd t : Int} {T : Nat → Int} {ω ω' : Nat → Int} {own : Nat → Nat}
theorem C4_id (h4 : hI K 18 4 = t) : C4 K Q (hI K (Q + 1)) (hI K Q 2) t = K := by
  show WI K (c4F (hI K) Q (hI K (Q + 1)) (hI K Q 2) t) = WI K (hI K)
  refine WI_ext K (fun a i => ?_)
  unfold c4F
  by_cases c : a = 18 ∧ i = 4
  · rw [if_pos c, c.1, c.2, h4]
  · rw [if_neg c]
    by_cases d : a = Q + 1 ∧ i < 19
    · rw [if_pos d, d.1]
    · rw [if_neg d]
      by_cases e : a = Q ∧ i = 2
      · rw [if_pos e, e.1, e.2]
      · rw [if_neg e]
theorem l63_c (qo : QO K Q) (r : RDT K n T) (hp : p ≤ 400) : ∃ F, Rea_readQuery_L63 18 Q (S18 (C4 K Q ω vd t) p φ) = some (if sk T n p < n then flt φ (sk T n p) 0 else φ, WI K F) ∧ (∀ x, ¬ (Q ≤ x ∧ x < Q + 9) → x ≠ 18 → F x = hI K x) ∧ (vd = 0 → (∀ w, w < 19 → F (Q + 1) w = finR ω w) ∧ F Q 2 = bi (vdB ω) ∧ ∀ k : Nat, k < 3 → ∀ i, i < 13 → F (Q + 4 + 2 * k) i = qpW (finR ω) (k : Int) i) := by
  have rK : ∀ ω vd t, RDT (C4 K Q ω vd t) n T := fun _ _ _ => C4_rd qo r
  have k18 : ∀ ω vd t (p : Nat) φ, hK (S18 (C4 K Q ω vd t) p φ) 18 = (7, 0) := fun _ _ _ _ _ => r.1.1
  have kF : ∀ F, hK (WI K F) 18 = (7, 0) := fun _ => r.1.1
  have q1 := qo.1
  generalize hΦ : (if sk T n p < n then flt φ (sk T n p) 0 else φ) = Φ
  obtain ⟨F, x1, x2, x3⟩ := finish_c (ω := ω) (vd := vd) (t := t) (p := sk T n p) (φ := Φ) qo
  have f18 : F 18 3 = Φ := by rw [x2 18 (by omega), s18_3]
  refine ⟨F, ?_, fun x h1 h2 => by rw [x2 x h1, s18_n h2, c4_n h2 (by omega) (by omega)], x3⟩
  unfold Rea_readQuery_L63
  rw [rc_k (k18 _ _ _ _ _), close_t (rK _ _ _) hp, bnd_some, hΦ, rc_k (x_k qo), x1, bnd_some, gI_k (kF _), hI_WI, f18]
/-- the class reads a query -/
theorem readQuery_C (fx : FX h) (qo : QO h Q) (hn : n ≤ 400) : ∃ F, Rea_readQuery 18 (n : Int) Q h = some (qyF (hI h 17) n, WI h F) ∧ (∀ x, ¬ (Q ≤ x ∧ x < Q + 9) → x ≠ 18 → F x = hI h x) ∧ (qyF (hI h 17) n = 0 → (∀ w, w < 19 → F (Q + 1) w = finR (qyW (hI h 17) n) w) ∧ F Q 2 = bi (vdB (qyW (hI h 17) n)) ∧ ∀ k : Nat, k < 3 → ∀ i, i < 13 → F (Q + 4 + 2 * k) i = qpW (finR (qyW (hI h 17) n)) (k : Int) i) := by
  have big := FU_big
  have q1 := qo.1
  have qK : QO (OPN h n) Q := qo
  have rd : RDT (OPN h n) n (hI h 17) := ⟨OPN_rd fx hn, OPN_n (by decide)⟩
  have h4 : hI (OPN h n) 18 4 = ((0 : Nat) : Int) := by
    show up2 (up2 (hI h) 18 1 (n : Int)) 18 4 0 18 4 = _
    rw [up2_e, if_pos ⟨rfl, rfl⟩]; rfl
  have nO : ∀ x, x ≠ 18 → hI (OPN h n) x = hI h x := fun x hx => OPN_n hx
  have wK : ∀ F, WI (OPN h n) F = WI h F := fun _ => rfl
  have k18 : ∀ ω vd t (p : Nat) φ, hK (S18 (C4 (OPN h n) Q ω vd t) p φ) 18 = (7, 0) := fun _ _ _ _ _ => rd.1.1
  have kh : hK h 18 = (7, 0) := rd.1.1
  generalize hI h 17 = T at *
  have op := open_e fx hn
  obtain ⟨p1, ω1, vd1, x1, x2, x3⟩ := readSource_c (ω := hI (OPN h n) (Q + 1)) (vd := hI (OPN h n) Q 2) (t := ((0 : Nat) : Int)) qK rd
  rw [C4_id h4] at x1
  have rc18 : hK (S18 (OPN h n) 0 0) 18 = (7, 0) := rd.1.1
  have head : Rea_readQuery 18 (n : Int) Q h = Rea_readQuery_L12 FU 18 Q 0 (S18 (C4 (OPN h n) Q ω1 vd1 ((0 : Nat) : Int)) p1 (srF T n)) := by
    unfold Rea_readQuery
    rw [rc_k kh, op, bnd_some, rc_k rc18, x1, bnd_some]
  by_cases c : srF T n = 0
  · obtain ⟨y1, y2, y3⟩ := x3 c
    have sp := (srAB c).2.2
    have rq := readQuery_L (vd := 0) qK rd (s := srS T n) 400 0 (srP T n) 0 FU (bgR (srS T n) (srA T n) (srB T n)) (by omega) (by omega) (by omega) (by omega) (by omega) (bgR_0 _ _ _).1
    have e0 : qyF T n = (stS T n (srS T n) 400 (srP T n) 0 (bgR (srS T n) (srA T n) (srB T n))).1 := by
      unfold qyF; rw [if_neg (show ¬ srF T n ≠ 0 from fun x => x c)]
    have eW := qyW_e T n
    rw [c, y1, y2, y3] at head
    rw [e0, eW]
    generalize stS T n (srS T n) 400 (srP T n) 0 (bgR (srS T n) (srA T n) (srB T n)) = R at *
    obtain ⟨p2, ω2, t2, φ2, z1, z2, z3, z4⟩ := rq
    obtain ⟨F, w1, w2, w3⟩ := l63_c (ω := ω2) (vd := 0) (t := t2) (φ := φ2) qK rd z2
    rw [z3] at w1
    refine ⟨F, ?_, fun x h1 h2 => by rw [w2 x h1 h2, nO x h2], fun e => ?_⟩
    · rw [head, show Rea_readQuery_L12 FU 18 Q 0 (S18 (C4 (OPN h n) Q (bgR (srS T n) (srA T n) (srB T n)) 0 ((0 : Nat) : Int)) (srP T n) 0) = Rea_readQuery_L63 18 Q (S18 (C4 (OPN h n) Q ω2 0 t2) p2 φ2) from z1, w1, wK]
    · rw [← z4 e]
      exact w3 rfl
  · have e0 : qyF T n = srF T n := by unfold qyF; rw [if_pos c]
    obtain ⟨F, w1, w2, w3⟩ := l63_c (ω := ω1) (vd := vd1) (t := ((0 : Nat) : Int)) (φ := srF T n) qK rd x2
    have clf : (if sk T n p1 < n then flt (srF T n) (sk T n p1) 0 else srF T n) = srF T n := by
      rw [flt_f c]; split <;> rfl
    rw [clf] at w1
    refine ⟨F, ?_, fun x h1 h2 => by rw [w2 x h1 h2, nO x h2], fun e => absurd (e0 ▸ e) c⟩
    rw [head, show FU = 999999 + 1 from rfl, Rea_readQuery_L12, if_neg (by decide), gI_k (k18 _ _ _ _ _), s18_3, if_pos c, w1, wK, e0]
theorem QA_o (a : QA h) (hq : q < 8) : QO h (329 + 9 * q) := by
  obtain ⟨a1, a2, a3, a4, a5, a6, a7⟩ := a.2 q hq
  refine ⟨by omega, a2, by rw [a3]; omega, by rw [a4]; omega, by rw [show 329 + 9 * q + 1 = 330 + 9 * q by omega]; exact a5, by rw [show 329 + 9 * q + 2 = 331 + 9 * q by omega]; exact a6, fun k hk => ?_⟩
  rw [show 329 + 9 * q + 2 = 331 + 9 * q by omega, show 329 + 9 * q + 3 + 2 * k = 332 + 9 * q + 2 * k by omega]
  exact a7 k hk
/-- query of the class -/
theorem query_C (c : CAS h own g) (hc : hI g 401 10 = (q : Int)) (hq : q < 8) (ht : hI g 401 18 = (n : Int)) (hn : n ≤ 400) : ∃ F, Bat_query 16 h = some (if qyF (hI h 17) n = 0 then (q : Int) else wr (-2 - qyF (hI h 17) n), WI h F) ∧ (∀ x, ¬ (329 + 9 * q ≤ x ∧ x < 329 + 9 * q + 9) → x ≠ 18 → x ≠ 16 → F x = hI h x) ∧ F 16 1 = 0 ∧ F 16 4 = (if qyF (hI h 17) n = 0 then (q : Int) + 1 else q) ∧ (qyF (hI h 17) n = 0 → (∀ w, w < 19 → F (330 + 9 * q) w = finR (qyW (hI h 17) n) w) ∧ F (329 + 9 * q) 2 = bi (vdB (qyW (hI h 17) n)) ∧ ∀ k : Nat, k < 3 → ∀ i, i < 13 → F (333 + 9 * q + 2 * k) i = qpW (finR (qyW (hI h 17) n)) (k : Int) i) := by
  have fx := c.fx
  have qa := c.2.1.1
  have q4 : hI h 16 4 = (q : Int) := by rw [c.2.2.1.1, hc]
  have tl : hI h 16 1 = (n : Int) := by rw [c.2.2.1.2.1, ht]
  obtain ⟨f0, f1, f2, f3, f5, f6, f7, f8, f9, f10, f11, k17, k18, q18, k48⟩ := id fx
  have a1 := (qa.2 q hq).1
  obtain ⟨F, x1, x2, x3⟩ := readQuery_C fx (QA_o qa hq) hn
  generalize qyF (hI h 17) n = Φ at *
  generalize qyW (hI h 17) n = W at *
  have k16 : ∀ f, hK (WI h f) 16 = (12, 0) := fun _ => f0
  have F16 : F 16 = hI h 16 := x2 16 (by omega) (by decide)
  have head : Bat_query 16 h = if Φ = 0 then (gI (WI h (up2 F 16 1 0)) 12 16 4 fun x11 => pI (WI h (up2 F 16 1 0)) 12 16 4 (wr (x11 + 1)) fun h12 => gI h12 12 16 4 fun x13 => some (wr (x13 - 1), h12)) else some (wr (-2 - Φ), WI h (up2 F 16 1 0)) := by
    unfold Bat_query
    rw [gI_k f0, q4, if_pos (by omega), gR_k f0, f2, gI_k f0, tl, gR_k f0, f3, gI_k f0, q4, aR_k qa.1 (by omega) (by omega), tN (q : Int) q rfl, a1, rc_k k18, x1, bnd_some, pI_k (k16 _), WI_sI]
  have rows : ∀ f : Nat → Nat → Int, (∀ x, x ≠ 16 → f x = F x) → Φ = 0 → (∀ w, w < 19 → f (330 + 9 * q) w = finR W w) ∧ f (329 + 9 * q) 2 = bi (vdB W) ∧ ∀ k : Nat, k < 3 → ∀ i, i < 13 → f (333 + 9 * q + 2 * k) i = qpW (finR W) (k : Int) i := fun f hf e => by
    obtain ⟨y1, y2, y3⟩ := x3 e
    refine ⟨fun w hw => ?_, by rw [hf _ (by omega)]; exact y2, fun k hk i hi => ?_⟩
    · rw [hf _ (by omega), show 330 + 9 * q = 329 + 9 * q + 1 by omega]; exact y1 w hw
    · rw [hf _ (by omega), show 333 + 9 * q + 2 * k = 329 + 9 * q + 4 + 2 * k by omega]; exact y3 k hk i hi
  by_cases e : Φ = 0
  · refine ⟨up2 (up2 F 16 1 0) 16 4 ((q : Int) + 1), ?_, fun x h1 h2 h3 => by rw [up2_ne h3, up2_ne h3, x2 x h1 h2], by rw [up2_e, if_neg (by decide), up2_e, if_pos ⟨rfl, rfl⟩], by rw [up2_e, if_pos ⟨rfl, rfl⟩, if_pos e], rows _ (fun x hx => by rw [up2_ne hx, up2_ne hx])⟩
    have g4 : up2 F 16 1 0 16 4 = (q : Int) := by rw [up2_e, if_neg (by decide), F16, q4]
    have g5 : up2 (up2 F 16 1 0) 16 4 ((q : Int) + 1) 16 4 = (q : Int) + 1 := by rw [up2_e, if_pos ⟨rfl, rfl⟩]
    rw [head, if_pos e, if_pos e, gI_k (k16 _), hI_WI, g4, pI_k (k16 _), WI_sI, wr_id (z := (q : Int) + 1) (by omega) (by omega), gI_k (k16 _), hI_WI, g5, show (q : Int) + 1 - 1 = q by omega, wr_id (by omega) (by omega)]
  · refine ⟨up2 F 16 1 0, ?_, fun x h1 h2 h3 => by rw [up2_ne h3, x2 x h1 h2], by rw [up2_e, if_pos ⟨rfl, rfl⟩], by rw [up2_e, if_neg (by decide), F16, q4, if_neg e], rows _ (fun x hx => by rw [up2_ne hx])⟩
    rw [head, if_neg e, if_neg e]
end M5
