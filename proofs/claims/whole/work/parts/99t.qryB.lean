/-! Level 2: query of both sides -/
def MBR (h : AH) (q : Nat) : Prop := (hI h 408 q = 0 ∨ hI h 408 q = 1 ∨ hI h 408 q = 2) ∧ (hI h 408 q = 2 → (0 ≤ hI h 409 q ∧ hI h 409 q < 3) ∧ 3 ≤ hI h 410 q ∧ hI h 410 q < 5) ∧ (0 ≤ hI h 413 q ∧ hI h 413 q ≤ 5) ∧ ∀ j : Nat, (j : Int) < hI h 413 q → 0 ≤ hI h 414 (5 * q + j) ∧ hI h 414 (5 * q + j) < 5 ∧ (hI h 408 q = 0 → hI h 414 (5 * q + j) < 3) ∧ (hI h 408 q = 1 → 3 ≤ hI h 414 (5 * q + j))
def QIR (h : AH) (q : Nat) : Prop := (hI h 408 q ≠ 2 → hI h 409 q = -1 ∧ hI h 410 q = -1) ∧ ∀ c, c < 5 → (0 ≤ hI h 411 (5 * q + c) ∧ hI h 411 (5 * q + c) ≤ 9) ∧ (0 ≤ hI h 412 (5 * q + c) ∧ hI h 412 (5 * q + c) ≤ 9)
/-- the rows of the other queries -/
def OQ (q : Nat) (h H : AH) : Prop := (∀ a i, a = 408 ∨ a = 409 ∨ a = 410 ∨ a = 413 → i ≠ q → hI H a i = hI h a i) ∧ ∀ a i, a = 411 ∨ a = 412 ∨ a = 414 → ¬ (5 * q ≤ i ∧ i < 5 * q + 5) → hI H a i = hI h a i
section M6
variable {K H h g : AH} {n p Q q q' : Nat} {φ vd t : Int} {T : Nat → Int} {ω ω' : Nat → Int} {own : Nat → Nat}
theorem OQ.trans {a b c : AH} (x : OQ q a b) (y : OQ q b c) : OQ q a c := ⟨fun k i h1 h2 => by rw [y.1 k i h1 h2, x.1 k i h1 h2], fun k i h1 h2 => by rw [y.2 k i h1 h2, x.2 k i h1 h2]⟩
theorem OQ.mbr (o : OQ q h H) (ne : q' ≠ q) (b : MBR h q') : MBR H q' := by
  obtain ⟨b1, b2, b3, b4⟩ := b
  unfold MBR
  rw [o.1 408 q' (by omega) ne, o.1 409 q' (by omega) ne, o.1 410 q' (by omega) ne, o.1 413 q' (by omega) ne]
  refine ⟨b1, b2, b3, fun j hj => ?_⟩
  rw [o.2 414 (5 * q' + j) (by omega) (by omega)]
  exact b4 j hj
theorem OQ.qir (o : OQ q h H) (ne : q' ≠ q) (b : QIR h q') : QIR H q' := by
  unfold QIR
  rw [o.1 408 q' (by omega) ne, o.1 409 q' (by omega) ne, o.1 410 q' (by omega) ne]
  refine ⟨b.1, fun c hc => ?_⟩
  rw [o.2 411 (5 * q' + c) (by omega) (by omega), o.2 412 (5 * q' + c) (by omega) (by omega)]
  exact b.2 c hc
theorem OQ.fm (o : OQ q h H) (ne : q' ≠ q) {w : Nat} (hw : w < 19) : FM H q' w = FM h q' w := by
  unfold FM
  rw [o.1 408 q' (by omega) ne, o.1 409 q' (by omega) ne, o.1 410 q' (by omega) ne, o.1 413 q' (by omega) ne, o.2 414 (5 * q' + (w - 14)) (by omega) (by omega)]
  by_cases c : w ≤ 12
  · rw [o.2 411 (5 * q' + (w - 3) / 2) (by omega) (by omega), o.2 412 (5 * q' + (w - 3) / 2) (by omega) (by omega)]
  · rw [if_neg c, if_neg c]
theorem OQ.vo (o : OQ q h H) (ne : q' ≠ q) : rVd H (q' : Int) = rVd h (q' : Int) := by
  unfold rVd
  rw [tN (5 * (q' : Int)) (5 * q') (by omega), o.2 411 (5 * q') (by omega) (by omega), o.2 412 (5 * q') (by omega) (by omega)]
theorem OQ.qr (o : OQ q h H) (ne : q' ≠ q) (kd : Int) {i : Nat} (hi : i < 13) : qp H q' kd i = qp h q' kd i := by
  unfold qp
  rw [o.1 409 q' (by omega) ne, o.1 410 q' (by omega) ne, o.2 411 (5 * q' + (i - 3) / 2) (by omega) (by omega), o.2 412 (5 * q' + (i - 4) / 2) (by omega) (by omega)]
theorem MB_q (mb : MB h) (e2 : hI H 402 = hI h 402) (hc : hI h 401 10 = (q : Int)) (hq : q < 8) (o : OQ q h H) (cn : hI H 401 10 = (q : Int) ∨ (hI H 401 10 = (q : Int) + 1 ∧ MBR H q)) : MB H := by
  obtain ⟨b1, b2, b3, b4, b5⟩ := mb
  have b5' : ∀ q : Nat, q < 8 → (q : Int) < hI h 401 10 → MBR h q := b5
  refine ⟨by rw [e2]; exact b1, by rw [e2]; exact b2, by omega, by rw [e2]; exact b4, ?_⟩
  show ∀ q : Nat, q < 8 → (q : Int) < hI H 401 10 → MBR H q
  intro q' h8 hl
  by_cases ne : q' = q
  · rcases cn with cn | cn
    · omega
    · rw [ne]; exact cn.2
  · exact o.mbr ne (b5' q' h8 (by omega))
theorem QI_q (qi : QI h) (hc : hI h 401 10 = (q : Int)) (hq : q < 8) (o : OQ q h H) (cn : hI H 401 10 = (q : Int) ∨ (hI H 401 10 = (q : Int) + 1 ∧ QIR H q)) : QI H := by
  have b5' : ∀ q : Nat, q < 8 → (q : Int) < hI h 401 10 → QIR h q := qi
  show ∀ q : Nat, q < 8 → (q : Int) < hI H 401 10 → QIR H q
  intro q' h8 hl
  by_cases ne : q' = q
  · rcases cn with cn | cn
    · omega
    · rw [ne]; exact cn.2
  · exact o.qir ne (b5' q' h8 (by omega))
/-- the class's rows -/
def CQR (H g : AH) (q : Nat) : Prop := (∀ w, w < 19 → hI H (330 + 9 * q) w = FM g q w) ∧ hI H (329 + 9 * q) 2 = bi (rVd g q) ∧ ∀ k : Nat, k < 3 → eq13 (hI H (333 + 9 * q + 2 * k)) (qp g q k)
theorem CQ_q (cq : CQ h h) (kK : hK H = hK h) (kR : hR H = hR h) (hc : hI h 401 10 = (q : Int)) (hq : q < 8) (oc : ∀ x, 329 ≤ x → x < 401 → ¬ (329 + 9 * q ≤ x ∧ x < 329 + 9 * q + 9) → hI H x = hI h x) (o : OQ q h H) (cn : hI H 401 10 = (q : Int) ∨ (hI H 401 10 = (q : Int) + 1 ∧ CQR H H q)) : CQ H H := by
  obtain ⟨a, b⟩ := cq
  have b' : ∀ q : Nat, (q : Int) < hI h 401 10 → CQR h h q := b
  refine ⟨?_, ?_⟩
  · unfold QA PA at *
    rw [kK, kR]; exact a
  · show ∀ q : Nat, (q : Int) < hI H 401 10 → CQR H H q
    intro q' hl
    by_cases ne : q' = q
    · rcases cn with cn | cn
      · omega
      · rw [ne]; exact cn.2
    · have hl' : q' < q := by omega
      obtain ⟨c1, c2, c3⟩ := b' q' (by omega)
      refine ⟨fun w hw => ?_, ?_, fun k hk i hi => ?_⟩
      · rw [oc _ (by omega) (by omega) (by omega), c1 w hw, o.fm ne hw]
      · rw [oc _ (by omega) (by omega) (by omega), c2, o.vo ne]
      · rw [oc _ (by omega) (by omega) (by omega), c3 k hk i hi, o.qr ne _ hi]
theorem JV_q (j : JV h own) (hq : q < 8) (kN : hN H = hN h) (kK : hK H = hK h) (kR : hR H = hR h) (o : ∀ x, x ≠ 16 → x ≠ 18 → ¬ (329 + 9 * q ≤ x ∧ x < 329 + 9 * q + 9) → x ≠ 401 → ¬ (408 ≤ x ∧ x ≤ 414) → hI H x = hI h x) (t16 : hI H 16 1 = 0) (t18 : hI H 401 18 = 0) (e43 : hI H 401 43 = hI h 401 43) (e16 : hI H 16 4 = hI H 401 10) (cq : CQ H H) (mb : MB H) (qi : QI H) : JV H own := by
  obtain ⟨c, m⟩ := id j
  have c7 := c.1.2.2.2.2.2.2.1
  have o' : ∀ x, x < 16 ∨ 19 ≤ x → x < 329 ∨ 402 ≤ x → x < 408 ∨ 415 ≤ x → hI H x = hI h x := fun x h1 h2 h3 => o x (by omega) (by omega) (by omega) (by omega) (by omega)
  have er : rr (hI H) = rr (hI h) := by
    funext l; unfold rr
    rw [o' 402 (by decide) (by decide) (by decide), o' 403 (by decide) (by decide) (by decide), o' 404 (by decide) (by decide) (by decide), o' 407 (by decide) (by decide) (by decide)]
  obtain ⟨F1, wo⟩ := c.2.2.2.2.1
  refine JV_asm2 j (by omega) (fun _ _ => rfl) (fun x _ => by rw [kK]) (fun x _ _ => by rw [kR]) (by rw [o' 327 (by decide) (by decide) (by decide)]) (SB_to c.1.2.2.2.2.2.1 (fun x _ _ => by rw [kK]) (fun x _ _ => by rw [kR]) (fun _ _ => by rw [o' _ (by decide) (by decide) (by decide)]) (fun _ _ => by rw [o' _ (by decide) (by decide) (by decide)])) cq e16 ?_ ?_ ⟨F1, ?_⟩ ?_ ?_ mb qi
  · unfold TP
    rw [t16, t18]
    exact ⟨rfl, by decide, fun i hi => by omega⟩
  · rw [o' 20 (by decide) (by decide) (by decide), o' 402 (by decide) (by decide) (by decide)]; exact c.2.2.2.1
  · rw [er, e43, o' 423 (by decide) (by decide) (by decide)]
    exact wo.to (by omega) (fun _ _ => rfl) (fun y hy h2 => by
      have : (y < 16 ∨ 19 ≤ y) ∧ (y < 329 ∨ 402 ≤ y) ∧ (y < 408 ∨ 415 ≤ y) := by
        rcases h2 with h2 | h2
        · omega
        · by_cases z : y < 426
          · rw [c7 y z] at h2; omega
          · omega
      exact ⟨by rw [kK], o' y this.1 this.2.1 this.2.2, by rw [kR]⟩)
  · exact c.imgs (by omega) (fun _ _ => rfl) (by rw [kR]) (fun y h1 h2 h3 => ⟨by rw [kK], o' y (by omega) (by omega) (by omega), by rw [kR]⟩) (o' 424 (by decide) (by decide) (by decide)) (o' 425 (by decide) (by decide) (by decide))
  · rw [e43]; exact ⟨m.2.2.2.2.1, m.2.2.2.2.2⟩
theorem FQ_18 (f : FQ q K H) (v : Int) : FQ q (sI K 401 18 v) (sI H 401 18 v) := by
  obtain ⟨⟨x1, x2, x3, x4⟩, x5, x6, x7, x8⟩ := f
  refine ⟨⟨x1, x2, x3, x4⟩, fun a h1 h2 => by rw [hI_sIn _ _ h1, hI_sIn _ _ h1, x5 a h1 h2], fun i h1 h2 h3 h4 => ?_, fun a i h1 h2 => by rw [hI_sIn _ _ (by omega), hI_sIn _ _ (by omega), x7 a i h1 h2], fun a i h1 h2 => by rw [hI_sIn _ _ (by omega), hI_sIn _ _ (by omega), x8 a i h1 h2]⟩
  by_cases c : i = 18
  · rw [c, hI_sIs, hI_sIs]
  · rw [hI_sId _ _ c, hI_sId _ _ c, x6 i h1 h2 h3 h4]
theorem FQ_S41 (K : AH) (q p : Nat) (φ : Int) : FQ q K (S41 K p φ) := ⟨⟨rfl, rfl, rfl, rfl⟩, fun _ h1 _ => s41_n h1, fun _ h1 h2 _ _ => s41_o h1 h2, fun _ _ h1 _ => by rw [s41_n (by omega)], fun _ _ h1 _ => by rw [s41_n (by omega)]⟩
theorem FQ.oq (f : FQ q K H) : OQ q K H := ⟨f.2.2.2.1, f.2.2.2.2⟩
/-- the new row -/
theorem new_row {W : Nat → Int} {s : Int} (hs : QS s W) (w0 : W 0 = s) (j1 : s = 2 → (0 ≤ W 1 ∧ W 1 < 3) ∧ 3 ≤ W 2 ∧ W 2 < 5) (j2 : s ≠ 2 → W 1 = -1 ∧ W 2 = -1) (hB : QB1 W) (e : ∀ a i, a ≠ 401 → hI H a i = r4F (hI K) q (finR W) t a i) : MBR H q ∧ QIR H q ∧ (∀ w, w < 19 → FM H q w = finR W w) ∧ bi (vdB W) = bi (rVd H q) ∧ ∀ (k : Int) i, i < 13 → qpW (finR W) k i = qp H q k i := by
  have fo : ∀ w, w < 3 ∨ 12 < w → finR W w = W w := fun w hw => by
    unfold finR
    split
    · unfold vdR; rw [if_neg (by omega)]
    · rfl
  have i411 : ∀ c, c < 5 → hI H 411 (5 * q + c) = finR W (3 + 2 * c) := fun c hc => by
    rw [e _ _ (by decide), rF_411, if_pos (by omega), show 5 * q + c - 5 * q = c by omega]
  have i412 : ∀ c, c < 5 → hI H 412 (5 * q + c) = finR W (4 + 2 * c) := fun c hc => by
    rw [e _ _ (by decide), rF_412, if_pos (by omega), show 5 * q + c - 5 * q = c by omega]
  have i408 : hI H 408 q = s := by rw [e _ _ (by decide), rF_408, if_pos rfl, fo 0 (by decide), w0]
  have i409 : hI H 409 q = W 1 := by rw [e _ _ (by decide), rF_409, if_pos rfl, fo 1 (by decide)]
  have i410 : hI H 410 q = W 2 := by rw [e _ _ (by decide), rF_410, if_pos rfl, fo 2 (by decide)]
  have i413 : hI H 413 q = W 13 := by rw [e _ _ (by decide), rF_413, if_pos rfl, fo 13 (by decide)]
  have i414 : ∀ j : Nat, j < 5 → (j : Int) < W 13 → hI H 414 (5 * q + j) = W (14 + j) := fun j h5 hj => by
    rw [e _ _ (by decide), rF_414, show 5 * q + j - 5 * q = j by omega, fo 13 (by decide), if_pos (by omega), fo _ (by omega)]
  have lh := lo_hi s
  have hs3 : s = 0 ∨ s = 1 ∨ s = 2 := by rw [← w0]; exact hB.1
  have bo : ∀ c, c < 5 → (0 ≤ finR W (3 + 2 * c) ∧ finR W (3 + 2 * c) ≤ 9) ∧ (0 ≤ finR W (4 + 2 * c) ∧ finR W (4 + 2 * c) ≤ 9) := fun c hc => by
    have b := hB.2 c hc
    unfold finR
    cases hv : vdB W
    · rw [if_neg (by decide)]
      unfold vdB at hv
      rw [decide_eq_false_iff_not] at hv
      have : c = 0 ∨ c = 1 ∨ c = 2 ∨ c = 3 ∨ c = 4 := by omega
      rcases this with rfl | rfl | rfl | rfl | rfl
      · simp only [Nat.reduceMul, Nat.reduceAdd] at *; omega
      · simp only [Nat.reduceMul, Nat.reduceAdd] at *; omega
      · simp only [Nat.reduceMul, Nat.reduceAdd] at *; omega
      · simp only [Nat.reduceMul, Nat.reduceAdd] at *; omega
      · simp only [Nat.reduceMul, Nat.reduceAdd] at *; omega
    · rw [if_pos rfl]
      unfold vdR
      rw [if_pos (by omega), if_pos (by omega), if_pos (by omega), if_neg (by omega)]
      decide
  refine ⟨⟨by rw [i408]; exact hs3, ?_, by rw [i413]; exact hs.1, fun j hj => ?_⟩, ⟨?_, fun c hc => ?_⟩, fun w hw => ?_, ?_, fun k i hi => ?_⟩
  · rw [i408, i409, i410]; exact j1
  · rw [i413] at hj
    have b := hs.2.1 j (by have := hs.1; omega) hj
    rw [i408, i414 j (by have := hs.1; omega) hj]
    have l0 : s = 0 → lo0 s = 0 ∧ hi0 s = 2 := fun h => by rw [h]; exact ⟨rfl, rfl⟩
    have l1 : s = 1 → lo0 s = 3 ∧ hi0 s = 4 := fun h => by rw [h]; exact ⟨rfl, rfl⟩
    refine ⟨by omega, by omega, fun h => ?_, fun h => ?_⟩
    · have := l0 h; omega
    · have := l1 h; omega
  · rw [i408, i409, i410]; exact j2
  · rw [i411 c hc, i412 c hc]; exact bo c hc
  · unfold FM
    rw [i408, i409, i410, i413]
    by_cases c0 : w = 0
    · rw [if_pos c0, c0, fo 0 (by decide), w0]
    · rw [if_neg c0]
      by_cases c1 : w = 1
      · rw [if_pos c1, c1, fo 1 (by decide)]
      · rw [if_neg c1]
        by_cases c2 : w = 2
        · rw [if_pos c2, c2, fo 2 (by decide)]
        · rw [if_neg c2]
          by_cases c12 : w ≤ 12
          · rw [if_pos c12, i411 _ (by omega), i412 _ (by omega)]
            by_cases od : (w - 3) % 2 = 0
            · rw [if_pos od, show 3 + 2 * ((w - 3) / 2) = w by omega]
            · rw [if_neg od, show 4 + 2 * ((w - 3) / 2) = w by omega]
          · rw [if_neg c12]
            by_cases c13 : w = 13
            · rw [if_pos c13, c13, fo 13 (by decide)]
            · rw [if_neg c13, fo w (by omega)]
              by_cases z : ((w - 14 : Nat) : Int) < W 13
              · rw [if_pos z, i414 _ (by omega) z, show 14 + (w - 14) = w by omega]
              · have := hs.2.2 (w - 14) (by omega) (by omega)
                rw [show 14 + (w - 14) = w by omega] at this
                rw [if_neg z, this]
  · have a := i411 0 (by decide)
    have b := i412 0 (by decide)
    rw [Nat.add_zero] at a b
    unfold rVd
    rw [tN (5 * (q : Int)) (5 * q) (by omega), a, b]
    unfold finR
    cases hv : vdB W
    · rw [if_neg (by decide)]
      unfold vdB at hv
      rw [decide_eq_false_iff_not] at hv
      rw [bi_f, bi_n]
      show ¬ W 4 < W 3
      omega
    · rw [if_pos rfl]; rfl
  · unfold qpW qp
    rw [i409, i410, fo 1 (by decide), fo 2 (by decide)]
    by_cases c0 : i = 0
    · rw [if_pos c0, if_pos c0]
    · rw [if_neg c0, if_neg c0]
      by_cases c1 : i = 1
      · rw [if_pos c1, if_pos c1]
      · rw [if_neg c1, if_neg c1]
        by_cases c2 : i = 2
        · rw [if_pos c2, if_pos c2]
        · rw [if_neg c2, if_neg c2]
          by_cases od : i % 2 = 1
          · rw [if_pos od, if_pos od, i411 _ (by omega), show 3 + 2 * ((i - 3) / 2) = i by omega]
          · rw [if_neg od, if_neg od, i412 _ (by omega), show 4 + 2 * ((i - 4) / 2) = i by omega]
theorem query_ok : OKC (Bat_query 16) (Mod_query 401) := by
  intro h own j sd
  obtain ⟨cc, mr⟩ := id j
  have m := mr.1
  obtain ⟨t1, t2, t3⟩ := cc.2.2.1.2
  have cb := mr.2.1.2.2.1
  obtain ⟨q, hc⟩ : ∃ q : Nat, hI h 401 10 = (q : Int) := ⟨(hI h 401 10).toNat, by omega⟩
  by_cases hq : q < 8
  · obtain ⟨n, ht⟩ : ∃ n : Nat, hI h 401 18 = (n : Int) := ⟨(hI h 401 18).toNat, by omega⟩
    have hn : n ≤ 400 := by omega
    obtain ⟨F, x1, x2, x3, x4, x5⟩ := query_C cc hc hq ht hn
    have mF : MS (WI h F) := m
    have oF : ∀ x, 401 ≤ x → F x = hI h x := fun x hx => x2 x (by omega) (by omega) (by omega)
    have rF : RDM (WI h F) n (hI h 17) := ⟨m, by rw [hI_WI, oF 401 (by decide)]; exact ht, hn, fun i hi => by
      rw [hI_WI, oF 415 (by decide)]; exact t3 i (by omega)⟩
    obtain ⟨K, p', ω', t', y1, y2, y3⟩ := query_M rF hq (by rw [hI_WI, oF 401 (by decide)]; exact hc)
    have wok := qyW_ok (T := hI h 17) hn
    have qp0 := qyF_p (T := hI h 17) (n := n)
    have hFo : OQ q h (WI h F) := ⟨fun a i h1 _ => by rw [hI_WI, oF a (by omega)], fun a i h1 _ => by rw [hI_WI, oF a (by omega)]⟩
    generalize qyF (hI h 17) n = Φ at *
    generalize qyW (hI h 17) n = W at *
    have f18 := FQ_18 y2 0
    have mK : MS K := MS_to mF (fun a _ _ => ⟨by rw [y2.1.2.2.1], by rw [y2.1.2.2.2]⟩)
    have mR : ∀ ω t, MS (R4 K q ω t) := fun _ _ => mK
    have mR8 : ∀ ω t, MS (R4 (sI K 401 18 0) q ω t) := fun _ _ => mK
    have tk1 : TK h (WI h F) := ⟨rfl, x2 15 (by omega) (by decide) (by decide)⟩
    -- all but the row
    have fin : ∀ X : AH, FQ q (sI (WI h F) 401 18 0) X → hN X = hN h ∧ hS X = hS h ∧ hK X = hK h ∧ hR X = hR h ∧ (∀ x, x ≠ 401 → ¬ (408 ≤ x ∧ x ≤ 414) → hI X x = F x) ∧ (∀ i, i ≠ 18 → i ≠ 19 → i ≠ 20 → i ≠ 22 → i ≠ 23 → hI X 401 i = hI h 401 i) ∧ hI X 401 18 = 0 ∧ OQ q h X := fun X f => by
      obtain ⟨⟨g1, g2, g3, g4⟩, g5, g6, g7, g8⟩ := f
      refine ⟨g1, g2, g3, g4, fun x h1 h2 => by rw [g5 x h1 h2, hI_sIn _ _ h1, hI_WI], fun i h1 h2 h3 h4 h5 => by rw [g6 i h2 h3 h4 h5, hI_sId _ _ h1, hI_WI, oF 401 (by decide)], by rw [g6 18 (by decide) (by decide) (by decide) (by decide), hI_sIs], ⟨fun a i h1 h2 => ?_, fun a i h1 h2 => ?_⟩⟩
      · rw [g7 a i h1 h2, hI_sIn _ _ (by omega), hI_WI, oF a (by omega)]
      · rw [g8 a i h1 h2, hI_sIn _ _ (by omega), hI_WI, oF a (by omega)]
    by_cases e : Φ = 0
    · obtain ⟨z1, z2⟩ := y3 e
      obtain ⟨w1, w2, w3, w4, w5, w6⟩ := wok e
      obtain ⟨u1', u2, u3⟩ := x5 e
      rw [if_pos e] at x1 x4
      rw [z1] at y1 z2
      generalize hX : S41 (R4 (sI K 401 18 0) q (finR W) t') p' 0 = X
      have fX : FQ q (sI (WI h F) 401 18 0) X := by
        rw [← hX]
        exact (f18.trans (FQ_R4 _ _ _ _)).trans (FQ_S41 _ _ _ _)
      obtain ⟨v1, v2, v3, v4, v5, v6, v7, v8⟩ := fin X fX
      have mo : Mod_query 401 (WI h F) = some ((q : Int), sI X 401 10 ((q : Int) + 1)) := by
        have mX : MS X := by rw [← hX]; exact mK
        have g22 : hI (sI X 401 10 ((q : Int) + 1)) 401 22 = q := by rw [hI_sId _ _ (by decide), ← hX, y_22]
        have g10 : hI X 401 10 = (q : Int) := by rw [v6 10 (by decide) (by decide) (by decide) (by decide) (by decide)]; exact hc
        rw [y1, e]
        unfold Mod_query_L95
        rw [p_m (s41_m (mR _ _) _ _), z_18, g_m (s41_m (mR8 _ _) _ _), s41_20, if_pos (by decide), c_m (s41_m (mR8 _ _) _ _), voids_m (K := sI K 401 18 0) hq mK, bnd_some, hX, g_m mX, g10, p_m mX, wr_id (by omega) (by omega), g_m (h := sI X 401 10 ((q : Int) + 1)) mX, g22]
      have H16 : ∀ i, hI (sI X 401 10 ((q : Int) + 1)) 16 i = F 16 i := fun i => by rw [hI_sIn _ _ (by decide), v5 16 (by decide) (by omega)]
      have c10 : hI (sI X 401 10 ((q : Int) + 1)) 401 10 = (q : Int) + 1 := by rw [hI_sIs]
      have oX : OQ q h (sI X 401 10 ((q : Int) + 1)) := ⟨fun a i h1 h2 => by rw [hI_sIn _ _ (by omega)]; exact v8.1 a i h1 h2, fun a i h1 h2 => by rw [hI_sIn _ _ (by omega)]; exact v8.2 a i h1 h2⟩
      have o : ∀ x, x ≠ 16 → x ≠ 18 → ¬ (329 + 9 * q ≤ x ∧ x < 329 + 9 * q + 9) → x ≠ 401 → ¬ (408 ≤ x ∧ x ≤ 414) → hI (sI X 401 10 ((q : Int) + 1)) x = hI h x := fun x h1 h2 h3 h4 h5 => by rw [hI_sIn _ _ h4, v5 x h4 h5, x2 x h3 h2 h1]
      obtain ⟨n1, n2, n3, n4, n5⟩ := new_row (H := sI X 401 10 ((q : Int) + 1)) (K := sI K 401 18 0) (q := q) (t := t') w1 w2 (by rw [w3, w4]; exact w5) (by rw [w3, w4]; exact w6) z2 (fun a i ha => by rw [hI_sIn _ _ ha, ← hX, s41_n ha]; rfl)
      have cqr : CQR (sI X 401 10 ((q : Int) + 1)) (sI X 401 10 ((q : Int) + 1)) q := by
        refine ⟨fun w hw => ?_, ?_, fun k hk i hi => ?_⟩
        · rw [n3 w hw, hI_sIn _ _ (by omega), v5 _ (by omega) (by omega), u1' w hw]
        · rw [← n4, hI_sIn _ _ (by omega), v5 _ (by omega) (by omega), u2]
        · rw [← n5 _ i hi, hI_sIn _ _ (by omega), v5 _ (by omega) (by omega), u3 k hk i hi]
      have mb := MB_q (H := sI X 401 10 ((q : Int) + 1)) mr.2.1 (o 402 (by decide) (by decide) (by omega) (by decide) (by decide)) hc hq oX (Or.inr ⟨c10, n1⟩)
      have qi := QI_q (H := sI X 401 10 ((q : Int) + 1)) mr.2.2.1 hc hq oX (Or.inr ⟨c10, n2⟩)
      have cq := CQ_q (H := sI X 401 10 ((q : Int) + 1)) cc.2.1 v3 v4 hc hq (fun x h1 h2 h3 => o x (by omega) (by omega) h3 (by omega) (by omega)) oX (Or.inr ⟨c10, cqr⟩)
      have J : JV (sI X 401 10 ((q : Int) + 1)) own := JV_q j hq v1 v3 v4 o (by rw [H16, x3]) (by rw [hI_sId _ _ (by decide), v7]) (by rw [hI_sId _ _ (by decide), v6 43 (by decide) (by decide) (by decide) (by decide) (by decide)]) (by rw [H16, x4, c10]) cq mb qi
      exact ⟨q, WI h F, sI X 401 10 ((q : Int) + 1), own, x1, mo, J, ⟨by show hK X 15 = _; rw [v3], o 15 (by decide) (by decide) (by omega) (by decide) (by decide)⟩, tk1, by show hN X ≤ _; omega, by show hS X ≤ _; omega, sd.of (by rw [o 402 (by decide) (by decide) (by omega) (by decide) (by decide)]) (o 424 (by decide) (by decide) (by omega) (by decide) (by decide)), rfl⟩
    · rw [if_neg e] at x1 x4
      generalize hX : S41 (R4 (sI K 401 18 0) q ω' t') p' Φ = X
      have fX : FQ q (sI (WI h F) 401 18 0) X := by
        rw [← hX]
        exact (f18.trans (FQ_R4 _ _ _ _)).trans (FQ_S41 _ _ _ _)
      obtain ⟨v1, v2, v3, v4, v5, v6, v7, v8⟩ := fin X fX
      have mo : Mod_query 401 (WI h F) = some (wr (-2 - Φ), X) := by
        rw [y1]
        unfold Mod_query_L95
        rw [p_m (s41_m (mR _ _) _ _), z_18, g_m (s41_m (mR8 _ _) _ _), s41_20, if_neg (by omega), g_m (s41_m (mR8 _ _) _ _), s41_20, hX]
      have c10 : hI X 401 10 = (q : Int) := by rw [v6 10 (by decide) (by decide) (by decide) (by decide) (by decide)]; exact hc
      have o : ∀ x, x ≠ 16 → x ≠ 18 → ¬ (329 + 9 * q ≤ x ∧ x < 329 + 9 * q + 9) → x ≠ 401 → ¬ (408 ≤ x ∧ x ≤ 414) → hI X x = hI h x := fun x h1 h2 h3 h4 h5 => by rw [v5 x h4 h5, x2 x h3 h2 h1]
      have H16 : ∀ i, hI X 16 i = F 16 i := fun i => by rw [v5 16 (by decide) (by omega)]
      have mb := MB_q (H := X) mr.2.1 (o 402 (by decide) (by decide) (by omega) (by decide) (by decide)) hc hq v8 (Or.inl c10)
      have qi := QI_q (H := X) mr.2.2.1 hc hq v8 (Or.inl c10)
      have cq := CQ_q (H := X) cc.2.1 v3 v4 hc hq (fun x h1 h2 h3 => o x (by omega) (by omega) h3 (by omega) (by omega)) v8 (Or.inl c10)
      have J : JV X own := JV_q j hq v1 v3 v4 o (by rw [H16, x3]) v7 (by rw [v6 43 (by decide) (by decide) (by decide) (by decide) (by decide)]) (by rw [H16, x4, c10]) cq mb qi
      exact ⟨wr (-2 - Φ), WI h F, X, own, x1, mo, J, ⟨by rw [v3], o 15 (by decide) (by decide) (by omega) (by decide) (by decide)⟩, tk1, by omega, by omega, sd.of (by rw [o 402 (by decide) (by decide) (by omega) (by decide) (by decide)]) (o 424 (by decide) (by decide) (by omega) (by decide) (by decide)), rfl⟩
  · have q8 : hI h 16 4 = 8 := by rw [cc.2.2.1.1]; omega
    refine ⟨-1, h, h, own, ?_, ?_, j, ⟨rfl, rfl⟩, ⟨rfl, rfl⟩, by omega, by omega, sd, rfl⟩
    · unfold Bat_query
      rw [gI_k cc.fx.1, q8, if_neg (by decide)]
    · unfold Mod_query
      rw [g_m m, hc, if_neg (by omega)]
end M6
