/-! AM: cells -/
theorem cad_hi (E : AE) {a : Nat} (h : 16 ≤ a) : cad E a = E.1 + (a - 16) := by unfold cad; rw [if_neg (by omega)]
theorem wsO_len (E : AE) (h : AH) : (wsO E h).length = hN h := by simp [wsO]
theorem wsO_get (E : AE) {h : AH} {a : Nat} (h1 : 16 ≤ a) (h2 : a < 16 + hN h) : (wsO E h)[a - 16]? = some (cad E a, cel E h a) := by
  unfold wsO
  rw [List.getElem?_map, List.getElem?_range (by omega), cad_hi E h1]
  show some (E.1 + (a - 16), cel E h (16 + (a - 16))) = _
  rw [show 16 + (a - 16) = a by omega]
theorem wsO_D (E : AE) (h : AH) : va_D (aLo E) (wsO E h) := by
  have key : ∀ (i : Nat) (p : Nat × va_E), (wsO E h)[i]? = some p → p.1 = E.1 + i := by
    intro i p hp
    have hi : i < hN h := by rw [← wsO_len E h]; exact (List.getElem?_eq_some_iff.mp hp).1
    unfold wsO at hp
    rw [List.getElem?_map, List.getElem?_range hi] at hp
    cases hp; rfl
  refine ⟨fun i j p q hp hq e => ?_, fun k q hq => ?_⟩
  · have := key i p hp; have := key j q hq; omega
  · show E.1 ≤ q.1
    rw [key k q hq]; omega
theorem RH.sz {E : AE} {h : AH} {U : State} {H : Heap} (hH : RH E h U H) : H.size = E.1 + hN h := hH.1
theorem RH.in {E : AE} {h : AH} {U : State} {H : Heap} (hH : RH E h U H) {a t : Nat} (ht : (hK h a).1 = t) (h0 : t ≠ 0) (h24 : t ≠ 24) : 16 ≤ a ∧ a < 16 + hN h := by
  obtain ⟨-, -, h3, -, -, h6, -⟩ := hH
  by_cases h15 : a = 15
  · subst h15
    rcases h6 with h6 | ⟨h6, -⟩
    · exact absurd (ht.symm.trans h6) h0
    · exact absurd (ht.symm.trans h6) h24
  · by_cases hc : a < 15 ∨ 16 + hN h ≤ a
    · rw [h3 a hc] at ht; exact absurd ht.symm h0
    · omega
theorem RH.moved {E : AE} {h : AH} {u U : State} {H : Heap} (hvm : u.vm.Alike U.vm) (hH : RH E h u H) : RH E h U H := by
  obtain ⟨h1, h2, h3, h4, h5, h6, h7⟩ := hH
  exact ⟨h1, h2, h3, h4, h5, h6.imp_right (fun ⟨a, b, c⟩ => ⟨a, b, c.moved hvm⟩), h7⟩
theorem cel_obj {E : AE} {h : AH} {a ci : Nat} (ht : (hK h a).1 = ci + 1) (hc : ci + 1 < 20) : cel E h a = .inr (ci, fL E h ci a) := by
  unfold cel; rw [ht, if_pos hc, Nat.add_sub_cancel]
theorem cel_int {E : AE} {h : AH} {a t : Nat} (ht : (hK h a).1 = t) (hc : ¬ t < 20) (hc2 : t < 30) : cel E h a = .inl (E.2.2.2.2 t, (hK h a).2, .inl fun i => Int32.ofInt (hI h a i)) := by
  unfold cel; rw [ht, if_neg hc, if_pos hc2]
theorem cel_ref {E : AE} {h : AH} {a t : Nat} (ht : (hK h a).1 = t) (hc : ¬ t < 20) (hc2 : ¬ t < 30) : cel E h a = .inl (E.2.2.2.2 t, (hK h a).2, .inr (.inr (.inr (.inr fun i => ro E (hR h a i))))) := by
  unfold cel; rw [ht, if_neg hc, if_neg hc2]
theorem fL_get {E : AE} {h : AH} {ci a k : Nat} (hk : k < cN ci) : (fL E h ci a)[k]? = some (fV E h ci a k) := by
  unfold fL; rw [List.getElem?_map, List.getElem?_range hk]; rfl
/-- one cell is another one -/
theorem RH.upd {E : AE} {h h' : AH} {U : State} {H H1 : Heap} {a : Nat} (hH : RH E h U H) (h16 : 16 ≤ a) (hlt : a < 16 + hN h) (hn : hN h' = hN h) (hk : hK h' = hK h) (hi : ∀ a k, inR (hI h' a k)) (h15 : hI h' 15 = hI h 15) (ho : ∀ b, b ≠ a → cel E h' b = cel E h b)
    (he : va_at (aD E) vwCl (cad E a, cel E h' a) H1) (hz : H1.size = H.size) (hq : ∀ q : Nat, q ≠ cad E a → H1[q]? = H[q]?) : RH E h' U H1 := by
  obtain ⟨h1, h2, h3, h4, h5, h6, h7⟩ := hH
  refine ⟨by rw [hz, hn]; exact h1, ?_, by rw [hk, hn]; exact h3, hi, by rw [hk]; exact h5, ?_, by rw [hk, hn]; exact h7⟩
  · have e : wsO E h' = (wsO E h).set (a - 16) (cad E a, cel E h' a) := by
      apply List.ext_getElem?
      intro k
      by_cases hka : k = a - 16
      · subst hka
        rw [List.getElem?_set_self (by rw [wsO_len]; omega), wsO_get E h16 (by rw [hn]; exact hlt)]
      · rw [List.getElem?_set_ne (Ne.symm hka)]
        by_cases hkl : k < hN h
        · have g1 := wsO_get E (h := h') (a := 16 + k) (by omega) (by omega)
          have g2 := wsO_get E (h := h) (a := 16 + k) (by omega) (by omega)
          rw [show 16 + k - 16 = k by omega] at g1 g2
          rw [g1, g2, ho (16 + k) (by omega)]
        · rw [List.getElem?_eq_none (by rw [wsO_len]; omega), List.getElem?_eq_none (by rw [wsO_len]; omega)]
    rw [e]
    exact h2.set (wsO_D E h) (wsO_get E h16 hlt) he hq
  · rw [hk, h15]
    refine h6.imp_right (fun ⟨x1, x2, x3⟩ => ⟨x1, x2, x3.kept (hq _ ?_)⟩)
    rw [cad_hi E h16]; omega
theorem va_S.wr {E : AE} {s : State} {H H1 : Heap} {locs : List Loc} {a k : Nat} (hS : va_S (aLo E) s.heap H locs) (h16 : 16 ≤ a) (hz : H1.size = H.size) (hq : ∀ q : Nat, q ≠ cad E a → H1[q]? = H[q]?) : va_S (aLo E) s.heap H1 (locs ++ [⟨cad E a, k⟩]) := hS.put hz hq (by show E.1 ≤ cad E a; rw [cad_hi E h16]; omega)
/-- a read of one cell goes on -/
theorem Sd.read {ρ : Type} {M : AMt} {fr lw : Nat} {em : ρ → Option AV} {pc pc' : Nat} {l : List (Nat × AV)} {st st' : List AV} {h : AH} {o : Option (ρ × AH)}
    (hst : (∀ v ∈ st, vok v) → (∀ a k, inR (hI h a k)) → (∀ a, (hK h a).2 < 2 ^ 31) → (∀ v ∈ st', vok v) ∧ ∀ (E : AE) (p : Program) (lc : Launch) (e : Env) (R : Room) (s : State) (m : MethodId) (args : Array Value) (below : List Frame) (meth : Method) (c : Code) (H : Heap) (locs : List Loc) (ls : Array Slot) (cells slots : Nat) (Q : State → Prop),
      Ctx M fr lw E p R s m args meth c → RH E h s H → W p lc e R s m args below meth c H locs cells slots Q (F0 m pc' ls (st'.map (cv E))) → W p lc e R s m args below meth c H locs cells slots Q (F0 m pc ls (st.map (cv E))))
    (k : Sd M fr lw em pc' l st' h o) : Sd M fr lw em pc l st h o := by
  intro r h' ho
  obtain ⟨hm, hk⟩ := k r h' ho
  refine ⟨hm, fun E p lc e R s m args below meth c n0 s0 H locs ls C hc hs hn hn2 hH hS hl hvl hvs => ?_⟩
  obtain ⟨hv, hw⟩ := hst hvs hH.2.2.2.1 hH.2.2.2.2.1
  exact hw E p lc e R s m args below meth c H locs ls _ _ _ C hH (hk E p lc e R s m args below meth c n0 s0 H locs ls C hc hs hn hn2 hH hS hl hvl hv)
/-- a write of one cell goes on -/
theorem Sd.write {ρ : Type} {M : AMt} {fr lw : Nat} {em : ρ → Option AV} {pc pc' : Nat} {l : List (Nat × AV)} {st st' : List AV} {h h1 : AH} {o : Option (ρ × AH)} (hn : hN h1 = hN h) (hs : hS h1 = hS h)
    (hst : (∀ v ∈ st, vok v) → (∀ a k, inR (hI h a k)) → (∀ v ∈ st', vok v) ∧ ∀ (E : AE) (p : Program) (lc : Launch) (e : Env) (R : Room) (s : State) (m : MethodId) (args : Array Value) (below : List Frame) (meth : Method) (c : Code) (H : Heap) (locs : List Loc) (ls : Array Slot) (cells slots : Nat) (Q : State → Prop),
      Ctx M fr lw E p R s m args meth c → 1 ≤ R.frames → RH E h s H → lv_has ls M.2.2.1 (l.map (cvp E)) → va_S (aLo E) s.heap H locs → (∀ (H1 : Heap) (locs1 : List Loc), RH E h1 s H1 → va_S (aLo E) s.heap H1 locs1 → W p lc e R s m args below meth c H1 locs1 cells slots Q (F0 m pc' ls (st'.map (cv E)))) → W p lc e R s m args below meth c H locs cells slots Q (F0 m pc ls (st.map (cv E))))
    (hfr : 1 ≤ fr) (k : Sd M fr lw em pc' l st' h1 o) : Sd M fr lw em pc l st h o := by
  intro r h' ho
  obtain ⟨hm, hk⟩ := k r h' ho
  rw [hn, hs] at hm
  refine ⟨hm, fun E p lc e R s m args below meth c n0 s0 H locs ls C hc hs1 hn1 hn2 hH hS hl hvl hvs => ?_⟩
  obtain ⟨hv, hw⟩ := hst hvs hH.2.2.2.1
  refine hw E p lc e R s m args below meth c H locs ls _ _ _ C (by rw [C.2.2.2.2.2.2.2.2.1]; exact hfr) hH hl hS (fun H1 locs1 hH1 hS1 => ?_)
  have := hk E p lc e R s m args below meth c n0 s0 H1 locs1 ls C hc hs1 (by rw [hn]; exact hn1) (by rw [hs]; exact hn2) hH1 hS1 hl hvl hv
  rw [hn, hs] at this
  exact this
/-- the word of a field, at its place -/
def FLk (own : String) (idx ci k : Nat) : Prop := ∃ q : vw_C, vwCl[ci]? = some q ∧ q.2.2 = cN ci ∧ k < cN ci ∧ Cond.fieldLink own idx (q.2.1 k).1 (q.2.1 k).2.1 (q.2.1 k).2.2.1 ∈ Tb
def aTy (ci k : Nat) : FieldType := match ci with
  | 0 => tyX0 k | 1 => tyX1 k | 2 => tyX2 k | 3 => tyX3 k | 4 => tyX4 k | 5 => tyX5 k | 6 => tyX6 k | 7 => tyX7 k | 8 => tyX8 k | 9 => tyX9 k | 10 => tyX10 k | 11 => tyX11 k | _ => tyX12 k
def tyKind (t : FieldType) : Nat := match t with
  | .int => 0 | .boolean => 1 | .object _ => 2 | .array _ => 2 | _ => 3
theorem aTy_fk : ∀ ci, ci < 13 → ∀ k, k < cN ci → tyKind (aTy ci k) = fk ci k := by decide +kernel
theorem Tb_sub {ws : List Cond} (hg : GoodIn lw_tbl ws) (hw : ws.all goodWord = true) : ∀ w ∈ ws, w ∈ Tb := fun w h => Tb_in (hg w h).1 (List.all_eq_true.mp hw w h)
theorem cls_ok (ci : Nat) (q : vw_C) (hq : vwCl[ci]? = some q) : q.2.2 = cN ci ∧ (∀ w ∈ u_ws q.1 q.2.1 q.2.2, w ∈ Tb) ∧ (∀ k, k < q.2.2 → parseFieldDescriptor (q.2.1 k).2.2.1 = some (aTy ci k)) ∧ (∀ a, a < q.2.2 → ∀ b, b < q.2.2 → a ≠ b → (q.2.1 a).2.1 ≠ (q.2.1 b).2.1) := by
  have hlt : ci < 13 := (List.getElem?_eq_some_iff.mp hq).1
  match ci, hq with
  | 0, hq => cases hq; exact ⟨rfl, Tb_sub inX0 (by decide +kernel), tyX0_ok, nmX0⟩
  | 1, hq => cases hq; exact ⟨rfl, Tb_sub inX1 (by decide +kernel), tyX1_ok, nmX1⟩
  | 2, hq => cases hq; exact ⟨rfl, Tb_sub inX2 (by decide +kernel), tyX2_ok, nmX2⟩
  | 3, hq => cases hq; exact ⟨rfl, Tb_sub inX3 (by decide +kernel), tyX3_ok, nmX3⟩
  | 4, hq => cases hq; exact ⟨rfl, Tb_sub inX4 (by decide +kernel), tyX4_ok, nmX4⟩
  | 5, hq => cases hq; exact ⟨rfl, Tb_sub inX5 (by decide +kernel), tyX5_ok, nmX5⟩
  | 6, hq => cases hq; exact ⟨rfl, Tb_sub inX6 (by decide +kernel), tyX6_ok, nmX6⟩
  | 7, hq => cases hq; exact ⟨rfl, Tb_sub inX7 (by decide +kernel), tyX7_ok, nmX7⟩
  | 8, hq => cases hq; exact ⟨rfl, Tb_sub inX8 (by decide +kernel), tyX8_ok, nmX8⟩
  | 9, hq => cases hq; exact ⟨rfl, Tb_sub inX9 (by decide +kernel), tyX9_ok, nmX9⟩
  | 10, hq => cases hq; exact ⟨rfl, Tb_sub inX10 (by decide +kernel), tyX10_ok, nmX10⟩
  | 11, hq => cases hq; exact ⟨rfl, Tb_sub inX11 (by decide +kernel), tyX11_ok, nmX11⟩
  | 12, hq => cases hq; exact ⟨rfl, Tb_sub inX12 (by decide +kernel), tyX12_ok, nmX12⟩
  | k + 13, hq => omega
