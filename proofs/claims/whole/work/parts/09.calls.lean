/-! AM: arraycopy, ends, calls -/
/-- System.arraycopy of ints -/
def cI2 (h : AH) (src sp dst dp n : Nat) : AH := (hN h, hS h, hK h, fun b => if b = dst then va_cpy (hI h src) (hI h dst) sp dp n else hI h b, hR h)
def cp {β : Type} (h : AH) (src : Nat) (sp : Int) (dst : Nat) (dp n : Int) (f : AH → Option β) : Option β :=
  if (hK h src).1 = 21 ∧ (hK h dst).1 = 21 ∧ 0 ≤ sp ∧ 0 ≤ dp ∧ 0 ≤ n ∧ sp + n ≤ ((hK h src).2 : Int) ∧ dp + n ≤ ((hK h dst).2 : Int) then f (cI2 h src sp.toNat dst dp.toNat n.toNat) else none
theorem hI_cI2 (h : AH) (src sp dst dp n b : Nat) : hI (cI2 h src sp dst dp n) b = if b = dst then va_cpy (hI h src) (hI h dst) sp dp n else hI h b := rfl
section SZ
variable {ρ : Type} {M : AMt} {fr lw : Nat} {em : ρ → Option AV} {pc pc' tgt : Nat} {l l' : List (Nat × AV)} {st st' : List AV} {h : AH} {o o1 o2 : Option (ρ × AH)}
def catA (v : AV) : Nat := match v with
  | .inr (.inl _) => 2
  | _ => 1
theorem catA_cv (E : AE) (v : AV) : (cv E v).category = catA v := by
  rcases v with z | z | a
  · rfl
  · rfl
  · show (rv E a).category = 1
    unfold rv; split <;> rfl
theorem catA_sum (E : AE) (st : List AV) : ((st.map (cv E)).map fun v => v.category).sum = (st.map catA).sum := by
  rw [List.map_map]; congr 1; apply List.map_congr_left; intro v _; exact catA_cv E v
theorem cpy_nar {f g : Nat → Int} {sp dp n : Nat} : (fun j => Int32.ofInt (va_cpy f g sp dp n j)) = va_cpy (fun j => Int32.ofInt (f j)) (fun j => Int32.ofInt (g j)) sp dp n := by
  funext j; unfold va_cpy; split <;> rfl
theorem Sd_copy {idx src dst : Nat} {sp dp n : Int} {f : AH → Option (ρ × AH)} (d : decode M.2.1 pc = .ok (.invokestatic idx, 3)) (hp : pc + 3 = pc') (hw1 : Cond.methodLink M.1.cls idx arraycopyName ∈ Tb) (hw2 : Cond.native arraycopyName ∈ Tb) (hw3 : Cond.static arraycopyName ∈ Tb) (hw4 : Cond.initialized "java/lang/System" ∈ Tb) (hfr : 1 ≤ fr)
    (hlw : (st.map catA).sum + (nativeFrameWords "java/lang/System" "arraycopy" 5 + 11) ≤ lw) (kk : Sd M fr lw em pc' l st (cI2 h src sp.toNat dst dp.toNat n.toNat) (f (cI2 h src sp.toNat dst dp.toNat n.toNat))) : Sd M fr lw em pc l (vi n :: vi dp :: vr dst :: vi sp :: vr src :: st) h (cp h src sp dst dp n f) := by
  subst hp
  refine Sd.ite' ?_
  intro ⟨hc0, hc1, hs0, hd0, hn0, hb1, hb2⟩
  refine Sd.write (h1 := cI2 h src sp.toNat dst dp.toNat n.toNat) rfl rfl (fun hs hi => ⟨vok_tl (vok_tl (vok_tl (vok_tl (vok_tl hs)))), fun E p lc e R s m args below meth c H locs ls cells slots Q C hfr1 hH hl hS w => ?_⟩) hfr kk
  have hsp : inR sp := iv (vok_tl (vok_tl (vok_tl hs)))
  have hdp : inR dp := iv (vok_tl hs)
  have hn : inR n := iv hs
  have hts := C.2.2.2.2.2.2.2.1
  have hKK := C.2.2.2.2.2.2.2.2.2.2.1
  obtain ⟨s1, s2⟩ := hH.in hc0 (by decide) (by decide)
  obtain ⟨g1, g2⟩ := hH.in hc1 (by decide) (by decide)
  rw [List.map_cons, List.map_cons, List.map_cons, List.map_cons, List.map_cons, cvr_ref s1, cvr_ref g1]
  have x0 := hH.2.1 (src - 16) _ (wsO_get E s1 s2)
  rw [cel_int hc0 (by decide) (by decide)] at x0
  have x1 := hH.2.1 (dst - 16) _ (wsO_get E g1 g2)
  rw [cel_int hc1 (by decide) (by decide)] at x1
  have hx0 : H[cad E src]? = some (vp_cell (E.2.2.2.2 21) ((hK h src).2, .inl fun i => Int32.ofInt (hI h src i))) := x0
  have hx1 : H[cad E dst]? = some (vp_cell (E.2.2.2.2 21) ((hK h dst).2, .inl fun i => Int32.ofInt (hI h dst i))) := x1
  intro T hT X
  obtain ⟨-, k0, hk0, cm0, hkk0⟩ := (hKK.2 0 _ (aTs_get E (j := 0) rfl)).1 (hK h src).2 (fun j => .int (Int32.ofInt (hI h src j)))
  obtain ⟨-, k1, hk1, cm1, hkk1⟩ := (hKK.2 0 _ (aTs_get E (j := 0) rfl)).1 (hK h dst).2 (fun j => .int (Int32.ofInt (hI h dst j)))
  obtain ⟨vm', X', step⟩ := X.arraycopy C.1 C.2.2.2.2.1 (hts _ hw1) (hts _ hw2) (hts _ hw3) (hts _ hw4) (src := cad E src) (dst := cad E dst) (cs := vp_cell (E.2.2.2.2 21) ((hK h src).2, .inl fun i => Int32.ofInt (hI h src i))) (cd := vp_cell (E.2.2.2.2 21) ((hK h dst).2, .inl fun i => Int32.ofInt (hI h dst i))) (srcPos := Int32.ofInt sp) (destPos := Int32.ofInt dp) (n := Int32.ofInt n) (by rw [hT]; exact hx0) (by rw [hT]; exact hx1)
    (fun _ h => by cases h) (fun _ h => by cases h) (fun h => by cases h) (fun h => by cases h) hk0 hk1 hkk0 hkk1 (by simp [refKind]) ((i32_nneg hsp).mpr hs0) ((i32_nneg hdp).mpr hd0) ((i32_nneg hn).mpr hn0)
    (by rw [inR_ofInt hsp, inR_ofInt hn]; show ¬ _ > ((arrV _ (hK h src).2 _).slots.size : Int); rw [arrV_size]; omega)
    (by rw [inR_ofInt hdp, inR_ofInt hn]; show ¬ _ > ((arrV _ (hK h dst).2 _).slots.size : Int); rw [arrV_size]; omega)
    (fun vm₁ _ i hi1 => by
      rw [i32_clamp hn] at hi1
      have e : (vp_cell (E.2.2.2.2 21) ((hK h src).2, .inl fun i => Int32.ofInt (hI h src i))).slots.getD ((Int32.ofInt sp).toNatClampNeg + i) .null = .int (Int32.ofInt (hI h src (sp.toNat + i))) := by
        show (arrV _ (hK h src).2 (fun j => .int (Int32.ofInt (hI h src j)))).slots.getD _ _ = _
        rw [i32_clamp hsp, Array.getD_eq_getD_getElem?, arrV_read _ _ (by omega)]
        rfl
      refine ⟨?_, ?_⟩
      · rw [e]; rfl
      · rw [e]
        exact trivial)
    (g := F0 m pc ls (.int (Int32.ofInt n) :: .int (Int32.ofInt dp) :: .ref (cad E dst) :: .int (Int32.ofInt sp) :: .ref (cad E src) :: st.map (cv E))) rfl (by rw [C.2.2.1]; exact hl.1) (rest := st.map (cv E)) rfl (by rw [C.2.1]; exact d) hfr1 (by show 2 * 0 + _ + _ ≤ _; rw [catA_sum, C.2.2.2.2.2.2.2.2.2.1]; omega)
  have h4 : (Int32.ofInt sp).toNatClampNeg + (Int32.ofInt n).toNatClampNeg ≤ (hK h src).2 := by rw [i32_clamp hsp, i32_clamp hn]; omega
  have e1 : copied (vp_cell (E.2.2.2.2 21) ((hK h src).2, .inl fun i => Int32.ofInt (hI h src i))) (vp_cell (E.2.2.2.2 21) ((hK h dst).2, .inl fun i => Int32.ofInt (hI h dst i))) (Int32.ofInt sp) (Int32.ofInt dp) (Int32.ofInt n) = vp_cell (E.2.2.2.2 21) ((hK h dst).2, .inl (va_cpy (fun i => Int32.ofInt (hI h src i)) (fun i => Int32.ofInt (hI h dst i)) (Int32.ofInt sp).toNatClampNeg (Int32.ofInt dp).toNatClampNeg (Int32.ofInt n).toNatClampNeg)) := va_copied (fun z => .int z) (E.2.2.2.2 21) (E.2.2.2.2 21) (fun i => Int32.ofInt (hI h src i)) (fun i => Int32.ofInt (hI h dst i)) h4
  rw [e1] at X' step
  have hlt : cad E dst < H.size := (Array.getElem?_eq_some_iff.mp hx1).1
  generalize hcell : vp_cell (E.2.2.2.2 21) ((hK h dst).2, .inl (va_cpy (fun i => Int32.ofInt (hI h src i)) (fun i => Int32.ofInt (hI h dst i)) (Int32.ofInt sp).toNatClampNeg (Int32.ofInt dp).toNatClampNeg (Int32.ofInt n).toNatClampNeg)) = cellN at X' step
  have hheap : ((T.setVm vm').setCell (cad E dst) cellN).heap = H.setIfInBounds (cad E dst) cellN := by rw [← hT]; rfl
  have oq : ∀ q : Nat, q ≠ cad E dst → (H.setIfInBounds (cad E dst) cellN)[q]? = H[q]? := fun q hq => by simp [Array.getElem?_setIfInBounds, Ne.symm hq]
  have oz : (H.setIfInBounds (cad E dst) cellN).size = H.size := by simp
  have oa : (H.setIfInBounds (cad E dst) cellN)[cad E dst]? = some cellN := by simp [Array.getElem?_setIfInBounds, hlt]
  have hR1 : RH E (cI2 h src sp.toNat dst dp.toNat n.toNat) s (H.setIfInBounds (cad E dst) cellN) := by
    refine hH.upd g1 g2 rfl rfl (fun b k => ?_) (by rw [hI_cI2, if_neg (by omega)]) (fun b hb => cel_congr rfl (by rw [hI_cI2, if_neg hb]) rfl) ?_ oz oq
    · rw [hI_cI2]; split
      · unfold va_cpy; split
        · exact hi _ _
        · exact hi _ _
      · exact hi _ _
    · rw [cel_int (E := E) (h := cI2 h src sp.toNat dst dp.toNat n.toNat) (a := dst) (t := 21) hc1 (by decide) (by decide)]
      show (H.setIfInBounds (cad E dst) cellN)[cad E dst]? = some (vp_cell _ _)
      rw [oa, ← hcell, hI_cI2, if_pos rfl, cpy_nar, i32_clamp hsp, i32_clamp hdp, i32_clamp hn]; rfl
  have hlo : aLo E (cad E dst) := by show E.1 ≤ cad E dst; rw [cad_hi E g1]; omega
  obtain ⟨t, a1, b1⟩ := w _ _ hR1 ⟨by rw [oz]; exact hS.1, fun q z1 z2 => by
      rw [oq q (fun e => z2 (by rw [e]; exact hlo))]
      exact hS.2.1 q z1 z2, fun q hq => by
      rcases List.mem_append.mp hq with h | h
      · exact hS.2.2 q h
      · obtain ⟨z, -, hz⟩ := List.mem_map.mp h
        rw [← hz]
        exact hlo⟩ _ hheap X'
  exact ⟨t, step t a1, b1⟩
/-! ends -/
def emI (r : Int) : Option AV := some (vi r)
def emV (_ : Unit) : Option AV := none
def emR (r : Nat) : Option AV := some (vr r)
theorem Qe_of {E : AE} {em : ρ → Option AV} {r : ρ} {args : Array Value} {s t : State} {H : Heap} {locs : List Loc} {v : Option Value} (hv : v = (em r).map (cv E)) (hH : RH E h s H) (hS : va_S (aLo E) s.heap H locs) (hvk : ∀ w, em r = some w → vok w) (ht : t.heap = H) (hW : s.WarmedH t.vm) : Qe E em r h args s (.returned v) t :=
  ⟨by rw [hv], by rw [ht]; exact hH.moved hW.alike, hS.F ht, hvk⟩
theorem Sd_iret {x : Int} (d : decode M.2.1 pc = .ok (.ireturn, 1)) (hr : M.2.2.2 = some .int) : Sd M fr lw emI pc l [vi x] h (some (x, h)) := by
  intro r h' ho
  cases ho
  refine ⟨⟨Nat.le_refl _, Nat.le_refl _⟩, fun E p lc e R s m args below meth c n0 s0 H locs ls C hc hs hn hn2 hH hS hl hvl hvs => ?_⟩
  exact W.iret C.1 C.2.1 (C.2.2.2.1.trans hr) (fun t ht hW => Qe_of rfl hH hS (fun w hw => by cases hw; exact vok_hd hvs) ht hW) hS.2.2 d C.2.2.2.2.2.1
theorem Sd_zret {x : Int} (d : decode M.2.1 pc = .ok (.ireturn, 1)) (hr : M.2.2.2 = some .boolean) (hx : x = 0 ∨ x = 1) : Sd M fr lw emI pc l [vi x] h (some (x, h)) := by
  intro r h' ho
  cases ho
  refine ⟨⟨Nat.le_refl _, Nat.le_refl _⟩, fun E p lc e R s m args below meth c n0 s0 H locs ls C hc hs hn hn2 hH hS hl hvl hvs => ?_⟩
  exact W.zret C.1 C.2.1 (C.2.2.2.1.trans hr) (by rcases hx with rfl | rfl <;> rfl) (fun t ht hW => Qe_of rfl hH hS (fun w hw => by cases hw; exact vok_hd hvs) ht hW) hS.2.2 d C.2.2.2.2.2.1
/-- a boolean that isn't known to be one -/
def rz (x : Int) (h : AH) : Option (Int × AH) := if x = 0 ∨ x = 1 then some (x, h) else none
theorem Sd_zret' {x : Int} (d : decode M.2.1 pc = .ok (.ireturn, 1)) (hr : M.2.2.2 = some .boolean) : Sd M fr lw emI pc l [vi x] h (rz x h) := Sd.ite' (fun hx => Sd_zret d hr hx)
theorem Sd_vret (d : decode M.2.1 pc = .ok (.return_, 1)) (hr : M.2.2.2 = none) : Sd M fr lw emV pc l [] h (some ((), h)) := by
  intro r h' ho
  cases ho
  refine ⟨⟨Nat.le_refl _, Nat.le_refl _⟩, fun E p lc e R s m args below meth c n0 s0 H locs ls C hc hs hn hn2 hH hS hl hvl hvs => ?_⟩
  exact W.vret C.1 C.2.1 (C.2.2.2.1.trans hr) (fun t ht hW => Qe_of rfl hH hS (fun w hw => by cases hw) ht hW) hS.2.2 d C.2.2.2.2.2.1
theorem Sd_aret {a : Nat} {C0 : String} (d : decode M.2.1 pc = .ok (.areturn, 1)) (hr : M.2.2.2 = some (.object C0)) : Sd M fr lw emR pc l [vr a] h (some (a, h)) := by
  intro r h' ho
  cases ho
  refine ⟨⟨Nat.le_refl _, Nat.le_refl _⟩, fun E p lc e R s m args below meth c n0 s0 H locs ls C hc hs hn hn2 hH hS hl hvl hvs => ?_⟩
  exact W.aret C.1 C.2.1 (C.2.2.2.1.trans hr) (Or.inl ⟨_, rfl⟩) (by show rv E a = .null ∨ ∃ b, rv E a = .ref b; unfold rv; split; exact Or.inl rfl; exact Or.inr ⟨_, rfl⟩) (fun t ht hW => Qe_of rfl hH hS (fun w hw => by cases hw; exact trivial) ht hW) hS.2.2 d C.2.2.2.2.2.1
end SZ
