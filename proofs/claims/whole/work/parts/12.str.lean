/-! AM: String constants -/
def sLn (a : Nat) : Nat := sLens.getD (a - 1) 0
def sCh (a i : Nat) : Int := ((sByts.getD (a - 1) []).getD i 0).toInt
def sLen {β : Type} (a : Nat) (f : Int → Option β) : Option β := if 1 ≤ a ∧ a < 8 then f (sLn a : Int) else none
def sAt {β : Type} (a : Nat) (i : Int) (f : Int → Option β) : Option β := if (1 ≤ a ∧ a < 8) ∧ 0 ≤ i ∧ i < (sLn a : Int) then f (sCh a i.toNat) else none
section SS
variable {ρ : Type} {M : AMt} {fr lw : Nat} {em : ρ → Option AV} {pc pc' : Nat} {l : List (Nat × AV)} {st : List AV} {h : AH} {o : Option (ρ × AH)}
theorem Sd_ldcw {n : Int} {index : Nat} (d : decode M.2.1 pc = .ok (.ldc_w index, 3)) (hp : pc + 3 = pc') (hn : inR n) (hw : Cond.constant M.1.cls index (Int32.ofInt n) ∈ Tb) (k : Sd M fr lw em pc' l (vi n :: st) h o) : Sd M fr lw em pc l st h o := by
  subst hp
  exact Sd.stack (fun hvl hs => ⟨vok_i hn hs, fun E p lc e R s m args below meth c H locs ls cells slots Q C hl w => lv_ldcw C.1 C.2.1 C.2.2.2.2.1 (C.2.2.2.2.2.2.2.1 _ hw) d w⟩) k
def mMax (x y : Int) : Int := if x < y then y else x
def mMin (x y : Int) : Int := if y < x then y else x
theorem Sd_mmax {idx : Nat} {x y : Int} (d : decode M.2.1 pc = .ok (.invokestatic idx, 3)) (hp : pc + 3 = pc') (hl : Cond.methodLink M.1.cls idx Lib.Math.max.name ∈ Tb) (hw1 : Cond.static Lib.Math.max.name ∈ Tb) (hw2 : Cond.initialized "java/lang/Math" ∈ Tb) (hw3 : Cond.code Lib.Math.max.name Lib.Math.max.code 2 (some .int) ∈ Tb) (hfr : 1 ≤ fr) (hlw : (st.map catA).sum + 13 ≤ lw) (k : Sd M fr lw em pc' l (vi (mMax x y) :: st) h o) : Sd M fr lw em pc l (vi y :: vi x :: st) h o := by
  subst hp
  intro r h' ho
  obtain ⟨hm, hk⟩ := k r h' ho
  refine ⟨hm, fun E p lc e R s m args below meth c n0 s0 H locs ls C hc hs hn hn2 hH hSS hl1 hvl hvs => ?_⟩
  have hts := C.2.2.2.2.2.2.2.1
  have hx := iv (vok_tl hvs)
  have hy := iv hvs
  have hr : inR (mMax x y) := by unfold mMax; split <;> assumption
  refine va_mmax C.1 C.2.1 (by rw [C.2.2.1]; exact hl1.1.symm) C.2.2.2.2.1 (hts _ hl) (hts _ hw1) (hts _ hw2) (hts _ hw3) (by rw [C.2.2.2.2.2.2.2.2.1]; exact hfr) (by rw [catA_sum, C.2.2.2.2.2.2.2.2.2.1]; exact hlw) (by omega) (by omega) d ?_
  have e1 : (if Int32.ofInt x < Int32.ofInt y then Int32.ofInt y else Int32.ofInt x) = Int32.ofInt (mMax x y) := by
    unfold mMax; simp only [i32_lt hx hy]; split <;> rfl
  rw [e1]
  exact hk E p lc e R s m args below meth c n0 s0 H locs ls C hc hs hn hn2 hH hSS hl1 hvl (vok_i hr (vok_tl (vok_tl hvs)))
theorem Sd_mmin {idx : Nat} {x y : Int} (d : decode M.2.1 pc = .ok (.invokestatic idx, 3)) (hp : pc + 3 = pc') (hl : Cond.methodLink M.1.cls idx Lib.Math.min.name ∈ Tb) (hw1 : Cond.static Lib.Math.min.name ∈ Tb) (hw2 : Cond.initialized "java/lang/Math" ∈ Tb) (hw3 : Cond.code Lib.Math.min.name Lib.Math.min.code 2 (some .int) ∈ Tb) (hfr : 1 ≤ fr) (hlw : (st.map catA).sum + 13 ≤ lw) (k : Sd M fr lw em pc' l (vi (mMin x y) :: st) h o) : Sd M fr lw em pc l (vi y :: vi x :: st) h o := by
  subst hp
  intro r h' ho
  obtain ⟨hm, hk⟩ := k r h' ho
  refine ⟨hm, fun E p lc e R s m args below meth c n0 s0 H locs ls C hc hs hn hn2 hH hSS hl1 hvl hvs => ?_⟩
  have hts := C.2.2.2.2.2.2.2.1
  have hx := iv (vok_tl hvs)
  have hy := iv hvs
  have hr : inR (mMin x y) := by unfold mMin; split <;> assumption
  refine va_mmin C.1 C.2.1 (by rw [C.2.2.1]; exact hl1.1.symm) C.2.2.2.2.1 (hts _ hl) (hts _ hw1) (hts _ hw2) (hts _ hw3) (by rw [C.2.2.2.2.2.2.2.2.1]; exact hfr) (by rw [catA_sum, C.2.2.2.2.2.2.2.2.2.1]; exact hlw) (by omega) (by omega) d ?_
  have e1 : (if Int32.ofInt y < Int32.ofInt x then Int32.ofInt y else Int32.ofInt x) = Int32.ofInt (mMin x y) := by
    unfold mMin; simp only [i32_lt hy hx]; split <;> rfl
  rw [e1]
  exact hk E p lc e R s m args below meth c n0 s0 H locs ls C hc hs hn hn2 hH hSS hl1 hvl (vok_i hr (vok_tl (vok_tl hvs)))
theorem cvr_lo {E : AE} {a : Nat} (h0 : a ≠ 0) (h : a < 16) : cv E (vr a) = .ref (E.2.1 a) := by show rv E a = _; unfold rv cad; rw [if_neg h0, if_pos h]
theorem Sd.readS {st' : List AV}
    (hst : (∀ v ∈ st, vok v) → (∀ v ∈ st', vok v) ∧ ∀ (E : AE) (p : Program) (lc : Launch) (e : Env) (R : Room) (s : State) (m : MethodId) (args : Array Value) (below : List Frame) (meth : Method) (c : Code) (H : Heap) (locs : List Loc) (ls : Array Slot) (cells slots : Nat) (Q : State → Prop),
      Ctx M fr lw E p R s m args meth c → va_S (aLo E) s.heap H locs → W p lc e R s m args below meth c H locs cells slots Q (F0 m pc' ls (st'.map (cv E))) → W p lc e R s m args below meth c H locs cells slots Q (F0 m pc ls (st.map (cv E))))
    (k : Sd M fr lw em pc' l st' h o) : Sd M fr lw em pc l st h o := by
  intro r h' ho
  obtain ⟨hm, hk⟩ := k r h' ho
  refine ⟨hm, fun E p lc e R s m args below meth c n0 s0 H locs ls C hc hs hn hn2 hH hSS hl hvl hvs => ?_⟩
  obtain ⟨hv, hw⟩ := hst hvs
  exact hw E p lc e R s m args below meth c H locs ls _ _ _ C hSS (hk E p lc e R s m args below meth c n0 s0 H locs ls C hc hs hn hn2 hH hSS hl hvl hv)
def sOk (a : Nat) : Prop := 1 ≤ a ∧ a < 8
theorem Sd_sval {idx a : Nat} (ha : sOk a) (d : decode M.2.1 pc = .ok (.getfield idx, 3)) (hp : pc + 3 = pc') (hF : Cond.fieldLink M.1.cls idx "java/lang/String" "value" "[B" ∈ Tb) (k : Sd M fr lw em pc' l (vr (a + 7) :: st) h o) : Sd M fr lw em pc l (vr a :: st) h o := by
  subst hp
  obtain ⟨a1, a2⟩ := ha
  refine Sd.readS (fun hs => ⟨vok_r (vok_tl hs), fun E p lc e R s m args below meth c H locs ls cells slots Q C hSS w => ?_⟩) k
  have hX := C.2.2.2.2.2.2.2.2.2.2.2
  have hv := (hX.2.2.2.2.1.1 (a - 1) (by omega)).2.2.1
  rw [List.map_cons, cvr_lo (by omega) (by omega)] at w ⊢
  dsimp only at hv
  rw [show a - 1 + 1 = a by omega, show a - 1 + 8 = a + 7 by omega] at hv
  exact vk_getf C.1 C.2.1 hv hSS C.2.2.2.2.1 (C.2.2.2.2.2.2.2.1 _ hF) (fun _ z => z) d w
theorem Sd_scod {idx a : Nat} (ha : sOk a) (d : decode M.2.1 pc = .ok (.getfield idx, 3)) (hp : pc + 3 = pc') (hF : Cond.fieldLink M.1.cls idx "java/lang/String" "coder" "B" ∈ Tb) (k : Sd M fr lw em pc' l (vi 0 :: st) h o) : Sd M fr lw em pc l (vr a :: st) h o := by
  subst hp
  obtain ⟨a1, a2⟩ := ha
  refine Sd.readS (fun hs => ⟨vok_i inR0 (vok_tl hs), fun E p lc e R s m args below meth c H locs ls cells slots Q C hSS w => ?_⟩) k
  have hX := C.2.2.2.2.2.2.2.2.2.2.2
  have hv := (hX.2.2.2.2.1.1 (a - 1) (by omega)).2.1
  rw [List.map_cons, cvr_lo (by omega) (by omega)]
  dsimp only at hv
  rw [show a - 1 + 1 = a by omega] at hv
  exact vk_getf C.1 C.2.1 hv hSS C.2.2.2.2.1 (C.2.2.2.2.2.2.2.1 _ hF) (fun _ z => z) d w
theorem Sd_scmp {idx : Nat} (d : decode M.2.1 pc = .ok (.getstatic idx, 3)) (hp : pc + 3 = pc') (hF : Cond.fieldLink M.1.cls idx "java/lang/String" "COMPACT_STRINGS" "Z" ∈ Tb) (k : Sd M fr lw em pc' l (vi 1 :: st) h o) : Sd M fr lw em pc l st h o := by
  subst hp
  refine Sd.readS (fun hs => ⟨vok_i ⟨by decide, by decide⟩ hs, fun E p lc e R s m args below meth c H locs ls cells slots Q C hSS w => ?_⟩) k
  have hX := C.2.2.2.2.2.2.2.2.2.2.2
  exact va_gets C.1 C.2.1 hX.2.2.2.2.2.2 hSS C.2.2.2.2.1 (C.2.2.2.2.2.2.2.1 _ hF) (fun _ z => z) d w
theorem sLn_lt : ∀ a, a < 8 → sLn a < 5 := by decide
theorem Sd_sblen {a : Nat} (ha : sOk a) (d : decode M.2.1 pc = .ok (.arraylength, 1)) (hp : pc + 1 = pc') (k : Sd M fr lw em pc' l (vi (sLn a : Int) :: st) h o) : Sd M fr lw em pc l (vr (a + 7) :: st) h o := by
  subst hp
  obtain ⟨a1, a2⟩ := ha
  have hlt := sLn_lt a a2
  refine Sd.readS (fun hs => ⟨vok_i ⟨by omega, by omega⟩ (vok_tl hs), fun E p lc e R s m args below meth c H locs ls cells slots Q C hSS w => ?_⟩) k
  have hX := C.2.2.2.2.2.2.2.2.2.2.2
  have hv := (hX.2.2.2.2.1.1 (a - 1) (by omega)).2.2.2
  rw [List.map_cons, cvr_lo (by omega) (by omega)]
  dsimp only at hv
  rw [show a - 1 + 8 = a + 7 by omega] at hv
  exact va_tlen C.1 C.2.1 hv hSS (v := Int32.ofInt (sLn a : Int)) (ofInt_nat _).symm d w
theorem Sd_sbald {a : Nat} {i : Int} (ha : sOk a) (hi0 : 0 ≤ i) (hi1 : i < (sLn a : Int)) (d : decode M.2.1 pc = .ok (.baload, 1)) (hp : pc + 1 = pc') (k : Sd M fr lw em pc' l (vi (sCh a i.toNat) :: st) h o) : Sd M fr lw em pc l (vi i :: vr (a + 7) :: st) h o := by
  subst hp
  obtain ⟨a1, a2⟩ := ha
  have hlt := sLn_lt a a2
  refine Sd.readS (fun hs => ⟨vok_i (inR_toInt _) (vok_tl (vok_tl hs)), fun E p lc e R s m args below meth c H locs ls cells slots Q C hSS w => ?_⟩) k
  have hX := C.2.2.2.2.2.2.2.2.2.2.2
  have hv := (hX.2.2.2.2.1.1 (a - 1) (by omega)).2.2.2
  rw [List.map_cons, List.map_cons, cvr_lo (by omega) (by omega)]
  dsimp only at hv
  rw [show a - 1 + 8 = a + 7 by omega] at hv
  refine va_tb C.1 C.2.1 hv hSS (i32_in (iv hs) hi0 hi1) (v := .int (Int32.ofInt (sCh a i.toNat))) ?_ d w
  rw [i32_clamp (iv hs)]
  exact congrArg Value.int (of_toInt _).symm
theorem Sd_tret {x : Int} {ty : FieldType} (d : decode M.2.1 pc = .ok (.ireturn, 1)) (hr : M.2.2.2 = some ty) (hn : narrow ty (.int (Int32.ofInt x)) = .int (Int32.ofInt x)) : Sd M fr lw emI pc l [vi x] h (some (x, h)) := by
  intro r h' ho
  cases ho
  refine ⟨⟨Nat.le_refl _, Nat.le_refl _⟩, fun E p lc e R s m args below meth c n0 s0 H locs ls C hc hs hn1 hn2 hH hSS hl hvl hvs => ?_⟩
  exact W.zret C.1 C.2.1 (C.2.2.2.1.trans hr) hn (fun t ht hW => Qe_of rfl hH hSS (fun w hw => by cases hw; exact vok_hd hvs) ht hW) hSS.2.2 d C.2.2.2.2.2.1
def i2c (x : Int) : Int := ((Int32.ofInt x).toUInt32 % 65536).toInt32.toInt
theorem Sd_i2c {x : Int} (d : decode M.2.1 pc = .ok (.i2c, 1)) (hp : pc + 1 = pc') (k : Sd M fr lw em pc' l (vi (i2c x) :: st) h o) : Sd M fr lw em pc l (vi x :: st) h o := by
  subst hp
  exact Sd.stack (fun hvl hs => ⟨vok_i (inR_toInt _) (vok_tl hs), fun E p lc e R s m args below meth c H locs ls cells slots Q C hl w => lv_i2c C.1 C.2.1 d (of_toInt _).symm w⟩) k
/-- a call on a String constant -/
theorem Sd.callStr {ρ' : Type} {M' : AMt} {fr' lw' : Nat} {em' : ρ' → Option AV} {stk as : List AV} {o' : Option (ρ' × AH)} {kf : ρ' → AH → Option (ρ × AH)} {idx a n : Nat} (ha : sOk a) (d : decode M.2.1 pc = .ok (.invokevirtual idx, 3)) (hp : pc + 3 = pc') (hC : M'.1.cls = "java/lang/String") (hm : MOk M' n) (hl : Cond.methodLink M.1.cls idx M'.1 ∈ Tb) (hi : Cond.instanceMethod M'.1 ∈ Tb) (hsel : Cond.selects "java/lang/String" M'.1 M'.1 ∈ Tb)
    (hrm : fr' + 1 ≤ fr ∧ 8 + (M'.2.2.1 + 11) + lw' ≤ lw) (hn : as.length = n) (hst : stk = as.reverse ++ vr a :: st) (hcat : (st.map catA).sum ≤ 8) (hcs : CS M' fr' lw' em' (vr a :: as) h o')
    (kk : ∀ r1 h1, Sd M fr lw em pc' l ((em' r1).toList ++ st) h1 (kf r1 h1)) : Sd M fr lw em pc l stk h (bnd o' kf) := by
  obtain ⟨a1, a2⟩ := ha
  refine Sd.call hcs hp (fun hv => ?_) (fun h1 r1 E p lc e R s m args below meth c H locs ls cells slots C hH hSS hls hM hf => ?_) kk
  · subst hst
    refine ⟨fun v hv1 => ?_, fun v hv1 => hv v (List.mem_append_right _ (List.mem_cons_of_mem _ hv1))⟩
    rcases List.mem_cons.mp hv1 with rfl | hv1
    · exact trivial
    · exact hv v (List.mem_append_left _ (List.mem_reverse.mpr hv1))
  · have hts := C.2.2.2.2.2.2.2.1
    have hKK := C.2.2.2.2.2.2.2.2.2.2.1
    have hX := C.2.2.2.2.2.2.2.2.2.2.2
    have cw : CallW R s args M.1.cls M'.1.cls idx M'.1 M'.2.1 M'.2.2.1 M'.2.2.2 (Cond.code M'.1 M'.2.1 M'.2.2.1 M'.2.2.2 :: Tb) ({ frames := fr', cells := hN h1 - hN h, slots := hS h1 - hS h, locals := lw' }) (hN h1 - hN h) (hS h1 - hS h) n :=
      ⟨callB_of n hts (ws_good hm) rfl rfl rfl (hts _ hm.1) (hts _ hl) hm.2.2 ⟨by rw [C.2.2.2.2.2.2.2.2.1]; exact hrm.1, by rw [C.2.2.2.2.2.2.2.2.2.1]; exact hrm.2⟩, hts _ hi, by rw [hC]; exact hts _ hsel⟩
    have hpre : ∀ U : State, U.heap = H → s.WarmedH U.vm → Pe E (vr a :: as) h ((Value.ref (E.2.1 a) :: as.map (cv E)).toArray) U := fun U hU hW => by
      have := Pe_of (as := vr a :: as) hH hKK hX hSS hU hW
      rw [List.map_cons, cvr_lo (by omega) (by omega)] at this
      exact this
    have hstk : stk.map (cv E) = (as.map (cv E)).reverse ++ .ref (E.2.1 a) :: st.map (cv E) := by rw [hst, List.map_append, List.map_reverse, List.map_cons, cvr_lo (by omega) (by omega)]
    have hrecv : ∃ cellB : Cell, H[E.2.1 a]? = some cellB ∧ cellB.vm.isStatics = false ∧ s.vm.findClass M'.1.cls = some cellB.cls := by
      have := vk_recv (i := a - 1) hX.2.2.2.2.1 (by omega) hSS
      rw [show a - 1 + 1 = a by omega] at this
      rw [hC]; exact this
    have key := va_runV (e := e) (below := below) (meth := meth) (H := H) (locs := locs) (cells := cells) (slots := slots) (b := E.2.1 a) (As := as.map (cv E)) (rest := st.map (cv E)) (g := F0 m pc ls (stk.map (cv E))) ⟨C.1, C.2.1, C.2.2.1, C.2.2.2.2.1, hts⟩ hM cw ⟨Pe_blind E _ h, hrecv, hpre⟩ rfl (by rw [List.length_map]; exact hn) hls hstk (rest_ok hcat) d hf
    rw [← cvr_lo (E := E) (a := a) (by omega) (by omega)] at key
    exact key
theorem Sd.callStr1 {ρ' : Type} {M' : AMt} {fr' lw' : Nat} {em' : ρ' → Option AV} {stk as : List AV} {r0 : ρ'} {h0 : AH} {idx a n : Nat} (ha : sOk a) (d : decode M.2.1 pc = .ok (.invokevirtual idx, 3)) (hp : pc + 3 = pc') (hC : M'.1.cls = "java/lang/String") (hm : MOk M' n) (hl : Cond.methodLink M.1.cls idx M'.1 ∈ Tb) (hi : Cond.instanceMethod M'.1 ∈ Tb) (hsel : Cond.selects "java/lang/String" M'.1 M'.1 ∈ Tb)
    (hrm : fr' + 1 ≤ fr ∧ 8 + (M'.2.2.1 + 11) + lw' ≤ lw) (hn : as.length = n) (hst : stk = as.reverse ++ vr a :: st) (hcat : (st.map catA).sum ≤ 8) (hcs : CS M' fr' lw' em' (vr a :: as) h (some (r0, h0)))
    (k : Sd M fr lw em pc' l ((em' r0).toList ++ st) h0 o) : Sd M fr lw em pc l stk h o := by
  have key := Sd.callStr (kf := fun r1 h1 => @ite _ (r1 = r0 ∧ h1 = h0) (Classical.propDecidable _) o Option.none) (pc' := pc') ha d hp hC hm hl hi hsel hrm hn hst hcat hcs (fun r1 h1 => Sd.ite' (fun hc => by obtain ⟨rfl, rfl⟩ := hc; exact k))
  have e : bnd (some (r0, h0)) (fun r1 h1 => @ite _ (r1 = r0 ∧ h1 = h0) (Classical.propDecidable _) o Option.none) = o := if_pos ⟨rfl, rfl⟩
  rw [e] at key
  exact key
theorem Sd.callS1 {ρ' : Type} {M' : AMt} {fr' lw' : Nat} {em' : ρ' → Option AV} {stk as : List AV} {r0 : ρ'} {h0 : AH} {idx n : Nat} (d : decode M.2.1 pc = .ok (.invokestatic idx, 3)) (hp : pc + 3 = pc') (hm : MOk M' n) (hl : Cond.methodLink M.1.cls idx M'.1 ∈ Tb) (hstt : Cond.static M'.1 ∈ Tb)
    (hrm : fr' + 1 ≤ fr ∧ 8 + (M'.2.2.1 + 11) + lw' ≤ lw) (hn : as.length = n) (hst : stk = as.reverse ++ st) (hcat : (st.map catA).sum ≤ 8) (hcs : CS M' fr' lw' em' as h (some (r0, h0)))
    (k : Sd M fr lw em pc' l ((em' r0).toList ++ st) h0 o) : Sd M fr lw em pc l stk h o := by
  have key := Sd.callS (kf := fun r1 h1 => @ite _ (r1 = r0 ∧ h1 = h0) (Classical.propDecidable _) o Option.none) (pc' := pc') d hp hm hl hstt hrm hn hst hcat hcs (fun r1 h1 => Sd.ite' (fun hc => by obtain ⟨rfl, rfl⟩ := hc; exact k))
  have e : bnd (some (r0, h0)) (fun r1 h1 => @ite _ (r1 = r0 ∧ h1 = h0) (Classical.propDecidable _) o Option.none) = o := if_pos ⟨rfl, rfl⟩
  rw [e] at key
  exact key
end SS
/-- Preconditions.checkIndex, in range -/
def T_pck : List (Nat × Instr × Nat) := [(0, .iload_n 0, 1), (1, .ifCond .lt 8, 3), (4, .iload_n 0, 1), (5, .iload_n 1, 1), (6, .if_icmp .lt 10, 3), (9, .aload_n 2, 1), (10, .iload_n 0, 1), (11, .iload_n 1, 1), (12, .invokestatic 95, 3), (15, .athrow, 1), (16, .iload_n 0, 1), (17, .ireturn, 1)]
theorem D_pck : (T_pck.all fun q => decide (decode cJ3_checkIndex_8e157 q.1 = .ok q.2)) = true := by decide +kernel
theorem pck_met (lc : Launch) (E : AE) (i n : Int) (v : Value) (hi : inR i) (hn : inR n) (h0 : 0 ≤ i) (h1 : i < n) (hv : v = .null ∨ ∃ t, v = .ref t) : Met lc yJ3_checkIndex_8e157 (Cond.code yJ3_checkIndex_8e157 cJ3_checkIndex_8e157 3 (some .int) :: Tb) ({ frames := 1, cells := 0, slots := 0, locals := 0 }) (fun a _ => a = [Value.int (Int32.ofInt i), .int (Int32.ofInt n), v].toArray) (fun _ st oc t => oc = .returned (some (.int (Int32.ofInt i))) ∧ t.heap = st.heap) 0 0 (aLo E) := by
  refine Met.ofW (cc := cJ3_checkIndex_8e157) (maxL := 3) (ret := some .int) (by decide) rfl ?_
  intro p e s m args below meth c s₁ B hml hv1
  subst hv1
  have hx := B.exec
  have hb := B.bytes
  have hl := lv_entry [Value.int (Int32.ofInt i), .int (Int32.ofInt n), v] (n := 3) (by rcases hv with rfl | ⟨t, rfl⟩ <;> simp [lg_sl, Value.category])
  rw [lg_entry_eq]
  generalize (lg_sl [Value.int (Int32.ofInt i), .int (Int32.ofInt n), v] ++ List.replicate (3 - (lg_sl [Value.int (Int32.ofInt i), .int (Int32.ofInt n), v]).length) Slot.unset).toArray = ls at hl ⊢
  refine lv_iload_n hx hb (dc D_pck 0 rfl) rfl (lv_at hl 0 rfl) ?_
  refine lv_if_lt (tgt := 9) hx hb (dc D_pck 1 rfl) (by decide) (fun q => absurd q ((i32_nneg hi).mpr h0)) (fun _ => ?_)
  refine lv_iload_n hx hb (dc D_pck 2 rfl) rfl (lv_at hl 0 rfl) ?_
  refine lv_iload_n hx hb (dc D_pck 3 rfl) rfl (lv_at hl 1 rfl) ?_
  refine lv_icmp_lt (tgt := 16) hx hb (dc D_pck 4 rfl) (by decide) (fun _ => ?_) (fun q => absurd ((i32_lt hi hn).mpr h1) q)
  refine lv_iload_n hx hb (dc D_pck 10 rfl) rfl (lv_at hl 0 rfl) ?_
  exact W.iret hx hb B.returns (fun t ht _ => ⟨rfl, ht⟩) (fun q hq => by cases hq) (dc D_pck 11 rfl) B.notSynchronized
section ST
variable {ρ : Type} {M : AMt} {fr lw : Nat} {em : ρ → Option AV} {pc pc' : Nat} {l : List (Nat × AV)} {st : List AV} {h : AH} {o : Option (ρ × AH)}
theorem Sd_pck {idx idx2 : Nat} {i n : Int} (h0 : 0 ≤ i) (h1 : i < n) (d : decode M.2.1 pc = .ok (.getstatic idx, 3)) (d2 : decode M.2.1 (pc + 3) = .ok (.invokestatic idx2, 3)) (hp : pc + 6 = pc') (hF : Cond.fieldLink M.1.cls idx "jdk/internal/util/Preconditions" "SIOOBE_FORMATTER" "Ljava/util/function/BiFunction;" ∈ Tb)
    (hm : MOk (yJ3_checkIndex_8e157, cJ3_checkIndex_8e157, 3, some .int) 3) (hl2 : Cond.methodLink M.1.cls idx2 yJ3_checkIndex_8e157 ∈ Tb) (hst : Cond.static yJ3_checkIndex_8e157 ∈ Tb) (hrm : 2 ≤ fr ∧ 22 ≤ lw) (k : Sd M fr lw em pc' l [vi i] h o) : Sd M fr lw em pc l [vi n, vi i] h o := by
  subst hp
  intro r h' ho
  obtain ⟨hmm, hk⟩ := k r h' ho
  refine ⟨hmm, fun E p lc e R s m args below meth c n0 s0 H locs ls C hc hs hn hn2 hH hSS hl hvl hvs => ?_⟩
  have hX := C.2.2.2.2.2.2.2.2.2.2.2
  have hts := C.2.2.2.2.2.2.2.1
  have hn' : inR n := iv hvs
  have hi' : inR i := iv (vok_tl hvs)
  have key : ∀ v : Value, (v = .null ∨ ∃ t, v = .ref t) → W p lc e R s m args below meth c H locs (hN h - n0) (hS h - s0) (MQ below (Qe E em r h') args s (hN h' - n0) (hS h' - s0) (aLo E)) (F0 m (pc + 3) ls [v, .int (Int32.ofInt n), .int (Int32.ofInt i)]) := by
    intro v hv
    have run := va_runS (e := e) (below := below) (meth := meth) (H := H) (locs := locs) (cells := hN h - n0) (slots := hS h - s0) (n := 3) (As := [Value.int (Int32.ofInt i), .int (Int32.ofInt n), v]) (rest := []) (g := F0 m (pc + 3) ls [v, .int (Int32.ofInt n), .int (Int32.ofInt i)]) ⟨C.1, C.2.1, C.2.2.1, C.2.2.2.2.1, hts⟩ (pck_met lc E i n v hi' hn' h0 h1 hv) ⟨callB_of 3 hts (ws_good hm) rfl rfl rfl (hts _ hm.1) (hts _ hl2) hm.2.2 ⟨by rw [C.2.2.2.2.2.2.2.2.1]; exact hrm.1, by rw [C.2.2.2.2.2.2.2.2.2.1]; exact hrm.2⟩, hts _ hst⟩ ⟨fun _ _ _ _ q => q, fun _ _ _ => rfl⟩ rfl rfl hl.1 rfl (lv_room (m := m) (pc := pc + 3) (ls := ls) (st := []) (rest := [v, .int (Int32.ofInt n), .int (Int32.ofInt i)]) (by simp)) d2 ⟨by omega, by omega⟩
    intro T hT X
    obtain ⟨v1, st₀, t, T', L, e0, X', hL, e1, e2, ⟨q1, q2⟩, stp⟩ := run T hT X
    have hv1 : v1 = some (.int (Int32.ofInt i)) := by injection q1
    subst hv1
    have hH' : T'.heap = H := by rw [e1, q2, e0]
    obtain ⟨t2, a1, b1⟩ := hk E p lc e R s m args below meth c n0 s0 H (locs ++ L) ls C hc hs hn hn2 hH ⟨hSS.1, hSS.2.1, fun q hq => by
      rcases List.mem_append.mp hq with z | z
      · exact hSS.2.2 q z
      · exact hL q z⟩ hl hvl (vok_i hi' (fun _ z => by cases z)) T' hH' X'
    exact ⟨t2, stp t2 a1, b1⟩
  rcases hX.2.2.2.2.2.1 with hz | ⟨t, hz⟩
  · exact va_gets C.1 C.2.1 hz hSS C.2.2.2.2.1 (hts _ hF) (fun _ z => z) d (key .null (Or.inl rfl))
  · exact va_gets C.1 C.2.1 hz hSS C.2.2.2.2.1 (hts _ hF) (fun _ z => z) d (key (.ref t) (Or.inr ⟨t, rfl⟩))
end ST
abbrev M_sck : AMt := (yJ0_checkIndex_df160, cJ0_checkIndex_df160, 2, none)
def T_sck : List (Nat × Instr × Nat) := [(0, .iload_n 0, 1), (1, .iload_n 1, 1), (2, .getstatic 1053, 3), (5, .invokestatic 1059, 3), (8, .pop, 1), (9, .return_, 1)]
theorem D_sck : (T_sck.all fun q => decide (decode M_sck.2.1 q.1 = .ok q.2)) = true := by decide +kernel
theorem K_pck : MOk (yJ3_checkIndex_8e157, cJ3_checkIndex_8e157, 3, some .int) 3 := ⟨Tb_at 137 (by decide +kernel) rfl, Tb_at 569 (by decide +kernel) rfl, by decide +kernel, by decide +kernel, by decide +kernel⟩
theorem s_sck (i n : Int) (h : AH) (h0 : 0 ≤ i) (h1 : i < n) : CS M_sck 2 22 emV [vi i, vi n] h (some ((), h)) := by
  refine CS.of (by decide) (Nat.le_of_ble_eq_true rfl) ?_
  show Sd M_sck 2 22 emV 0 [(0, vi i), (1, vi n)] [] h _
  refine Sd_iload_n (pc' := 1) (dc D_sck 0 rfl) rfl 0 rfl rfl ?_
  refine Sd_iload_n (pc' := 2) (dc D_sck 1 rfl) rfl 1 rfl rfl ?_
  refine Sd_pck (pc' := 8) h0 h1 (dc D_sck 2 rfl) (dc D_sck 3 rfl) rfl (Tb_at 565 (by decide +kernel) rfl) K_pck (Tb_at 567 (by decide +kernel) rfl) (Tb_at 568 (by decide +kernel) rfl) ⟨by decide, by decide⟩ ?_
  refine Sd_pop (pc' := 9) (dc D_sck 4 rfl) rfl (cat_i _) ?_
  exact Sd_vret (dc D_sck 5 rfl) rfl
abbrev M_scoder : AMt := (yJ0_coder_7d493, cJ0_coder_7d493, 1, some .byte)
def T_scoder : List (Nat × Instr × Nat) := [(0, .getstatic 38, 3), (3, .ifCond .eq 10, 3), (6, .aload_n 0, 1), (7, .getfield 15, 3), (10, .goto 4, 3), (13, .iconst 1, 1), (14, .ireturn, 1)]
theorem D_scoder : (T_scoder.all fun q => decide (decode M_scoder.2.1 q.1 = .ok q.2)) = true := by decide +kernel
theorem s_scoder (a : Nat) (ha : sOk a) (h : AH) : CS M_scoder 1 0 emI [vr a] h (some (0, h)) := by
  refine CS.of (by decide) (Nat.le_of_ble_eq_true rfl) ?_
  show Sd M_scoder 1 0 emI 0 [(0, vr a)] [] h _
  refine Sd_scmp (pc' := 3) (dc D_scoder 0 rfl) rfl (Tb_at 549 (by decide +kernel) rfl) ?_
  refine Sd.eq (o' := if (1 : Int) = 0 then none else some (0, h)) rfl ?_
  refine Sd_if_eq (tgt := 13) (pc' := 6) (dc D_scoder 1 rfl) (by decide) rfl (fun q => absurd q (by decide)) (fun _ => ?_)
  refine Sd_aload_n (pc' := 7) (dc D_scoder 2 rfl) rfl 0 rfl rfl ?_
  refine Sd_scod (pc' := 10) ha (dc D_scoder 3 rfl) rfl (Tb_at 1901 (by decide +kernel) rfl) ?_
  refine Sd_goto (tgt := 14) (dc D_scoder 4 rfl) (by decide) ?_
  exact Sd_tret (dc D_scoder 6 rfl) rfl rfl
abbrev M_slat : AMt := (yJ0_isLatin1_aae02, cJ0_isLatin1_aae02, 1, some .boolean)
def T_slat : List (Nat × Instr × Nat) := [(0, .getstatic 38, 3), (3, .ifCond .eq 14, 3), (6, .aload_n 0, 1), (7, .getfield 15, 3), (10, .ifCond .ne 7, 3), (13, .iconst 1, 1), (14, .goto 4, 3), (17, .iconst 0, 1), (18, .ireturn, 1)]
theorem D_slat : (T_slat.all fun q => decide (decode M_slat.2.1 q.1 = .ok q.2)) = true := by decide +kernel
theorem s_slat (a : Nat) (ha : sOk a) (h : AH) : CS M_slat 1 0 emI [vr a] h (some (1, h)) := by
  refine CS.of (by decide) (Nat.le_of_ble_eq_true rfl) ?_
  show Sd M_slat 1 0 emI 0 [(0, vr a)] [] h _
  refine Sd_scmp (pc' := 3) (dc D_slat 0 rfl) rfl (Tb_at 549 (by decide +kernel) rfl) ?_
  refine Sd.eq (o' := if (1 : Int) = 0 then none else some (1, h)) rfl ?_
  refine Sd_if_eq (tgt := 17) (pc' := 6) (dc D_slat 1 rfl) (by decide) rfl (fun q => absurd q (by decide)) (fun _ => ?_)
  refine Sd_aload_n (pc' := 7) (dc D_slat 2 rfl) rfl 0 rfl rfl ?_
  refine Sd_scod (pc' := 10) ha (dc D_slat 3 rfl) rfl (Tb_at 1901 (by decide +kernel) rfl) ?_
  refine Sd.eq (o' := if ¬ (0 : Int) = 0 then none else some (1, h)) rfl ?_
  refine Sd_if_ne (tgt := 17) (pc' := 13) (dc D_slat 4 rfl) (by decide) rfl (fun q => absurd rfl q) (fun _ => ?_)
  refine Sd_iconst (pc' := 14) (dc D_slat 5 rfl) rfl ⟨by decide, by decide⟩ ?_
  refine Sd_goto (tgt := 18) (dc D_slat 6 rfl) (by decide) ?_
  exact Sd_zret (dc D_slat 8 rfl) rfl (Or.inr rfl)
abbrev M_slen : AMt := (yJ0_length_8abf5, cJ0_length_8abf5, 1, some .int)
def T_slen : List (Nat × Instr × Nat) := [(0, .aload_n 0, 1), (1, .getfield 9, 3), (4, .arraylength, 1), (5, .aload_n 0, 1), (6, .invokevirtual 335, 3), (9, .ishr, 1), (10, .ireturn, 1)]
theorem D_slen : (T_slen.all fun q => decide (decode M_slen.2.1 q.1 = .ok q.2)) = true := by decide +kernel
theorem K_scoder : MOk M_scoder 0 := ⟨Tb_at 135 (by decide +kernel) rfl, Tb_at 548 (by decide +kernel) rfl, by decide +kernel, by decide +kernel, by decide +kernel⟩
theorem K_slat : MOk M_slat 0 := ⟨Tb_at 135 (by decide +kernel) rfl, Tb_at 558 (by decide +kernel) rfl, by decide +kernel, by decide +kernel, by decide +kernel⟩
theorem iShr0 {x : Int} (hx : inR x) : iShr x 0 = x := by
  unfold iShr
  rw [show Int32.ofInt x >>> (Int32.ofInt 0 &&& 31) = Int32.ofInt x from sb_shr0 _, inR_ofInt hx]
theorem s_slen (a : Nat) (ha : sOk a) (h : AH) : CS M_slen 2 20 emI [vr a] h (some ((sLn a : Int), h)) := by
  refine CS.of (by decide) (Nat.le_of_ble_eq_true rfl) ?_
  show Sd M_slen 2 20 emI 0 [(0, vr a)] [] h _
  refine Sd_aload_n (pc' := 1) (dc D_slen 0 rfl) rfl 0 rfl rfl ?_
  refine Sd_sval (pc' := 4) ha (dc D_slen 1 rfl) rfl (Tb_at 1900 (by decide +kernel) rfl) ?_
  refine Sd_sblen (pc' := 5) ha (dc D_slen 2 rfl) rfl ?_
  refine Sd_aload_n (pc' := 6) (dc D_slen 3 rfl) rfl 0 rfl rfl ?_
  refine Sd.callStr1 (as := []) (pc' := 9) ha (dc D_slen 4 rfl) rfl rfl K_scoder (Tb_at 545 (by decide +kernel) rfl) (Tb_at 546 (by decide +kernel) rfl) (Tb_at 547 (by decide +kernel) rfl) ⟨by decide, by decide⟩ rfl rfl (Nat.le_of_ble_eq_true rfl) (s_scoder a ha h) ?_
  show Sd M_slen 2 20 emI 9 [(0, vr a)] [vi 0, vi (sLn a : Int)] h _
  refine Sd_ishr (pc' := 10) (dc D_slen 5 rfl) rfl ?_
  rw [iShr0 ⟨by have := sLn_lt a ha.2; omega, by have := sLn_lt a ha.2; omega⟩]
  exact Sd_iret (dc D_slen 6 rfl) rfl
abbrev M_lch : AMt := (yJ1_charAt_3b067, cJ1_charAt_3b067, 2, some .char)
def T_lch : List (Nat × Instr × Nat) := [(0, .iload_n 1, 1), (1, .aload_n 0, 1), (2, .arraylength, 1), (3, .invokestatic 9, 3), (6, .aload_n 0, 1), (7, .iload_n 1, 1), (8, .baload, 1), (9, .sipush 255, 3), (12, .iand, 1), (13, .i2c, 1), (14, .ireturn, 1)]
theorem D_lch : (T_lch.all fun q => decide (decode M_lch.2.1 q.1 = .ok q.2)) = true := by decide +kernel
theorem K_sck : MOk M_sck 2 := ⟨Tb_at 135 (by decide +kernel) rfl, Tb_at 564 (by decide +kernel) rfl, by decide +kernel, by decide +kernel, by decide +kernel⟩
theorem sCh_ok : ∀ a, a < 8 → ∀ i, i < sLn a → i2c (iAnd (sCh a i) 255) = sCh a i ∧ narrow .char (.int (Int32.ofInt (sCh a i))) = .int (Int32.ofInt (sCh a i)) := by decide +kernel
theorem s_lch (a : Nat) (i : Int) (ha : sOk a) (h0 : 0 ≤ i) (h1 : i < (sLn a : Int)) (h : AH) : CS M_lch 3 43 emI [vr (a + 7), vi i] h (some (sCh a i.toNat, h)) := by
  refine CS.of (by decide) (Nat.le_of_ble_eq_true rfl) ?_
  show Sd M_lch 3 43 emI 0 [(0, vr (a + 7)), (1, vi i)] [] h _
  obtain ⟨e1, e2⟩ := sCh_ok a ha.2 i.toNat (by omega)
  refine Sd_iload_n (pc' := 1) (dc D_lch 0 rfl) rfl 1 rfl rfl ?_
  refine Sd_aload_n (pc' := 2) (dc D_lch 1 rfl) rfl 0 rfl rfl ?_
  refine Sd_sblen (pc' := 3) ha (dc D_lch 2 rfl) rfl ?_
  refine Sd.callS1 (as := [vi i, vi (sLn a : Int)]) (pc' := 6) (dc D_lch 3 rfl) rfl K_sck (Tb_at 562 (by decide +kernel) rfl) (Tb_at 563 (by decide +kernel) rfl) ⟨by decide, by decide⟩ rfl rfl (Nat.le_of_ble_eq_true rfl) (s_sck i (sLn a : Int) h h0 h1) ?_
  show Sd M_lch 3 43 emI 6 [(0, vr (a + 7)), (1, vi i)] [] h _
  refine Sd_aload_n (pc' := 7) (dc D_lch 4 rfl) rfl 0 rfl rfl ?_
  refine Sd_iload_n (pc' := 8) (dc D_lch 5 rfl) rfl 1 rfl rfl ?_
  refine Sd_sbald (pc' := 9) ha h0 h1 (dc D_lch 6 rfl) rfl ?_
  refine Sd_sipush (pc' := 12) (dc D_lch 7 rfl) rfl ⟨by decide, by decide⟩ (by decide) ?_
  refine Sd_iand (pc' := 13) (dc D_lch 8 rfl) rfl ?_
  refine Sd_i2c (pc' := 14) (dc D_lch 9 rfl) rfl ?_
  rw [e1]
  exact Sd_tret (dc D_lch 10 rfl) rfl e2
abbrev M_sch : AMt := (yJ0_charAt_5068e, cJ0_charAt_5068e, 2, some .char)
def T_sch : List (Nat × Instr × Nat) := [(0, .aload_n 0, 1), (1, .invokevirtual 492, 3), (4, .ifCond .eq 12, 3), (7, .aload_n 0, 1), (8, .getfield 9, 3), (11, .iload_n 1, 1), (12, .invokestatic 495, 3), (15, .ireturn, 1), (16, .aload_n 0, 1), (17, .getfield 9, 3), (20, .iload_n 1, 1), (21, .invokestatic 498, 3), (24, .ireturn, 1)]
theorem D_sch : (T_sch.all fun q => decide (decode M_sch.2.1 q.1 = .ok q.2)) = true := by decide +kernel
theorem K_lch : MOk M_lch 2 := ⟨Tb_at 136 (by decide +kernel) rfl, Tb_at 561 (by decide +kernel) rfl, by decide +kernel, by decide +kernel, by decide +kernel⟩
theorem s_sch (a : Nat) (i : Int) (ha : sOk a) (h0 : 0 ≤ i) (h1 : i < (sLn a : Int)) (h : AH) : CS M_sch 4 64 emI [vr a, vi i] h (some (sCh a i.toNat, h)) := by
  refine CS.of (by decide) (Nat.le_of_ble_eq_true rfl) ?_
  show Sd M_sch 4 64 emI 0 [(0, vr a), (1, vi i)] [] h _
  obtain ⟨e1, e2⟩ := sCh_ok a ha.2 i.toNat (by omega)
  refine Sd_aload_n (pc' := 1) (dc D_sch 0 rfl) rfl 0 rfl rfl ?_
  refine Sd.callStr1 (as := []) (pc' := 4) ha (dc D_sch 1 rfl) rfl rfl K_slat (Tb_at 555 (by decide +kernel) rfl) (Tb_at 556 (by decide +kernel) rfl) (Tb_at 557 (by decide +kernel) rfl) ⟨by decide, by decide⟩ rfl rfl (Nat.le_of_ble_eq_true rfl) (s_slat a ha h) ?_
  show Sd M_sch 4 64 emI 4 [(0, vr a), (1, vi i)] [vi 1] h _
  refine Sd.eq (o' := if (1 : Int) = 0 then none else some (sCh a i.toNat, h)) rfl ?_
  refine Sd_if_eq (tgt := 16) (pc' := 7) (dc D_sch 2 rfl) (by decide) rfl (fun q => absurd q (by decide)) (fun _ => ?_)
  refine Sd_aload_n (pc' := 8) (dc D_sch 3 rfl) rfl 0 rfl rfl ?_
  refine Sd_sval (pc' := 11) ha (dc D_sch 4 rfl) rfl (Tb_at 1900 (by decide +kernel) rfl) ?_
  refine Sd_iload_n (pc' := 12) (dc D_sch 5 rfl) rfl 1 rfl rfl ?_
  refine Sd.callS1 (as := [vr (a + 7), vi i]) (pc' := 15) (dc D_sch 6 rfl) rfl K_lch (Tb_at 559 (by decide +kernel) rfl) (Tb_at 560 (by decide +kernel) rfl) ⟨by decide, by decide⟩ rfl rfl (Nat.le_of_ble_eq_true rfl) (s_lch a i ha h0 h1 h) ?_
  show Sd M_sch 4 64 emI 15 [(0, vr a), (1, vi i)] [vi (sCh a i.toNat)] h _
  exact Sd_tret (dc D_sch 7 rfl) rfl e2
theorem K_slen : MOk M_slen 0 := ⟨Tb_at 135 (by decide +kernel) rfl, Tb_at 544 (by decide +kernel) rfl, by decide +kernel, by decide +kernel, by decide +kernel⟩
theorem K_sch : MOk M_sch 1 := ⟨Tb_at 135 (by decide +kernel) rfl, Tb_at 554 (by decide +kernel) rfl, by decide +kernel, by decide +kernel, by decide +kernel⟩
section SU
variable {ρ : Type} {M : AMt} {fr lw : Nat} {em : ρ → Option AV} {pc pc' : Nat} {l : List (Nat × AV)} {st : List AV} {h : AH} {o : Option (ρ × AH)}
theorem Sd_strlen {idx a : Nat} {f : Int → Option (ρ × AH)} (d : decode M.2.1 pc = .ok (.invokevirtual idx, 3)) (hp : pc + 3 = pc') (hl : Cond.methodLink M.1.cls idx yJ0_length_8abf5 ∈ Tb) (hrm : 4 ≤ fr ∧ 80 ≤ lw) (hcat : (st.map catA).sum ≤ 8) (k : Sd M fr lw em pc' l (vi (sLn a : Int) :: st) h (f (sLn a : Int))) : Sd M fr lw em pc l (vr a :: st) h (sLen a f) := by
  refine Sd.ite' ?_
  intro ha
  exact Sd.callStr1 (as := []) ha d hp rfl K_slen hl (Tb_at 542 (by decide +kernel) rfl) (Tb_at 543 (by decide +kernel) rfl) ⟨by omega, by show 8 + (1 + 11) + 20 ≤ lw; omega⟩ rfl rfl hcat (s_slen a ha h) k
theorem Sd_strat {idx a : Nat} {i : Int} {f : Int → Option (ρ × AH)} (d : decode M.2.1 pc = .ok (.invokevirtual idx, 3)) (hp : pc + 3 = pc') (hl : Cond.methodLink M.1.cls idx yJ0_charAt_5068e ∈ Tb) (hrm : 6 ≤ fr ∧ 150 ≤ lw) (hcat : (st.map catA).sum ≤ 8) (k : Sd M fr lw em pc' l (vi (sCh a i.toNat) :: st) h (f (sCh a i.toNat))) : Sd M fr lw em pc l (vi i :: vr a :: st) h (sAt a i f) := by
  refine Sd.ite' ?_
  intro ⟨ha, h0, h1⟩
  exact Sd.callStr1 (as := [vi i]) ha d hp rfl K_sch hl (Tb_at 552 (by decide +kernel) rfl) (Tb_at 553 (by decide +kernel) rfl) ⟨by omega, by show 8 + (2 + 11) + 64 ≤ lw; omega⟩ rfl rfl hcat (s_sch a i ha h0 h1 h) k
end SU
theorem W_mmax1 : Cond.static Lib.Math.max.name ∈ Tb := Tb_at 728 (by decide +kernel) rfl
theorem W_mmax3 : Cond.code Lib.Math.max.name Lib.Math.max.code 2 (some .int) ∈ Tb := Tb_at 729 (by decide +kernel) rfl
theorem W_mmin1 : Cond.static Lib.Math.min.name ∈ Tb := Tb_at 514 (by decide +kernel) rfl
theorem W_mmin3 : Cond.code Lib.Math.min.name Lib.Math.min.code 2 (some .int) ∈ Tb := Tb_at 515 (by decide +kernel) rfl
theorem W_m2 : Cond.initialized "java/lang/Math" ∈ Tb := Tb_at 134 (by decide +kernel) rfl
