/-! AM: methods and calls -/
def Pe (E : AE) (as : List AV) (h : AH) : Array Value → State → Prop := fun v U => v = (as.map (cv E)).toArray ∧ RH E h U U.heap ∧ va_K (aD E) vwCl (atys E) U ∧ Ext E U
/-- a method, called with these on this heap, comes to its end as 'o' says -/
def CS {ρ : Type} (M : AMt) (fr lw : Nat) (em : ρ → Option AV) (as : List AV) (h : AH) (o : Option (ρ × AH)) : Prop :=
  ∀ (r : ρ) (h' : AH), o = some (r, h') → (hN h ≤ hN h' ∧ hS h ≤ hS h') ∧ ((∀ v ∈ as, vok v) → ∀ (E : AE) (lc : Launch),
    Met lc M.1 (Cond.code M.1 M.2.1 M.2.2.1 M.2.2.2 :: Tb) ({ frames := fr, cells := hN h' - hN h, slots := hS h' - hS h, locals := lw }) (Pe E as h) (Qe E em r h') (hN h' - hN h) (hS h' - hS h) (aLo E))
def lvA : Nat → List AV → List (Nat × AV)
  | _, [] => []
  | i, v :: vs => (i, v) :: lvA (if isL v then i + 2 else i + 1) vs
theorem lvA_map (E : AE) : ∀ (vs : List AV) (i : Nat), lv_args i (vs.map (cv E)) = (lvA i vs).map (cvp E)
  | [], _ => rfl
  | v :: vs, i => by
    show (i, cv E v) :: lv_args _ (vs.map (cv E)) = (i, cv E v) :: (lvA _ vs).map (cvp E)
    rw [lvA_map E vs]
    congr 3
    have := cat_isL E v
    cases hv : isL v
    · rw [hv] at this; rw [if_neg (by simpa using this)]; rfl
    · rw [hv] at this; rw [if_pos (by simpa using this)]; rfl
theorem lvA_vok : ∀ (vs : List AV) (i : Nat), (∀ v ∈ vs, vok v) → ∀ q ∈ lvA i vs, vok q.2
  | [], _, _, q, hq => by cases hq
  | v :: vs, i, h, q, hq => by
    rcases List.mem_cons.mp hq with rfl | hq
    · exact h v List.mem_cons_self
    · exact lvA_vok vs _ (fun w hw => h w (List.mem_cons_of_mem _ hw)) q hq
theorem lg_len (E : AE) : ∀ vs : List AV, (lg_sl (vs.map (cv E))).length = (vs.map catA).sum
  | [] => rfl
  | v :: vs => by
    have ih := lg_len E vs
    unfold lg_sl at ih ⊢
    rw [List.map_cons, List.flatMap_cons, List.length_append, ih, List.map_cons, List.sum_cons]
    congr 1
    rw [catA_cv]
    rcases v with z | z | a <;> rfl
theorem CS.of {ρ : Type} {M : AMt} {fr lw : Nat} {em : ρ → Option AV} {as : List AV} {h : AH} {o : Option (ρ × AH)} (hy : plainName M.1.cls = true) (hlen : (as.map catA).sum ≤ M.2.2.1) (k : Sd M fr lw em 0 (lvA 0 as) [] h o) : CS M fr lw em as h o := by
  intro r h' ho
  obtain ⟨hm, hk⟩ := k r h' ho
  refine ⟨hm, fun hvk E lc => ?_⟩
  refine Met.ofW (cc := M.2.1) (maxL := M.2.2.1) (ret := M.2.2.2) hy rfl ?_
  intro p e s m args below meth c s₁ B hml hv
  obtain ⟨rfl, hH, hKK, hX⟩ := hv
  have hts := atoms_spec (ws := Cond.code M.1 M.2.1 M.2.2.1 M.2.2.2 :: Tb) B.pre
  have C : Ctx M fr lw E p (headSpec (Cond.code M.1 M.2.1 M.2.2.1 M.2.2.2 :: Tb) ({ frames := fr, cells := hN h' - hN h, slots := hS h' - hS h, locals := lw })).room s m ((as.map (cv E)).toArray) meth c :=
    ⟨B.exec, B.bytes, hml, B.returns, findClass_of_methodNamed B.named, B.notSynchronized, fun hn => by rw [(name_of_methodNamed B.named B.method).1]; exact hn, fun w hw => hts w (List.mem_cons_of_mem _ hw), rfl, rfl, hKK, hX⟩
  have hl := lv_entry (as.map (cv E)) (n := M.2.2.1) (by rw [lg_len]; exact hlen)
  rw [lg_entry_eq]
  rw [lvA_map] at hl
  have := hk E p lc e _ s m _ below meth c (hN h) (hS h) s.heap [] _ C (Nat.le_refl _) (Nat.le_refl _) (Nat.le_refl _) (Nat.le_refl _) hH va_S.rf hl (lvA_vok as 0 hvk) (fun v hv => by cases hv)
  rw [Nat.sub_self, Nat.sub_self] at this
  exact this
theorem Pe_blind (E : AE) (as : List AV) (h : AH) : FrameBlind (Pe E as h) := by
  intro a U g mk ⟨h1, h2, h3, h4⟩
  exact ⟨h1, h2.moved (U := U.calling g mk a) (Vm.Alike.refl U.vm), va_K.moved (u := U) (U := U.calling g mk a) (Vm.Alike.refl U.vm) h3, h4.go (U := U.calling g mk a) (State.WarmedH.refl U) (Nat.le_refl _) (fun _ _ _ => rfl)⟩
theorem Pe_of {E : AE} {as : List AV} {h : AH} {s U : State} {H : Heap} {locs : List Loc} (hH : RH E h s H) (hKK : va_K (aD E) vwCl (atys E) s) (hX : Ext E s) (hS : va_S (aLo E) s.heap H locs) (hU : U.heap = H) (hW : s.WarmedH U.vm) : Pe E as h ((as.map (cv E)).toArray) U :=
  ⟨rfl, by rw [hU]; exact hH.moved hW.alike, va_K.moved hW.alike hKK, hX.go hW (by rw [hU]; exact hS.1) (fun q h1 h2 => by rw [hU]; exact hS.2.1 q h1 h2)⟩
/-- what the tables say of a method that is called -/
def MOk (M : AMt) (n : Nat) : Prop := Cond.initialized M.1.cls ∈ Tb ∧ Cond.code M.1 M.2.1 M.2.2.1 M.2.2.2 ∈ Tb ∧ (M.1.cls ≠ "java/lang/invoke/MethodHandle" ∧ M.1.cls ≠ "java/lang/invoke/VarHandle" ∧ (parseMethodDescriptor M.1.desc).map (fun d => d.parameters.length) = some n)
theorem ws_good {M' : AMt} {n : Nat} (h : MOk M' n) : GoodIn Tb (Cond.code M'.1 M'.2.1 M'.2.2.1 M'.2.2.2 :: Tb) := fun w hw => by
  rcases List.mem_cons.mp hw with rfl | hw
  · exact Tb_good _ h.2.1
  · exact Tb_good w hw
section SC
variable {ρ ρ' : Type} {M M' : AMt} {fr lw fr' lw' : Nat} {em : ρ → Option AV} {em' : ρ' → Option AV} {pc pc' : Nat} {l : List (Nat × AV)} {st stk as : List AV} {h : AH} {o' : Option (ρ' × AH)} {kf : ρ' → AH → Option (ρ × AH)}
def bnd {ρ ρ' : Type} (o' : Option (ρ' × AH)) (k : ρ' → AH → Option (ρ × AH)) : Option (ρ × AH) := match o' with
  | none => none
  | some q => k q.1 q.2
theorem Sd.call (hcs : CS M' fr' lw' em' as h o') (hp : pc + 3 = pc') (hvs : (∀ v ∈ stk, vok v) → (∀ v ∈ as, vok v) ∧ ∀ v ∈ st, vok v)
    (hrun : ∀ (h1 : AH) (r1 : ρ') (E : AE) (p : Program) (lc : Launch) (e : Env) (R : Room) (s : State) (m : MethodId) (args : Array Value) (below : List Frame) (meth : Method) (c : Code) (H : Heap) (locs : List Loc) (ls : Array Slot) (cells slots : Nat),
      Ctx M fr lw E p R s m args meth c → RH E h s H → va_S (aLo E) s.heap H locs → ls.size = M.2.2.1 → Met lc M'.1 (Cond.code M'.1 M'.2.1 M'.2.2.1 M'.2.2.2 :: Tb) ({ frames := fr', cells := hN h1 - hN h, slots := hS h1 - hS h, locals := lw' }) (Pe E as h) (Qe E em' r1 h1) (hN h1 - hN h) (hS h1 - hS h) (aLo E) →
      cells + (hN h1 - hN h) ≤ R.cells ∧ slots + (hS h1 - hS h) ≤ R.slots → va_Run p lc e R s m args below meth c H locs cells slots (hN h1 - hN h) (hS h1 - hS h) (F0 m pc ls (stk.map (cv E))) (st.map (cv E)) (Qe E em' r1 h1 ((as.map (cv E)).toArray)) (aLo E))
    (kk : ∀ r1 h1, Sd M fr lw em pc' l ((em' r1).toList ++ st) h1 (kf r1 h1)) : Sd M fr lw em pc l stk h (bnd o' kf) := by
  subst hp
  intro r h' ho
  cases o' with
  | none => cases ho
  | some q =>
    obtain ⟨r1, h1⟩ := q
    obtain ⟨⟨m1, m2⟩, hM⟩ := hcs r1 h1 rfl
    obtain ⟨⟨m3, m4⟩, hk⟩ := kk r1 h1 r h' ho
    refine ⟨⟨Nat.le_trans m1 m3, Nat.le_trans m2 m4⟩, fun E p lc e R s m args below meth c n0 s0 H locs ls C hc hs hn hn2 hH hSS hl hvl hvs1 => ?_⟩
    obtain ⟨va, vs⟩ := hvs hvs1
    intro T hT X
    obtain ⟨v, st₀, t, T', L, e0, X', hL, e1, e2, ⟨q1, q2, q3, q4⟩, stp⟩ := hrun h1 r1 E p lc e R s m args below meth c H locs ls _ _ C hH hSS hl.1 (hM va E lc) ⟨by omega, by omega⟩ T hT X
    have hv : v = (em' r1).map (cv E) := by injection q1
    subst hv
    have hH' : RH E h1 s T'.heap := by rw [e1]; exact q2.moved (by rw [← e2]; exact X'.warmed.alike.symm)
    have hS' : va_S (aLo E) s.heap T'.heap (locs ++ L) := by
      rw [e1]
      refine ⟨Nat.le_trans hSS.1 (by rw [← e0]; exact q3.1), fun q z1 z2 => ?_, fun q hq => ?_⟩
      · rw [q3.2 q (by rw [e0]; exact Nat.lt_of_lt_of_le z1 hSS.1) z2, e0]
        exact hSS.2.1 q z1 z2
      · rcases List.mem_append.mp hq with h | h
        · exact hSS.2.2 q h
        · exact hL q h
    have hw := hk E p lc e R s m args below meth c n0 s0 T'.heap (locs ++ L) ls C hc hs (by omega) (by omega) hH' hS' hl hvl (fun w hw => by
      rcases List.mem_append.mp hw with h | h
      · cases hem : em' r1 with
        | none => rw [hem] at h; cases h
        | some u => rw [hem] at h; rw [List.mem_singleton.mp h]; exact q4 u hem
      · exact vs w h)
    obtain ⟨t2, a1, b1⟩ := W.cs (by omega) (by omega) hw T' rfl X'
    refine ⟨t2, stp t2 ?_, b1⟩
    have e : (Option.map (cv E) (em' r1)).toList ++ st.map (cv E) = ((em' r1).toList ++ st).map (cv E) := by
      cases em' r1 <;> simp
    rw [e]
    exact a1
theorem rest_ok {E : AE} {m : MethodId} {ls : Array Slot} {xs : List Value} (hcat : (st.map catA).sum ≤ 8) : 2 * (F0 m pc ls xs).monitorRoom + ((st.map (cv E)).map fun v => v.category).sum ≤ 8 := lv_room (rest := xs) (by rw [catA_sum]; exact hcat)
/-- the receiver is an object of the class -/
def rc {β : Type} (h : AH) (t a : Nat) (o : Option β) : Option β := if (hK h a).1 = t then o else none
theorem Sd.callV {idx ci t a n : Nat} (C0 : String) (d : decode M.2.1 pc = .ok (.invokevirtual idx, 3)) (hp : pc + 3 = pc') (ht : ci + 1 = t) (hq0 : (vwCl[ci]?).map (fun q => q.1) = some C0) (hC : M'.1.cls = C0) (hm : MOk M' n) (hl : Cond.methodLink M.1.cls idx M'.1 ∈ Tb) (hi : Cond.instanceMethod M'.1 ∈ Tb) (hsel : Cond.selects C0 M'.1 M'.1 ∈ Tb)
    (hrm : fr' + 1 ≤ fr ∧ 8 + (M'.2.2.1 + 11) + lw' ≤ lw) (hn : as.length = n) (hst : stk = as.reverse ++ vr a :: st) (hcat : (st.map catA).sum ≤ 8) (hcs : CS M' fr' lw' em' (vr a :: as) h o')
    (kk : ∀ r1 h1, Sd M fr lw em pc' l ((em' r1).toList ++ st) h1 (kf r1 h1)) : Sd M fr lw em pc l stk h (rc h t a (bnd o' kf)) := by
  subst ht; subst hC
  obtain ⟨q, hq, hqe⟩ := Option.map_eq_some_iff.mp hq0
  refine Sd.ite' (fun hc => Sd.call hcs hp (fun hv => ?_) (fun h1 r1 E p lc e R s m args below meth c H locs ls cells slots C hH hSS hls hM hf => ?_) kk)
  · subst hst
    refine ⟨fun v hv1 => ?_, fun v hv1 => hv v (List.mem_append_right _ (List.mem_cons_of_mem _ hv1))⟩
    rcases List.mem_cons.mp hv1 with rfl | hv1
    · exact trivial
    · exact hv v (List.mem_append_left _ (List.mem_reverse.mpr hv1))
  · have hlt := tag_lt ci q hq
    obtain ⟨g1, g2⟩ := hH.in hc (by omega) (by omega)
    have hts := C.2.2.2.2.2.2.2.1
    have hKK := C.2.2.2.2.2.2.2.2.2.2.1
    have cw : CallW R s args M.1.cls M'.1.cls idx M'.1 M'.2.1 M'.2.2.1 M'.2.2.2 (Cond.code M'.1 M'.2.1 M'.2.2.1 M'.2.2.2 :: Tb) ({ frames := fr', cells := hN h1 - hN h, slots := hS h1 - hS h, locals := lw' }) (hN h1 - hN h) (hS h1 - hS h) n :=
      ⟨callB_of n hts (ws_good hm) rfl rfl rfl (hts _ hm.1) (hts _ hl) hm.2.2 ⟨by rw [C.2.2.2.2.2.2.2.2.1]; exact hrm.1, by rw [C.2.2.2.2.2.2.2.2.2.1]; exact hrm.2⟩, hts _ hi, hts _ hsel⟩
    have hpre : ∀ U : State, U.heap = H → s.WarmedH U.vm → Pe E (vr a :: as) h ((Value.ref (cad E a) :: as.map (cv E)).toArray) U := fun U hU hW => by
      have := Pe_of (as := vr a :: as) hH hKK C.2.2.2.2.2.2.2.2.2.2.2 hSS hU hW
      rw [List.map_cons, cvr_ref g1] at this
      exact this
    have hstk : stk.map (cv E) = (as.map (cv E)).reverse ++ .ref (cad E a) :: st.map (cv E) := by rw [hst, List.map_append, List.map_reverse, List.map_cons, cvr_ref g1]
    have hrecv : ∃ cellB : Cell, H[cad E a]? = some cellB ∧ cellB.vm.isStatics = false ∧ s.vm.findClass M'.1.cls = some cellB.cls := by
      obtain ⟨cell, r1, r2, r3⟩ := va_recv hKK hH.2.1 hq (a := cad E a) (q0 := a - 16) (ci := ci) (fs := fL E h ci a) (by rw [wsO_get E g1 g2, cel_obj hc hlt])
      exact ⟨cell, r1, r2, by rw [hqe] at r3; exact r3⟩
    have key := va_runV (e := e) (below := below) (meth := meth) (H := H) (locs := locs) (cells := cells) (slots := slots) (b := cad E a) (As := as.map (cv E)) (rest := st.map (cv E)) (g := F0 m pc ls (stk.map (cv E))) ⟨C.1, C.2.1, C.2.2.1, C.2.2.2.2.1, hts⟩ hM cw ⟨Pe_blind E _ h, hrecv, hpre⟩ rfl (by rw [List.length_map]; exact hn) hls hstk (rest_ok hcat) d hf
    rw [← cvr_ref g1] at key
    exact key
theorem Sd.callS {idx n : Nat} (d : decode M.2.1 pc = .ok (.invokestatic idx, 3)) (hp : pc + 3 = pc') (hm : MOk M' n) (hl : Cond.methodLink M.1.cls idx M'.1 ∈ Tb) (hstt : Cond.static M'.1 ∈ Tb)
    (hrm : fr' + 1 ≤ fr ∧ 8 + (M'.2.2.1 + 11) + lw' ≤ lw) (hn : as.length = n) (hst : stk = as.reverse ++ st) (hcat : (st.map catA).sum ≤ 8) (hcs : CS M' fr' lw' em' as h o')
    (kk : ∀ r1 h1, Sd M fr lw em pc' l ((em' r1).toList ++ st) h1 (kf r1 h1)) : Sd M fr lw em pc l stk h (bnd o' kf) := by
  refine Sd.call hcs hp (fun hv => ?_) (fun h1 r1 E p lc e R s m args below meth c H locs ls cells slots C hH hSS hls hM hf => ?_) kk
  · subst hst
    exact ⟨fun v hv1 => hv v (List.mem_append_left _ (List.mem_reverse.mpr hv1)), fun v hv1 => hv v (List.mem_append_right _ hv1)⟩
  · have hts := C.2.2.2.2.2.2.2.1
    have hKK := C.2.2.2.2.2.2.2.2.2.2.1
    refine va_runS (As := as.map (cv E)) ⟨C.1, C.2.1, C.2.2.1, C.2.2.2.2.1, hts⟩ hM ⟨callB_of n hts (ws_good hm) rfl rfl rfl (hts _ hm.1) (hts _ hl) hm.2.2 ⟨by rw [C.2.2.2.2.2.2.2.2.1]; exact hrm.1, by rw [C.2.2.2.2.2.2.2.2.2.1]; exact hrm.2⟩, hts _ hstt⟩ ⟨Pe_blind E _ h, fun U hU hW => Pe_of hH hKK C.2.2.2.2.2.2.2.2.2.2.2 hSS hU hW⟩ rfl (by rw [List.length_map]; exact hn) hls ?_ (rest_ok hcat) d hf
    show stk.map (cv E) = _
    rw [hst, List.map_append, List.map_reverse]
theorem Sd.callI {idx a n : Nat} (d : decode M.2.1 pc = .ok (.invokespecial idx, 3)) (hp : pc + 3 = pc') (ha : 16 ≤ a) (hm : MOk M' n) (hl : Cond.methodLink M.1.cls idx M'.1 ∈ Tb) (hi : Cond.instanceMethod M'.1 ∈ Tb) (hnm : M'.1.name = "<init>") (hret : M'.2.2.2 = Option.none)
    (hrm : fr' + 1 ≤ fr ∧ 8 + (M'.2.2.1 + 11) + lw' ≤ lw) (hn : as.length = n) (hst : stk = as.reverse ++ vr a :: st) (hcat : (st.map catA).sum ≤ 8) (hcs : CS M' fr' lw' em' (vr a :: as) h o')
    (kk : ∀ r1 h1, Sd M fr lw em pc' l ((em' r1).toList ++ st) h1 (kf r1 h1)) : Sd M fr lw em pc l stk h (bnd o' kf) := by
  refine Sd.call hcs hp (fun hv => ?_) (fun h1 r1 E p lc e R s m args below meth c H locs ls cells slots C hH hSS hls hM hf => ?_) kk
  · subst hst
    refine ⟨fun v hv1 => ?_, fun v hv1 => hv v (List.mem_append_right _ (List.mem_cons_of_mem _ hv1))⟩
    rcases List.mem_cons.mp hv1 with rfl | hv1
    · exact trivial
    · exact hv v (List.mem_append_left _ (List.mem_reverse.mpr hv1))
  · have hts := C.2.2.2.2.2.2.2.1
    have hKK := C.2.2.2.2.2.2.2.2.2.2.1
    obtain ⟨M1, M2, M3, M4⟩ := M'
    dsimp only at hret
    subst hret
    have hpre : ∀ U : State, U.heap = H → s.WarmedH U.vm → Pe E (vr a :: as) h ((Value.ref (cad E a) :: as.map (cv E)).toArray) U := fun U hU hW => by
      have := Pe_of (as := vr a :: as) hH hKK C.2.2.2.2.2.2.2.2.2.2.2 hSS hU hW
      rw [List.map_cons, cvr_ref ha] at this
      exact this
    have hstk : stk.map (cv E) = (as.map (cv E)).reverse ++ .ref (cad E a) :: st.map (cv E) := by rw [hst, List.map_append, List.map_reverse, List.map_cons, cvr_ref ha]
    have key := va_runI (e := e) (below := below) (meth := meth) (H := H) (locs := locs) (cells := cells) (slots := slots) (b := cad E a) (As := as.map (cv E)) (rest := st.map (cv E)) (g := F0 m pc ls (stk.map (cv E))) ⟨C.1, C.2.1, C.2.2.1, C.2.2.2.2.1, hts⟩ hM ⟨callB_of n hts (ws_good hm) rfl rfl rfl (hts _ hm.1) (hts _ hl) hm.2.2 ⟨by rw [C.2.2.2.2.2.2.2.2.1]; exact hrm.1, by rw [C.2.2.2.2.2.2.2.2.2.1]; exact hrm.2⟩, hnm, hts _ hi⟩ ⟨Pe_blind E _ h, hpre⟩ rfl (by rw [List.length_map]; exact hn) hls hstk (rest_ok hcat) d hf
    rw [← cvr_ref ha] at key
    exact key
theorem Sd.callN {idx a n : Nat} {host : String} (d : decode M.2.1 pc = .ok (.invokespecial idx, 3)) (hp : pc + 3 = pc') (ha : 16 ≤ a) (hm : MOk M' n) (hl : (M.1.cls, idx, M'.1, host) ∈ nstL) (hi : Cond.instanceMethod M'.1 ∈ Tb) (hnm : M'.1.name = "<init>") (hret : M'.2.2.2 = Option.none)
    (hrm : fr' + 1 ≤ fr ∧ 8 + (M'.2.2.1 + 11) + lw' ≤ lw) (hn : as.length = n) (hst : stk = as.reverse ++ vr a :: st) (hcat : (st.map catA).sum ≤ 8) (hcs : CS M' fr' lw' em' (vr a :: as) h o')
    (kk : ∀ r1 h1, Sd M fr lw em pc' l ((em' r1).toList ++ st) h1 (kf r1 h1)) : Sd M fr lw em pc l stk h (bnd o' kf) := by
  refine Sd.call hcs hp (fun hv => ?_) (fun h1 r1 E p lc e R s m args below meth c H locs ls cells slots C hH hSS hls hM hf => ?_) kk
  · subst hst
    refine ⟨fun v hv1 => ?_, fun v hv1 => hv v (List.mem_append_right _ (List.mem_cons_of_mem _ hv1))⟩
    rcases List.mem_cons.mp hv1 with rfl | hv1
    · exact trivial
    · exact hv v (List.mem_append_left _ (List.mem_reverse.mpr hv1))
  · have hts := C.2.2.2.2.2.2.2.1
    have hKK := C.2.2.2.2.2.2.2.2.2.2.1
    have hX := C.2.2.2.2.2.2.2.2.2.2.2
    obtain ⟨M1, M2, M3, M4⟩ := M'
    dsimp only at hret
    subst hret
    have hpre : ∀ U : State, U.heap = H → s.WarmedH U.vm → Pe E (vr a :: as) h ((Value.ref (cad E a) :: as.map (cv E)).toArray) U := fun U hU hW => by
      have := Pe_of (as := vr a :: as) hH hKK C.2.2.2.2.2.2.2.2.2.2.2 hSS hU hW
      rw [List.map_cons, cvr_ref ha] at this
      exact this
    have hstk : stk.map (cv E) = (as.map (cv E)).reverse ++ .ref (cad E a) :: st.map (cv E) := by rw [hst, List.map_append, List.map_reverse, List.map_cons, cvr_ref ha]
    have key := va_runIN (e := e) (below := below) (meth := meth) (H := H) (locs := locs) (cells := cells) (slots := slots) (b := cad E a) (As := as.map (cv E)) (rest := st.map (cv E)) (g := F0 m pc ls (stk.map (cv E))) ⟨C.1, C.2.1, C.2.2.1, C.2.2.2.2.1, hts⟩ hM ⟨va_cnB n hts (ws_good hm) rfl rfl rfl (hX.2.1 _ hl) (hts _ hm.1) hm.2.2 ⟨by rw [C.2.2.2.2.2.2.2.2.1]; exact hrm.1, by rw [C.2.2.2.2.2.2.2.2.2.1]; exact hrm.2⟩, hnm, hts _ hi⟩ ⟨Pe_blind E _ h, hpre⟩ rfl (by rw [List.length_map]; exact hn) hls hstk (rest_ok hcat) d hf
    rw [← cvr_ref ha] at key
    exact key
/-- the constructor of Object -/
theorem Sd_objInit {ρ : Type} {em : ρ → Option AV} {idx a : Nat} {o : Option (ρ × AH)} (d : decode M.2.1 pc = .ok (.invokespecial idx, 3)) (hp : pc + 3 = pc') (hl : Cond.methodLink M.1.cls idx Lib.objectInit ∈ Tb) (hw2 : Cond.instanceMethod Lib.objectInit ∈ Tb) (hw3 : Cond.code Lib.objectInit ⟨#[0xb1]⟩ 1 none ∈ Tb) (hfr : 1 ≤ fr) (hlw : (st.map catA).sum + 12 ≤ lw) (ha : 16 ≤ a)
    (kk : Sd M fr lw em pc' l st h o) : Sd M fr lw em pc l (vr a :: st) h o := by
  subst hp
  refine Sd.stack (fun hvl hs => ⟨vok_tl hs, fun E p lc e R s m args below meth c H locs ls cells slots Q C hl1 w => ?_⟩) kk
  have hts := C.2.2.2.2.2.2.2.1
  rw [List.map_cons, cvr_ref ha]
  exact W.objInit C.1 C.2.1 C.2.2.2.2.1 (hts _ hl) (hts _ hw2) (hts _ hw3) (g := F0 m pc ls (.ref (cad E a) :: st.map (cv E))) rfl (by rw [C.2.2.1]; exact hl1.1) rfl d (by rw [C.2.2.2.2.2.2.2.2.1]; exact hfr) (by show 2 * 0 + _ + 12 ≤ _; rw [catA_sum, C.2.2.2.2.2.2.2.2.2.1]; omega) w
end SC
