def R_law : String := "BatchShareLaw"
def lw_P (b : Addr) (xs : List Int32) (args : Array Value) (s : State) : Prop := args = #[.ref b] ∧ s.IntsAt b xs ∧ xs.length ≤ 3072 ∧ (Jvm.Cond.and given_1 narrow_1).before args s = true
def lw_Q (_ : Array Value) (s : State) (o : Outcome) (t : State) : Prop := o = .returned (some (.int 1)) ∧ Framed s o t [] 600000 7302250
def lw_Z (below : List Frame) (a : Array Value) (s : State) : State → Prop := fun t => ∃ o, t.status = .running ∧ Ended t below o ∧ lw_Q a s o t
/-- the law's own end, with 1 on the stack, nothing written that was there before, its room as the claim has it -/
theorem lw_ret {p : Program} {l : Launch} {e : Env} {s : State} {m : MethodId} {below : List Frame} {meth : Method} {c : Code} {b : Nat} (hx : p.tables.exec = Jvm.exec) (hb : c.code = code) (hr : meth.sig.returnType = ret) (hlocks : meth.locks = false) {pc : Nat} {H : Heap} {ls : Array Slot} (hdg : decode code pc = .ok (.ireturn, 1)) : W p l e room_1 s m #[Value.ref b] below meth c H [] 600000 7302250 (lw_Z below #[Value.ref b] s) (F0 m pc ls [.int 1]) := by
  intro T hT X
  obtain ⟨fs, hret, hrun, hended, hW, hframe⟩ := X.leave (v := some (.int 1)) (hlocks := hlocks) (fun h => by rw [hr] at h; cases h)
  have hmeth' : T.vm.method? m = some meth := X.method'
  refine ⟨T.setFrames fs, ?_, .returned (some (.int 1)), hrun, hended, rfl, ⟨_, rfl⟩, hW, hframe⟩
  jvm_step X.here [X.here.top, hx, hb, hdg, hmeth', hr, ret, narrow_b1]
  (try refine ⟨rfl, ?_⟩); (try refine ⟨rfl, ?_⟩)
  first | (intro acts; rw [hret _ acts rfl rfl rfl]) | rw [hret _ _ rfl rfl rfl]
  exact Steps.refl _
/-- what holds at the law's entry: the machine, the code, the tables' words (any of lw_tbl by 'hts w (by decide +kernel)'), the script of L ints xs at the cell b, what the Statement gives of the start (any of its parts by flat_of_before) -/
def lw_At (p : Program) (s : State) (m : MethodId) (meth : Method) (c : Code) (b L : Nat) (xs : Nat → Int32) : Prop :=
  p.tables.exec = Jvm.exec ∧ c.code = code ∧ meth.sig.returnType = ret ∧ c.maxLocals = 4 ∧ s.vm.findClass R_law = some m.cls ∧ (∀ w ∈ lw_tbl, w.before #[Value.ref b] s = true) ∧ va_X b L xs s s.heap ∧ b < s.heap.size ∧ meth.locks = false ∧ (Jvm.Cond.and given_1 narrow_1).before #[Value.ref b] s = true

/-- the AM's heap at the law's entry: no cell, and the script -/
def h0 (L : Nat) (xs : Nat → Int) : AH := (0, 0, fun a => if a = 15 then (24, L) else (0, 0), fun a => if a = 15 then xs else fun _ => 0, fun _ _ => 0)
def tmS (i : Nat) : Term := Term.string RX6 ([47, 64, 74, 111, 93, 120, 98].getD i 0)
def tmM (i : Nat) : Term := Term.string RX12 ([163, 165, 167, 204, 221, 219, 226].getD i 0)
def gvn : List Cond := flatC (Jvm.Cond.and given_1 narrow_1)
theorem gv_ex : ∀ i, i < 7 → Cond.exactly (tmS i) "java/lang/String" ∈ gvn := by decide +kernel
theorem gv_co : ∀ i, i < 7 → Cond.eq (.field (tmS i) "java/lang/String" "coder" "B") (.int 0) ∈ gvn := by decide +kernel
theorem gv_ar : ∀ i, i < 7 → Cond.arrayOf (.field (tmS i) "java/lang/String" "value" "[B") .byte ∈ gvn := by decide +kernel
theorem gv_le : ∀ i, i < 7 → Cond.eq (.length (.field (tmS i) "java/lang/String" "value" "[B")) (.int (Int32.ofNat (sLens.getD i 0))) ∈ gvn := by decide +kernel
theorem gv_el : ∀ i, i < 7 → ∀ j, j < sLens.getD i 0 → Cond.eq (.elem (.field (tmS i) "java/lang/String" "value" "[B") (.int (Int32.ofNat j))) (.int ((sByts.getD i []).getD j 0)) ∈ gvn := by decide +kernel
theorem gv_ne : ∀ i, i < 7 → ∀ j, j < 7 → i ≠ j → Cond.not (Cond.eq (tmS i) (tmS j)) ∈ gvn ∨ Cond.not (Cond.eq (tmS j) (tmS i)) ∈ gvn := by decide +kernel
theorem gv_sm : ∀ i, i < 7 → Cond.eq (tmS i) (tmM i) ∈ gvn ∨ Cond.eq (tmM i) (tmS i) ∈ gvn := by decide +kernel
theorem gv_cm : Cond.eq (.static "java/lang/String" "COMPACT_STRINGS" "Z") (.int 1) ∈ gvn := by decide +kernel
theorem gv_fm : Cond.isRef (.static "jdk/internal/util/Preconditions" "SIOOBE_FORMATTER" "Ljava/util/function/BiFunction;") ∈ gvn := by decide +kernel
theorem sL31 : ∀ i, i < 7 → sLens.getD i 0 < 2 ^ 31 := by decide
theorem W.mono {p : Program} {l : Launch} {e : Env} {R : Room} {s : State} {m : MethodId} {args : Array Value} {below : List Frame} {meth : Method} {c : Code} {H : Heap} {locs : List Loc} {cells slots : Nat} {Q Q' : State → Prop} {g : JFrame} (hq : ∀ t, Q t → Q' t) (k : W p l e R s m args below meth c H locs cells slots Q g) : W p l e R s m args below meth c H locs cells slots Q' g := by
  intro T hT X
  obtain ⟨t, a, b⟩ := k T hT X
  exact ⟨t, a, hq t b⟩
theorem eqR2 {args : Array Value} {s : State} {t u : Term} {a : Nat} (h : (Cond.eq t u).before args s = true) (hu : u.eval args s none [] s = some (.ref a)) : t.eval args s none [] s = some (.ref a) := by
  cases ht : t.eval args s none [] s with
  | none => simp [Cond.before, Cond.holds, Cond.value, ht, hu] at h
  | some v =>
    simp only [Cond.before, Cond.holds, Cond.value, ht, hu] at h
    cases v <;> simp_all
abbrev M_law0 : AMt := (x, code, 4, some .boolean)
set_option maxHeartbeats 4000000 in
set_option maxRecDepth 20000 in
/-- the world at the law's entry -/
theorem env0 {p : Program} {s : State} {m : MethodId} {meth : Method} {c : Code} {b L : Nat} {xs : Nat → Int32} (hL : L ≤ 3072) (C0 : lw_At p s m meth c b L xs) : ∃ E : AE, E.1 = s.heap.size ∧ E.2.1 15 = b ∧ Ctx M_law0 14 554 E p room_1 s m #[Value.ref b] meth c ∧ RH E (h0 L (fun j => (xs j).toInt)) s s.heap := by
  obtain ⟨hx, hb, hr, hml, hown, hts, hX, hbl, hlocks, hgv⟩ := id C0
  have hg : ∀ w ∈ gvn, w.before #[Value.ref b] s = true := flat_of_before _ hgv
  obtain ⟨c0, iS0, hKn0⟩ := u_known (C := RX0) (T := TX0) (N := 5) (n := 5) hts (fun w hw => (inX0 w hw).1) (hts (.instantiable RX0 5) (List.mem_of_getElem? (i := 365) (by decide +kernel)))
  obtain ⟨c1, iS1, hKn1⟩ := u_known (C := RX1) (T := TX1) (N := 7) (n := 7) hts (fun w hw => (inX1 w hw).1) (hts (.instantiable RX1 7) (List.mem_of_getElem? (i := 396) (by decide +kernel)))
  obtain ⟨c2, iS2, hKn2⟩ := u_known (C := RX2) (T := TX2) (N := 4) (n := 4) hts (fun w hw => (inX2 w hw).1) (hts (.instantiable RX2 4) (List.mem_of_getElem? (i := 197) (by decide +kernel)))
  obtain ⟨c3, iS3, hKn3⟩ := u_known (C := RX3) (T := TX3) (N := 1) (n := 1) hts (fun w hw => (inX3 w hw).1) (hts (.instantiable RX3 1) (List.mem_of_getElem? (i := 203) (by decide +kernel)))
  obtain ⟨c4, iS4, hKn4⟩ := u_known (C := RX4) (T := TX4) (N := 6) (n := 6) hts (fun w hw => (inX4 w hw).1) (hts (.instantiable RX4 6) (List.mem_of_getElem? (i := 339) (by decide +kernel)))
  obtain ⟨c5, iS5, hKn5⟩ := u_known (C := RX5) (T := TX5) (N := 3) (n := 3) hts (fun w hw => (inX5 w hw).1) (hts (.instantiable RX5 3) (List.mem_of_getElem? (i := 430) (by decide +kernel)))
  obtain ⟨c6, iS6, hKn6⟩ := u_known (C := RX6) (T := TX6) (N := 5) (n := 5) hts (fun w hw => (inX6 w hw).1) (hts (.instantiable RX6 5) (List.mem_of_getElem? (i := 151) (by decide +kernel)))
  obtain ⟨c7, iS7, hKn7⟩ := u_known (C := RX7) (T := TX7) (N := 2) (n := 2) hts (fun w hw => (inX7 w hw).1) (hts (.instantiable RX7 2) (List.mem_of_getElem? (i := 190) (by decide +kernel)))
  obtain ⟨c8, iS8, hKn8⟩ := u_known (C := RX8) (T := TX8) (N := 7) (n := 7) hts (fun w hw => (inX8 w hw).1) (hts (.instantiable RX8 7) (List.mem_of_getElem? (i := 182) (by decide +kernel)))
  obtain ⟨c9, iS9, hKn9⟩ := u_known (C := RX9) (T := TX9) (N := 4) (n := 4) hts (fun w hw => (inX9 w hw).1) (hts (.instantiable RX9 4) (List.mem_of_getElem? (i := 254) (by decide +kernel)))
  obtain ⟨c10, iS10, hKn10⟩ := u_known (C := RX10) (T := TX10) (N := 5) (n := 5) hts (fun w hw => (inX10 w hw).1) (hts (.instantiable RX10 5) (List.mem_of_getElem? (i := 176) (by decide +kernel)))
  obtain ⟨c11, iS11, hKn11⟩ := u_known (C := RX11) (T := TX11) (N := 12) (n := 12) hts (fun w hw => (inX11 w hw).1) (hts (.instantiable RX11 12) (List.mem_of_getElem? (i := 143) (by decide +kernel)))
  obtain ⟨c12, iS12, hKn12⟩ := u_known (C := RX12) (T := TX12) (N := 50) (n := 50) hts (fun w hw => (inX12 w hw).1) (hts (.instantiable RX12 50) (List.mem_of_getElem? (i := 1212) (by decide +kernel)))
  obtain ⟨dC, dI, hKc⟩ : ∃ (dC : Nat → ClassId) (dI : Nat → Nat → Nat), ∀ (k : Nat) (q : vw_C), vwCl[k]? = some q → u_Kn s q.1 q.2.1 q.2.2 (dC k) (dI k) := by
    refine ⟨fun k => [c0, c1, c2, c3, c4, c5, c6, c7, c8, c9, c10, c11, c12].getD k 0, fun k => [iS0, iS1, iS2, iS3, iS4, iS5, iS6, iS7, iS8, iS9, iS10, iS11, iS12].getD k (fun _ => 0), ?_⟩
    intro k q hq
    match k, hq with
    | 0, hq => cases hq; exact hKn0
    | 1, hq => cases hq; exact hKn1
    | 2, hq => cases hq; exact hKn2
    | 3, hq => cases hq; exact hKn3
    | 4, hq => cases hq; exact hKn4
    | 5, hq => cases hq; exact hKn5
    | 6, hq => cases hq; exact hKn6
    | 7, hq => cases hq; exact hKn7
    | 8, hq => cases hq; exact hKn8
    | 9, hq => cases hq; exact hKn9
    | 10, hq => cases hq; exact hKn10
    | 11, hq => cases hq; exact hKn11
    | 12, hq => cases hq; exact hKn12
    | k + 13, hq => simp [vwCl] at hq
  have hA : ∀ a : Nat, a < s.heap.size → ¬ s.heap.size ≤ a := fun a h => by omega
  have prim : ∀ ty : FieldType, (∀ U cA, U.vm.findClass ("[" ++ ty.toString) = some cA → va_RA U cA ty) → (Cond.arrayClass ty).before #[Value.ref b] s = true → ∃ cA, ArrOfT s cA ty ∧ va_RA s cA ty := by
    intro ty hty hw
    obtain ⟨cA, k, comp, f1, f2, f3⟩ := Cond.arrayClass_spec hw
    exact ⟨cA, fun N z => ⟨(fun k h => by cases h), k, f2, comp, f3⟩, hty _ _ f1⟩
  have obj : ∀ C1 : String, (Cond.arrayOver (.object C1)).before #[Value.ref b] s = true → ∃ cA, ArrOfT s cA (.object C1) ∧ va_RA s cA (.object C1) := by
    intro C1 hw
    obtain ⟨comp, cA, k, f1, f2, f3, f4, f5⟩ := Cond.arrayOver_spec hw
    exact ⟨cA, fun N z => ⟨(fun k h => by cases h), k, f3, comp, f4⟩, k, comp, f3, f4, f1, f5⟩
  obtain ⟨a0, A0⟩ := prim .int (fun _ _ h => h) (hts _ (List.mem_of_getElem? (i := 172) (by decide +kernel)))
  obtain ⟨a1, A1⟩ := prim .byte (fun _ _ h => h) (hts _ (List.mem_of_getElem? (i := 662) (by decide +kernel)))
  obtain ⟨a2, A2⟩ := prim .boolean (fun _ _ h => h) (hts _ (List.mem_of_getElem? (i := 1367) (by decide +kernel)))
  have w0 := hts (.arrayOver (.object RX5)) (List.mem_of_getElem? (i := 174) (by decide +kernel))
  obtain ⟨b0, B0⟩ := obj RX5 w0
  have w1 := hts (.arrayOver (.object RX10)) (List.mem_of_getElem? (i := 335) (by decide +kernel))
  obtain ⟨b1, B1⟩ := obj RX10 w1
  have w2 := hts (.arrayOver (.object RX8)) (List.mem_of_getElem? (i := 315) (by decide +kernel))
  obtain ⟨b2, B2⟩ := obj RX8 w2
  have w3 := hts (.arrayOver (.object RX9)) (List.mem_of_getElem? (i := 188) (by decide +kernel))
  obtain ⟨b3, B3⟩ := obj RX9 w3
  have w4 := hts (.arrayOver (.object RX2)) (List.mem_of_getElem? (i := 196) (by decide +kernel))
  obtain ⟨b4, B4⟩ := obj RX2 w4
  have w5 := hts (.arrayOver (.object RX3)) (List.mem_of_getElem? (i := 371) (by decide +kernel))
  obtain ⟨b5, B5⟩ := obj RX3 w5
  obtain ⟨adK, adV, hS, hSe⟩ := vk_Sof (args := #[Value.ref b]) (s := s) (N := 7) (tm := tmS) (len := sLens) (byt := sByts) (A := fun a => s.heap.size ≤ a) sL31 (fun i hi => hg _ (gv_ex i hi)) (fun i hi => hg _ (gv_co i hi)) (fun i hi => hg _ (gv_ar i hi)) (fun i hi => hg _ (gv_le i hi)) (fun i hi j hj => hg _ (gv_el i hi j hj)) (fun i j hi hj hij => (gv_ne i hi j hj hij).imp (hg _) (hg _)) hA
  have hSm : ∀ i, i < 7 → (tmM i).eval #[Value.ref b] s none [] s = some (.ref (adK i)) := fun i hi => (gv_sm i hi).elim (fun h => va_eqR (hg _ h) (hSe i hi)) (fun h => eqR2 (hg _ h) (hSe i hi))
  obtain ⟨E, hE⟩ : ∃ E : AE, E = (s.heap.size, (fun a => if a < 8 then adK (a - 1) else if a < 15 then adV (a - 8) else b), dC, dI, fun t => ([(21, a0), (22, a1), (23, a2), (31, b0), (32, b1), (33, b2), (34, b3), (35, b4), (36, b5)].lookup t).getD 0) := ⟨_, rfl⟩
  have e1 : E.1 = s.heap.size := by rw [hE]
  have e15 : E.2.1 15 = b := by rw [hE]; rfl
  have eK : ∀ i, i < 7 → E.2.1 (i + 1) = adK i := fun i hi => by rw [hE]; show (if i + 1 < 8 then _ else _) = _; rw [if_pos (by omega)]; rfl
  have eV : ∀ i, i < 7 → E.2.1 (i + 8) = adV i := fun i hi => by rw [hE]; show (if i + 8 < 8 then adK (i + 8 - 1) else if i + 8 < 15 then adV (i + 8 - 8) else b) = adV i; rw [if_neg (by omega), if_pos (by omega)]; rfl
  have eA : aLo E = fun a => s.heap.size ≤ a := by funext a; show (E.1 ≤ a) = _; rw [e1]
  have hKK : va_K (aD E) vwCl (atys E) s := by
    rw [hE]
    refine ⟨hKc, fun k q hk => ?_⟩
    match k, hk with
    | 0, hk => cases hk; exact A0
    | 1, hk => cases hk; exact A1
    | 2, hk => cases hk; exact A2
    | 3, hk => cases hk; exact B0
    | 4, hk => cases hk; exact B1
    | 5, hk => cases hk; exact B2
    | 6, hk => cases hk; exact B3
    | 7, hk => cases hk; exact B4
    | 8, hk => cases hk; exact B5
    | k + 9, hk => simp [atys, aTs] at hk
  have hExt : Ext E s := by
    refine ⟨?_, ?_, ?_, by rw [e1]; exact Nat.le_refl _, ?_, ?_, ?_⟩
    · intro C1 hC
      simp only [aoL, List.mem_cons, List.not_mem_nil, or_false] at hC
      rcases hC with rfl | rfl | rfl | rfl | rfl | rfl
      · exact va_AO.of w0
      · exact va_AO.of w1
      · exact va_AO.of w2
      · exact va_AO.of w3
      · exact va_AO.of w4
      · exact va_AO.of w5
    · intro q hq
      simp only [nstL, List.mem_cons, List.not_mem_nil, or_false] at hq
      rcases hq with rfl | rfl | rfl | rfl | rfl
      · exact va_Nw.of rfl (hts _ (List.mem_of_getElem? (i := 177) (by decide +kernel)))
      · exact va_Nw.of rfl (hts _ (List.mem_of_getElem? (i := 198) (by decide +kernel)))
      · exact va_Nw.of rfl (hts _ (List.mem_of_getElem? (i := 204) (by decide +kernel)))
      · exact va_Nw.of rfl (hts _ (List.mem_of_getElem? (i := 372) (by decide +kernel)))
      · exact va_Nw.of rfl (hts _ (List.mem_of_getElem? (i := 436) (by decide +kernel)))
    · intro q hq
      simp only [strL, List.mem_cons, List.not_mem_nil, or_false] at hq
      rcases hq with rfl | rfl | rfl | rfl | rfl | rfl | rfl | rfl | rfl | rfl | rfl | rfl | rfl | rfl
      · exact vk_R.of (A := #[Value.ref b]) (hts _ (List.mem_of_getElem? (i := 532) (by decide +kernel))) (by rw [show E.2.1 1 = adK 0 from eK 0 (by decide)]; exact hSe 0 (by decide))
      · exact vk_R.of (A := #[Value.ref b]) (hts _ (List.mem_of_getElem? (i := 597) (by decide +kernel))) (by rw [show E.2.1 2 = adK 1 from eK 1 (by decide)]; exact hSe 1 (by decide))
      · exact vk_R.of (A := #[Value.ref b]) (hts _ (List.mem_of_getElem? (i := 623) (by decide +kernel))) (by rw [show E.2.1 3 = adK 2 from eK 2 (by decide)]; exact hSe 2 (by decide))
      · exact vk_R.of (A := #[Value.ref b]) (hts _ (List.mem_of_getElem? (i := 703) (by decide +kernel))) (by rw [show E.2.1 4 = adK 3 from eK 3 (by decide)]; exact hSe 3 (by decide))
      · exact vk_R.of (A := #[Value.ref b]) (hts _ (List.mem_of_getElem? (i := 708) (by decide +kernel))) (by rw [show E.2.1 5 = adK 4 from eK 4 (by decide)]; exact hSe 4 (by decide))
      · exact vk_R.of (A := #[Value.ref b]) (hts _ (List.mem_of_getElem? (i := 731) (by decide +kernel))) (by rw [show E.2.1 6 = adK 5 from eK 5 (by decide)]; exact hSe 5 (by decide))
      · exact vk_R.of (A := #[Value.ref b]) (hts _ (List.mem_of_getElem? (i := 732) (by decide +kernel))) (by rw [show E.2.1 7 = adK 6 from eK 6 (by decide)]; exact hSe 6 (by decide))
      · exact vk_R.of (A := #[Value.ref b]) (hts _ (List.mem_of_getElem? (i := 1392) (by decide +kernel))) (by rw [show E.2.1 1 = adK 0 from eK 0 (by decide)]; exact hSm 0 (by decide))
      · exact vk_R.of (A := #[Value.ref b]) (hts _ (List.mem_of_getElem? (i := 1404) (by decide +kernel))) (by rw [show E.2.1 2 = adK 1 from eK 1 (by decide)]; exact hSm 1 (by decide))
      · exact vk_R.of (A := #[Value.ref b]) (hts _ (List.mem_of_getElem? (i := 1405) (by decide +kernel))) (by rw [show E.2.1 3 = adK 2 from eK 2 (by decide)]; exact hSm 2 (by decide))
      · exact vk_R.of (A := #[Value.ref b]) (hts _ (List.mem_of_getElem? (i := 1443) (by decide +kernel))) (by rw [show E.2.1 4 = adK 3 from eK 3 (by decide)]; exact hSm 3 (by decide))
      · exact vk_R.of (A := #[Value.ref b]) (hts _ (List.mem_of_getElem? (i := 1460) (by decide +kernel))) (by rw [show E.2.1 5 = adK 4 from eK 4 (by decide)]; exact hSm 4 (by decide))
      · exact vk_R.of (A := #[Value.ref b]) (hts _ (List.mem_of_getElem? (i := 1477) (by decide +kernel))) (by rw [show E.2.1 6 = adK 5 from eK 5 (by decide)]; exact hSm 5 (by decide))
      · exact vk_R.of (A := #[Value.ref b]) (hts _ (List.mem_of_getElem? (i := 1478) (by decide +kernel))) (by rw [show E.2.1 7 = adK 6 from eK 6 (by decide)]; exact hSm 6 (by decide))
    · rw [eA]
      refine ⟨fun i hi => ?_, fun i j hi hj h => ?_⟩
      · have := hS.1 i hi
        dsimp only
        rw [eK i hi, eV i hi]
        exact this
      · dsimp only at h
        rw [eK i hi, eK j hj] at h
        exact hS.2 i j hi hj h
    · rw [eA]
      exact va_Zqof (hts _ (List.mem_of_getElem? (i := 566) (by decide +kernel))) (hts _ (List.mem_of_getElem? (i := 137) (by decide +kernel))) (hg _ gv_fm) hA
    · rw [eA]
      exact va_Zof (hts _ (List.mem_of_getElem? (i := 550) (by decide +kernel))) (hts _ (List.mem_of_getElem? (i := 135) (by decide +kernel))) (va_eqt (hg _ gv_cm)) hA
  refine ⟨E, e1, e15, ⟨hx, hb, hml, hr, hown, hlocks, fun h => absurd h (by decide), fun w hw => hts w (List.mem_filter.mp hw).1, rfl, rfl, hKK, hExt⟩, ?_⟩
  refine ⟨by rw [e1]; rfl, fun k q hk => by simp [wsO, hN, h0] at hk, ?_, ?_, ?_, Or.inr ⟨rfl, by rw [e15, e1]; exact hbl, ?_⟩, fun a g1 g2 => by have : a < 16 + 0 := g2; omega⟩
  · intro a ha
    show (if a = 15 then _ else _) = _
    rw [if_neg (by have : (0 : Nat) = hN (h0 L fun j => (xs j).toInt) := rfl; omega)]
  · intro a k
    show inR ((if a = 15 then (fun j => (xs j).toInt) else fun _ => 0) k)
    split
    · exact inR_toInt _
    · exact inR0
  · intro a
    show (if a = 15 then (24, L) else (0, 0)).2 < 2 ^ 31
    split
    · show L < 2 ^ 31; omega
    · show 0 < 2 ^ 31; decide
  · rw [e15]
    show va_X b L (fun j => Int32.ofInt (xs j).toInt) s s.heap
    have : (fun j => Int32.ofInt (xs j).toInt) = xs := by funext j; exact of_toInt _
    rw [this]
    exact hX
set_option maxHeartbeats 4000000 in
/-- the claim, from the AM's run of the law -/
theorem start_of (law : Nat → AH → Option (Int × AH)) (hsd : ∀ h : AH, Sd M_law0 14 554 emI 0 [(0, vr 15)] [] h (law 15 h))
    (hlaw : ∀ (L : Nat) (xs : Nat → Int), L ≤ 3072 → (∀ j, inR (xs j)) → ∃ h' : AH, law 15 (h0 L xs) = some (1, h') ∧ hN h' ≤ 600000 ∧ hS h' ≤ 7302250)
    {p : Program} {e : Env} {s : State} {m : MethodId} {below : List Frame} {meth : Method} {c : Code} (l : Launch) {b L : Nat} {xs : Nat → Int32} (hL : L ≤ 3072) (C0 : lw_At p s m meth c b L xs) : W p l e room_1 s m #[Value.ref b] below meth c s.heap [] 0 0 (lw_Z below #[Value.ref b] s) (entryFrame m ([Value.ref b] : List Value).toArray 4) := by
  obtain ⟨E, e1, e15, C, hH⟩ := env0 hL C0
  obtain ⟨h', hrun, hn, hs⟩ := hlaw L (fun j => (xs j).toInt) hL (fun j => inR_toInt _)
  obtain ⟨-, hk⟩ := hsd _ 1 h' hrun
  have hv : cv E (vr 15) = .ref b := by rw [cvr_lo (by decide) (by decide), e15]
  have hl := lv_entry ([Value.ref b]) (n := 4) (Nat.le_of_ble_eq_true rfl)
  rw [lg_entry_eq]
  generalize (lg_sl ([Value.ref b]) ++ List.replicate (4 - (lg_sl ([Value.ref b])).length) Slot.unset).toArray = ls at hl ⊢
  have hl : lv_has ls 4 ([(0, vr 15)].map (cvp E)) := by
    show lv_has ls 4 [(0, cv E (vr 15))]
    rw [hv]; exact hl
  have key := hk E p l e room_1 s m #[Value.ref b] below meth c 0 0 s.heap [] _ C (by show hN h' - 0 ≤ 600000; omega) (by show hS h' - 0 ≤ 7302250; omega) (Nat.zero_le _) (Nat.zero_le _) hH va_S.rf hl (fun q hq => by rw [List.mem_singleton.mp hq]; exact trivial) (fun v hv => by cases hv)
  refine W.mono (fun t ht => ?_) key
  obtain ⟨o, g1, g2, ⟨q1, -, -, -⟩, L', ⟨f1, f2, f3⟩, f4⟩ := ht
  refine ⟨o, g1, g2, q1, f1, f2, f3.weaken (fun y hy hlt => ?_) (by omega) (by omega)⟩
  have := f4 y hy
  have h3 : E.1 ≤ y.base := this
  rw [e1] at h3
  exact absurd hlt (Nat.not_lt.mpr h3)
