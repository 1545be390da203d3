/-! AM: a judgement: from here the method comes to its end with what 'o' says -/
abbrev AMt : Type := MethodName × ByteArray × Nat × Option FieldType
def Tb : List Cond := lw_tbl.filter goodWord
theorem Tb_in {w : Cond} (h : w ∈ lw_tbl) (hg : goodWord w = true) : w ∈ Tb := List.mem_filter.mpr ⟨h, hg⟩
theorem Tb_at {w : Cond} (i : Nat) (h : lw_tbl[i]? = some w) (hg : goodWord w = true) : w ∈ Tb := Tb_in (List.mem_of_getElem? h) hg
theorem Tb_good : GoodIn Tb Tb := fun w h => ⟨h, good_of_word (List.mem_filter.mp h).2⟩
def aoL : List String := [RX5, RX10, RX8, RX9, RX2, RX3]
def nstL : List (String × Nat × MethodName × String) := [(RX11, 30, yX10_init, RX11), (RX7, 17, yX2_init, RX11), (RX2, 9, yX3_init, RX11), (RX0, 24, yX3_init, RX11), (RX5, 21, yX3_init, RX11)]
def strL : List (String × Nat × String × Nat) := [(RX6, 47, "base", 1), (RX6, 64, "\x72", 2), (RX6, 74, "s", 3), (RX6, 111, "join", 4), (RX6, 93, "if", 5), (RX6, 120, "and", 6), (RX6, 98, "show", 7), (RX12, 163, "base", 1), (RX12, 165, "\x72", 2), (RX12, 167, "s", 3), (RX12, 204, "join", 4), (RX12, 221, "if", 5), (RX12, 219, "and", 6), (RX12, 226, "show", 7)]
def sLens : List Nat := [4, 1, 1, 4, 2, 3, 4]
def sByts : List (List Int32) := [[98, 97, 115, 101], [114], [115], [106, 111, 105, 110], [105, 102], [97, 110, 100], [115, 104, 111, 119]]
def Ext (E : AE) (s : State) : Prop := (∀ C ∈ aoL, va_AO C s) ∧ (∀ q ∈ nstL, va_Nw (.methodLinkNest q.1 q.2.1 q.2.2.1 q.2.2.2) s) ∧ (∀ q ∈ strL, vk_R q.1 q.2.1 q.2.2.1 (E.2.1 q.2.2.2) s) ∧ E.1 ≤ s.heap.size ∧ vk_S 7 sLens sByts (fun i => E.2.1 (i + 1)) (fun i => E.2.1 (i + 8)) (aLo E) s s.heap ∧ va_Zq "jdk/internal/util/Preconditions" "SIOOBE_FORMATTER" "Ljava/util/function/BiFunction;" (aLo E) s s.heap ∧ va_Z "java/lang/String" "COMPACT_STRINGS" "Z" (.int 1) (aLo E) s s.heap
theorem Ext.go {E : AE} {s U : State} (h : Ext E s) (hW : s.WarmedH U.vm) (hz : s.heap.size ≤ U.heap.size) (hq : ∀ q : Nat, q < s.heap.size → ¬ aLo E q → U.heap[q]? = s.heap[q]?) : Ext E U := by
  obtain ⟨h1, h2, h3, h4, h5, h7, h6⟩ := h
  exact ⟨fun C hC => va_AO.moved hW.alike (h1 C hC), fun q hq => va_Nw.warmM hW (h2 q hq), fun q hq => vk_R.warm hW (h3 q hq), Nat.le_trans h4 hz, (h5.moved hW.alike).kept hq, (h7.moved hW.alike).kept hq, (h6.moved hW.alike).kept hq⟩
def Ctx (M : AMt) (fr lw : Nat) (E : AE) (p : Program) (R : Room) (s : State) (m : MethodId) (args : Array Value) (meth : Method) (c : Code) : Prop :=
  p.tables.exec = Jvm.exec ∧ c.code = M.2.1 ∧ c.maxLocals = M.2.2.1 ∧ meth.sig.returnType = M.2.2.2 ∧ s.vm.findClass M.1.cls = some m.cls ∧ meth.locks = false ∧ (M.1.name = "<init>" → meth.name = "<init>") ∧ (∀ w ∈ Tb, w.before args s = true) ∧ R.frames = fr ∧ R.locals = lw ∧ va_K (aD E) vwCl (atys E) s ∧ Ext E s
def Qe {ρ : Type} (E : AE) (em : ρ → Option AV) (r : ρ) (h' : AH) : Array Value → State → Outcome → State → Prop := fun _ st oc t =>
  oc = .returned ((em r).map (cv E)) ∧ RH E h' t t.heap ∧ va_F (aLo E) st t ∧ ∀ v, em r = some v → vok v
def Sd {ρ : Type} (M : AMt) (fr lw : Nat) (em : ρ → Option AV) (pc : Nat) (l : List (Nat × AV)) (st : List AV) (h : AH) (o : Option (ρ × AH)) : Prop :=
  ∀ (r : ρ) (h' : AH), o = some (r, h') → (hN h ≤ hN h' ∧ hS h ≤ hS h') ∧
    ∀ (E : AE) (p : Program) (lc : Launch) (e : Env) (R : Room) (s : State) (m : MethodId) (args : Array Value) (below : List Frame) (meth : Method) (c : Code) (n0 s0 : Nat) (H : Heap) (locs : List Loc) (ls : Array Slot),
      Ctx M fr lw E p R s m args meth c → hN h' - n0 ≤ R.cells → hS h' - s0 ≤ R.slots → n0 ≤ hN h → s0 ≤ hS h → RH E h s H → va_S (aLo E) s.heap H locs → lv_has ls M.2.2.1 (l.map (cvp E)) → (∀ q ∈ l, vok q.2) → (∀ v ∈ st, vok v) →
        W p lc e R s m args below meth c H locs (hN h - n0) (hS h - s0) (MQ below (Qe E em r h') args s (hN h' - n0) (hS h' - s0) (aLo E)) (F0 m pc ls (st.map (cv E)))
section SD
variable {ρ : Type} {M : AMt} {fr lw : Nat} {em : ρ → Option AV} {pc pc' tgt : Nat} {l l' : List (Nat × AV)} {st st' : List AV} {h : AH} {o o1 o2 : Option (ρ × AH)}
theorem Sd.none : Sd M fr lw em pc l st h none := fun r h' ho => by cases ho
theorem Sd.eq {o' : Option (ρ × AH)} (he : o = o') (k : Sd M fr lw em pc l st h o') : Sd M fr lw em pc l st h o := he ▸ k
/-- a step that touches nothing but the stack and the place -/
theorem Sd.stack (hst : (∀ q ∈ l, vok q.2) → (∀ v ∈ st, vok v) → (∀ v ∈ st', vok v) ∧ ∀ (E : AE) (p : Program) (lc : Launch) (e : Env) (R : Room) (s : State) (m : MethodId) (args : Array Value) (below : List Frame) (meth : Method) (c : Code) (H : Heap) (locs : List Loc) (ls : Array Slot) (cells slots : Nat) (Q : State → Prop),
      Ctx M fr lw E p R s m args meth c → lv_has ls M.2.2.1 (l.map (cvp E)) → W p lc e R s m args below meth c H locs cells slots Q (F0 m pc' ls (st'.map (cv E))) → W p lc e R s m args below meth c H locs cells slots Q (F0 m pc ls (st.map (cv E))))
    (k : Sd M fr lw em pc' l st' h o) : Sd M fr lw em pc l st h o := by
  intro r h' ho
  obtain ⟨hm, hk⟩ := k r h' ho
  refine ⟨hm, fun E p lc e R s m args below meth c n0 s0 H locs ls C hc hs hn hn2 hH hS hl hvl hvs => ?_⟩
  obtain ⟨hv, hw⟩ := hst hvl hvs
  exact hw E p lc e R s m args below meth c H locs ls _ _ _ C hl (hk E p lc e R s m args below meth c n0 s0 H locs ls C hc hs hn hn2 hH hS hl hvl hv)
theorem vok_cons {v : AV} {st : List AV} (h : vok v) (hs : ∀ w ∈ st, vok w) : ∀ w ∈ v :: st, vok w := fun w hw => by
  rcases List.mem_cons.mp hw with rfl | hw
  · exact h
  · exact hs w hw
theorem vok_tl {v : AV} {st : List AV} (hs : ∀ w ∈ v :: st, vok w) : ∀ w ∈ st, vok w := fun w hw => hs w (List.mem_cons_of_mem _ hw)
theorem vok_hd {v : AV} {st : List AV} (hs : ∀ w ∈ v :: st, vok w) : vok v := hs v List.mem_cons_self
theorem l_vok {k i : Nat} {v : AV} (hk : l[k]? = some (i, v)) (hvl : ∀ q ∈ l, vok q.2) : vok v := hvl (i, v) (List.mem_of_getElem? hk)
theorem l_get {E : AE} {ls : Array Slot} {nL k i : Nat} {v : AV} (hl : lv_has ls nL (l.map (cvp E))) (hk : l[k]? = some (i, v)) : ls[i]? = some (.val (cv E v)) :=
  lv_at hl k (by rw [List.getElem?_map, hk]; rfl)
theorem vok_i {z : Int} {st : List AV} (hz : inR z) (hs : ∀ w ∈ st, vok w) : ∀ w ∈ vi z :: st, vok w := vok_cons (v := vi z) hz hs
theorem vok_l {z : Int} {st : List AV} (hz : inR64 z) (hs : ∀ w ∈ st, vok w) : ∀ w ∈ vl z :: st, vok w := vok_cons (v := vl z) hz hs
theorem vok_r {a : Nat} {st : List AV} (hs : ∀ w ∈ st, vok w) : ∀ w ∈ vr a :: st, vok w := vok_cons (v := vr a) trivial hs
theorem iv {z : Int} {st : List AV} (hs : ∀ w ∈ vi z :: st, vok w) : inR z := vok_hd (v := vi z) hs
theorem lv6 {z : Int} {st : List AV} (hs : ∀ w ∈ vl z :: st, vok w) : inR64 z := vok_hd (v := vl z) hs
theorem Sd_iconst {n : Int} (d : decode M.2.1 pc = .ok (.iconst n, 1)) (hp : pc + 1 = pc') (hn : inR n) (k : Sd M fr lw em pc' l (vi n :: st) h o) : Sd M fr lw em pc l (st) h o := by
  subst hp
  exact Sd.stack (fun hvl hs => ⟨vok_i hn hs, fun E p lc e R s m args below meth c H locs ls cells slots Q C hl w => lv_iconst C.1 C.2.1 d rfl w⟩) k
theorem Sd_bipush {n : Int} (d : decode M.2.1 pc = .ok (.bipush n, 2)) (hp : pc + 2 = pc') (hn : inR n) (he : (Int8.ofInt n).toInt32 = Int32.ofInt n) (k : Sd M fr lw em pc' l (vi n :: st) h o) : Sd M fr lw em pc l (st) h o := by
  subst hp
  exact Sd.stack (fun hvl hs => ⟨vok_i hn hs, fun E p lc e R s m args below meth c H locs ls cells slots Q C hl w => lv_bipush C.1 C.2.1 d he w⟩) k
theorem Sd_sipush {n : Int} (d : decode M.2.1 pc = .ok (.sipush n, 3)) (hp : pc + 3 = pc') (hn : inR n) (he : (Int16.ofInt n).toInt32 = Int32.ofInt n) (k : Sd M fr lw em pc' l (vi n :: st) h o) : Sd M fr lw em pc l (st) h o := by
  subst hp
  exact Sd.stack (fun hvl hs => ⟨vok_i hn hs, fun E p lc e R s m args below meth c H locs ls cells slots Q C hl w => lv_sipush C.1 C.2.1 d he w⟩) k
theorem Sd_ldc {n : Int} {index : Nat} (d : decode M.2.1 pc = .ok (.ldc index, 2)) (hp : pc + 2 = pc') (hn : inR n) (hw : Cond.constant M.1.cls index (Int32.ofInt n) ∈ Tb) (k : Sd M fr lw em pc' l (vi n :: st) h o) : Sd M fr lw em pc l (st) h o := by
  subst hp
  exact Sd.stack (fun hvl hs => ⟨vok_i hn hs, fun E p lc e R s m args below meth c H locs ls cells slots Q C hl w => lv_ldc C.1 C.2.1 C.2.2.2.2.1 (C.2.2.2.2.2.2.2.1 _ hw) d w⟩) k
theorem Sd_ldc2 {n : Int} {index : Nat} (d : decode M.2.1 pc = .ok (.ldc2_w index, 3)) (hp : pc + 3 = pc') (hn : inR64 n) (hw : Cond.constantLong M.1.cls index (Int64.ofInt n) ∈ Tb) (k : Sd M fr lw em pc' l (vl n :: st) h o) : Sd M fr lw em pc l (st) h o := by
  subst hp
  exact Sd.stack (fun hvl hs => ⟨vok_l hn hs, fun E p lc e R s m args below meth c H locs ls cells slots Q C hl w => lv_ldc2 C.1 C.2.1 C.2.2.2.2.1 (C.2.2.2.2.2.2.2.1 _ hw) d w⟩) k
theorem Sd_lconst {n : Fin 2} {z : Int} (d : decode M.2.1 pc = .ok (.lconst n, 1)) (hp : pc + 1 = pc') (hn : inR64 z) (he : Int64.ofNat (n : Nat) = Int64.ofInt z) (k : Sd M fr lw em pc' l (vl z :: st) h o) : Sd M fr lw em pc l (st) h o := by
  subst hp
  exact Sd.stack (fun hvl hs => ⟨vok_l hn hs, fun E p lc e R s m args below meth c H locs ls cells slots Q C hl w => lv_lconst C.1 C.2.1 d he w⟩) k
theorem Sd_lds {index a : Nat} {tx : String} (d : decode M.2.1 pc = .ok (.ldc index, 2)) (hp : pc + 2 = pc') (ha : a ≠ 0 ∧ a < 16) (hw : (M.1.cls, index, tx, a) ∈ strL) (k : Sd M fr lw em pc' l (vr a :: st) h o) : Sd M fr lw em pc l (st) h o := by
  subst hp
  exact Sd.stack (fun hvl hs => ⟨vok_r hs, fun E p lc e R s m args below meth c H locs ls cells slots Q C hl w => by rw [List.map_cons, show cv E (vr a) = .ref (E.2.1 a) from by show rv E a = _; unfold rv cad; rw [if_neg ha.1, if_pos ha.2]] at w; exact va_ldcS C.1 C.2.1 C.2.2.2.2.1 (C.2.2.2.2.2.2.2.2.2.2.2.2.2.1 _ hw) d w⟩) k
theorem Sd_iload_n {i : Fin 4} {j : Nat} {x : Int} (d : decode M.2.1 pc = .ok (.iload_n i, 1)) (hp : pc + 1 = pc') (kk : Nat) (hi : (i : Nat) = j) (hk : l[kk]? = some (j, vi x)) (k : Sd M fr lw em pc' l (vi x :: st) h o) : Sd M fr lw em pc l (st) h o := by
  subst hp
  exact Sd.stack (fun hvl hs => ⟨vok_cons (l_vok hk hvl) hs, fun E p lc e R s m args below meth c H locs ls cells slots Q C hl w => lv_iload_n C.1 C.2.1 d hi (l_get hl hk) w⟩) k
theorem Sd_iload {j : Nat} {x : Int} (d : decode M.2.1 pc = .ok (.iload j, 2)) (hp : pc + 2 = pc') (kk : Nat) (hk : l[kk]? = some (j, vi x)) (k : Sd M fr lw em pc' l (vi x :: st) h o) : Sd M fr lw em pc l (st) h o := by
  subst hp
  exact Sd.stack (fun hvl hs => ⟨vok_cons (l_vok hk hvl) hs, fun E p lc e R s m args below meth c H locs ls cells slots Q C hl w => lv_iload C.1 C.2.1 d (l_get hl hk) w⟩) k
theorem Sd_lload_n {i : Fin 4} {j : Nat} {x : Int} (d : decode M.2.1 pc = .ok (.lload_n i, 1)) (hp : pc + 1 = pc') (kk : Nat) (hi : (i : Nat) = j) (hk : l[kk]? = some (j, vl x)) (k : Sd M fr lw em pc' l (vl x :: st) h o) : Sd M fr lw em pc l (st) h o := by
  subst hp
  exact Sd.stack (fun hvl hs => ⟨vok_cons (l_vok hk hvl) hs, fun E p lc e R s m args below meth c H locs ls cells slots Q C hl w => lv_lload_n C.1 C.2.1 d hi (l_get hl hk) w⟩) k
theorem Sd_lload {j : Nat} {x : Int} (d : decode M.2.1 pc = .ok (.lload j, 2)) (hp : pc + 2 = pc') (kk : Nat) (hk : l[kk]? = some (j, vl x)) (k : Sd M fr lw em pc' l (vl x :: st) h o) : Sd M fr lw em pc l (st) h o := by
  subst hp
  exact Sd.stack (fun hvl hs => ⟨vok_cons (l_vok hk hvl) hs, fun E p lc e R s m args below meth c H locs ls cells slots Q C hl w => lv_lload C.1 C.2.1 d (l_get hl hk) w⟩) k
theorem Sd_aload_n {i : Fin 4} {j a : Nat} (d : decode M.2.1 pc = .ok (.aload_n i, 1)) (hp : pc + 1 = pc') (kk : Nat) (hi : (i : Nat) = j) (hk : l[kk]? = some (j, vr a)) (k : Sd M fr lw em pc' l (vr a :: st) h o) : Sd M fr lw em pc l (st) h o := by
  subst hp
  exact Sd.stack (fun hvl hs => ⟨vok_r hs, fun E p lc e R s m args below meth c H locs ls cells slots Q C hl w => by have hg := l_get hl hk; by_cases ha : a = 0; (· rw [show cv E (vr a) = .null from by subst ha; rfl] at hg; rw [List.map_cons, show cv E (vr a) = .null from by subst ha; rfl] at w; exact lv_aload_nN C.1 C.2.1 d hi hg w); (· rw [show cv E (vr a) = .ref (cad E a) from by show rv E a = _; unfold rv; rw [if_neg ha]] at hg; rw [List.map_cons, show cv E (vr a) = .ref (cad E a) from by show rv E a = _; unfold rv; rw [if_neg ha]] at w; exact lv_aload_n C.1 C.2.1 d hi hg w)⟩) k
theorem Sd_aload {j a : Nat} (d : decode M.2.1 pc = .ok (.aload j, 2)) (hp : pc + 2 = pc') (kk : Nat) (hk : l[kk]? = some (j, vr a)) (k : Sd M fr lw em pc' l (vr a :: st) h o) : Sd M fr lw em pc l (st) h o := by
  subst hp
  exact Sd.stack (fun hvl hs => ⟨vok_r hs, fun E p lc e R s m args below meth c H locs ls cells slots Q C hl w => by have hg := l_get hl hk; by_cases ha : a = 0; (· rw [show cv E (vr a) = .null from by subst ha; rfl] at hg; rw [List.map_cons, show cv E (vr a) = .null from by subst ha; rfl] at w; exact lv_aloadN C.1 C.2.1 d  hg w); (· rw [show cv E (vr a) = .ref (cad E a) from by show rv E a = _; unfold rv; rw [if_neg ha]] at hg; rw [List.map_cons, show cv E (vr a) = .ref (cad E a) from by show rv E a = _; unfold rv; rw [if_neg ha]] at w; exact lv_aload C.1 C.2.1 d  hg w)⟩) k
theorem Sd_iadd {x y : Int} (d : decode M.2.1 pc = .ok (.iadd, 1)) (hp : pc + 1 = pc') (k : Sd M fr lw em pc' l (vi (wr (x + y)) :: st) h o) : Sd M fr lw em pc l (vi y :: vi x :: st) h o := by
  subst hp
  exact Sd.stack (fun hvl hs => ⟨vok_i (inR_wr _) (vok_tl (vok_tl hs)), fun E p lc e R s m args below meth c H locs ls cells slots Q C hl w => lv_iadd C.1 C.2.1 d (by rw [i32_add x y]; exact w)⟩) k
theorem Sd_isub {x y : Int} (d : decode M.2.1 pc = .ok (.isub, 1)) (hp : pc + 1 = pc') (k : Sd M fr lw em pc' l (vi (wr (x - y)) :: st) h o) : Sd M fr lw em pc l (vi y :: vi x :: st) h o := by
  subst hp
  exact Sd.stack (fun hvl hs => ⟨vok_i (inR_wr _) (vok_tl (vok_tl hs)), fun E p lc e R s m args below meth c H locs ls cells slots Q C hl w => lv_isub C.1 C.2.1 d (by rw [i32_sub x y]; exact w)⟩) k
theorem Sd_imul {x y : Int} (d : decode M.2.1 pc = .ok (.imul, 1)) (hp : pc + 1 = pc') (k : Sd M fr lw em pc' l (vi (wr (x * y)) :: st) h o) : Sd M fr lw em pc l (vi y :: vi x :: st) h o := by
  subst hp
  exact Sd.stack (fun hvl hs => ⟨vok_i (inR_wr _) (vok_tl (vok_tl hs)), fun E p lc e R s m args below meth c H locs ls cells slots Q C hl w => lv_imul C.1 C.2.1 d (by rw [i32_mul x y]; exact w)⟩) k
def iAnd (x y : Int) : Int := (Int32.ofInt x &&& Int32.ofInt y).toInt
theorem Sd_iand {x y : Int} (d : decode M.2.1 pc = .ok (.iand, 1)) (hp : pc + 1 = pc') (k : Sd M fr lw em pc' l (vi (iAnd x y) :: st) h o) : Sd M fr lw em pc l (vi y :: vi x :: st) h o := by
  subst hp
  exact Sd.stack (fun hvl hs => ⟨vok_i (inR_toInt _) (vok_tl (vok_tl hs)), fun E p lc e R s m args below meth c H locs ls cells slots Q C hl w => lv_iand C.1 C.2.1 d (by rw [← of_toInt (Int32.ofInt x &&& Int32.ofInt y)]; exact w)⟩) k
def iOr (x y : Int) : Int := (Int32.ofInt x ||| Int32.ofInt y).toInt
theorem Sd_ior {x y : Int} (d : decode M.2.1 pc = .ok (.ior, 1)) (hp : pc + 1 = pc') (k : Sd M fr lw em pc' l (vi (iOr x y) :: st) h o) : Sd M fr lw em pc l (vi y :: vi x :: st) h o := by
  subst hp
  exact Sd.stack (fun hvl hs => ⟨vok_i (inR_toInt _) (vok_tl (vok_tl hs)), fun E p lc e R s m args below meth c H locs ls cells slots Q C hl w => lv_ior C.1 C.2.1 d (by rw [← of_toInt (Int32.ofInt x ||| Int32.ofInt y)]; exact w)⟩) k
def iXor (x y : Int) : Int := (Int32.ofInt x ^^^ Int32.ofInt y).toInt
theorem Sd_ixor {x y : Int} (d : decode M.2.1 pc = .ok (.ixor, 1)) (hp : pc + 1 = pc') (k : Sd M fr lw em pc' l (vi (iXor x y) :: st) h o) : Sd M fr lw em pc l (vi y :: vi x :: st) h o := by
  subst hp
  exact Sd.stack (fun hvl hs => ⟨vok_i (inR_toInt _) (vok_tl (vok_tl hs)), fun E p lc e R s m args below meth c H locs ls cells slots Q C hl w => lv_ixor C.1 C.2.1 d (by rw [← of_toInt (Int32.ofInt x ^^^ Int32.ofInt y)]; exact w)⟩) k
def iShl (x y : Int) : Int := (Int32.ofInt x <<< (Int32.ofInt y &&& 31)).toInt
theorem Sd_ishl {x y : Int} (d : decode M.2.1 pc = .ok (.ishl, 1)) (hp : pc + 1 = pc') (k : Sd M fr lw em pc' l (vi (iShl x y) :: st) h o) : Sd M fr lw em pc l (vi y :: vi x :: st) h o := by
  subst hp
  exact Sd.stack (fun hvl hs => ⟨vok_i (inR_toInt _) (vok_tl (vok_tl hs)), fun E p lc e R s m args below meth c H locs ls cells slots Q C hl w => lv_ishl C.1 C.2.1 d (by rw [← of_toInt (Int32.ofInt x <<< (Int32.ofInt y &&& 31))]; exact w)⟩) k
def iShr (x y : Int) : Int := (Int32.ofInt x >>> (Int32.ofInt y &&& 31)).toInt
theorem Sd_ishr {x y : Int} (d : decode M.2.1 pc = .ok (.ishr, 1)) (hp : pc + 1 = pc') (k : Sd M fr lw em pc' l (vi (iShr x y) :: st) h o) : Sd M fr lw em pc l (vi y :: vi x :: st) h o := by
  subst hp
  exact Sd.stack (fun hvl hs => ⟨vok_i (inR_toInt _) (vok_tl (vok_tl hs)), fun E p lc e R s m args below meth c H locs ls cells slots Q C hl w => lv_ishr C.1 C.2.1 d (by rw [← of_toInt (Int32.ofInt x >>> (Int32.ofInt y &&& 31))]; exact w)⟩) k
def iUshr (x y : Int) : Int := ((Int32.ofInt x).toUInt32 >>> ((Int32.ofInt y).toUInt32 &&& Int32.toUInt32 31)).toInt32.toInt
theorem Sd_iushr {x y : Int} (d : decode M.2.1 pc = .ok (.iushr, 1)) (hp : pc + 1 = pc') (k : Sd M fr lw em pc' l (vi (iUshr x y) :: st) h o) : Sd M fr lw em pc l (vi y :: vi x :: st) h o := by
  subst hp
  exact Sd.stack (fun hvl hs => ⟨vok_i (inR_toInt _) (vok_tl (vok_tl hs)), fun E p lc e R s m args below meth c H locs ls cells slots Q C hl w => lv_iushr C.1 C.2.1 d (of_toInt _).symm w⟩) k
def iDiv (x y : Int) : Int := (Int32.ofInt x / Int32.ofInt y).toInt
def iRem (x y : Int) : Int := (Int32.ofInt x - Int32.ofInt x / Int32.ofInt y * Int32.ofInt y).toInt
def lRem (x y : Int) : Int := (Int64.ofInt x - Int64.ofInt x / Int64.ofInt y * Int64.ofInt y).toInt
def lAnd (x y : Int) : Int := (Int64.ofInt x &&& Int64.ofInt y).toInt
theorem of_toInt64 (x : Int64) : Int64.ofInt x.toInt = x := Int64.ofInt_toInt x
theorem inR64_toInt (x : Int64) : inR64 x.toInt := ⟨by have := Int64.le_toInt x; simpa using this, by have := Int64.toInt_lt x; simpa using this⟩
theorem inR64_ofInt {z : Int} (h : inR64 z) : (Int64.ofInt z).toInt = z := Int64.toInt_ofInt_of_le h.1 h.2
theorem inR64_wr (z : Int) : inR64 (wr64 z) := by
  unfold wr64 inR64
  have h1 := Int.le_bmod (x := z) (m := 18446744073709551616) (by decide)
  have h2 := Int.bmod_lt (x := z) (m := 18446744073709551616) (by decide)
  omega
theorem ofInt_wr64 (z : Int) : Int64.ofInt (wr64 z) = Int64.ofInt z := by
  apply Int64.toInt_inj.mp
  rw [inR64_ofInt (inR64_wr z), Int64.toInt_ofInt]
  rfl
theorem i64_lt {x y : Int} (hx : inR64 x) (hy : inR64 y) : Int64.ofInt x < Int64.ofInt y ↔ x < y := by
  rw [Int64.lt_iff_toInt_lt, inR64_ofInt hx, inR64_ofInt hy]
theorem i64_inj {x y : Int} (hx : inR64 x) (hy : inR64 y) : Int64.ofInt x = Int64.ofInt y ↔ x = y := by
  constructor
  · intro h
    have := congrArg Int64.toInt h
    rwa [inR64_ofInt hx, inR64_ofInt hy] at this
  · intro h; rw [h]
theorem Sd_ladd {x y : Int} (d : decode M.2.1 pc = .ok (.ladd, 1)) (hp : pc + 1 = pc') (k : Sd M fr lw em pc' l (vl (wr64 (x + y)) :: st) h o) : Sd M fr lw em pc l (vl y :: vl x :: st) h o := by
  subst hp
  exact Sd.stack (fun hvl hs => ⟨vok_l (inR64_wr _) (vok_tl (vok_tl hs)), fun E p lc e R s m args below meth c H locs ls cells slots Q C hl w => lv_ladd C.1 C.2.1 d (by rw [← Int64.ofInt_add, ← ofInt_wr64]; exact w)⟩) k
theorem Sd_lmul {x y : Int} (d : decode M.2.1 pc = .ok (.lmul, 1)) (hp : pc + 1 = pc') (k : Sd M fr lw em pc' l (vl (wr64 (x * y)) :: st) h o) : Sd M fr lw em pc l (vl y :: vl x :: st) h o := by
  subst hp
  exact Sd.stack (fun hvl hs => ⟨vok_l (inR64_wr _) (vok_tl (vok_tl hs)), fun E p lc e R s m args below meth c H locs ls cells slots Q C hl w => lv_lmul C.1 C.2.1 d (by rw [← Int64.ofInt_mul, ← ofInt_wr64]; exact w)⟩) k
theorem Sd_land {x y : Int} (d : decode M.2.1 pc = .ok (.land, 1)) (hp : pc + 1 = pc') (k : Sd M fr lw em pc' l (vl (lAnd x y) :: st) h o) : Sd M fr lw em pc l (vl y :: vl x :: st) h o := by
  subst hp
  exact Sd.stack (fun hvl hs => ⟨vok_l (inR64_toInt _) (vok_tl (vok_tl hs)), fun E p lc e R s m args below meth c H locs ls cells slots Q C hl w => lv_land C.1 C.2.1 d (by rw [← of_toInt64 (Int64.ofInt x &&& Int64.ofInt y)]; exact w)⟩) k
theorem Sd_i2l {x : Int} (d : decode M.2.1 pc = .ok (.i2l, 1)) (hp : pc + 1 = pc') (k : Sd M fr lw em pc' l (vl x :: st) h o) : Sd M fr lw em pc l (vi x :: st) h o := by
  subst hp
  exact Sd.stack (fun hvl hs => ⟨vok_l ⟨by have := iv hs; unfold inR at this; omega, by have := iv hs; unfold inR at this; omega⟩ (vok_tl hs), fun E p lc e R s m args below meth c H locs ls cells slots Q C hl w => lv_i2l C.1 C.2.1 d (by apply Int64.toInt_inj.mp; rw [Int32.toInt_toInt64, inR_ofInt (iv hs), inR64_ofInt ⟨by have := iv hs; unfold inR at this; omega, by have := iv hs; unfold inR at this; omega⟩]) w⟩) k
theorem Sd_l2i {x : Int} (d : decode M.2.1 pc = .ok (.l2i, 1)) (hp : pc + 1 = pc') (k : Sd M fr lw em pc' l (vi (wr x) :: st) h o) : Sd M fr lw em pc l (vl x :: st) h o := by
  subst hp
  exact Sd.stack (fun hvl hs => ⟨vok_i (inR_wr _) (vok_tl hs), fun E p lc e R s m args below meth c H locs ls cells slots Q C hl w => lv_l2i C.1 C.2.1 d (by rw [ofInt_wr]; apply Int32.toInt_inj.mp; rw [Int64.toInt_toInt32, inR64_ofInt (lv6 hs), Int32.toInt_ofInt]) w⟩) k
def i2b (x : Int) : Int := (Int32.ofInt x).toInt8.toInt32.toInt
theorem Sd_i2b {x : Int} (d : decode M.2.1 pc = .ok (.i2b, 1)) (hp : pc + 1 = pc') (k : Sd M fr lw em pc' l (vi (i2b x) :: st) h o) : Sd M fr lw em pc l (vi x :: st) h o := by
  subst hp
  exact Sd.stack (fun hvl hs => ⟨vok_i (inR_toInt _) (vok_tl hs), fun E p lc e R s m args below meth c H locs ls cells slots Q C hl w => lv_i2b C.1 C.2.1 d (of_toInt _).symm w⟩) k
def lCmp (x y : Int) : Int := if y < x then 1 else if x = y then 0 else -1
theorem Sd_lcmp {x y : Int} (d : decode M.2.1 pc = .ok (.lcmp, 1)) (hp : pc + 1 = pc') (k : Sd M fr lw em pc' l (vi (lCmp x y) :: st) h o) : Sd M fr lw em pc l (vl y :: vl x :: st) h o := by
  subst hp
  exact Sd.stack (fun hvl hs => ⟨vok_i (by unfold lCmp inR; split <;> (try split) <;> decide) (vok_tl (vok_tl hs)), fun E p lc e R s m args below meth c H locs ls cells slots Q C hl w => W.lcmp C.1 C.2.1 d (by have e : lg_cmp (Int64.ofInt x) (Int64.ofInt y) = Int32.ofInt (lCmp x y) := (by have hx := lv6 (vok_tl hs); have hy := lv6 hs; unfold lg_cmp lCmp; simp only [i64_lt hy hx, i64_inj hx hy]; split <;> (try split) <;> rfl); rw [e]; exact w)⟩) k
theorem Sd_dup {v : AV} (d : decode M.2.1 pc = .ok (.dup, 1)) (hp : pc + 1 = pc') (hc : ∀ E, (cv E v).category = 1) (k : Sd M fr lw em pc' l (v :: v :: st) h o) : Sd M fr lw em pc l (v :: st) h o := by
  subst hp
  exact Sd.stack (fun hvl hs => ⟨vok_cons (vok_hd hs) hs, fun E p lc e R s m args below meth c H locs ls cells slots Q C hl w => lv_dup C.1 C.2.1 d (hc E) w⟩) k
theorem Sd_pop {v : AV} (d : decode M.2.1 pc = .ok (.pop, 1)) (hp : pc + 1 = pc') (hc : ∀ E, (cv E v).category = 1) (k : Sd M fr lw em pc' l (st) h o) : Sd M fr lw em pc l (v :: st) h o := by
  subst hp
  exact Sd.stack (fun hvl hs => ⟨vok_tl hs, fun E p lc e R s m args below meth c H locs ls cells slots Q C hl w => lv_pop C.1 C.2.1 d (hc E) w⟩) k
theorem Sd_dup2 {v u : AV} (d : decode M.2.1 pc = .ok (.dup2, 1)) (hp : pc + 1 = pc') (hc : ∀ E, (cv E v).category = 1) (hc2 : ∀ E, (cv E u).category = 1) (k : Sd M fr lw em pc' l (v :: u :: v :: u :: st) h o) : Sd M fr lw em pc l (v :: u :: st) h o := by
  subst hp
  exact Sd.stack (fun hvl hs => ⟨vok_cons (vok_hd hs) (vok_cons (vok_hd (vok_tl hs)) hs), fun E p lc e R s m args below meth c H locs ls cells slots Q C hl w => lv_dup2_11 C.1 C.2.1 d (hc E) (hc2 E) w⟩) k
theorem cat_i (z : Int) : ∀ E, (cv E (vi z)).category = 1 := fun _ => rfl
theorem cat_r (a : Nat) : ∀ E, (cv E (vr a)).category = 1 := fun E => by show (rv E a).category = 1; unfold rv; split <;> rfl
theorem Sd_goto {off : Int} (d : decode M.2.1 pc = .ok (.goto off, 3)) (ht : (pc : Int) + off = (tgt : Int)) (k : Sd M fr lw em tgt l st h o) : Sd M fr lw em pc l st h o :=
  Sd.stack (fun hvl hs => ⟨hs, fun E p lc e R s m args below meth c H locs ls cells slots Q C hl w => lv_goto C.1 C.2.1 d ht w⟩) k
theorem Sd_idiv {x y : Int} (d : decode M.2.1 pc = .ok (.idiv, 1)) (hp : pc + 1 = pc') (k : Sd M fr lw em pc' l (vi (iDiv x y) :: st) h o) : Sd M fr lw em pc l (vi y :: vi x :: st) h (if y = 0 then none else o) := by
  subst hp
  by_cases hy : y = 0
  · rw [if_pos hy]; exact Sd.none
  rw [if_neg hy]
  refine Sd.stack (fun hvl hs => ⟨vok_i (inR_toInt _) (vok_tl (vok_tl hs)), fun E p lc e R s m args below meth c H locs ls cells slots Q C hl w => lv_idiv C.1 C.2.1 d (fun q => hy ?_) ?_⟩) k
  · exact (i32_inj (iv hs) inR0).mp q
  · rw [← of_toInt (Int32.ofInt x / Int32.ofInt y)]; exact w
theorem Sd_irem {x y : Int} (d : decode M.2.1 pc = .ok (.irem, 1)) (hp : pc + 1 = pc') (k : Sd M fr lw em pc' l (vi (iRem x y) :: st) h o) : Sd M fr lw em pc l (vi y :: vi x :: st) h (if y = 0 then none else o) := by
  subst hp
  by_cases hy : y = 0
  · rw [if_pos hy]; exact Sd.none
  rw [if_neg hy]
  refine Sd.stack (fun hvl hs => ⟨vok_i (inR_toInt _) (vok_tl (vok_tl hs)), fun E p lc e R s m args below meth c H locs ls cells slots Q C hl w => lv_irem C.1 C.2.1 d (fun q => hy ?_) ?_⟩) k
  · exact (i32_inj (iv hs) inR0).mp q
  · rw [← of_toInt (Int32.ofInt x - Int32.ofInt x / Int32.ofInt y * Int32.ofInt y)]; exact w
theorem inR640 : inR64 0 := ⟨by decide, by decide⟩
theorem Sd_lrem {x y : Int} (d : decode M.2.1 pc = .ok (.lrem, 1)) (hp : pc + 1 = pc') (k : Sd M fr lw em pc' l (vl (lRem x y) :: st) h o) : Sd M fr lw em pc l (vl y :: vl x :: st) h (if y = 0 then none else o) := by
  subst hp
  by_cases hy : y = 0
  · rw [if_pos hy]; exact Sd.none
  rw [if_neg hy]
  refine Sd.stack (fun hvl hs => ⟨vok_l (inR64_toInt _) (vok_tl (vok_tl hs)), fun E p lc e R s m args below meth c H locs ls cells slots Q C hl w => lv_lrem C.1 C.2.1 d (fun q => hy ?_) ?_⟩) k
  · exact (i64_inj (lv6 hs) inR640).mp q
  · rw [← of_toInt64 (Int64.ofInt x - Int64.ofInt x / Int64.ofInt y * Int64.ofInt y)]; exact w
/-- a branch -/
theorem Sd.br {c : Prop} (hst : (∀ v ∈ st, vok v) → (∀ v ∈ st', vok v) ∧ ∀ (E : AE) (p : Program) (lc : Launch) (e : Env) (R : Room) (s : State) (m : MethodId) (args : Array Value) (below : List Frame) (meth : Method) (cd : Code) (H : Heap) (locs : List Loc) (ls : Array Slot) (cells slots : Nat) (Q : State → Prop),
      Ctx M fr lw E p R s m args meth cd → (c → W p lc e R s m args below meth cd H locs cells slots Q (F0 m tgt ls (st'.map (cv E)))) → (¬ c → W p lc e R s m args below meth cd H locs cells slots Q (F0 m pc' ls (st'.map (cv E)))) → W p lc e R s m args below meth cd H locs cells slots Q (F0 m pc ls (st.map (cv E))))
    (inst : Decidable c) (k1 : c → Sd M fr lw em tgt l st' h o1) (k2 : ¬ c → Sd M fr lw em pc' l st' h o2) : Sd M fr lw em pc l st h (@ite _ c inst o1 o2) := by
  intro r h' ho
  by_cases hc : c
  · rw [if_pos hc] at ho
    obtain ⟨hm, hk⟩ := k1 hc r h' ho
    refine ⟨hm, fun E p lc e R s m args below meth cd n0 s0 H locs ls C hc1 hs hn hn2 hH hS hl hvl hvs => ?_⟩
    obtain ⟨hv, hw⟩ := hst hvs
    exact hw E p lc e R s m args below meth cd H locs ls _ _ _ C (fun _ => hk E p lc e R s m args below meth cd n0 s0 H locs ls C hc1 hs hn hn2 hH hS hl hvl hv) (fun q => absurd hc q)
  · rw [if_neg hc] at ho
    obtain ⟨hm, hk⟩ := k2 hc r h' ho
    refine ⟨hm, fun E p lc e R s m args below meth cd n0 s0 H locs ls C hc1 hs hn hn2 hH hS hl hvl hvs => ?_⟩
    obtain ⟨hv, hw⟩ := hst hvs
    exact hw E p lc e R s m args below meth cd H locs ls _ _ _ C (fun q => absurd q hc) (fun _ => hk E p lc e R s m args below meth cd n0 s0 H locs ls C hc1 hs hn hn2 hH hS hl hvl hv)
theorem Sd_icmp_eq {x y : Int} {off : Int} (d : decode M.2.1 pc = .ok (.if_icmp .eq off, 3)) (ht : (pc : Int) + off = (tgt : Int)) (hp : pc + 3 = pc') {inst : Decidable (x = y)} (k1 : x = y → Sd M fr lw em tgt l st h o1) (k2 : ¬ (x = y) → Sd M fr lw em pc' l st h o2) : Sd M fr lw em pc l (vi y :: vi x :: st) h (@ite _ (x = y) inst o1 o2) := by
  subst hp
  refine Sd.br (fun hs => ⟨vok_tl (vok_tl hs), fun E p lc e R s m args below meth cd H locs ls cells slots Q C w1 w2 => lv_icmp_eq C.1 C.2.1 d ht (fun q => w1 ?_) (fun q => w2 ?_)⟩) inst k1 k2
  · exact (i32_inj (iv (vok_tl hs)) (iv hs)).mp q
  · exact fun z => q ((i32_inj (iv (vok_tl hs)) (iv hs)).mpr z)
theorem Sd_if_eq {x : Int} {off : Int} (d : decode M.2.1 pc = .ok (.ifCond .eq off, 3)) (ht : (pc : Int) + off = (tgt : Int)) (hp : pc + 3 = pc') {inst : Decidable (x = 0)} (k1 : x = 0 → Sd M fr lw em tgt l st h o1) (k2 : ¬ (x = 0) → Sd M fr lw em pc' l st h o2) : Sd M fr lw em pc l (vi x :: st) h (@ite _ (x = 0) inst o1 o2) := by
  subst hp
  refine Sd.br (fun hs => ⟨vok_tl hs, fun E p lc e R s m args below meth cd H locs ls cells slots Q C w1 w2 => lv_if_eq C.1 C.2.1 d ht (fun q => w1 ?_) (fun q => w2 ?_)⟩) inst k1 k2
  · exact (i32_inj (iv hs) inR0).mp q
  · exact fun z => q ((i32_inj (iv hs) inR0).mpr z)
theorem Sd_icmp_ne {x y : Int} {off : Int} (d : decode M.2.1 pc = .ok (.if_icmp .ne off, 3)) (ht : (pc : Int) + off = (tgt : Int)) (hp : pc + 3 = pc') {inst : Decidable (¬ x = y)} (k1 : ¬ x = y → Sd M fr lw em tgt l st h o1) (k2 : ¬ (¬ x = y) → Sd M fr lw em pc' l st h o2) : Sd M fr lw em pc l (vi y :: vi x :: st) h (@ite _ (¬ x = y) inst o1 o2) := by
  subst hp
  refine Sd.br (fun hs => ⟨vok_tl (vok_tl hs), fun E p lc e R s m args below meth cd H locs ls cells slots Q C w1 w2 => lv_icmp_ne C.1 C.2.1 d ht (fun q => w1 ?_) (fun q => w2 ?_)⟩) inst k1 k2
  · exact (not_congr (i32_inj (iv (vok_tl hs)) (iv hs))).mp q
  · exact fun z => (not_congr (i32_inj (iv (vok_tl hs)) (iv hs))).mpr z q
theorem Sd_if_ne {x : Int} {off : Int} (d : decode M.2.1 pc = .ok (.ifCond .ne off, 3)) (ht : (pc : Int) + off = (tgt : Int)) (hp : pc + 3 = pc') {inst : Decidable (¬ x = 0)} (k1 : ¬ x = 0 → Sd M fr lw em tgt l st h o1) (k2 : ¬ (¬ x = 0) → Sd M fr lw em pc' l st h o2) : Sd M fr lw em pc l (vi x :: st) h (@ite _ (¬ x = 0) inst o1 o2) := by
  subst hp
  refine Sd.br (fun hs => ⟨vok_tl hs, fun E p lc e R s m args below meth cd H locs ls cells slots Q C w1 w2 => lv_if_ne C.1 C.2.1 d ht (fun q => w1 ?_) (fun q => w2 ?_)⟩) inst k1 k2
  · exact (not_congr (i32_inj (iv hs) inR0)).mp q
  · exact fun z => (not_congr (i32_inj (iv hs) inR0)).mpr z q
theorem Sd_icmp_lt {x y : Int} {off : Int} (d : decode M.2.1 pc = .ok (.if_icmp .lt off, 3)) (ht : (pc : Int) + off = (tgt : Int)) (hp : pc + 3 = pc') {inst : Decidable (x < y)} (k1 : x < y → Sd M fr lw em tgt l st h o1) (k2 : ¬ (x < y) → Sd M fr lw em pc' l st h o2) : Sd M fr lw em pc l (vi y :: vi x :: st) h (@ite _ (x < y) inst o1 o2) := by
  subst hp
  refine Sd.br (fun hs => ⟨vok_tl (vok_tl hs), fun E p lc e R s m args below meth cd H locs ls cells slots Q C w1 w2 => lv_icmp_lt C.1 C.2.1 d ht (fun q => w1 ?_) (fun q => w2 ?_)⟩) inst k1 k2
  · exact (i32_lt (iv (vok_tl hs)) (iv hs)).mp q
  · exact fun z => q ((i32_lt (iv (vok_tl hs)) (iv hs)).mpr z)
theorem Sd_if_lt {x : Int} {off : Int} (d : decode M.2.1 pc = .ok (.ifCond .lt off, 3)) (ht : (pc : Int) + off = (tgt : Int)) (hp : pc + 3 = pc') {inst : Decidable (x < 0)} (k1 : x < 0 → Sd M fr lw em tgt l st h o1) (k2 : ¬ (x < 0) → Sd M fr lw em pc' l st h o2) : Sd M fr lw em pc l (vi x :: st) h (@ite _ (x < 0) inst o1 o2) := by
  subst hp
  refine Sd.br (fun hs => ⟨vok_tl hs, fun E p lc e R s m args below meth cd H locs ls cells slots Q C w1 w2 => lv_if_lt C.1 C.2.1 d ht (fun q => w1 ?_) (fun q => w2 ?_)⟩) inst k1 k2
  · exact (i32_lt (iv hs) inR0).mp q
  · exact fun z => q ((i32_lt (iv hs) inR0).mpr z)
theorem Sd_icmp_ge {x y : Int} {off : Int} (d : decode M.2.1 pc = .ok (.if_icmp .ge off, 3)) (ht : (pc : Int) + off = (tgt : Int)) (hp : pc + 3 = pc') {inst : Decidable (y ≤ x)} (k1 : y ≤ x → Sd M fr lw em tgt l st h o1) (k2 : ¬ (y ≤ x) → Sd M fr lw em pc' l st h o2) : Sd M fr lw em pc l (vi y :: vi x :: st) h (@ite _ (y ≤ x) inst o1 o2) := by
  subst hp
  refine Sd.br (fun hs => ⟨vok_tl (vok_tl hs), fun E p lc e R s m args below meth cd H locs ls cells slots Q C w1 w2 => lv_icmp_ge C.1 C.2.1 d ht (fun q => w1 ?_) (fun q => w2 ?_)⟩) inst k1 k2
  · exact (i32_le (iv hs) (iv (vok_tl hs))).mp q
  · exact fun z => q ((i32_le (iv hs) (iv (vok_tl hs))).mpr z)
theorem Sd_if_ge {x : Int} {off : Int} (d : decode M.2.1 pc = .ok (.ifCond .ge off, 3)) (ht : (pc : Int) + off = (tgt : Int)) (hp : pc + 3 = pc') {inst : Decidable (0 ≤ x)} (k1 : 0 ≤ x → Sd M fr lw em tgt l st h o1) (k2 : ¬ (0 ≤ x) → Sd M fr lw em pc' l st h o2) : Sd M fr lw em pc l (vi x :: st) h (@ite _ (0 ≤ x) inst o1 o2) := by
  subst hp
  refine Sd.br (fun hs => ⟨vok_tl hs, fun E p lc e R s m args below meth cd H locs ls cells slots Q C w1 w2 => lv_if_ge C.1 C.2.1 d ht (fun q => w1 ?_) (fun q => w2 ?_)⟩) inst k1 k2
  · exact (i32_le inR0 (iv hs)).mp q
  · exact fun z => q ((i32_le inR0 (iv hs)).mpr z)
theorem Sd_icmp_gt {x y : Int} {off : Int} (d : decode M.2.1 pc = .ok (.if_icmp .gt off, 3)) (ht : (pc : Int) + off = (tgt : Int)) (hp : pc + 3 = pc') {inst : Decidable (y < x)} (k1 : y < x → Sd M fr lw em tgt l st h o1) (k2 : ¬ (y < x) → Sd M fr lw em pc' l st h o2) : Sd M fr lw em pc l (vi y :: vi x :: st) h (@ite _ (y < x) inst o1 o2) := by
  subst hp
  refine Sd.br (fun hs => ⟨vok_tl (vok_tl hs), fun E p lc e R s m args below meth cd H locs ls cells slots Q C w1 w2 => lv_icmp_gt C.1 C.2.1 d ht (fun q => w1 ?_) (fun q => w2 ?_)⟩) inst k1 k2
  · exact (i32_lt (iv hs) (iv (vok_tl hs))).mp q
  · exact fun z => q ((i32_lt (iv hs) (iv (vok_tl hs))).mpr z)
theorem Sd_if_gt {x : Int} {off : Int} (d : decode M.2.1 pc = .ok (.ifCond .gt off, 3)) (ht : (pc : Int) + off = (tgt : Int)) (hp : pc + 3 = pc') {inst : Decidable (0 < x)} (k1 : 0 < x → Sd M fr lw em tgt l st h o1) (k2 : ¬ (0 < x) → Sd M fr lw em pc' l st h o2) : Sd M fr lw em pc l (vi x :: st) h (@ite _ (0 < x) inst o1 o2) := by
  subst hp
  refine Sd.br (fun hs => ⟨vok_tl hs, fun E p lc e R s m args below meth cd H locs ls cells slots Q C w1 w2 => lv_if_gt C.1 C.2.1 d ht (fun q => w1 ?_) (fun q => w2 ?_)⟩) inst k1 k2
  · exact (i32_lt inR0 (iv hs)).mp q
  · exact fun z => q ((i32_lt inR0 (iv hs)).mpr z)
theorem Sd_icmp_le {x y : Int} {off : Int} (d : decode M.2.1 pc = .ok (.if_icmp .le off, 3)) (ht : (pc : Int) + off = (tgt : Int)) (hp : pc + 3 = pc') {inst : Decidable (x ≤ y)} (k1 : x ≤ y → Sd M fr lw em tgt l st h o1) (k2 : ¬ (x ≤ y) → Sd M fr lw em pc' l st h o2) : Sd M fr lw em pc l (vi y :: vi x :: st) h (@ite _ (x ≤ y) inst o1 o2) := by
  subst hp
  refine Sd.br (fun hs => ⟨vok_tl (vok_tl hs), fun E p lc e R s m args below meth cd H locs ls cells slots Q C w1 w2 => lv_icmp_le C.1 C.2.1 d ht (fun q => w1 ?_) (fun q => w2 ?_)⟩) inst k1 k2
  · exact (i32_le (iv (vok_tl hs)) (iv hs)).mp q
  · exact fun z => q ((i32_le (iv (vok_tl hs)) (iv hs)).mpr z)
theorem Sd_if_le {x : Int} {off : Int} (d : decode M.2.1 pc = .ok (.ifCond .le off, 3)) (ht : (pc : Int) + off = (tgt : Int)) (hp : pc + 3 = pc') {inst : Decidable (x ≤ 0)} (k1 : x ≤ 0 → Sd M fr lw em tgt l st h o1) (k2 : ¬ (x ≤ 0) → Sd M fr lw em pc' l st h o2) : Sd M fr lw em pc l (vi x :: st) h (@ite _ (x ≤ 0) inst o1 o2) := by
  subst hp
  refine Sd.br (fun hs => ⟨vok_tl hs, fun E p lc e R s m args below meth cd H locs ls cells slots Q C w1 w2 => lv_if_le C.1 C.2.1 d ht (fun q => w1 ?_) (fun q => w2 ?_)⟩) inst k1 k2
  · exact (i32_le (iv hs) inR0).mp q
  · exact fun z => q ((i32_le (iv hs) inR0).mpr z)
theorem Sd_ifnull {a : Nat} {off : Int} (d : decode M.2.1 pc = .ok (.ifnull off, 3)) (ht : (pc : Int) + off = (tgt : Int)) (hp : pc + 3 = pc') {inst : Decidable (a = 0)} (k1 : a = 0 → Sd M fr lw em tgt l st h o1) (k2 : ¬ (a = 0) → Sd M fr lw em pc' l st h o2) : Sd M fr lw em pc l (vr a :: st) h (@ite _ (a = 0) inst o1 o2) := by
  subst hp
  refine Sd.br (fun hs => ⟨vok_tl hs, fun E p lc e R s m args below meth cd H locs ls cells slots Q C w1 w2 => ?_⟩) inst k1 k2
  by_cases ha : a = 0
  · rw [List.map_cons, show cv E (vr a) = .null from by subst ha; rfl]; exact lv_ifnullN C.1 C.2.1 d ht (w1 ha)
  · rw [List.map_cons, show cv E (vr a) = .ref (cad E a) from by show rv E a = _; unfold rv; rw [if_neg ha]]; exact lv_ifnull C.1 C.2.1 d (w2 ha)
theorem Sd_ifnonnull {a : Nat} {off : Int} (d : decode M.2.1 pc = .ok (.ifnonnull off, 3)) (ht : (pc : Int) + off = (tgt : Int)) (hp : pc + 3 = pc') {inst : Decidable (¬ a = 0)} (k1 : ¬ a = 0 → Sd M fr lw em tgt l st h o1) (k2 : ¬ (¬ a = 0) → Sd M fr lw em pc' l st h o2) : Sd M fr lw em pc l (vr a :: st) h (@ite _ (¬ a = 0) inst o1 o2) := by
  subst hp
  refine Sd.br (fun hs => ⟨vok_tl hs, fun E p lc e R s m args below meth cd H locs ls cells slots Q C w1 w2 => ?_⟩) inst k1 k2
  by_cases ha : a = 0
  · rw [List.map_cons, show cv E (vr a) = .null from by subst ha; rfl]; exact lv_ifnonnullN C.1 C.2.1 d (w2 (fun q => q ha))
  · rw [List.map_cons, show cv E (vr a) = .ref (cad E a) from by show rv E a = _; unfold rv; rw [if_neg ha]]; exact lv_ifnonnull C.1 C.2.1 d ht (w1 ha)
end SD
