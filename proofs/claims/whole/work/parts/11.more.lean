/-! AM: calls by kinds of answers, switches, decode rows by a table -/
theorem dc {cc : ByteArray} {T : List (Nat × Instr × Nat)} (D : (T.all fun q => decide (decode cc q.1 = .ok q.2)) = true) (k : Nat) {pc : Nat} {i : Instr} {n : Nat} (h : T[k]? = some (pc, i, n)) : decode cc pc = .ok (i, n) := by
  have := List.all_eq_true.mp D _ (List.mem_of_getElem? h)
  exact of_decide_eq_true this
def FU : Nat := 1000000
section SK
variable {ρ ρ' : Type} {M M' : AMt} {fr lw fr' lw' : Nat} {em : ρ → Option AV} {em' : ρ' → Option AV} {pc pc' tgt : Nat} {l : List (Nat × AV)} {st stk as : List AV} {h : AH}
theorem Sd.callVI {o' : Option (Int × AH)} {kf : Int → AH → Option (ρ × AH)} {idx ci t a n : Nat} (C0 : String) (d : decode M.2.1 pc = .ok (.invokevirtual idx, 3)) (hp : pc + 3 = pc') (ht : ci + 1 = t) (hq0 : (vwCl[ci]?).map (fun q => q.1) = some C0) (hC : M'.1.cls = C0) (hm : MOk M' n) (hl : Cond.methodLink M.1.cls idx M'.1 ∈ Tb) (hi : Cond.instanceMethod M'.1 ∈ Tb) (hsel : Cond.selects C0 M'.1 M'.1 ∈ Tb) (hrm : fr' + 1 ≤ fr ∧ 8 + (M'.2.2.1 + 11) + lw' ≤ lw) (hn : as.length = n) (hst : stk = as.reverse ++ vr a :: st) (hcat : (st.map catA).sum ≤ 8) (hcs : CS M' fr' lw' emI (vr a :: as) h o') (kk : ∀ r1 h1, Sd M fr lw em pc' l (vi r1 :: st) h1 (kf r1 h1)) : Sd M fr lw em pc l stk h (rc h t a (bnd o' kf)) :=
  Sd.callV C0 d hp ht hq0 hC hm hl hi hsel hrm hn hst hcat hcs (fun r1 h1 => kk r1 h1)
theorem Sd.callVV {o' : Option (Unit × AH)} {kf : Unit → AH → Option (ρ × AH)} {idx ci t a n : Nat} (C0 : String) (d : decode M.2.1 pc = .ok (.invokevirtual idx, 3)) (hp : pc + 3 = pc') (ht : ci + 1 = t) (hq0 : (vwCl[ci]?).map (fun q => q.1) = some C0) (hC : M'.1.cls = C0) (hm : MOk M' n) (hl : Cond.methodLink M.1.cls idx M'.1 ∈ Tb) (hi : Cond.instanceMethod M'.1 ∈ Tb) (hsel : Cond.selects C0 M'.1 M'.1 ∈ Tb) (hrm : fr' + 1 ≤ fr ∧ 8 + (M'.2.2.1 + 11) + lw' ≤ lw) (hn : as.length = n) (hst : stk = as.reverse ++ vr a :: st) (hcat : (st.map catA).sum ≤ 8) (hcs : CS M' fr' lw' emV (vr a :: as) h o') (kk : ∀ r1 h1, Sd M fr lw em pc' l (st) h1 (kf r1 h1)) : Sd M fr lw em pc l stk h (rc h t a (bnd o' kf)) :=
  Sd.callV C0 d hp ht hq0 hC hm hl hi hsel hrm hn hst hcat hcs (fun r1 h1 => kk r1 h1)
theorem Sd.callVR {o' : Option (Nat × AH)} {kf : Nat → AH → Option (ρ × AH)} {idx ci t a n : Nat} (C0 : String) (d : decode M.2.1 pc = .ok (.invokevirtual idx, 3)) (hp : pc + 3 = pc') (ht : ci + 1 = t) (hq0 : (vwCl[ci]?).map (fun q => q.1) = some C0) (hC : M'.1.cls = C0) (hm : MOk M' n) (hl : Cond.methodLink M.1.cls idx M'.1 ∈ Tb) (hi : Cond.instanceMethod M'.1 ∈ Tb) (hsel : Cond.selects C0 M'.1 M'.1 ∈ Tb) (hrm : fr' + 1 ≤ fr ∧ 8 + (M'.2.2.1 + 11) + lw' ≤ lw) (hn : as.length = n) (hst : stk = as.reverse ++ vr a :: st) (hcat : (st.map catA).sum ≤ 8) (hcs : CS M' fr' lw' emR (vr a :: as) h o') (kk : ∀ r1 h1, Sd M fr lw em pc' l (vr r1 :: st) h1 (kf r1 h1)) : Sd M fr lw em pc l stk h (rc h t a (bnd o' kf)) :=
  Sd.callV C0 d hp ht hq0 hC hm hl hi hsel hrm hn hst hcat hcs (fun r1 h1 => kk r1 h1)
theorem Sd.callSI {o' : Option (Int × AH)} {kf : Int → AH → Option (ρ × AH)} {idx n : Nat} (d : decode M.2.1 pc = .ok (.invokestatic idx, 3)) (hp : pc + 3 = pc') (hm : MOk M' n) (hl : Cond.methodLink M.1.cls idx M'.1 ∈ Tb) (hstt : Cond.static M'.1 ∈ Tb) (hrm : fr' + 1 ≤ fr ∧ 8 + (M'.2.2.1 + 11) + lw' ≤ lw) (hn : as.length = n) (hst : stk = as.reverse ++ st) (hcat : (st.map catA).sum ≤ 8) (hcs : CS M' fr' lw' emI as h o') (kk : ∀ r1 h1, Sd M fr lw em pc' l (vi r1 :: st) h1 (kf r1 h1)) : Sd M fr lw em pc l stk h (bnd o' kf) :=
  Sd.callS d hp hm hl hstt hrm hn hst hcat hcs (fun r1 h1 => kk r1 h1)
theorem Sd.callSV {o' : Option (Unit × AH)} {kf : Unit → AH → Option (ρ × AH)} {idx n : Nat} (d : decode M.2.1 pc = .ok (.invokestatic idx, 3)) (hp : pc + 3 = pc') (hm : MOk M' n) (hl : Cond.methodLink M.1.cls idx M'.1 ∈ Tb) (hstt : Cond.static M'.1 ∈ Tb) (hrm : fr' + 1 ≤ fr ∧ 8 + (M'.2.2.1 + 11) + lw' ≤ lw) (hn : as.length = n) (hst : stk = as.reverse ++ st) (hcat : (st.map catA).sum ≤ 8) (hcs : CS M' fr' lw' emV as h o') (kk : ∀ r1 h1, Sd M fr lw em pc' l (st) h1 (kf r1 h1)) : Sd M fr lw em pc l stk h (bnd o' kf) :=
  Sd.callS d hp hm hl hstt hrm hn hst hcat hcs (fun r1 h1 => kk r1 h1)
theorem Sd.callSR {o' : Option (Nat × AH)} {kf : Nat → AH → Option (ρ × AH)} {idx n : Nat} (d : decode M.2.1 pc = .ok (.invokestatic idx, 3)) (hp : pc + 3 = pc') (hm : MOk M' n) (hl : Cond.methodLink M.1.cls idx M'.1 ∈ Tb) (hstt : Cond.static M'.1 ∈ Tb) (hrm : fr' + 1 ≤ fr ∧ 8 + (M'.2.2.1 + 11) + lw' ≤ lw) (hn : as.length = n) (hst : stk = as.reverse ++ st) (hcat : (st.map catA).sum ≤ 8) (hcs : CS M' fr' lw' emR as h o') (kk : ∀ r1 h1, Sd M fr lw em pc' l (vr r1 :: st) h1 (kf r1 h1)) : Sd M fr lw em pc l stk h (bnd o' kf) :=
  Sd.callS d hp hm hl hstt hrm hn hst hcat hcs (fun r1 h1 => kk r1 h1)
theorem Sd.callIV {o' : Option (Unit × AH)} {kf : Unit → AH → Option (ρ × AH)} {idx a n : Nat} (d : decode M.2.1 pc = .ok (.invokespecial idx, 3)) (hp : pc + 3 = pc') (ha : 16 ≤ a) (hm : MOk M' n) (hl : Cond.methodLink M.1.cls idx M'.1 ∈ Tb) (hi : Cond.instanceMethod M'.1 ∈ Tb) (hnm : M'.1.name = "<init>") (hret : M'.2.2.2 = Option.none) (hrm : fr' + 1 ≤ fr ∧ 8 + (M'.2.2.1 + 11) + lw' ≤ lw) (hn : as.length = n) (hst : stk = as.reverse ++ vr a :: st) (hcat : (st.map catA).sum ≤ 8) (hcs : CS M' fr' lw' emV (vr a :: as) h o') (kk : ∀ r1 h1, Sd M fr lw em pc' l (st) h1 (kf r1 h1)) : Sd M fr lw em pc l stk h (bnd o' kf) :=
  Sd.callI d hp ha hm hl hi hnm hret hrm hn hst hcat hcs (fun r1 h1 => kk r1 h1)
theorem Sd.callNV {o' : Option (Unit × AH)} {kf : Unit → AH → Option (ρ × AH)} {idx a n : Nat} {host : String} (d : decode M.2.1 pc = .ok (.invokespecial idx, 3)) (hp : pc + 3 = pc') (ha : 16 ≤ a) (hm : MOk M' n) (hl : (M.1.cls, idx, M'.1, host) ∈ nstL) (hi : Cond.instanceMethod M'.1 ∈ Tb) (hnm : M'.1.name = "<init>") (hret : M'.2.2.2 = Option.none) (hrm : fr' + 1 ≤ fr ∧ 8 + (M'.2.2.1 + 11) + lw' ≤ lw) (hn : as.length = n) (hst : stk = as.reverse ++ vr a :: st) (hcat : (st.map catA).sum ≤ 8) (hcs : CS M' fr' lw' emV (vr a :: as) h o') (kk : ∀ r1 h1, Sd M fr lw em pc' l (st) h1 (kf r1 h1)) : Sd M fr lw em pc l stk h (bnd o' kf) :=
  Sd.callN d hp ha hm hl hi hnm hret hrm hn hst hcat hcs (fun r1 h1 => kk r1 h1)
def oi {β : Type} (a : Nat) (o : Option β) : Option β := if 16 ≤ a then o else none
theorem Sd_oi {idx a : Nat} {o : Option (ρ × AH)} (d : decode M.2.1 pc = .ok (.invokespecial idx, 3)) (hp : pc + 3 = pc') (hl : Cond.methodLink M.1.cls idx Lib.objectInit ∈ Tb) (hw2 : Cond.instanceMethod Lib.objectInit ∈ Tb) (hw3 : Cond.code Lib.objectInit ⟨#[0xb1]⟩ 1 none ∈ Tb) (hfr : 1 ≤ fr) (hlw : (st.map catA).sum + 12 ≤ lw)
    (kk : Sd M fr lw em pc' l st h o) : Sd M fr lw em pc l (vr a :: st) h (oi a o) := Sd.ite' (fun ha => Sd_objInit d hp hl hw2 hw3 hfr hlw ha kk)
theorem Sd_tcase {x i dflt lo hi off : Int} {offs : Array Int} {len : Nat} {o1 o2 : Option (ρ × AH)} (d : decode M.2.1 pc = .ok (.tableswitch dflt lo hi offs, len)) (ho : offs[(i - lo).toNat]? = some off) (h1 : lo ≤ i) (h2 : i ≤ hi) (ht : (pc : Int) + off = (tgt : Int)) {inst : Decidable (x = i)} (k1 : x = i → Sd M fr lw em tgt l st h o1) (k2 : ¬ x = i → Sd M fr lw em pc l (vi x :: st) h o2) : Sd M fr lw em pc l (vi x :: st) h (@ite _ (x = i) inst o1 o2) := by
  by_cases hx : x = i
  · rw [if_pos hx]
    refine Sd.stack (fun hvl hs => ⟨vok_tl hs, fun E p lc e R s m args below meth c H locs ls cells slots Q C hl w => ?_⟩) (k1 hx)
    have hz : (Int32.ofInt x).toInt = i := by rw [inR_ofInt (iv hs)]; exact hx
    exact lv_tableIn C.1 C.2.1 d (by rw [hz]; omega) (by rw [hz]; omega) (by rw [hz]; exact ho) ht w
  · rw [if_neg hx]; exact k2 hx
theorem Sd_tdef {x dflt lo hi : Int} {offs : Array Int} {len : Nat} {o : Option (ρ × AH)} (d : decode M.2.1 pc = .ok (.tableswitch dflt lo hi offs, len)) (hx : x < lo ∨ hi < x) (ht : (pc : Int) + dflt = (tgt : Int)) (k : Sd M fr lw em tgt l st h o) : Sd M fr lw em pc l (vi x :: st) h o := by
  refine Sd.stack (fun hvl hs => ⟨vok_tl hs, fun E p lc e R s m args below meth c H locs ls cells slots Q C hl w => ?_⟩) k
  exact lv_tableOut C.1 C.2.1 d (by rw [inR_ofInt (iv hs)]; exact hx) ht w
theorem Sd_lcase {x i dflt off : Int} {ps : Array (Int × Int)} {len : Nat} {o1 o2 : Option (ρ × AH)} (d : decode M.2.1 pc = .ok (.lookupswitch dflt ps, len)) (hp : (ps.toList.zip (ps.toList.drop 1)).all (fun (a, next) => a.1 < next.1) = true) (ho : Op.lookupswitch.offset ps.toList dflt i = off) (ht : (pc : Int) + off = (tgt : Int)) {inst : Decidable (x = i)} (k1 : x = i → Sd M fr lw em tgt l st h o1) (k2 : ¬ x = i → Sd M fr lw em pc l (vi x :: st) h o2) : Sd M fr lw em pc l (vi x :: st) h (@ite _ (x = i) inst o1 o2) := by
  by_cases hx : x = i
  · rw [if_pos hx]
    refine Sd.stack (fun hvl hs => ⟨vok_tl hs, fun E p lc e R s m args below meth c H locs ls cells slots Q C hl w => ?_⟩) (k1 hx)
    have hz : (Int32.ofInt x).toInt = i := by rw [inR_ofInt (iv hs)]; exact hx
    exact lv_lookup C.1 C.2.1 d hp (by rw [hz]; exact ho) ht w
  · rw [if_neg hx]; exact k2 hx
theorem Sd_ldef {x dflt : Int} {ps : Array (Int × Int)} {len : Nat} {o : Option (ρ × AH)} (d : decode M.2.1 pc = .ok (.lookupswitch dflt ps, len)) (hp : (ps.toList.zip (ps.toList.drop 1)).all (fun (a, next) => a.1 < next.1) = true) (ho : Op.lookupswitch.offset ps.toList dflt x = dflt) (ht : (pc : Int) + dflt = (tgt : Int)) (k : Sd M fr lw em tgt l st h o) : Sd M fr lw em pc l (vi x :: st) h o := by
  refine Sd.stack (fun hvl hs => ⟨vok_tl hs, fun E p lc e R s m args below meth c H locs ls cells slots Q C hl w => ?_⟩) k
  exact lv_lookup C.1 C.2.1 d hp (by rw [inR_ofInt (iv hs)]; exact ho) ht w
end SK
theorem W_obj2 : Cond.instanceMethod Lib.objectInit ∈ Tb := Tb_at 148 (by decide +kernel) rfl
theorem W_obj3 : Cond.code Lib.objectInit ⟨#[0xb1]⟩ 1 none ∈ Tb := Tb_at 149 (by decide +kernel) rfl
theorem W_cp2 : Cond.native arraycopyName ∈ Tb := Tb_at 647 (by decide +kernel) rfl
theorem W_cp3 : Cond.static arraycopyName ∈ Tb := Tb_at 646 (by decide +kernel) rfl
theorem W_cp4 : Cond.initialized "java/lang/System" ∈ Tb := Tb_at 139 (by decide +kernel) rfl
theorem W_aI : Cond.arrayClass .int ∈ Tb := Tb_at 172 (by decide +kernel) rfl
theorem W_aB : Cond.arrayClass .byte ∈ Tb := Tb_at 662 (by decide +kernel) rfl
theorem W_aZ : Cond.arrayClass .boolean ∈ Tb := Tb_at 1367 (by decide +kernel) rfl
