/-! AM: new cells, stores of references, arraycopy -/
theorem hN_nw (h : AH) (t n sl : Nat) : hN (nw h t n sl) = hN h + 1 := rfl
theorem hS_nw (h : AH) (t n sl : Nat) : hS (nw h t n sl) = hS h + sl := rfl
theorem hK_nw (h : AH) (t n sl a : Nat) : hK (nw h t n sl) a = if a = 16 + hN h then (t, n) else hK h a := rfl
theorem hI_nw (h : AH) (t n sl a : Nat) : hI (nw h t n sl) a = if a = 16 + hN h then (fun _ => 0) else hI h a := rfl
theorem hR_nw (h : AH) (t n sl a : Nat) : hR (nw h t n sl) a = if a = 16 + hN h then (fun _ => 0) else hR h a := rfl
theorem RH.push {E : AE} {h : AH} {U : State} {H H1 : Heap} {t n sl : Nat} (hH : RH E h U H) (ht0 : t ≠ 0) (ht : t < 14 ∨ (aTs.map (·.1)).contains t = true) (hn : n < 2 ^ 31)
    (he : va_at (aD E) vwCl (E.1 + hN h, cel E (nw h t n sl) (16 + hN h)) H1) (hz : H1.size = H.size + 1) (hq : ∀ q : Nat, q < H.size → H1[q]? = H[q]?) : RH E (nw h t n sl) U H1 := by
  obtain ⟨h1, h2, h3, h4, h5, h6, h7⟩ := hH
  have e : wsO E (nw h t n sl) = wsO E h ++ [(E.1 + hN h, cel E (nw h t n sl) (16 + hN h))] := by
    unfold wsO
    rw [hN_nw, List.range_succ, List.map_append]
    congr 1
    apply List.map_congr_left
    intro k hk
    have hk := List.mem_range.mp hk
    rw [cel_congr (h' := nw h t n sl) (h := h) (b := 16 + k) (by rw [hK_nw, if_neg (by omega)]) (by rw [hI_nw, if_neg (by omega)]) (by rw [hR_nw, if_neg (by omega)])]
  refine ⟨by rw [hz, h1, hN_nw]; omega, ?_, ?_, ?_, ?_, ?_, ?_⟩
  · rw [e]
    refine (h2.kept (fun k q hk => hq _ ((h2 k q hk).lt))).app (fun k q hk => ?_)
    have hz : k < 1 := (List.getElem?_eq_some_iff.mp hk).1
    rw [show k = 0 by omega] at hk
    cases hk
    exact he
  · intro a ha
    rw [hN_nw] at ha
    rw [hK_nw, if_neg (by omega)]
    exact h3 a (by omega)
  · intro a k
    rw [hI_nw]
    split
    · exact inR0
    · exact h4 a k
  · intro a
    rw [hK_nw]
    split
    · exact hn
    · exact h5 a
  · rw [hK_nw, if_neg (by omega), hI_nw, if_neg (by omega)]
    exact h6.imp_right (fun ⟨x1, x2, x3⟩ => ⟨x1, x2, x3.kept (hq _ (by omega))⟩)
  · intro a g1 g2
    rw [hK_nw]
    split
    · exact ⟨ht0, ht⟩
    · rw [hN_nw] at g2; exact h7 a g1 (by omega)
section SY
variable {ρ : Type} {M : AMt} {fr lw : Nat} {em : ρ → Option AV} {pc pc' tgt : Nat} {l l' : List (Nat × AV)} {st st' : List AV} {h : AH} {o o1 o2 : Option (ρ × AH)}
theorem Sd.alloc {h1 : AH} {sl : Nat} (hn : hN h1 = hN h + 1) (hs : hS h1 = hS h + sl)
    (hst : (∀ v ∈ st, vok v) → (∀ v ∈ st', vok v) ∧ ∀ (E : AE) (p : Program) (lc : Launch) (e : Env) (R : Room) (s : State) (m : MethodId) (args : Array Value) (below : List Frame) (meth : Method) (c : Code) (H : Heap) (locs : List Loc) (ls : Array Slot) (cells slots : Nat) (Q : State → Prop),
      Ctx M fr lw E p R s m args meth c → RH E h s H → va_S (aLo E) s.heap H locs → cells + 1 ≤ R.cells → slots + sl ≤ R.slots → (∀ (H1 : Heap), RH E h1 s H1 → va_S (aLo E) s.heap H1 locs → W p lc e R s m args below meth c H1 locs (cells + 1) (slots + sl) Q (F0 m pc' ls (st'.map (cv E)))) → W p lc e R s m args below meth c H locs cells slots Q (F0 m pc ls (st.map (cv E))))
    (k : Sd M fr lw em pc' l st' h1 o) : Sd M fr lw em pc l st h o := by
  intro r h' ho
  obtain ⟨hm, hk⟩ := k r h' ho
  rw [hn, hs] at hm
  refine ⟨⟨by omega, by omega⟩, fun E p lc e R s m args below meth c n0 s0 H locs ls C hc hs1 hn1 hn2 hH hSS hl hvl hvs => ?_⟩
  obtain ⟨hv, hw⟩ := hst hvs
  refine hw E p lc e R s m args below meth c H locs ls _ _ _ C hH hSS (by omega) (by omega) (fun H1 hH1 hS1 => ?_)
  have := hk E p lc e R s m args below meth c n0 s0 H1 locs ls C hc hs1 (by omega) (by omega) hH1 hS1 hl hvl hv
  rw [hn, hs, show hN h + 1 - n0 = hN h - n0 + 1 by omega, show hS h + sl - s0 = hS h - s0 + sl by omega] at this
  exact this
theorem va_S.pushed {E : AE} {s : State} {H H1 : Heap} {locs : List Loc} (hS : va_S (aLo E) s.heap H locs) (hz : H1.size = H.size + 1) (hq : ∀ q : Nat, q < H.size → H1[q]? = H[q]?) : va_S (aLo E) s.heap H1 locs :=
  ⟨Nat.le_trans hS.1 (by omega), fun x h1 h2 => (hq x (Nat.lt_of_lt_of_le h1 hS.1)).trans (hS.2.1 x h1 h2), hS.2.2⟩
theorem cvn {E : AE} {h : AH} {H : Heap} {U : State} (hH : RH E h U H) : cv E (vr (16 + hN h)) = .ref H.size := by
  rw [cvr_ref (by omega), cad_hi E (by omega), hH.1]
  rw [show 16 + hN h - 16 = hN h by omega]
theorem newV {E : AE} {h : AH} {ci t sl : Nat} (q : vw_C) (hq : vwCl[ci]? = some q) (j : Nat) (hj : j < q.2.2) : defaultValue (aTy ci j) = vp_V (fL E (nw h t 0 sl) ci (16 + hN h)) j := by
  obtain ⟨c1, -⟩ := cls_ok ci q hq
  have hci : ci < 13 := (List.getElem?_eq_some_iff.mp hq).1
  rw [c1] at hj
  rw [fL_V hj]
  unfold fV
  rw [← aTy_fk ci hci j hj, hI_nw, hR_nw, if_pos rfl, if_pos rfl]
  have key : ∀ T : FieldType, tyKind T ≠ 3 → defaultValue T = if tyKind T = 2 then rv E 0 else .int (Int32.ofInt 0) := by
    intro T hT
    cases T <;> first | rfl | exact absurd rfl hT
  refine key _ (fun z => ?_)
  have hfk : ∀ ci, ci < 13 → ∀ k, k < cN ci → fk ci k ≠ 3 := by decide +kernel
  exact hfk ci hci j hj (by rw [← aTy_fk ci hci j hj]; exact z)
theorem Sd_new {idx ci t sl : Nat} {f : Nat → AH → Option (ρ × AH)} (C0 : String) (d : decode M.2.1 pc = .ok (.new idx, 3)) (hp : pc + 3 = pc') (hq0 : (vwCl[ci]?).map (fun q => (q.1, q.2.2)) = some (C0, sl)) (ht : ci + 1 = t) (hw1 : Cond.classLink M.1.cls idx C0 ∈ Tb) (hw2 : Cond.instantiable C0 sl ∈ Tb) (hw3 : Cond.initialized C0 ∈ Tb)
    (kk : Sd M fr lw em pc' l (vr (16 + hN h) :: st) (nw h t 0 sl) (f (16 + hN h) (nw h t 0 sl))) : Sd M fr lw em pc l st h (nO h t sl f) := by
  subst hp; subst ht
  obtain ⟨q, hq, hqe⟩ := Option.map_eq_some_iff.mp hq0
  obtain ⟨rfl, rfl⟩ := Prod.mk.inj hqe
  refine Sd.alloc (h1 := nw h (ci + 1) 0 q.2.2) (sl := q.2.2) rfl rfl (fun hs => ⟨vok_r hs, fun E p lc e R s m args below meth c H locs ls cells slots Q C hH hS hcl hsl w => ?_⟩) kk
  have hts := C.2.2.2.2.2.2.2.1
  have hKK := C.2.2.2.2.2.2.2.2.2.2.1
  obtain ⟨c1, c2, c3, c4⟩ := cls_ok ci q hq
  have hKn := hKK.1 ci _ hq
  refine W.newcK C.1 C.2.1 C.2.2.2.2.1 (hts _ hw1) (hts _ hw2) (hts _ hw3) rfl d hcl hsl hKn.2.1 rfl fun H1 kC hkC e1 z1 o1 => ?_
  have hlt := tag_lt ci q hq
  have := w H1 (hH.push (by omega) (Or.inl (by have : ci < 13 := (List.getElem?_eq_some_iff.mp hq).1; omega)) (by decide) ?_ z1 o1) (hS.pushed z1 o1)
  · rw [List.map_cons, cvn hH] at this
    exact this
  · rw [cel_obj (ci := ci) (by rw [hK_nw, if_pos rfl]) hlt, ← hH.1]
    exact ⟨_, hq, (u_born (aTy ci) hts c2 hKn hkC e1 c3).to (fun j hj => newV q hq j hj)⟩
theorem Sd_newarray {at_ : ArrayType} {n : Int} {t j : Nat} {ty : FieldType} {f : Nat → AH → Option (ρ × AH)} (d : decode M.2.1 pc = .ok (.newarray at_, 2)) (hp : pc + 2 = pc') (hty : newarray.typeOf at_ = ty) (ht : 21 ≤ t ∧ t < 24) (hj : aTs[j]? = some (t, ty)) (hw : Cond.arrayClass ty ∈ Tb) (hcb : componentBytes ty ≤ 4) (hdv : defaultValue ty = .int 0) (hra : ∀ (U : State) (cA : ClassId), va_RA U cA ty → U.vm.findClass ("[" ++ ty.toString) = some cA)
    (kk : Sd M fr lw em pc' l (vr (16 + hN h) :: st) (nw h t n.toNat n.toNat) (f (16 + hN h) (nw h t n.toNat n.toNat))) : Sd M fr lw em pc l (vi n :: st) h (nA h t n f) := by
  subst hp; subst hty
  refine Sd.ite' ?_
  intro ⟨hn0, hn1⟩
  refine Sd.alloc (h1 := nw h t n.toNat n.toNat) (sl := n.toNat) rfl rfl (fun hs => ⟨vok_r (vok_tl hs), fun E p lc e R s m args below meth c H locs ls cells slots Q C hH hS hcl hsl w => ?_⟩) kk
  have hts := C.2.2.2.2.2.2.2.1
  have hKK := C.2.2.2.2.2.2.2.2.2.2.1
  have hin : inR n := ⟨by omega, by omega⟩
  refine va_newaK C.1 C.2.1 (hts _ hw) rfl d rfl ((i32_nneg hin).mpr hn0) (i32_clamp hin) (Nat.le_trans (Nat.mul_le_mul (show n.toNat ≤ 100000 by omega) hcb) (by decide)) hcl hsl rfl fun H1 cA e1 z1 o1 hAr hNm => ?_
  have hcA : cA = E.2.2.2.2 t := Option.some.inj (hNm.symm.trans (hra _ _ (hKK.2 j _ (aTs_get E hj)).2))
  subst hcA
  have := w H1 (hH.push (by omega) (Or.inr ?_) (by omega) ?_ z1 o1) (hS.pushed z1 o1)
  · rw [List.map_cons, cvn hH] at this
    exact this
  · exact List.contains_iff_mem.mpr (List.mem_map.mpr ⟨_, List.mem_of_getElem? hj, rfl⟩)
  · rw [cel_int (t := t) (by rw [hK_nw, if_pos rfl]) (by omega) (by omega), ← hH.1]
    show H1[H.size]? = some (vp_cell _ _)
    rw [e1, vp_cell_i, hdv, hK_nw, if_pos rfl]
    show some (arrV _ n.toNat _) = some (arrV _ n.toNat _)
    rw [hI_nw, if_pos rfl]; rfl
theorem Sd_anewarray {idx : Nat} {n : Int} {t j : Nat} {C0 : String} {f : Nat → AH → Option (ρ × AH)} (d : decode M.2.1 pc = .ok (.anewarray idx, 3)) (hp : pc + 3 = pc') (ht : 30 ≤ t) (hj : aTs[j]? = some (t, .object C0)) (hw : Cond.classLink M.1.cls idx C0 ∈ Tb) (hao : C0 ∈ aoL)
    (kk : Sd M fr lw em pc' l (vr (16 + hN h) :: st) (nw h t n.toNat n.toNat) (f (16 + hN h) (nw h t n.toNat n.toNat))) : Sd M fr lw em pc l (vi n :: st) h (nA h t n f) := by
  subst hp
  refine Sd.ite' ?_
  intro ⟨hn0, hn1⟩
  refine Sd.alloc (h1 := nw h t n.toNat n.toNat) (sl := n.toNat) rfl rfl (fun hs => ⟨vok_r (vok_tl hs), fun E p lc e R s m args below meth c H locs ls cells slots Q C hH hS hcl hsl w => ?_⟩) kk
  have hts := C.2.2.2.2.2.2.2.1
  have hKK := C.2.2.2.2.2.2.2.2.2.2.1
  have hin : inR n := ⟨by omega, by omega⟩
  have hclamp := i32_clamp hin
  refine W.anew C.1 C.2.1 C.2.2.2.2.1 (hts _ hw) (va_AO.use (C.2.2.2.2.2.2.2.2.2.2.2.1 _ hao)) rfl d rfl ((i32_nneg hin).mpr hn0) (by rw [hclamp]; omega) hcl (by rw [hclamp]; exact hsl) fun cA kA comp f1 f2 f3 f4 => ?_
  rw [hclamp]
  generalize hH1 : H.push ({ cls := cA, slots := Array.replicate n.toNat .null, vm := .none } : Cell) = H1
  have z1 : H1.size = H.size + 1 := by rw [← hH1, Array.size_push]
  have e1 : H1[H.size]? = some (arrV cA n.toNat (fun _ => .null)) := by rw [← hH1, Array.getElem?_push_size, ← arrV_new]
  have o1 : ∀ q : Nat, q < H.size → H1[q]? = H[q]? := fun q hq => by rw [← hH1, Array.getElem?_push, if_neg (Nat.ne_of_lt hq)]
  have hcA : cA = E.2.2.2.2 t := by
    obtain ⟨kA', comp', k1, k2, k3, k4⟩ := (hKK.2 j _ (aTs_get E hj)).2
    exact Option.some.inj (f1.symm.trans k4)
  subst hcA
  have := w H1 (hH.push (by omega) (Or.inr ?_) (by omega) ?_ z1 o1) (hS.pushed z1 o1)
  · rw [List.map_cons, cvn hH] at this
    exact this
  · exact List.contains_iff_mem.mpr (List.mem_map.mpr ⟨_, List.mem_of_getElem? hj, rfl⟩)
  · rw [cel_ref (t := t) (by rw [hK_nw, if_pos rfl]) (by omega) (by omega), ← hH.1]
    show H1[H.size]? = some (vp_cell _ _)
    rw [e1, vp_cell_q, hK_nw, if_pos rfl]
    show some (arrV _ n.toNat _) = some (arrV _ n.toNat _)
    rw [hR_nw, if_pos rfl]; rfl
/-- a store of an object into an array of its class -/
theorem Sd_aastore {a t j ci tv v : Nat} {i : Int} {C0 : String} {f : AH → Option (ρ × AH)} (d : decode M.2.1 pc = .ok (.aastore, 1)) (hp : pc + 1 = pc') (ht : 30 ≤ t) (hj : aTs[j]? = some (t, .object C0)) (hq0 : (vwCl[ci]?).map (fun q => q.1) = some C0) (htv : ci + 1 = tv) (hfr : 1 ≤ fr)
    (kk : Sd M fr lw em pc' l st (sR h a i.toNat v) (f (sR h a i.toNat v))) : Sd M fr lw em pc l (vr v :: vi i :: vr a :: st) h (wR h t a i tv v f) := by
  subst hp; subst htv
  obtain ⟨q, hq, hqe⟩ := Option.map_eq_some_iff.mp hq0
  subst hqe
  refine Sd.ite' ?_
  intro ⟨hc, hi0, hi1, hv⟩
  refine Sd.write (h1 := sR h a i.toNat v) rfl rfl (fun hs hi => ⟨vok_tl (vok_tl (vok_tl hs)), fun E p lc e R s m args below meth c H locs ls cells slots Q C _ hH hl hS w => ?_⟩) hfr kk
  have hlt := tag_lt ci q hq
  obtain ⟨g1, g2⟩ := hH.in hc (by omega) (by omega)
  obtain ⟨v1, v2⟩ := hH.in hv (by omega) (by omega)
  have hKK := C.2.2.2.2.2.2.2.2.2.2.1
  have hii : inR i := iv (vok_tl hs)
  have hin := i32_in hii hi0 hi1
  rw [List.map_cons, List.map_cons, List.map_cons, cvr_ref g1, cvr_ref v1]
  have hcell := hH.2.1 (a - 16) _ (wsO_get E g1 g2)
  rw [cel_ref (t := t) hc (by omega) (by omega)] at hcell
  have hcell : H[cad E a]? = some (vp_cell (E.2.2.2.2 t) ((hK h a).2, .inr (.inr (.inr (.inr fun i => ro E (hR h a i)))))) := hcell
  have hvc := hH.2.1 (v - 16) _ (wsO_get E v1 v2)
  rw [cel_obj hv hlt] at hvc
  obtain ⟨r', hr', cellV, c1, c2, c3, -⟩ := hvc
  have hcls := (hKK.1 ci q hq).2
  obtain ⟨kA, comp, k1, k2, k3, -⟩ := (hKK.2 j _ (aTs_get E hj)).2
  have hcomp : comp = E.2.2.1 ci := Option.some.inj (k3.symm.trans hcls.1)
  subst hcomp
  obtain ⟨kC, hkC, -⟩ := hcls.2
  refine W.aast C.1 C.2.1 hcell (fun q h => by cases h) (fun h => by cases h) k1 k2 rfl hkC ⟨fun z => hin (Or.inl z), by show _ < (arrV _ _ _).slots.size; rw [arrV_size]; exact Nat.not_le.mp fun z => hin (Or.inr z)⟩ c1 (fun q h => by rw [c3] at h; cases h) (by rw [c2]; exact hkC) (by rw [c2]; exact va_assign hcls) rfl rfl d fun H' e1 e2 e3 => ?_
  refine w H' _ (hH.upd g1 g2 rfl rfl hi rfl (fun b hb => cel_congr rfl rfl (by rw [hR_sR, up2_ne hb])) ?_ e2 e3) (hS.wr g1 e2 e3)
  rw [cel_ref (E := E) (h := sR h a i.toNat v) (a := a) (t := t) hc (by omega) (by omega)]
  show H'[cad E a]? = some (vp_cell _ _)
  rw [e1]
  rw [vp_cell_q, vp_cell_q, arrV_store, i32_clamp hii]
  congr 2
  funext z
  unfold updV
  rw [hR_sR, up2_at]
  split
  · rw [rf_ro, rv_ref v1]
  · rfl
end SY
