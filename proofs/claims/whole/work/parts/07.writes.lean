/-! AM: writes -/
theorem cel_congr {E : AE} {h h' : AH} {b : Nat} (hk : hK h' b = hK h b) (hi : hI h' b = hI h b) (hr : hR h' b = hR h b) : cel E h' b = cel E h b := by
  have e : ∀ ci, fL E h' ci b = fL E h ci b := by
    intro ci; unfold fL; apply List.map_congr_left; intro k _; unfold fV; rw [hi, hr]
  unfold cel; rw [hk, hi, hr, e]
theorem fL_V {E : AE} {h : AH} {ci a j : Nat} (hj : j < cN ci) : vp_V (fL E h ci a) j = fV E h ci a j := by
  unfold vp_V; rw [List.getD_eq_getElem?_getD, fL_get hj]; rfl
theorem inR_up2 {h : AH} {a k : Nat} {v : Int} (hi : ∀ a k, inR (hI h a k)) (hv : inR v) : ∀ b j, inR (hI (sI h a k v) b j) := by
  intro b j
  rw [hI_sI]
  unfold up2
  split
  · show inR (if j = k then v else hI h a j)
    split
    · exact hv
    · exact hi a j
  · exact hi b j
section SW
variable {p : Program} {lc : Launch} {e : Env} {R : Room} {s : State} {m : MethodId} {args : Array Value} {below : List Frame} {meth : Method} {c : Code} {H : Heap} {locs : List Loc} {cells slots : Nat} {Q : State → Prop}
variable {pc : Nat} {ls : Array Slot} {rest : List Value} {E : AE} {h h1 : AH} {M : AMt} {fr lw : Nat}
/-- putfield, final or not -/
theorem a_put {a idx ci k : Nat} {v : Value} (C : Ctx M fr lw E p R s m args meth c) (hH : RH E h s H) (hS : va_S (aLo E) s.heap H locs) (hF : FLk M.1.cls idx ci k) (hc : (hK h a).1 = ci + 1) (hfin : ∀ q : vw_C, vwCl[ci]? = some q → (q.2.1 k).2.2.2 = true → M.1.name = "<init>" ∧ (q.2.1 k).1 = M.1.cls)
    (hn : narrow (aTy ci k) v = v) (hfit : fits (aTy ci k) v = true) (en : hN h1 = hN h) (ek : hK h1 = hK h) (ei : ∀ a k, inR (hI h1 a k)) (eo : ∀ b, b ≠ a → hI h1 b = hI h b ∧ hR h1 b = hR h b) (ev : ∀ j, j < cN ci → fV E h1 ci a j = if j = k then v else fV E h ci a j)
    (d : decode M.2.1 pc = .ok (.putfield idx, 3)) (kk : ∀ (H1 : Heap) (locs1 : List Loc), RH E h1 s H1 → va_S (aLo E) s.heap H1 locs1 → W p lc e R s m args below meth c H1 locs1 cells slots Q (F0 m (pc + 3) ls rest)) :
    W p lc e R s m args below meth c H locs cells slots Q (F0 m pc ls (v :: .ref (cad E a) :: rest)) := by
  obtain ⟨q, hq, hqn, hk, hw⟩ := hF
  obtain ⟨g1, g2⟩ := hH.in hc (by omega) (by have := tag_lt ci q hq; omega)
  obtain ⟨c1, c2, c3, c4⟩ := cls_ok ci q hq
  have hx := C.1
  have hb := C.2.1
  have hown := C.2.2.2.2.1
  have hts := C.2.2.2.2.2.2.2.1
  have hK := C.2.2.2.2.2.2.2.2.2.2.1
  have hap := va_apart (own := M.1.cls) hts c2 (aTy ci) c3 c4 hK hq
  have hcell := hH.2.1 (a - 16) _ (wsO_get E g1 g2)
  rw [cel_obj hc (tag_lt ci q hq)] at hcell
  obtain ⟨r, h1', cell, q1, q2, q3, q4⟩ := hcell
  have hr : r = q := Option.some.inj (h1'.symm.trans hq)
  subst hr
  obtain ⟨hSl, hfc, kC, hkC, hkind⟩ := hK.1 ci _ hq
  have hk' : k < r.2.2 := by rw [c1]; exact hk
  obtain ⟨cf, kf, fi, f, hi, hsl⟩ := hSl k hk'
  have hst := (u_facts hfc hkC (u_lays hts c2 hk') hi).1
  have hend : ∀ H' : Heap, H'[cad E a]? = some (cell.setSlot f.slot v) → H'.size = H.size → (∀ q, q ≠ cad E a → H'[q]? = H[q]?) → RH E h1 s H' ∧ va_S (aLo E) s.heap H' (locs ++ [⟨cad E a, f.slot⟩]) := by
    intro H' e1 e2 e3
    refine ⟨hH.upd g1 g2 en ek ei (eo 15 (by omega)).1 (fun b hb => cel_congr (by rw [ek]) (eo b hb).1 (eo b hb).2) ?_ e2 e3, hS.wr g1 e2 e3⟩
    rw [cel_obj (by rw [ek]; exact hc) (tag_lt ci r hq)]
    rw [hsl] at e1
    refine ⟨r, hq, t_OB.to (V := updV (vp_V (fL E h ci a)) k v) ⟨_, e1, q2, q3, t_set q4 hap hk' v⟩ (fun j hj => ?_)⟩
    rw [c1] at hj
    rw [fL_V hj, ev j hj]
    unfold updV
    rw [fL_V hj]
  cases hb2 : (r.2.1 k).2.2.2 with
  | false =>
    have hlay := hts _ (c2 _ (u_in_lay hk'))
    unfold u_lay at hlay
    rw [if_neg (by rw [hb2]; decide)] at hlay
    have h6 := u_store hfc hkC hkind hlay hi (c3 k hk') hn hfit
    refine W.putK hx hb (f := f) ⟨hown, hts _ hw, ⟨_, _, _, hi⟩, hst⟩ (by rw [q2]; exact h6) q1 q3 (by rw [hsl]; exact k2_hasslot (q4 k hk')) rfl rfl d fun H' e1 e2 e3 => ?_
    obtain ⟨f1, f2⟩ := hend H' e1 e2 e3
    exact kk H' _ f1 f2
  | true =>
    obtain ⟨n1, n2⟩ := hfin r hq hb2
    have hlay := hts _ (c2 _ (u_in_lay hk'))
    unfold u_lay at hlay
    rw [if_pos hb2] at hlay
    have hcf : m.cls = cf := by
      obtain ⟨_, _, c', _, _, _, -, -, hf', -, -, -, hown2, -⟩ := Cond.laysFinal_spec hlay
      have e1 : c' = cf := by have := hi.symm.trans hf'; simp at this; exact this.1.symm
      rw [n2] at hown2
      rw [← e1]; exact Option.some.inj (hown.symm.trans hown2)
    have h6 := u_fits hfc hkC hkind (Or.inr hlay) hi (c3 k hk') hn hfit
    refine W.putFinK hx hb hown (hts _ hw) hi hst hcf (C.2.2.2.2.2.2.1 n1) (by rw [q2]; exact h6) q1 q3 (by rw [hsl]; exact k2_hasslot (q4 k hk')) rfl rfl d fun H' e1 e2 e3 => ?_
    obtain ⟨f1, f2⟩ := hend H' e1 e2 e3
    exact kk H' _ f1 f2
/-- a store into an array of ints, bytes, booleans -/
theorem a_st {a t j : Nat} {ty : FieldType} {i x y : Int} (C : Ctx M fr lw E p R s m args meth c) (hH : RH E h s H) (hS : va_S (aLo E) s.heap H locs) (hc : (hK h a).1 = t) (ht : 21 ≤ t ∧ t < 24) (hj : aTs[j]? = some (t, ty)) (hi : inR i) (hi0 : 0 ≤ i) (hi1 : i < ((hK h a).2 : Int)) (hy : inR y)
    (hop : ∀ {cell : Cell} {jj : Int32}, H[cad E a]? = some cell → s.isArrayOf cell ty → cell.vm ≠ .unknown → ¬ (jj < 0 ∨ cell.slots.size ≤ jj.toNatClampNeg) → (∀ H' : Heap, H'[cad E a]? = some (cell.setSlot jj.toNatClampNeg (.int (Int32.ofInt y))) → H'.size = H.size → (∀ q, q ≠ cad E a → H'[q]? = H[q]?) → W p lc e R s m args below meth c H' (locs ++ [⟨cad E a, jj.toNatClampNeg⟩]) cells slots Q (F0 m (pc + 1) ls rest)) → W p lc e R s m args below meth c H locs cells slots Q (F0 m pc ls (.int (Int32.ofInt x) :: .int jj :: .ref (cad E a) :: rest)))
    (kk : ∀ (H1 : Heap) (locs1 : List Loc), RH E (sI h a i.toNat y) s H1 → va_S (aLo E) s.heap H1 locs1 → W p lc e R s m args below meth c H1 locs1 cells slots Q (F0 m (pc + 1) ls rest)) :
    W p lc e R s m args below meth c H locs cells slots Q (F0 m pc ls (.int (Int32.ofInt x) :: .int (Int32.ofInt i) :: .ref (cad E a) :: rest)) := by
  obtain ⟨g1, g2⟩ := hH.in hc (by omega) (by omega)
  have hKK := C.2.2.2.2.2.2.2.2.2.2.1
  have hcell := hH.2.1 (a - 16) _ (wsO_get E g1 g2)
  have ecel := cel_int (E := E) hc (by omega) (by omega)
  rw [ecel] at hcell
  have hcell : H[cad E a]? = some (vp_cell (E.2.2.2.2 t) ((hK h a).2, .inl fun i => Int32.ofInt (hI h a i))) := hcell
  have hin := i32_in hi hi0 hi1
  refine hop (jj := Int32.ofInt i) hcell ((hKK.2 j _ (aTs_get E hj)).1 _ _) (fun q => by cases q) (by show ¬ (Int32.ofInt i < 0 ∨ (arrV _ _ _).slots.size ≤ _); rw [arrV_size]; exact hin) fun H' e1 e2 e3 => ?_
  refine kk H' _ (hH.upd g1 g2 rfl rfl (inR_up2 hH.2.2.2.1 hy) (by rw [hI_sI, up2_ne (by omega)]) (fun b hb => cel_congr rfl (by rw [hI_sI, up2_ne hb]) rfl) ?_ e2 e3) (hS.wr g1 e2 e3)
  rw [cel_int (E := E) (h := sI h a i.toNat y) (a := a) (t := t) hc (by omega) (by omega)]
  show H'[cad E a]? = some (vp_cell _ _)
  rw [e1]
  rw [vp_cell_i, vp_cell_i, arrV_store, i32_clamp hi]
  congr 2
  funext q
  unfold updV
  rw [hI_sI, up2_at]
  split <;> rfl
end SW
section SX
variable {ρ : Type} {M : AMt} {fr lw : Nat} {em : ρ → Option AV} {pc pc' tgt : Nat} {l l' : List (Nat × AV)} {st st' : List AV} {h : AH} {o o1 o2 : Option (ρ × AH)}
/-- what a field of a class that is final asks of the method that writes it -/
def finOk (ci k : Nat) (M : AMt) : Prop := ∀ q : vw_C, vwCl[ci]? = some q → (q.2.1 k).2.2.2 = true → M.1.name = "<init>" ∧ (q.2.1 k).1 = M.1.cls
theorem finOk.no {ci k : Nat} {M : AMt} (h : (vwCl[ci]?).map (fun q => (q.2.1 k).2.2.2) = some false) : finOk ci k M := fun q hq hf => by rw [hq] at h; exact absurd (h.symm.trans (congrArg some hf)) (by simp)
theorem finOk.yes {ci k : Nat} {M : AMt} (h : M.1.name = "<init>") (h2 : (vwCl[ci]?).map (fun q => (q.2.1 k).1) = some M.1.cls) : finOk ci k M := fun q hq hf => ⟨h, by rw [hq] at h2; exact Option.some.inj h2⟩
theorem Sd_putI {a idx ci k t : Nat} {x : Int} {f : AH → Option (ρ × AH)} (d : decode M.2.1 pc = .ok (.putfield idx, 3)) (hp : pc + 3 = pc') (hF : FLk M.1.cls idx ci k) (ht : ci + 1 = t) (hty : aTy ci k = .int) (hk2 : (fk ci k == 2) = false) (hfin : finOk ci k M) (hfr : 1 ≤ fr) (kk : Sd M fr lw em pc' l st (sI h a k x) (f (sI h a k x))) : Sd M fr lw em pc l (vi x :: vr a :: st) h (pI h t a k x f) := by
  subst hp; subst ht
  refine Sd.ite' (fun hc => Sd.write (h1 := sI h a k x) rfl rfl (fun hs hi => ⟨vok_tl (vok_tl hs), fun E p lc e R s m args below meth c H locs ls cells slots Q C _ hH hl hS w => ?_⟩) hfr kk)
  have hci : ci + 1 < 20 := by obtain ⟨q, hq, -⟩ := hF; exact tag_lt ci q hq
  obtain ⟨g1, g2⟩ := hH.in hc (by omega) (by omega)
  rw [List.map_cons, List.map_cons, cvr_ref g1]
  refine a_put (h1 := sI h a k x) C hH hS hF hc hfin (by rw [hty]; rfl) (by rw [hty]; rfl) rfl rfl (inR_up2 hi (iv hs)) (fun b hb => ⟨by rw [hI_sI, up2_ne hb], rfl⟩) (fun j hj => ?_) d w
  by_cases hjk : j = k
  · subst hjk
    rw [if_pos rfl]; unfold fV
    rw [if_neg (fun z => by rw [z] at hk2; exact absurd hk2 (by decide)), hI_sI, up2_at, if_pos rfl]; rfl
  · rw [if_neg hjk]; unfold fV; rw [hI_sI, up2_at, if_neg hjk]; rfl
theorem Sd_putZ {a idx ci k t : Nat} {x : Int} {f : AH → Option (ρ × AH)} (d : decode M.2.1 pc = .ok (.putfield idx, 3)) (hp : pc + 3 = pc') (hF : FLk M.1.cls idx ci k) (ht : ci + 1 = t) (hty : aTy ci k = .boolean) (hk2 : (fk ci k == 2) = false) (hfin : finOk ci k M) (hfr : 1 ≤ fr) (kk : Sd M fr lw em pc' l st (sI h a k x) (f (sI h a k x))) : Sd M fr lw em pc l (vi x :: vr a :: st) h (pZ h t a k x f) := by
  subst hp; subst ht
  refine Sd.ite' ?_
  intro ⟨hc, hx⟩
  refine Sd.write (h1 := sI h a k x) rfl rfl (fun hs hi => ⟨vok_tl (vok_tl hs), fun E p lc e R s m args below meth c H locs ls cells slots Q C _ hH hl hS w => ?_⟩) hfr kk
  have hci : ci + 1 < 20 := by obtain ⟨q, hq, -⟩ := hF; exact tag_lt ci q hq
  obtain ⟨g1, g2⟩ := hH.in hc (by omega) (by omega)
  rw [List.map_cons, List.map_cons, cvr_ref g1]
  refine a_put (h1 := sI h a k x) C hH hS hF hc hfin (by rw [hty]; rcases hx with rfl | rfl <;> rfl) (by rw [hty]; rcases hx with rfl | rfl <;> rfl) rfl rfl (inR_up2 hi (iv hs)) (fun b hb => ⟨by rw [hI_sI, up2_ne hb], rfl⟩) (fun j hj => ?_) d w
  by_cases hjk : j = k
  · subst hjk
    rw [if_pos rfl]; unfold fV
    rw [if_neg (fun z => by rw [z] at hk2; exact absurd hk2 (by decide)), hI_sI, up2_at, if_pos rfl]; rfl
  · rw [if_neg hjk]; unfold fV; rw [hI_sI, up2_at, if_neg hjk]; rfl
theorem Sd_putR {a idx ci k t v : Nat} {f : AH → Option (ρ × AH)} (d : decode M.2.1 pc = .ok (.putfield idx, 3)) (hp : pc + 3 = pc') (hF : FLk M.1.cls idx ci k) (ht : ci + 1 = t) (hty : (tyKind (aTy ci k) == 2) = true) (hk2 : (fk ci k == 2) = true) (hfin : finOk ci k M) (hfr : 1 ≤ fr) (kk : Sd M fr lw em pc' l st (sR h a k v) (f (sR h a k v))) : Sd M fr lw em pc l (vr v :: vr a :: st) h (pR h t a k v f) := by
  subst hp; subst ht
  refine Sd.ite' (fun hc => Sd.write (h1 := sR h a k v) rfl rfl (fun hs hi => ⟨vok_tl (vok_tl hs), fun E p lc e R s m args below meth c H locs ls cells slots Q C _ hH hl hS w => ?_⟩) hfr kk)
  have hci : ci + 1 < 20 := by obtain ⟨q, hq, -⟩ := hF; exact tag_lt ci q hq
  obtain ⟨g1, g2⟩ := hH.in hc (by omega) (by omega)
  rw [List.map_cons, List.map_cons, cvr_ref g1]
  have hnf : narrow (aTy ci k) (rv E v) = rv E v ∧ fits (aTy ci k) (rv E v) = true := by
    cases hT : aTy ci k <;> rw [hT] at hty <;> first | exact absurd hty (by decide) | (unfold rv; split <;> exact ⟨rfl, rfl⟩)
  refine a_put (h1 := sR h a k v) (v := rv E v) C hH hS hF hc hfin hnf.1 hnf.2 rfl rfl hi (fun b hb => ⟨rfl, by rw [hR_sR, up2_ne hb]⟩) (fun j hj => ?_) d w
  by_cases hjk : j = k
  · subst hjk
    rw [if_pos rfl]; unfold fV
    rw [if_pos (by simpa using hk2), hR_sR, up2_at, if_pos rfl]
  · rw [if_neg hjk]; unfold fV; rw [hR_sR, up2_at, if_neg hjk]; rfl
theorem Sd_iastore {a : Nat} {i x : Int} {f : AH → Option (ρ × AH)} (d : decode M.2.1 pc = .ok (.iastore, 1)) (hp : pc + 1 = pc') (hfr : 1 ≤ fr) (kk : Sd M fr lw em pc' l st (sI h a i.toNat x) (f (sI h a i.toNat x))) : Sd M fr lw em pc l (vi x :: vi i :: vr a :: st) h (wI h 21 a i x f) := by
  subst hp
  refine Sd.ite' ?_
  intro ⟨hc, hi0, hi1⟩
  refine Sd.write (h1 := sI h a i.toNat x) rfl rfl (fun hs hi => ⟨vok_tl (vok_tl (vok_tl hs)), fun E p lc e R s m args below meth c H locs ls cells slots Q C _ hH hl hS w => ?_⟩) hfr kk
  obtain ⟨g1, g2⟩ := hH.in hc (by omega) (by omega)
  rw [List.map_cons, List.map_cons, List.map_cons, cvr_ref g1]
  exact a_st (j := 0) C hH hS hc (by decide) rfl (iv (vok_tl hs)) hi0 hi1 (iv hs) (fun h1 h2 h3 h4 k => W.iast C.1 C.2.1 h1 h2 h3 h4 rfl rfl d k) w
def b8 (x : Int) : Int := i2b x
theorem Sd_bastore {a : Nat} {i x : Int} {f : AH → Option (ρ × AH)} (d : decode M.2.1 pc = .ok (.bastore, 1)) (hp : pc + 1 = pc') (hfr : 1 ≤ fr) (kk : Sd M fr lw em pc' l st (sI h a i.toNat (b8 x)) (f (sI h a i.toNat (b8 x)))) : Sd M fr lw em pc l (vi x :: vi i :: vr a :: st) h (wI h 22 a i (b8 x) f) := by
  subst hp
  refine Sd.ite' ?_
  intro ⟨hc, hi0, hi1⟩
  refine Sd.write (h1 := sI h a i.toNat (b8 x)) rfl rfl (fun hs hi => ⟨vok_tl (vok_tl (vok_tl hs)), fun E p lc e R s m args below meth c H locs ls cells slots Q C _ hH hl hS w => ?_⟩) hfr kk
  obtain ⟨g1, g2⟩ := hH.in hc (by omega) (by omega)
  rw [List.map_cons, List.map_cons, List.map_cons, cvr_ref g1]
  refine a_st (j := 1) C hH hS hc (by decide) rfl (iv (vok_tl hs)) hi0 hi1 (inR_toInt _) (fun h1 h2 h3 h4 k => W.bast C.1 C.2.1 h1 h2 h3 h4 rfl rfl d (fun H' e1 e2 e3 => k H' ?_ e2 e3)) w
  rw [e1]
  show some (Cell.setSlot _ _ (.int _)) = some (Cell.setSlot _ _ (.int (Int32.ofInt (b8 x))))
  congr 3
  exact (of_toInt _).symm
theorem Sd_zastore {a : Nat} {i x : Int} {f : AH → Option (ρ × AH)} (d : decode M.2.1 pc = .ok (.bastore, 1)) (hp : pc + 1 = pc') (hfr : 1 ≤ fr) (kk : Sd M fr lw em pc' l st (sI h a i.toNat x) (f (sI h a i.toNat x))) : Sd M fr lw em pc l (vi x :: vi i :: vr a :: st) h (wZ h 23 a i x f) := by
  subst hp
  refine Sd.ite' ?_
  intro ⟨hc, hi0, hi1, hx⟩
  refine Sd.write (h1 := sI h a i.toNat x) rfl rfl (fun hs hi => ⟨vok_tl (vok_tl (vok_tl hs)), fun E p lc e R s m args below meth c H locs ls cells slots Q C _ hH hl hS w => ?_⟩) hfr kk
  obtain ⟨g1, g2⟩ := hH.in hc (by omega) (by omega)
  rw [List.map_cons, List.map_cons, List.map_cons, cvr_ref g1]
  refine a_st (j := 2) C hH hS hc (by decide) rfl (iv (vok_tl hs)) hi0 hi1 (iv hs) (fun h1 h2 h3 h4 k => W.zast C.1 C.2.1 h1 h2 h3 h4 rfl rfl d (fun H' e1 e2 e3 => k H' ?_ e2 e3)) w
  rw [e1]
  rcases hx with rfl | rfl <;> rfl
end SX
