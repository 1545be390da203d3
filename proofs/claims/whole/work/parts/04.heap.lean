/-! AM: locals, fields, arrays -/
def isL (v : AV) : Bool := match v with
  | .inr (.inl _) => true
  | _ => false
theorem cat_isL (E : AE) (v : AV) : ((cv E v).category == 2) = isL v := by
  rcases v with z | z | a
  · rfl
  · rfl
  · show ((rv E a).category == 2) = false
    unfold rv; split <;> rfl
def stL (j : Nat) (v : AV) (l : List (Nat × AV)) : List (Nat × AV) := (j, v) :: l.filter (fun q => !(q.1 == j) && !(q.1 + 1 == j && isL q.2))
theorem stL_map (E : AE) (j : Nat) (v : AV) (l : List (Nat × AV)) : (j, cv E v) :: (l.map (cvp E)).filter (fun q => !(q.1 == j) && !(q.1 + 1 == j && q.2.category == 2)) = (stL j v l).map (cvp E) := by
  unfold stL
  rw [List.map_cons, List.filter_map]
  congr 2
  apply List.filter_congr
  intro q _
  show (!(q.1 == j) && !(q.1 + 1 == j && (cv E q.2).category == 2)) = _
  rw [cat_isL]
theorem stL_vok {j : Nat} {v : AV} {l : List (Nat × AV)} (hv : vok v) (hl : ∀ q ∈ l, vok q.2) : ∀ q ∈ stL j v l, vok q.2 := by
  intro q hq
  rcases List.mem_cons.mp hq with rfl | hq
  · exact hv
  · exact hl q (List.mem_filter.mp hq).1
section SE
variable {ρ : Type} {M : AMt} {fr lw : Nat} {em : ρ → Option AV} {pc pc' tgt : Nat} {l l' : List (Nat × AV)} {st st' : List AV} {h : AH} {o o1 o2 : Option (ρ × AH)}
theorem Sd.sub (ks : List Nat) (hl : ks.filterMap (fun k => l[k]?) = l') (k : Sd M fr lw em pc l' st h o) : Sd M fr lw em pc l st h o := by
  intro r h' ho
  obtain ⟨hm, hk⟩ := k r h' ho
  refine ⟨hm, fun E p lc e R s m args below meth c n0 s0 H locs ls C hc hs hn hn2 hH hS hl1 hvl hvs => ?_⟩
  have hsub : ∀ q ∈ l', q ∈ l := by
    intro q hq
    rw [← hl] at hq
    obtain ⟨i, -, hi⟩ := List.mem_filterMap.mp hq
    exact List.mem_of_getElem? hi
  refine hk E p lc e R s m args below meth c n0 s0 H locs ls C hc hs hn hn2 hH hS ⟨hl1.1, hl1.2.1, fun q hq => ?_⟩ (fun q hq => hvl q (hsub q hq)) hvs
  obtain ⟨q0, h1, h2⟩ := List.mem_map.mp hq
  exact hl1.2.2 q (List.mem_map.mpr ⟨q0, hsub q0 h1, h2⟩)
/-- a store into a local -/
theorem Sd.store {j : Nat} {v : AV} (hst : ∀ (E : AE) (p : Program) (lc : Launch) (e : Env) (R : Room) (s : State) (m : MethodId) (args : Array Value) (below : List Frame) (meth : Method) (c : Code) (H : Heap) (locs : List Loc) (ls : Array Slot) (cells slots : Nat) (Q : State → Prop),
      Ctx M fr lw E p R s m args meth c → lv_has ls M.2.2.1 (l.map (cvp E)) → (∀ ls' : Array Slot, lv_has ls' M.2.2.1 ((stL j v l).map (cvp E)) → W p lc e R s m args below meth c H locs cells slots Q (F0 m pc' ls' (st.map (cv E)))) → W p lc e R s m args below meth c H locs cells slots Q (F0 m pc ls (st'.map (cv E))))
    (hvk : (∀ v ∈ st', vok v) → (∀ q ∈ l, vok q.2) → (∀ v ∈ st, vok v) ∧ vok v) (hl' : stL j v l = l') (k : Sd M fr lw em pc' l' st h o) : Sd M fr lw em pc l st' h o := by
  subst hl'
  intro r h' ho
  obtain ⟨hm, hk⟩ := k r h' ho
  refine ⟨hm, fun E p lc e R s m args below meth c n0 s0 H locs ls C hc hs hn hn2 hH hS hl hvl hvs => ?_⟩
  obtain ⟨g1, g2⟩ := hvk hvs hvl
  exact hst E p lc e R s m args below meth c H locs ls _ _ _ C hl (fun ls' hl' => hk E p lc e R s m args below meth c n0 s0 H locs ls' C hc hs hn hn2 hH hS hl' (stL_vok g2 hvl) g1)
theorem Sd_istore_n {i : Fin 4} {j : Nat} {x : Int} (d : decode M.2.1 pc = .ok (.istore_n i, 1)) (hp : pc + 1 = pc') (hi : (i : Nat) = j) (hj : j < M.2.2.1) (hl' : stL j (vi x) l = l') (k : Sd M fr lw em pc' l' st h o) : Sd M fr lw em pc l (vi x :: st) h o := by
  subst hp
  exact Sd.store (fun E p lc e R s m args below meth c H locs ls cells slots Q C hl w => lv_istore_n C.1 C.2.1 d hi hl hj (stL_map E j (vi x) l) w) (fun hs hvl => ⟨vok_tl hs, vok_hd hs⟩) hl' k
theorem Sd_istore {j : Nat} {x : Int} (d : decode M.2.1 pc = .ok (.istore j, 2)) (hp : pc + 2 = pc') (hj : j < M.2.2.1) (hl' : stL j (vi x) l = l') (k : Sd M fr lw em pc' l' st h o) : Sd M fr lw em pc l (vi x :: st) h o := by
  subst hp
  exact Sd.store (fun E p lc e R s m args below meth c H locs ls cells slots Q C hl w => lv_istore C.1 C.2.1 d hl hj (stL_map E j (vi x) l) w) (fun hs hvl => ⟨vok_tl hs, vok_hd hs⟩) hl' k
/-- a reference that isn't null -/
theorem Sd_astore_n {i : Fin 4} {j a : Nat} (d : decode M.2.1 pc = .ok (.astore_n i, 1)) (hp : pc + 1 = pc') (hi : (i : Nat) = j) (hj : j < M.2.2.1) (hl' : stL j (vr a) l = l') {inst : Decidable (a = 0)} (k : ¬ a = 0 → Sd M fr lw em pc' l' st h o) : Sd M fr lw em pc l (vr a :: st) h (@ite _ (a = 0) inst none o) := by
  subst hp
  by_cases ha : a = 0
  · rw [if_pos ha]; exact Sd.none
  rw [if_neg ha]
  refine Sd.store (fun E p lc e R s m args below meth c H locs ls cells slots Q C hl w => ?_) (fun hs hvl => ⟨vok_tl hs, vok_hd hs⟩) hl' (k ha)
  have e1 : cv E (vr a) = .ref (cad E a) := by show rv E a = _; unfold rv; rw [if_neg ha]
  rw [List.map_cons, e1]
  exact lv_astore_n C.1 C.2.1 d hi hl hj (by rw [← e1]; exact stL_map E j (vr a) l) w
theorem Sd_astore {j a : Nat} (d : decode M.2.1 pc = .ok (.astore j, 2)) (hp : pc + 2 = pc') (hj : j < M.2.2.1) (hl' : stL j (vr a) l = l') {inst : Decidable (a = 0)} (k : ¬ a = 0 → Sd M fr lw em pc' l' st h o) : Sd M fr lw em pc l (vr a :: st) h (@ite _ (a = 0) inst none o) := by
  subst hp
  by_cases ha : a = 0
  · rw [if_pos ha]; exact Sd.none
  rw [if_neg ha]
  refine Sd.store (fun E p lc e R s m args below meth c H locs ls cells slots Q C hl w => ?_) (fun hs hvl => ⟨vok_tl hs, vok_hd hs⟩) hl' (k ha)
  have e1 : cv E (vr a) = .ref (cad E a) := by show rv E a = _; unfold rv; rw [if_neg ha]
  rw [List.map_cons, e1]
  exact lv_astore C.1 C.2.1 d hl hj (by rw [← e1]; exact stL_map E j (vr a) l) w
theorem Sd_iinc {j : Nat} {x n : Int} (d : decode M.2.1 pc = .ok (.iinc j n, 3)) (hp : pc + 3 = pc') (kk : Nat) (hk : l[kk]? = some (j, vi x)) (hj : j < M.2.2.1) (hl' : stL j (vi (wr (x + n))) l = l') (k : Sd M fr lw em pc' l' st h o) : Sd M fr lw em pc l st h o := by
  subst hp
  refine Sd.store (v := vi (wr (x + n))) (fun E p lc e R s m args below meth c H locs ls cells slots Q C hl w => ?_) (fun hs hvl => ⟨hs, inR_wr _⟩) hl' k
  exact lv_iinc (k := kk) C.1 C.2.1 d hl (by rw [List.getElem?_map, hk]; rfl) (i32_add x n) hj (stL_map E j (vi (wr (x + n))) l) w
end SE
