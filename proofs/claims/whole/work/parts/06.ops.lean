/-! AM: what an instruction does to a heap, as functions with a continuation; and that it is so -/
def gI {β : Type} (h : AH) (t a k : Nat) (f : Int → Option β) : Option β := if (hK h a).1 = t then f (hI h a k) else none
def gR {β : Type} (h : AH) (t a k : Nat) (f : Nat → Option β) : Option β := if (hK h a).1 = t then f (hR h a k) else none
def pI {β : Type} (h : AH) (t a k : Nat) (v : Int) (f : AH → Option β) : Option β := if (hK h a).1 = t then f (sI h a k v) else none
def pZ {β : Type} (h : AH) (t a k : Nat) (v : Int) (f : AH → Option β) : Option β := if (hK h a).1 = t ∧ (v = 0 ∨ v = 1) then f (sI h a k v) else none
def pR {β : Type} (h : AH) (t a k v : Nat) (f : AH → Option β) : Option β := if (hK h a).1 = t then f (sR h a k v) else none
def aI {β : Type} (h : AH) (t a : Nat) (i : Int) (f : Int → Option β) : Option β := if (hK h a).1 = t ∧ 0 ≤ i ∧ i < ((hK h a).2 : Int) then f (hI h a i.toNat) else none
def aR {β : Type} (h : AH) (t a : Nat) (i : Int) (f : Nat → Option β) : Option β := if (hK h a).1 = t ∧ 0 ≤ i ∧ i < ((hK h a).2 : Int) then f (hR h a i.toNat) else none
def wI {β : Type} (h : AH) (t a : Nat) (i v : Int) (f : AH → Option β) : Option β := if (hK h a).1 = t ∧ 0 ≤ i ∧ i < ((hK h a).2 : Int) then f (sI h a i.toNat v) else none
def wZ {β : Type} (h : AH) (t a : Nat) (i v : Int) (f : AH → Option β) : Option β := if (hK h a).1 = t ∧ 0 ≤ i ∧ i < ((hK h a).2 : Int) ∧ (v = 0 ∨ v = 1) then f (sI h a i.toNat v) else none
def wR {β : Type} (h : AH) (t a : Nat) (i : Int) (tv v : Nat) (f : AH → Option β) : Option β := if (hK h a).1 = t ∧ 0 ≤ i ∧ i < ((hK h a).2 : Int) ∧ (hK h v).1 = tv then f (sR h a i.toNat v) else none
def aN {β : Type} (h : AH) (t a : Nat) (f : Int → Option β) : Option β := if (hK h a).1 = t then f ((hK h a).2 : Int) else none
def nA {β : Type} (h : AH) (t : Nat) (n : Int) (f : Nat → AH → Option β) : Option β := if 0 ≤ n ∧ n ≤ 100000 then f (16 + hN h) (nw h t n.toNat n.toNat) else none
def nO {β : Type} (h : AH) (t sl : Nat) (f : Nat → AH → Option β) : Option β := f (16 + hN h) (nw h t 0 sl)
theorem rv_ref {E : AE} {a : Nat} (h : 16 ≤ a) : rv E a = .ref (cad E a) := by unfold rv; rw [if_neg (by omega)]
theorem cvr_ref {E : AE} {a : Nat} (h : 16 ≤ a) : cv E (vr a) = .ref (cad E a) := rv_ref h
theorem ofInt_nat (n : Nat) : Int32.ofInt (n : Int) = Int32.ofNat n := Int32.ofInt_eq_ofNat
section SF
variable {ρ : Type} {M : AMt} {fr lw : Nat} {em : ρ → Option AV} {pc pc' tgt : Nat} {l l' : List (Nat × AV)} {st st' : List AV} {h : AH} {o o1 o2 : Option (ρ × AH)}
theorem Sd.ite' {c : Prop} {inst : Decidable c} (k : c → Sd M fr lw em pc l st h o) : Sd M fr lw em pc l st h (@ite _ c inst o Option.none) := by
  by_cases hc : c
  · rw [if_pos hc]; exact k hc
  · rw [if_neg hc]; exact Sd.none
theorem tag_lt (ci : Nat) (q : vw_C) (hq : vwCl[ci]? = some q) : ci + 1 < 20 := by
  have : ci < 13 := (List.getElem?_eq_some_iff.mp hq).1
  omega
theorem Sd_getI {a idx ci k t : Nat} {f : Int → Option (ρ × AH)} (d : decode M.2.1 pc = .ok (.getfield idx, 3)) (hp : pc + 3 = pc') (hF : FLk M.1.cls idx ci k) (ht : ci + 1 = t) (hk2 : (fk ci k == 2) = false) (kk : Sd M fr lw em pc' l (vi (hI h a k) :: st) h (f (hI h a k))) : Sd M fr lw em pc l (vr a :: st) h (gI h t a k f) := by
  subst hp; subst ht
  obtain ⟨q, hq, hqn, hk, hw⟩ := hF
  refine Sd.ite' (fun hc => Sd.read (fun hs hi _ => ⟨vok_i (hi a k) (vok_tl hs), fun E p lc e R s m args below meth c H locs ls cells slots Q C hH w => ?_⟩) kk)
  obtain ⟨g1, g2⟩ := hH.in hc (by omega) (by have := tag_lt ci q hq; omega)
  obtain ⟨c1, c2, c3, c4⟩ := cls_ok ci q hq
  rw [List.map_cons, cvr_ref g1]
  refine va_get (q0 := a - 16) (C := q.1) (T := q.2.1) (N := q.2.2) C.1 C.2.1 C.2.2.2.2.2.2.2.1 c2 C.2.2.2.2.1 C.2.2.2.2.2.2.2.2.2.2.1 hH.2.1 (by rw [wsO_get E g1 g2, cel_obj hc (tag_lt ci q hq)]) hq k (by rw [c1]; exact hk) (C.2.2.2.2.2.2.2.1 _ hw) (fun _ z => z) (v := .int (Int32.ofInt (hI h a k))) ?_ d w
  rw [fL_get hk]
  unfold fV
  rw [if_neg (fun z => by rw [z] at hk2; exact absurd hk2 (by decide))]
theorem Sd_getR {a idx ci k t : Nat} {f : Nat → Option (ρ × AH)} (d : decode M.2.1 pc = .ok (.getfield idx, 3)) (hp : pc + 3 = pc') (hF : FLk M.1.cls idx ci k) (ht : ci + 1 = t) (hk2 : (fk ci k == 2) = true) (kk : Sd M fr lw em pc' l (vr (hR h a k) :: st) h (f (hR h a k))) : Sd M fr lw em pc l (vr a :: st) h (gR h t a k f) := by
  subst hp; subst ht
  obtain ⟨q, hq, hqn, hk, hw⟩ := hF
  refine Sd.ite' (fun hc => Sd.read (fun hs hi _ => ⟨vok_r (vok_tl hs), fun E p lc e R s m args below meth c H locs ls cells slots Q C hH w => ?_⟩) kk)
  obtain ⟨g1, g2⟩ := hH.in hc (by omega) (by have := tag_lt ci q hq; omega)
  obtain ⟨c1, c2, c3, c4⟩ := cls_ok ci q hq
  rw [List.map_cons, cvr_ref g1]
  refine va_get (q0 := a - 16) (C := q.1) (T := q.2.1) (N := q.2.2) C.1 C.2.1 C.2.2.2.2.2.2.2.1 c2 C.2.2.2.2.1 C.2.2.2.2.2.2.2.2.2.2.1 hH.2.1 (by rw [wsO_get E g1 g2, cel_obj hc (tag_lt ci q hq)]) hq k (by rw [c1]; exact hk) (C.2.2.2.2.2.2.2.1 _ hw) (fun _ z => z) (v := rv E (hR h a k)) ?_ d w
  rw [fL_get hk]
  unfold fV
  rw [if_pos (by simpa using hk2)]
theorem aTs_get (E : AE) {j t : Nat} {ty : FieldType} (hj : aTs[j]? = some (t, ty)) : (atys E)[j]? = some (E.2.2.2.2 t, ty) := by
  unfold atys; rw [List.getElem?_map, hj]; rfl
theorem Sd_iaload {a : Nat} {i : Int} {f : Int → Option (ρ × AH)} (d : decode M.2.1 pc = .ok (.iaload, 1)) (hp : pc + 1 = pc') (kk : Sd M fr lw em pc' l (vi (hI h a i.toNat) :: st) h (f (hI h a i.toNat))) : Sd M fr lw em pc l (vi i :: vr a :: st) h (aI h 21 a i f) := by
  subst hp
  refine Sd.ite' ?_
  intro ⟨hc, hi0, hi1⟩
  refine Sd.read (fun hs hi _ => ⟨vok_i (hi a _) (vok_tl (vok_tl hs)), fun E p lc e R s m args below meth c H locs ls cells slots Q C hH w => ?_⟩) kk
  obtain ⟨g1, g2⟩ := hH.in hc (by decide) (by decide)
  rw [List.map_cons, List.map_cons, cvr_ref g1]
  refine va_iald (q0 := a - 16) (t0 := 0) C.1 C.2.1 C.2.2.2.2.2.2.2.2.2.2.1 hH.2.1 (by rw [wsO_get E g1 g2, cel_int hc (by decide) (by decide)]) (aTs_get E (j := 0) rfl) (i32_in (iv hs) hi0 hi1) d ?_
  rw [i32_clamp (iv hs)]
  exact w
theorem Sd_baload {a : Nat} {i : Int} {f : Int → Option (ρ × AH)} (d : decode M.2.1 pc = .ok (.baload, 1)) (hp : pc + 1 = pc') (kk : Sd M fr lw em pc' l (vi (hI h a i.toNat) :: st) h (f (hI h a i.toNat))) : Sd M fr lw em pc l (vi i :: vr a :: st) h (aI h 22 a i f) := by
  subst hp
  refine Sd.ite' ?_
  intro ⟨hc, hi0, hi1⟩
  refine Sd.read (fun hs hi _ => ⟨vok_i (hi a _) (vok_tl (vok_tl hs)), fun E p lc e R s m args below meth c H locs ls cells slots Q C hH w => ?_⟩) kk
  obtain ⟨g1, g2⟩ := hH.in hc (by decide) (by decide)
  rw [List.map_cons, List.map_cons, cvr_ref g1]
  refine va_bald (q0 := a - 16) (t0 := 1) C.1 C.2.1 C.2.2.2.2.2.2.2.2.2.2.1 hH.2.1 (by rw [wsO_get E g1 g2, cel_int hc (by decide) (by decide)]) (aTs_get E (j := 1) rfl) (i32_in (iv hs) hi0 hi1) d ?_
  rw [i32_clamp (iv hs)]
  exact w
theorem Sd_zaload {a : Nat} {i : Int} {f : Int → Option (ρ × AH)} (d : decode M.2.1 pc = .ok (.baload, 1)) (hp : pc + 1 = pc') (kk : Sd M fr lw em pc' l (vi (hI h a i.toNat) :: st) h (f (hI h a i.toNat))) : Sd M fr lw em pc l (vi i :: vr a :: st) h (aI h 23 a i f) := by
  subst hp
  refine Sd.ite' ?_
  intro ⟨hc, hi0, hi1⟩
  refine Sd.read (fun hs hi _ => ⟨vok_i (hi a _) (vok_tl (vok_tl hs)), fun E p lc e R s m args below meth c H locs ls cells slots Q C hH w => ?_⟩) kk
  obtain ⟨g1, g2⟩ := hH.in hc (by decide) (by decide)
  rw [List.map_cons, List.map_cons, cvr_ref g1]
  refine va_zald (q0 := a - 16) (t0 := 2) C.1 C.2.1 C.2.2.2.2.2.2.2.2.2.2.1 hH.2.1 (by rw [wsO_get E g1 g2, cel_int hc (by decide) (by decide)]) (aTs_get E (j := 2) rfl) (i32_in (iv hs) hi0 hi1) d ?_
  rw [i32_clamp (iv hs)]
  exact w
/-- the law's script -/
theorem RH.is15 {E : AE} {h : AH} {U : State} {H : Heap} {a : Nat} (hH : RH E h U H) (hc : (hK h a).1 = 24) : a = 15 := by
  obtain ⟨-, -, h3, -, -, -, h7⟩ := hH
  by_cases h15 : a = 15
  · exact h15
  · by_cases ho : a < 15 ∨ 16 + hN h ≤ a
    · rw [h3 a ho] at hc; exact absurd hc (by decide)
    · have := (h7 a (by omega) (by omega)).2
      rw [hc] at this; exact absurd this (by decide +kernel)
theorem Sd_saload {a : Nat} {i : Int} {f : Int → Option (ρ × AH)} (d : decode M.2.1 pc = .ok (.iaload, 1)) (hp : pc + 1 = pc') (kk : Sd M fr lw em pc' l (vi (hI h a i.toNat) :: st) h (f (hI h a i.toNat))) : Sd M fr lw em pc l (vi i :: vr a :: st) h (aI h 24 a i f) := by
  subst hp
  refine Sd.ite' ?_
  intro ⟨hc, hi0, hi1⟩
  refine Sd.read (fun hs hi _ => ⟨vok_i (hi a _) (vok_tl (vok_tl hs)), fun E p lc e R s m args below meth c H locs ls cells slots Q C hH w => ?_⟩) kk
  have h15 := hH.is15 hc
  subst h15
  obtain ⟨-, -, -, -, -, h6, -⟩ := hH
  rcases h6 with h6 | ⟨-, h7, scr, x1, x2, x3, x4, x5⟩
  · rw [hc] at h6; cases h6
  have hin := i32_in (iv hs) hi0 hi1
  have hcl := i32_clamp (iv hs)
  refine W.iald (v := .int (Int32.ofInt (hI h 15 i.toNat))) C.1 C.2.1 x1 x2 x3 (j := Int32.ofInt i) (by rw [x4]; exact hin) (by rw [hcl]; exact x5 _ (by omega)) rfl rfl d w
theorem Sd_slen {a : Nat} {f : Int → Option (ρ × AH)} (d : decode M.2.1 pc = .ok (.arraylength, 1)) (hp : pc + 1 = pc') (kk : Sd M fr lw em pc' l (vi ((hK h a).2 : Int) :: st) h (f ((hK h a).2 : Int))) : Sd M fr lw em pc l (vr a :: st) h (aN h 24 a f) := by
  subst hp
  refine Sd.ite' (fun hc => Sd.read (fun hs hi hl => ⟨vok_i ⟨by have := hl a; omega, by have := hl a; omega⟩ (vok_tl hs), fun E p lc e R s m args below meth c H locs ls cells slots Q C hH w => ?_⟩) kk)
  have h15 := hH.is15 hc
  subst h15
  obtain ⟨-, -, -, -, -, h6, -⟩ := hH
  rcases h6 with h6 | ⟨-, h7, scr, x1, x2, x3, x4, x5⟩
  · rw [hc] at h6; cases h6
  refine W.alen (n := Int32.ofNat (hK h 15).2) C.1 C.2.1 x1 x2 (by rw [x4] <;> rfl) rfl rfl d ?_
  rw [← ofInt_nat]
  exact w
theorem Sd_aaload {a t j : Nat} {i : Int} {C0 : String} {f : Nat → Option (ρ × AH)} (d : decode M.2.1 pc = .ok (.aaload, 1)) (hp : pc + 1 = pc') (hj : aTs[j]? = some (t, .object C0)) (ht : 30 ≤ t) (kk : Sd M fr lw em pc' l (vr (hR h a i.toNat) :: st) h (f (hR h a i.toNat))) : Sd M fr lw em pc l (vi i :: vr a :: st) h (aR h t a i f) := by
  subst hp
  refine Sd.ite' ?_
  intro ⟨hc, hi0, hi1⟩
  refine Sd.read (fun hs hi _ => ⟨vok_r (vok_tl (vok_tl hs)), fun E p lc e R s m args below meth c H locs ls cells slots Q C hH w => ?_⟩) kk
  obtain ⟨g1, g2⟩ := hH.in hc (by omega) (by omega)
  rw [List.map_cons, List.map_cons, cvr_ref g1]
  refine va_aldq (q0 := a - 16) (t0 := j) C.1 C.2.1 C.2.2.2.2.2.2.2.2.2.2.1 hH.2.1 (by rw [wsO_get E g1 g2, cel_ref hc (by omega) (by omega)]) (aTs_get E hj) (i32_in (iv hs) hi0 hi1) d ?_
  rw [i32_clamp (iv hs), rf_ro]
  exact w
theorem Sd_alen {a t j : Nat} {ty : FieldType} {f : Int → Option (ρ × AH)} (d : decode M.2.1 pc = .ok (.arraylength, 1)) (hp : pc + 1 = pc') (hj : aTs[j]? = some (t, ty)) (ht : 21 ≤ t) (ht2 : t ≠ 24) (kk : Sd M fr lw em pc' l (vi ((hK h a).2 : Int) :: st) h (f ((hK h a).2 : Int))) : Sd M fr lw em pc l (vr a :: st) h (aN h t a f) := by
  subst hp
  refine Sd.ite' (fun hc => Sd.read (fun hs hi hl => ⟨vok_i ⟨by have := hl a; omega, by have := hl a; omega⟩ (vok_tl hs), fun E p lc e R s m args below meth c H locs ls cells slots Q C hH w => ?_⟩) kk)
  obtain ⟨g1, g2⟩ := hH.in hc (by omega) ht2
  rw [List.map_cons, cvr_ref g1]
  by_cases h30 : t < 30
  · refine va_alen (q0 := a - 16) (t0 := j) C.1 C.2.1 C.2.2.2.2.2.2.2.2.2.2.1 hH.2.1 (by rw [wsO_get E g1 g2, cel_int hc (by omega) h30]) (aTs_get E hj) (v := Int32.ofInt ((hK h a).2 : Int)) (ofInt_nat _).symm d w
  · refine va_alen (q0 := a - 16) (t0 := j) C.1 C.2.1 C.2.2.2.2.2.2.2.2.2.2.1 hH.2.1 (by rw [wsO_get E g1 g2, cel_ref hc (by omega) h30]) (aTs_get E hj) (v := Int32.ofInt ((hK h a).2 : Int)) (ofInt_nat _).symm d w
end SF
