/-! AM: String constants -/
def sLn (a : Nat) : Nat := sLens.getD (a - 1) 0
def sCh (a i : Nat) : Int := ((sByts.getD (a - 1) []).getD i 0).toInt
def sLen {β : Type} (a : Nat) (f : Int → Option β) : Option β := if 1 ≤ a ∧ a < 8 then f (sLn a : Int) else none
def sAt {β : Type} (a : Nat) (i : Int) (f : Int → Option β) : Option β := if (1 ≤ a ∧ a < 8) ∧ 0 ≤ i ∧ i < (sLn a : Int) then f (sCh a i.toNat) else none
section SS
variable {ρ : Type} {M : AMt} {fr lw : Nat} {em : ρ → Option AV} {pc pc' : Nat} {l : List (Nat × AV)} {st : List AV} {h : AH} {o : Option (ρ × AH)}
theorem Sd_ldcw {n : Int} {index : Nat} (d : decode M.2.1 pc = .ok (.ldc_w index, 3)) (hp : pc + 3 = pc') (hn : inR n) (hw : Cond.constant M.1.cls index (Int32.ofInt n) ∈ Tb) (k : Sd M fr lw em pc' l (vi n :: st) h o) : Sd M fr lw em pc l st h o := by
  subst hp
  exact Sd.stack (fun hvl hs => ⟨vok_i hn hs, fun E p lc e R s m args below meth c H locs ls cells slots Q C hl w => lv_ldcw C.1 C.2.1 C.2.2.2.2.1 (C.2.2.2.2.2.2.2.1 _ hw) d w⟩) k
theorem Sd_strlen {idx a : Nat} {f : Int → Option (ρ × AH)} (d : decode M.2.1 pc = .ok (.invokevirtual idx, 3)) (hp : pc + 3 = pc') (hl : Cond.methodLink M.1.cls idx yJ0_length_8abf5 ∈ Tb) (hrm : 4 ≤ fr ∧ 80 ≤ lw) (hcat : (st.map catA).sum ≤ 8) (k : Sd M fr lw em pc' l (vi (sLn a : Int) :: st) h (f (sLn a : Int))) : Sd M fr lw em pc l (vr a :: st) h (sLen a f) := by
  sorry
theorem Sd_strat {idx a : Nat} {i : Int} {f : Int → Option (ρ × AH)} (d : decode M.2.1 pc = .ok (.invokevirtual idx, 3)) (hp : pc + 3 = pc') (hl : Cond.methodLink M.1.cls idx yJ0_charAt_5068e ∈ Tb) (hrm : 6 ≤ fr ∧ 150 ≤ lw) (hcat : (st.map catA).sum ≤ 8) (k : Sd M fr lw em pc' l (vi (sCh a i.toNat) :: st) h (f (sCh a i.toNat))) : Sd M fr lw em pc l (vi i :: vr a :: st) h (sAt a i f) := by
  sorry
def mMax (x y : Int) : Int := if x < y then y else x
def mMin (x y : Int) : Int := if y < x then y else x
theorem Sd_mmax {idx : Nat} {x y : Int} (d : decode M.2.1 pc = .ok (.invokestatic idx, 3)) (hp : pc + 3 = pc') (hl : Cond.methodLink M.1.cls idx Lib.Math.max.name ∈ Tb) (hw1 : Cond.static Lib.Math.max.name ∈ Tb) (hw2 : Cond.initialized "java/lang/Math" ∈ Tb) (hw3 : Cond.code Lib.Math.max.name Lib.Math.max.code 2 (some .int) ∈ Tb) (hfr : 1 ≤ fr) (hlw : (st.map catA).sum + 13 ≤ lw) (k : Sd M fr lw em pc' l (vi (mMax x y) :: st) h o) : Sd M fr lw em pc l (vi y :: vi x :: st) h o := by
  subst hp
  intro r h' ho
  obtain ⟨hm, hk⟩ := k r h' ho
  refine ⟨hm, fun E p lc e R s m args below meth c n0 s0 H locs ls C hc hs hn hn2 hH hSS hl1 hvl hvs => ?_⟩
  have hts := C.2.2.2.2.2.2.2.1
  have hx := iv (vok_tl hvs)
  have hy := iv hvs
  have hr : inR (mMax x y) := by unfold mMax; split <;> assumption
  refine va_mmax C.1 C.2.1 (by rw [C.2.2.1]; exact hl1.1.symm) C.2.2.2.2.1 (hts _ hl) (hts _ hw1) (hts _ hw2) (hts _ hw3) (by rw [C.2.2.2.2.2.2.2.2.1]; exact hfr) (by rw [catA_sum, C.2.2.2.2.2.2.2.2.2.1]; exact hlw) (by omega) (by omega) d ?_
  have e1 : (if Int32.ofInt x < Int32.ofInt y then Int32.ofInt y else Int32.ofInt x) = Int32.ofInt (mMax x y) := by
    unfold mMax; simp only [i32_lt hx hy]; split <;> rfl
  rw [e1]
  exact hk E p lc e R s m args below meth c n0 s0 H locs ls C hc hs hn hn2 hH hSS hl1 hvl (vok_i hr (vok_tl (vok_tl hvs)))
theorem Sd_mmin {idx : Nat} {x y : Int} (d : decode M.2.1 pc = .ok (.invokestatic idx, 3)) (hp : pc + 3 = pc') (hl : Cond.methodLink M.1.cls idx Lib.Math.min.name ∈ Tb) (hw1 : Cond.static Lib.Math.min.name ∈ Tb) (hw2 : Cond.initialized "java/lang/Math" ∈ Tb) (hw3 : Cond.code Lib.Math.min.name Lib.Math.min.code 2 (some .int) ∈ Tb) (hfr : 1 ≤ fr) (hlw : (st.map catA).sum + 13 ≤ lw) (k : Sd M fr lw em pc' l (vi (mMin x y) :: st) h o) : Sd M fr lw em pc l (vi y :: vi x :: st) h o := by
  subst hp
  intro r h' ho
  obtain ⟨hm, hk⟩ := k r h' ho
  refine ⟨hm, fun E p lc e R s m args below meth c n0 s0 H locs ls C hc hs hn hn2 hH hSS hl1 hvl hvs => ?_⟩
  have hts := C.2.2.2.2.2.2.2.1
  have hx := iv (vok_tl hvs)
  have hy := iv hvs
  have hr : inR (mMin x y) := by unfold mMin; split <;> assumption
  refine va_mmin C.1 C.2.1 (by rw [C.2.2.1]; exact hl1.1.symm) C.2.2.2.2.1 (hts _ hl) (hts _ hw1) (hts _ hw2) (hts _ hw3) (by rw [C.2.2.2.2.2.2.2.2.1]; exact hfr) (by rw [catA_sum, C.2.2.2.2.2.2.2.2.2.1]; exact hlw) (by omega) (by omega) d ?_
  have e1 : (if Int32.ofInt y < Int32.ofInt x then Int32.ofInt y else Int32.ofInt x) = Int32.ofInt (mMin x y) := by
    unfold mMin; simp only [i32_lt hy hx]; split <;> rfl
  rw [e1]
  exact hk E p lc e R s m args below meth c n0 s0 H locs ls C hc hs hn hn2 hH hSS hl1 hvl (vok_i hr (vok_tl (vok_tl hvs)))
end SS
theorem W_mmax1 : Cond.static Lib.Math.max.name ∈ Tb := Tb_at 728 (by decide +kernel) rfl
theorem W_mmax3 : Cond.code Lib.Math.max.name Lib.Math.max.code 2 (some .int) ∈ Tb := Tb_at 729 (by decide +kernel) rfl
theorem W_mmin1 : Cond.static Lib.Math.min.name ∈ Tb := Tb_at 514 (by decide +kernel) rfl
theorem W_mmin3 : Cond.code Lib.Math.min.name Lib.Math.min.code 2 (some .int) ∈ Tb := Tb_at 515 (by decide +kernel) rfl
theorem W_m2 : Cond.initialized "java/lang/Math" ∈ Tb := Tb_at 134 (by decide +kernel) rfl
