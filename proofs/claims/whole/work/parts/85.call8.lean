/-! Level 2: kept and gain of both sides -/
section K8
variable {h H K g g' : AH} {own own' : Nat → Nat} {ρ σ : Nat → Int}
theorem copy_0 (r : CR2 h) {s R : Nat} (sh : SH h s R) (hs : s ≠ 302) (f : Nat → Nat → Int) : She_copy 302 s (WI h f) = She_copy 302 s (WI h (up2 f 302 1 0)) := by
  obtain ⟨r1, r2, r3, r4, r5, r6, r7, r8, r9⟩ := r
  unfold She_copy
  rw [gI_k (h := WI h f) sh.1, gI_k (h := WI h (up2 f 302 1 0)) sh.1, hI_WI, hI_WI, up2_ne hs, gR_k (h := WI h f) r7.1, gR_k (h := WI h (up2 f 302 1 0)) r7.1, show hR (WI h f) 302 0 = 303 from r7.2.1, show hR (WI h (up2 f 302 1 0)) 302 0 = 303 from r7.2.1, aN_k (h := WI h f) r7.2.2.1, aN_k (h := WI h (up2 f 302 1 0)) r7.2.2.1, pI_k (h := WI h f) r7.1, pI_k (h := WI h (up2 f 302 1 0)) r7.1, WI_sI, WI_sI, up2_2]
theorem Bat_gain_e (c : CAS h own g) (m : MR g) (i : Int) : ∃ f', Bat_gain 16 i h = some (gainA g i, WI h f') ∧ SC (hI h) f' := by
  obtain ⟨f1, x1, x2, x3, x4⟩ := Bat_lookAtChoices_e c m
  have st := (c.sc m x2).st
  unfold Bat_gain gainA
  rw [rc_k c.fx.1, x1, bnd_some, c.r9, rc_k (h := WI h f1) c.1.2.2.1.1, c.hasCh x4.1, bnd_some, ite_bi]
  by_cases a : 0 ≤ i ∧ i < (cnd g).length
  · obtain ⟨k, rfl⟩ : ∃ k : Nat, i = (k : Int) := ⟨i.toNat, by omega⟩
    have b5 := st.2.2.n5
    obtain ⟨px, et, n5⟩ := c.px m x2 x3
    have e5 : f1 23 1 = rr (hI g) 5 := st.2.1.2.2.2.2.2.1
    have hm : up2 f1 302 1 0 23 1 = (nK g : Nat) := by rw [up2_ne (by decide), ← n5]; omega
    have n6 : nK g ≤ 6 := by rw [← n5]; omega
    have kvz : ∀ j, j < 6 → kv (WI h (up2 f1 302 1 0)) 23 j = kv (WI h f1) 23 j := fun j hj => by
      obtain ⟨-, k1, k2⟩ := (show SH h 23 6 from c.st.sh).it hj
      funext t
      unfold kv
      rw [show hR (WI h (up2 f1 302 1 0)) = hR h from rfl, show hR (WI h f1) = hR h from rfl, hI_WI, hI_WI, up2_ne (by omega), up2_ne (by omega)]
    obtain ⟨f2, y1, y2⟩ := gainBesides_e (c.cx m x2 x3 x4 (fun _ _ => 0)) (s := 23) (R := 6) (m := nK g) c.st.sh (by decide) hm n6 n6 (fun j hj => by
      rw [kvz j (by omega), et j hj 15 (by decide)]
      have := (m.2.2.2.1.k (k := j) (by unfold nK at hj; rw [rr_s _ (by decide)]; omega)).2.2
      rw [kp_rr] at this
      exact this) (U := kT g) (fun j hj t ht => by rw [kvz j (by omega)]; exact et j hj t ht) m.2.2.2.1.tb (k := k) (by omega)
    have y1' : Chr_gainBesides 301 (k : Int) 23 (WI h f1) = some (gn g (kT g) (nK g) k, WI h f2) := by
      rw [← y1]
      obtain ⟨r1, r2, r3, r4, r5, r6, r7, r8, r9⟩ := id c.1.2.2.2.1
      unfold Chr_gainBesides
      rw [gR_k (h := WI h f1) r1, gR_k (h := WI h (up2 f1 302 1 0)) r1, show hR (WI h f1) 301 2 = 302 from r4, show hR (WI h (up2 f1 302 1 0)) 301 2 = 302 from r4, rc_k (h := WI h f1) r7.1, rc_k (h := WI h (up2 f1 302 1 0)) r7.1, copy_0 c.1.2.2.2.1 c.st.sh (by decide)]
    have bb := gn_bb m.2.1 m.2.2.2.1.tb k
    have sp : hR (WI h f1) 21 1 = 23 := c.st.sp
    refine ⟨f2, ?_, x2.trans (CH3_sc y2)⟩
    rw [decide_eq_true a, if_pos rfl, if_pos a, c.r10, c.now, gR_k (h := WI h f1) c.st.1.1, sp, rc_k (h := WI h f1) c.1.2.2.2.1.1, y1', bnd_some, wr_id (by omega) (by omega)]
    congr 2
    unfold gn
    rw [show ((k : Nat) : Int).toNat = k from rfl]; omega
  · rw [decide_eq_false a, if_neg (by decide), if_neg a]
    exact ⟨f1, rfl, x2⟩
theorem gain_ok (i : Int) : OKC (Bat_gain 16 i) (Mod_gain 401 i) := OKC_look (A := fun g => gainA g i) (fun _ _ _ c m => Bat_gain_e c m i) (fun h m => Mod_gain_e m.1 m.2.1 m.2.2.2.1.tb i)
end K8
