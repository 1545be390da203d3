/-! Level 2: the start: all numbers are 0, but two of a table -/
def ZO (h : AH) : Prop := ∀ a, 16 ≤ a → ∀ k, (hK h a).1 ≠ 10 ∨ 2 ≤ k → hI h a k = 0
section P1
variable {β : Type} {h H : AH} {t a k v n : Nat} {i z : Int}
theorem ZO_nw (o : ZO h) (t n sl : Nat) : ZO (nw h t n sl) := by
  intro a ha k hk
  rw [hI_nw]
  by_cases c : a = 16 + hN h
  · rw [if_pos c]
  · rw [hK_nw, if_neg c] at hk
    rw [if_neg c]; exact o a ha k hk
theorem ZO_sR (o : ZO h) (a k v : Nat) : ZO (sR h a k v) := o
theorem ZO_s0 (o : ZO h) (a k : Nat) : ZO (sI h a k 0) := by
  intro b hb j hj
  rw [hI_sI, up2_e]
  split
  · rfl
  · exact o b hb j hj
theorem ZO_st (o : ZO h) (e : (hK h a).1 = 10) (hk : k < 2) (z : Int) : ZO (sI h a k z) := by
  intro b hb j hj
  rw [hI_sI, up2_e]
  by_cases c : b = a ∧ j = k
  · have hj' : (hK h b).1 ≠ 10 ∨ 2 ≤ j := hj
    rw [c.1, e] at hj'
    omega
  · rw [if_neg c]; exact o b hb j hj
theorem oi_i {o : Option β} {r : β} (e : oi a o = some r) : o = some r := by
  unfold oi at e
  split at e
  · exact e
  · cases e
theorem pR_i {f : AH → Option β} {r : β} (o : ZO h) (e : pR h t a k v f = some r) : ZO (sR h a k v) ∧ f (sR h a k v) = some r := by
  unfold pR at e
  split at e
  · exact ⟨ZO_sR o _ _ _, e⟩
  · cases e
theorem pI_i {f : AH → Option β} {r : β} (o : ZO h) (hk : k < 2) (e : pI h 10 a k z f = some r) : ZO (sI h a k z) ∧ f (sI h a k z) = some r := by
  unfold pI at e
  split at e
  · rename_i c; exact ⟨ZO_st o c hk _, e⟩
  · cases e
theorem gR_i {f : Nat → Option β} {r : β} (e : gR h t a k f = some r) : f (hR h a k) = some r := by
  unfold gR at e
  split at e
  · exact e
  · cases e
theorem aN_i {f : Int → Option β} {r : β} (e : aN h t a f = some r) : f ((hK h a).2 : Int) = some r := by
  unfold aN at e
  split at e
  · exact e
  · cases e
theorem nA_i {f : Nat → AH → Option β} {r : β} (o : ZO h) (e : nA h t i f = some r) : ZO (nw h t i.toNat i.toNat) ∧ f (16 + hN h) (nw h t i.toNat i.toNat) = some r := by
  unfold nA at e
  split at e
  · exact ⟨ZO_nw o _ _ _, e⟩
  · cases e
theorem nO_i {f : Nat → AH → Option β} {r : β} (o : ZO h) (e : nO h t n f = some r) : ZO (nw h t 0 n) ∧ f (16 + hN h) (nw h t 0 n) = some r := ⟨ZO_nw o _ _ _, e⟩
theorem wI_i {f : AH → Option β} {r : β} (o : ZO h) (e : wI h t a i 0 f = some r) : ZO (sI h a i.toNat 0) ∧ f (sI h a i.toNat 0) = some r := by
  unfold wI at e
  split at e
  · exact ⟨ZO_s0 o _ _, e⟩
  · cases e
theorem wR_i {tv : Nat} {f : AH → Option β} {r : β} (o : ZO h) (e : wR h t a i tv v f = some r) : ZO (sR h a i.toNat v) ∧ f (sR h a i.toNat v) = some r := by
  unfold wR at e
  split at e
  · exact ⟨ZO_sR o _ _ _, e⟩
  · cases e
theorem bnd_i {ρ ρ' : Type} {o : Option (ρ' × AH)} {f : ρ' → AH → Option (ρ × AH)} {r : ρ × AH} (e : bnd o f = some r) : ∃ x h1, o = some (x, h1) ∧ f x h1 = some r := by
  cases o with
  | none => cases e
  | some q => exact ⟨q.1, q.2, rfl, e⟩
theorem some_i {X : AH} {u : Unit} (e : some (u, X) = some ((), H)) : X = H := by
  injection e with e
  injection e
theorem Par_z {v0 : Nat} (o : ZO h) (e : Par_init v0 h = some ((), H)) : ZO H := by
  unfold Par_init at e
  replace e := oi_i e
  obtain ⟨o, e⟩ := nA_i o e
  obtain ⟨o, e⟩ := pR_i o e
  replace e := some_i e
  rw [← e]; exact o
theorem Kep_z {v0 : Nat} (o : ZO h) (e : Kep_init v0 h = some ((), H)) : ZO H := by
  unfold Kep_init at e
  replace e := oi_i e
  obtain ⟨o, e⟩ := nO_i o e
  obtain ⟨_, _, e1, e⟩ := bnd_i e
  replace o := Par_z o e1
  obtain ⟨o, e⟩ := pR_i o e
  replace e := some_i e
  rw [← e]; exact o
theorem She_init_L14_z {s : Nat} {R : Int} : ∀ (F : Nat) (i : Int) (h : AH), ZO h → ∀ {H : AH}, She_init_L14 F s R i h = some ((), H) → ZO H
  | 0, i, h, o, H, e => by cases e
  | F + 1, i, h, o, H, e => by
    rw [She_init_L14] at e
    split at e
    · rw [← some_i e]; exact o
    · replace e := gR_i e
      obtain ⟨o, e⟩ := nO_i o e
      obtain ⟨_, _, e1, e⟩ := bnd_i e
      replace o := Kep_z o e1
      obtain ⟨o, e⟩ := wR_i o e
      exact She_init_L14_z F _ _ o e
theorem She_z {v0 : Nat} {v1 : Int} (o : ZO h) (e : She_init v0 v1 h = some ((), H)) : ZO H := by
  unfold She_init at e
  replace e := oi_i e
  obtain ⟨o, e⟩ := nA_i o e
  obtain ⟨o, e⟩ := pR_i o e
  exact She_init_L14_z FU _ _ o e
theorem Tab_z {v0 : Nat} {v1 : Int} {v2 : Int} {v3 : Int} (o : ZO h) (e : Tab_init v0 v1 v2 v3 h = some ((), H)) : ZO H := by
  unfold Tab_init at e
  replace e := oi_i e
  obtain ⟨o, e⟩ := pI_i o (by decide) e
  obtain ⟨o, e⟩ := pI_i o (by decide) e
  obtain ⟨o, e⟩ := nA_i o e
  obtain ⟨o, e⟩ := pR_i o e
  replace e := some_i e
  rw [← e]; exact o
theorem Sta_z {v0 : Nat} (o : ZO h) (e : Sta_init v0 h = some ((), H)) : ZO H := by
  unfold Sta_init at e
  replace e := oi_i e
  obtain ⟨o, e⟩ := nA_i o e
  obtain ⟨o, e⟩ := pR_i o e
  obtain ⟨o, e⟩ := nO_i o e
  obtain ⟨_, _, e1, e⟩ := bnd_i e
  replace o := She_z o e1
  obtain ⟨o, e⟩ := pR_i o e
  replace e := gR_i e
  obtain ⟨o, e⟩ := nO_i o e
  obtain ⟨_, _, e1, e⟩ := bnd_i e
  replace o := Tab_z o e1
  obtain ⟨o, e⟩ := wR_i o e
  replace e := gR_i e
  obtain ⟨o, e⟩ := nO_i o e
  obtain ⟨_, _, e1, e⟩ := bnd_i e
  replace o := Tab_z o e1
  obtain ⟨o, e⟩ := wR_i o e
  replace e := some_i e
  rw [← e]; exact o
theorem Wor_z {v0 : Nat} (o : ZO h) (e : Wor_init v0 h = some ((), H)) : ZO H := by
  unfold Wor_init at e
  replace e := oi_i e
  obtain ⟨o, e⟩ := nO_i o e
  obtain ⟨_, _, e1, e⟩ := bnd_i e
  replace o := Sta_z o e1
  obtain ⟨o, e⟩ := pR_i o e
  obtain ⟨o, e⟩ := nA_i o e
  obtain ⟨o, e⟩ := pR_i o e
  replace e := some_i e
  rw [← e]; exact o
theorem Rea_z {v0 : Nat} {v1 : Nat} (o : ZO h) (e : Rea_init v0 v1 h = some ((), H)) : ZO H := by
  unfold Rea_init at e
  replace e := oi_i e
  obtain ⟨o, e⟩ := pR_i o e
  replace e := some_i e
  rw [← e]; exact o
theorem Pri_z {v0 : Nat} {v1 : Nat} (o : ZO h) (e : Pri_init v0 v1 h = some ((), H)) : ZO H := by
  unfold Pri_init at e
  replace e := oi_i e
  obtain ⟨o, e⟩ := nA_i o e
  obtain ⟨o, e⟩ := pR_i o e
  obtain ⟨o, e⟩ := nA_i o e
  obtain ⟨o, e⟩ := pR_i o e
  obtain ⟨o, e⟩ := nA_i o e
  obtain ⟨o, e⟩ := pR_i o e
  obtain ⟨o, e⟩ := pR_i o e
  replace e := some_i e
  rw [← e]; exact o
theorem Cho_init_L42_z {s : Nat} : ∀ (F : Nat) (i : Int) (h : AH), ZO h → ∀ {H : AH}, Cho_init_L42 F s i h = some ((), H) → ZO H
  | 0, i, h, o, H, e => by cases e
  | F + 1, i, h, o, H, e => by
    rw [Cho_init_L42] at e
    split at e
    · rw [← some_i e]; exact o
    · replace e := gR_i e
      obtain ⟨o, e⟩ := nO_i o e
      obtain ⟨_, _, e1, e⟩ := bnd_i e
      replace o := Par_z o e1
      obtain ⟨o, e⟩ := wR_i o e
      exact Cho_init_L42_z F _ _ o e
theorem Cho_z {v0 : Nat} (o : ZO h) (e : Cho_init v0 h = some ((), H)) : ZO H := by
  unfold Cho_init at e
  replace e := oi_i e
  obtain ⟨o, e⟩ := nA_i o e
  obtain ⟨o, e⟩ := pR_i o e
  obtain ⟨o, e⟩ := nA_i o e
  obtain ⟨o, e⟩ := pR_i o e
  obtain ⟨o, e⟩ := nA_i o e
  obtain ⟨o, e⟩ := pR_i o e
  obtain ⟨o, e⟩ := nO_i o e
  obtain ⟨_, _, e1, e⟩ := bnd_i e
  replace o := Par_z o e1
  obtain ⟨o, e⟩ := pR_i o e
  exact Cho_init_L42_z FU _ _ o e
theorem Chr_z {v0 : Nat} {v1 : Nat} {v2 : Nat} (o : ZO h) (e : Chr_init v0 v1 v2 h = some ((), H)) : ZO H := by
  unfold Chr_init at e
  replace e := oi_i e
  obtain ⟨o, e⟩ := nO_i o e
  obtain ⟨_, _, e1, e⟩ := bnd_i e
  replace o := She_z o e1
  obtain ⟨o, e⟩ := pR_i o e
  obtain ⟨o, e⟩ := nA_i o e
  obtain ⟨o, e⟩ := pR_i o e
  obtain ⟨o, e⟩ := nA_i o e
  obtain ⟨o, e⟩ := pR_i o e
  obtain ⟨o, e⟩ := pR_i o e
  obtain ⟨o, e⟩ := pR_i o e
  replace e := some_i e
  rw [← e]; exact o
theorem Que_init_L22_z {s : Nat} : ∀ (F : Nat) (i : Int) (h : AH), ZO h → ∀ {H : AH}, Que_init_L22 F s i h = some ((), H) → ZO H
  | 0, i, h, o, H, e => by cases e
  | F + 1, i, h, o, H, e => by
    rw [Que_init_L22] at e
    split at e
    · rw [← some_i e]; exact o
    · replace e := gR_i e
      obtain ⟨o, e⟩ := nO_i o e
      obtain ⟨_, _, e1, e⟩ := bnd_i e
      replace o := Par_z o e1
      obtain ⟨o, e⟩ := wR_i o e
      exact Que_init_L22_z F _ _ o e
theorem Que_z {v0 : Nat} (o : ZO h) (e : Que_init v0 h = some ((), H)) : ZO H := by
  unfold Que_init at e
  replace e := oi_i e
  obtain ⟨o, e⟩ := nA_i o e
  obtain ⟨o, e⟩ := pR_i o e
  obtain ⟨o, e⟩ := nA_i o e
  obtain ⟨o, e⟩ := pR_i o e
  exact Que_init_L22_z FU _ _ o e
theorem Bat_init_L126_z {s : Nat} : ∀ (F : Nat) (i : Int) (h : AH), ZO h → ∀ {H : AH}, Bat_init_L126 F s i h = some ((), H) → ZO H
  | 0, i, h, o, H, e => by cases e
  | F + 1, i, h, o, H, e => by
    rw [Bat_init_L126] at e
    replace e := gR_i e
    replace e := aN_i e
    split at e
    · rw [← some_i e]; exact o
    · replace e := gR_i e
      obtain ⟨o, e⟩ := nO_i o e
      obtain ⟨_, _, e1, e⟩ := bnd_i e
      replace o := Que_z o e1
      obtain ⟨o, e⟩ := wR_i o e
      exact Bat_init_L126_z F _ _ o e
theorem Bat_z {v0 : Nat} (o : ZO h) (e : Bat_init v0 h = some ((), H)) : ZO H := by
  unfold Bat_init at e
  replace e := oi_i e
  obtain ⟨o, e⟩ := nA_i o e
  obtain ⟨o, e⟩ := pR_i o e
  obtain ⟨o, e⟩ := nO_i o e
  replace e := gR_i e
  obtain ⟨_, _, e1, e⟩ := bnd_i e
  replace o := Rea_z o e1
  obtain ⟨o, e⟩ := pR_i o e
  obtain ⟨o, e⟩ := nA_i o e
  obtain ⟨o, e⟩ := pR_i o e
  obtain ⟨o, e⟩ := nO_i o e
  obtain ⟨_, _, e1, e⟩ := bnd_i e
  replace o := Wor_z o e1
  obtain ⟨o, e⟩ := pR_i o e
  obtain ⟨o, e⟩ := nA_i o e
  obtain ⟨o, e⟩ := pR_i o e
  obtain ⟨o, e⟩ := nO_i o e
  obtain ⟨_, _, e1, e⟩ := bnd_i e
  replace o := Sta_z o e1
  obtain ⟨o, e⟩ := pR_i o e
  obtain ⟨o, e⟩ := nO_i o e
  replace e := gR_i e
  obtain ⟨_, _, e1, e⟩ := bnd_i e
  replace o := Pri_z o e1
  obtain ⟨o, e⟩ := pR_i o e
  obtain ⟨o, e⟩ := nO_i o e
  obtain ⟨_, _, e1, e⟩ := bnd_i e
  replace o := Cho_z o e1
  obtain ⟨o, e⟩ := pR_i o e
  obtain ⟨o, e⟩ := nO_i o e
  replace e := gR_i e
  replace e := gR_i e
  obtain ⟨_, _, e1, e⟩ := bnd_i e
  replace o := Chr_z o e1
  obtain ⟨o, e⟩ := pR_i o e
  obtain ⟨o, e⟩ := nO_i o e
  obtain ⟨_, _, e1, e⟩ := bnd_i e
  replace o := She_z o e1
  obtain ⟨o, e⟩ := pR_i o e
  exact Bat_init_L126_z FU _ _ o e
theorem Mod_z {v0 : Nat} (o : ZO h) (e : Mod_init v0 h = some ((), H)) : ZO H := by
  unfold Mod_init at e
  replace e := oi_i e
  obtain ⟨o, e⟩ := nA_i o e
  obtain ⟨o, e⟩ := wI_i o e
  obtain ⟨o, e⟩ := wI_i o e
  obtain ⟨o, e⟩ := wI_i o e
  obtain ⟨o, e⟩ := wI_i o e
  obtain ⟨o, e⟩ := wI_i o e
  obtain ⟨o, e⟩ := wI_i o e
  obtain ⟨o, e⟩ := wI_i o e
  obtain ⟨o, e⟩ := wI_i o e
  obtain ⟨o, e⟩ := wI_i o e
  obtain ⟨o, e⟩ := pR_i o e
  obtain ⟨o, e⟩ := nA_i o e
  obtain ⟨o, e⟩ := pR_i o e
  obtain ⟨o, e⟩ := nA_i o e
  obtain ⟨o, e⟩ := pR_i o e
  obtain ⟨o, e⟩ := nA_i o e
  obtain ⟨o, e⟩ := pR_i o e
  obtain ⟨o, e⟩ := nA_i o e
  obtain ⟨o, e⟩ := pR_i o e
  obtain ⟨o, e⟩ := nA_i o e
  obtain ⟨o, e⟩ := pR_i o e
  obtain ⟨o, e⟩ := nA_i o e
  obtain ⟨o, e⟩ := pR_i o e
  obtain ⟨o, e⟩ := nA_i o e
  obtain ⟨o, e⟩ := pR_i o e
  obtain ⟨o, e⟩ := nA_i o e
  obtain ⟨o, e⟩ := pR_i o e
  obtain ⟨o, e⟩ := nA_i o e
  obtain ⟨o, e⟩ := pR_i o e
  obtain ⟨o, e⟩ := nA_i o e
  obtain ⟨o, e⟩ := pR_i o e
  obtain ⟨o, e⟩ := nA_i o e
  obtain ⟨o, e⟩ := pR_i o e
  obtain ⟨o, e⟩ := nA_i o e
  obtain ⟨o, e⟩ := pR_i o e
  obtain ⟨o, e⟩ := nA_i o e
  obtain ⟨o, e⟩ := pR_i o e
  obtain ⟨o, e⟩ := nA_i o e
  obtain ⟨o, e⟩ := pR_i o e
  obtain ⟨o, e⟩ := nA_i o e
  obtain ⟨o, e⟩ := pR_i o e
  obtain ⟨o, e⟩ := nA_i o e
  obtain ⟨o, e⟩ := pR_i o e
  obtain ⟨o, e⟩ := nA_i o e
  obtain ⟨o, e⟩ := pR_i o e
  obtain ⟨o, e⟩ := nA_i o e
  obtain ⟨o, e⟩ := pR_i o e
  obtain ⟨o, e⟩ := nA_i o e
  obtain ⟨o, e⟩ := pR_i o e
  obtain ⟨o, e⟩ := nA_i o e
  obtain ⟨o, e⟩ := pR_i o e
  obtain ⟨o, e⟩ := nA_i o e
  obtain ⟨o, e⟩ := pR_i o e
  obtain ⟨o, e⟩ := nA_i o e
  obtain ⟨o, e⟩ := pR_i o e
  obtain ⟨o, e⟩ := nA_i o e
  obtain ⟨o, e⟩ := pR_i o e
  replace e := some_i e
  rw [← e]; exact o
end P1
