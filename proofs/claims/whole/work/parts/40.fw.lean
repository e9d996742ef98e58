/-! ===== what is true of distances ===== -/
theorem fw_mono (a : Nat → Nat) (k x y : Nat) : fw a (k + 1) x y ≤ fw a k x y := by
  show fwS (fw a k) k x y ≤ _
  unfold fwS
  split <;> omega
theorem fw_mono8 (a : Nat → Nat) (x y : Nat) : ∀ m k, k + m = 8 → ds a x y ≤ fw a k x y
  | 0, k, h => by have : k = 8 := by omega
                  subst this; exact Nat.le_refl _
  | m + 1, k, h => Nat.le_trans (fw_mono8 a x y m (k + 1) (by omega)) (fw_mono a k x y)
theorem fw_st (a : Nat → Nat) (k x y : Nat) : fw a (k + 1) x y ≤ fw a k x k + fw a k k y := by
  show fwS (fw a k) k x y ≤ _
  unfold fwS
  split <;> omega
theorem fw_or (a : Nat → Nat) (k x y : Nat) : fw a (k + 1) x y = fw a k x y ∨ (fw a (k + 1) x y = fw a k x k + fw a k k y ∧ fw a k x k + fw a k k y < fw a k x y) := by
  show fwS (fw a k) k x y = _ ∨ (fwS (fw a k) k x y = _ ∧ _)
  unfold fwS
  split
  · right; exact ⟨rfl, by assumption⟩
  · left; rfl
theorem fw_tri (a : Nat → Nat) : ∀ k z, z < k → ∀ x y, fw a k x y ≤ fw a k x z + fw a k z y
  | 0, z, h, _, _ => by omega
  | k + 1, z, h, x, y => by
    have s := fw_st a k x y
    have m := fw_mono a k x y
    by_cases hz : z = k
    · subst hz
      have e1 : fw a (z + 1) x z = fw a z x z := by
        have := fw_xx a z z
        rcases fw_or a z x z with h | ⟨h1, h2⟩ <;> omega
      have e2 : fw a (z + 1) z y = fw a z z y := by
        have := fw_xx a z z
        rcases fw_or a z z y with h | ⟨h1, h2⟩ <;> omega
      omega
    · have t1 := fw_tri a k z (by omega) x y
      have t2 := fw_tri a k z (by omega) x k
      have t3 := fw_tri a k z (by omega) k y
      rcases fw_or a k x z with h1 | ⟨h1, _⟩ <;> rcases fw_or a k z y with h2 | ⟨h2, _⟩ <;> omega
theorem ds_tri (a : Nat → Nat) {z : Nat} (hz : z < 8) (x y : Nat) : ds a x y ≤ ds a x z + ds a z y := fw_tri a 8 z hz x y
theorem ds_dr (a : Nat → Nat) (x y : Nat) : ds a x y ≤ dr a x y := fw_mono8 a x y 8 0 rfl
theorem fw_fin {a : Nat → Nat} (v : V1 a) : ∀ k x y, fw a k x y < 100000 → fw a k x y ≤ 60 * 2 ^ k
  | 0, x, y, h => by
    have h0 : dr a x y < 100000 := h
    have := wy_le v x y
    show dr a x y ≤ _
    unfold dr at h0 ⊢
    split
    · omega
    · rename_i z
      rw [if_neg z] at h0
      split
      · rename_i z2; rw [if_pos z2] at h0; omega
      · omega
  | k + 1, x, y, h => by
    have ih := fw_fin v k
    rw [Nat.pow_succ]
    rcases fw_or a k x y with h1 | ⟨h1, h2⟩
    · have := ih x y (by omega); omega
    · have := ih x k (by omega)
      have := ih k y (by omega)
      omega
theorem ds_fin {a : Nat → Nat} (v : V1 a) {x y : Nat} (h : ds a x y < 100000) : ds a x y ≤ 15360 := fw_fin v 8 x y h
theorem fw_pos (a : Nat → Nat) : ∀ k x y, x ≠ y → 1 ≤ fw a k x y
  | 0, x, y, h => by show 1 ≤ dr a x y; unfold dr; rw [if_neg h]; split <;> omega
  | k + 1, x, y, h => by
    have ih := fw_pos a k
    rcases fw_or a k x y with h1 | ⟨h1, h2⟩
    · have := ih x y h; omega
    · by_cases hx : x = k
      · have := ih k y (by omega); omega
      · have := ih x k hx; omega
theorem ds_pos (a : Nat → Nat) {x y : Nat} (h : x ≠ y) : 1 ≤ ds a x y := fw_pos a 8 x y h
theorem wy_dr {a : Nat → Nat} (v : V1 a) {x z : Nat} (h : wy a x z ≠ 0) : dr a x z = wy a x z ∧ x < a 0 ∧ z < a 0 ∧ x ≠ z := by
  have hx : x < a 0 := Nat.lt_of_not_le (fun w => h (wy_out v (Or.inl w)))
  have hz : z < a 0 := Nat.lt_of_not_le (fun w => h (wy_out v (Or.inr w)))
  have hn : x ≠ z := fun w => h (by rw [w]; exact wy_xx v z)
  refine ⟨?_, hx, hz, hn⟩
  unfold dr
  rw [if_neg hn, if_neg h]
theorem fw_ex {a : Nat → Nat} (v : V1 a) : ∀ k, k ≤ 8 → ∀ x y, x ≠ y → fw a k x y < 100000 → ∃ z, wy a x z ≠ 0 ∧ wy a x z + ds a z y ≤ fw a k x y
  | 0, _, x, y, hn, h => by
    have h0 : dr a x y < 100000 := h
    unfold dr at h0
    rw [if_neg hn] at h0
    by_cases hw : wy a x y = 0
    · rw [if_pos hw] at h0; omega
    · refine ⟨y, hw, ?_⟩
      rw [ds_xx]
      show _ ≤ dr a x y
      rw [(wy_dr v hw).1]
      omega
  | k + 1, hk, x, y, hn, h => by
    rcases fw_or a k x y with h1 | ⟨h1, h2⟩
    · rw [h1]; exact fw_ex v k (by omega) x y hn (by omega)
    · have hx : x ≠ k := by
        intro w
        subst w
        have := fw_xx a x x
        omega
      obtain ⟨z, z1, z2⟩ := fw_ex v k (by omega) x k hx (by omega)
      refine ⟨z, z1, ?_⟩
      have t := ds_tri a (show k < 8 by omega) z y
      have m := fw_mono8 a k y (8 - k) k (by omega)
      omega
theorem ds_ex {a : Nat → Nat} (v : V1 a) {x y : Nat} (hn : x ≠ y) (h : ds a x y < 100000) : ∃ z, wy a x z ≠ 0 ∧ wy a x z + ds a z y = ds a x y := by
  obtain ⟨z, z1, z2⟩ := fw_ex v 8 (by decide) x y hn h
  refine ⟨z, z1, ?_⟩
  obtain ⟨w1, w2, w3, w4⟩ := wy_dr v z1
  have b0 : a 0 ≤ 8 := v.2.1
  have t := ds_tri a (show z < 8 by omega) x y
  have t2 := ds_dr a x z
  have z2' : wy a x z + ds a z y ≤ ds a x y := z2
  omega
theorem ds_wy {a : Nat → Nat} (v : V1 a) {x z y : Nat} (h : wy a x z ≠ 0) (hy : ds a x y < 100000) : ds a z y < 100000 := by
  obtain ⟨w1, w2, w3, w4⟩ := wy_dr v h
  have b0 : a 0 ≤ 8 := v.2.1
  have t := ds_tri a (show x < 8 by omega) z y
  have t2 := ds_dr a z x
  have := ds_fin v hy
  have := wy_le v x z
  rw [dr_comm, w1] at t2
  omega
/-- the next place on a least way: the first that fits -/
def nxF (a : Nat → Nat) (x g : Nat) : Nat → Nat → Nat
  | 0, p => p
  | k + 1, p => if wy a x p ≠ 0 ∧ wy a x p + ds a p g = ds a x g then p else nxF a x g k (p + 1)
def nx (a : Nat → Nat) (x g : Nat) : Nat := nxF a x g 8 0
theorem nxF_ok {a : Nat → Nat} {x g z : Nat} (h : wy a x z ≠ 0 ∧ wy a x z + ds a z g = ds a x g) : ∀ k p, p ≤ z → z < p + k → wy a x (nxF a x g k p) ≠ 0 ∧ wy a x (nxF a x g k p) + ds a (nxF a x g k p) g = ds a x g
  | 0, p, h1, h2 => by omega
  | k + 1, p, h1, h2 => by
    unfold nxF
    by_cases c : wy a x p ≠ 0 ∧ wy a x p + ds a p g = ds a x g
    · rw [if_pos c]; exact c
    · rw [if_neg c]
      have : p ≠ z := fun w => c (by rw [w]; exact h)
      exact nxF_ok h k (p + 1) (by omega) (by omega)
theorem nx_ok {a : Nat → Nat} (v : V1 a) {x g : Nat} (hn : x ≠ g) (h : ds a x g < 100000) : wy a x (nx a x g) ≠ 0 ∧ wy a x (nx a x g) + ds a (nx a x g) g = ds a x g := by
  obtain ⟨z, hz⟩ := ds_ex v hn h
  have := (wy_dr v hz.1).2.2.1
  have b0 : a 0 ≤ 8 := v.2.1
  exact nxF_ok hz 8 0 (by omega) (by omega)
