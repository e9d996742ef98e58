/-! ===== garden: what a statement tells ===== -/
def tP (b : Nat → Nat) (x0 x1 x2 : Nat) : Nat → Nat := fun k => if k = 0 then b 0 + 1 else if k = 16 + 5 * b 0 then x0 else if k = 17 + 5 * b 0 then x1 else if k = 18 + 5 * b 0 then x2 else if k = 19 + 5 * b 0 then 0 else if k = 20 + 5 * b 0 then 2 ^ b 0 else b k
def tW (b : Nat → Nat) (x0 x1 x2 : Nat) : Nat → Nat := fun k => if k = 1 then b 1 + 1 else if k = 56 + 3 * b 1 then x0 else if k = 57 + 3 * b 1 then x1 else if k = 58 + 3 * b 1 then x2 else b k
def tV (b : Nat → Nat) (x0 x1 : Nat) : Nat → Nat := fun k => if k = 20 + 5 * x0 then b k ||| 2 ^ x1 else b k
def tH (b : Nat → Nat) (x0 x1 : Nat) : Nat → Nat := fun k => if k = 2 then b 2 + 1 else if k = 98 + 2 * b 2 then x0 else if k = 99 + 2 * b 2 then x1 else b k
def okW (b : Nat → Nat) (x0 x1 x2 : Nat) : Prop := x0 < b 0 ∧ x1 < b 0 ∧ x0 ≠ x1 ∧ 1 ≤ x2 ∧ x2 ≤ 60 ∧ wy b x0 x1 = 0 ∧ b 1 ≠ 14
def okV (b : Nat → Nat) (x0 x1 : Nat) : Prop := x0 < b 0 ∧ x1 < b 0 ∧ x0 ≠ x1 ∧ (b (20 + 5 * x0)).testBit x1 = false
def okH (b : Nat → Nat) (x0 x1 : Nat) : Prop := 2 ≤ x0 ∧ x0 ≤ 15 ∧ 1 ≤ x1 ∧ b 2 ≠ 8
/-- told b c R b': statement R of letter c turns b into b' -/
def tel (b : Nat → Nat) (c : Nat) (R : RES) (b' : Nat → Nat) : Prop :=
  (c = 112 ∧ b 0 ≠ 8 ∧ b' = tP b R.2.2.1 R.2.2.2.1 R.2.2.2.2) ∨ (c = 119 ∧ okW b R.2.2.1 R.2.2.2.1 R.2.2.2.2 ∧ b' = tW b R.2.2.1 R.2.2.2.1 R.2.2.2.2) ∨ (c = 118 ∧ okV b R.2.2.1 R.2.2.2.1 ∧ b' = tV b R.2.2.1 R.2.2.2.1) ∨ (c = 104 ∧ okH b R.2.2.1 R.2.2.2.1 ∧ b' = tH b R.2.2.1 R.2.2.2.1)
def bad (b : Nat → Nat) (c : Nat) (R : RES) : Prop :=
  (c = 112 ∧ b 0 = 8) ∨ (c = 119 ∧ ¬ okW b R.2.2.1 R.2.2.2.1 R.2.2.2.2) ∨ (c = 118 ∧ ¬ okV b R.2.2.1 R.2.2.2.1) ∨ (c = 104 ∧ ¬ okH b R.2.2.1 R.2.2.2.1)
/-- what a statement's numbers may be -/
def rng (c : Nat) (R : RES) : Prop := R.2.2.1 ≤ 99 ∧ (c = 112 → R.2.2.1 ≤ 7) ∧ R.2.2.2.1 ≤ 9 ∧ R.2.2.2.2 ≤ 99
theorem tP_v {b : Nat → Nat} (v : V1 b) {x0 x1 x2 : Nat} (h0 : b 0 ≠ 8) (r0 : x0 ≤ 7) (r1 : x1 ≤ 9) (r2 : x2 ≤ 99) : V1 (tP b x0 x1 x2) := by
  obtain ⟨v1, v2, v3, v4, v5, v6, v7, v8, v9, v10, v11, v12⟩ := v
  have g : ∀ k, k ≠ 0 → (k < 16 + 5 * b 0 ∨ 20 + 5 * b 0 < k) → tP b x0 x1 x2 k = b k := fun k h h2 => by
    unfold tP; rw [if_neg h, if_neg (by omega), if_neg (by omega), if_neg (by omega), if_neg (by omega), if_neg (by omega)]
  have e0 : tP b x0 x1 x2 0 = b 0 + 1 := by unfold tP; rw [if_pos rfl]
  have q0 : tP b x0 x1 x2 (16 + 5 * b 0) = x0 := by unfold tP; rw [if_neg (by omega), if_pos rfl]
  have q1 : tP b x0 x1 x2 (17 + 5 * b 0) = x1 := by unfold tP; rw [if_neg (by omega), if_neg (by omega), if_pos rfl]
  have q2 : tP b x0 x1 x2 (18 + 5 * b 0) = x2 := by unfold tP; rw [if_neg (by omega), if_neg (by omega), if_neg (by omega), if_pos rfl]
  have q3 : tP b x0 x1 x2 (19 + 5 * b 0) = 0 := by unfold tP; rw [if_neg (by omega), if_neg (by omega), if_neg (by omega), if_neg (by omega), if_pos rfl]
  have q4 : tP b x0 x1 x2 (20 + 5 * b 0) = 2 ^ b 0 := by unfold tP; rw [if_neg (by omega), if_neg (by omega), if_neg (by omega), if_neg (by omega), if_neg (by omega), if_pos rfl]
  have pl : 2 ^ b 0 ≤ 2 ^ 8 := Nat.pow_le_pow_right (by decide) v2
  have p8 : (2 : Nat) ^ 8 = 256 := by decide
  refine ⟨by omega, by omega, ?_, ?_, fun k => ?_, fun p hp => ?_, ?_, ?_, ?_, ?_, fun h hh => ?_, fun i hi => ?_⟩
  · rw [g 1 (by decide) (by omega)]; exact v3
  · rw [g 2 (by decide) (by omega)]; exact v4
  · by_cases c : k = 0
    · rw [c, e0]; omega
    · by_cases c2 : k < 16 + 5 * b 0 ∨ 20 + 5 * b 0 < k
      · rw [g k c c2]; exact v5 k
      · rcases (by omega : k = 16 + 5 * b 0 ∨ k = 17 + 5 * b 0 ∨ k = 18 + 5 * b 0 ∨ k = 19 + 5 * b 0 ∨ k = 20 + 5 * b 0) with c | c | c | c | c
        · rw [c, q0]; omega
        · rw [c, q1]; omega
        · rw [c, q2]; omega
        · rw [c, q3]; omega
        · rw [c, q4]; omega
  · rw [e0] at hp ⊢
    by_cases c : p = b 0
    · subst c
      rw [q0, q1, q2, q3, q4]
      exact ⟨by omega, r1, r2, by omega, Nat.pow_lt_pow_right (by decide) (by omega), by rw [pw_tb]; exact decide_eq_true rfl⟩
    · obtain ⟨w1, w2, w3, w4, w5, w6⟩ := v6 p (by omega)
      rw [g (16 + 5 * p) (by omega) (by omega), g (17 + 5 * p) (by omega) (by omega), g (18 + 5 * p) (by omega) (by omega), g (19 + 5 * p) (by omega) (by omega), g (20 + 5 * p) (by omega) (by omega)]
      exact ⟨w1, w2, w3, w4, Nat.lt_of_lt_of_le w5 (Nat.pow_le_pow_right (by decide) (by omega)), w6⟩
  · rw [g 16 (by decide) (by omega)]; exact v7
  · rw [g 17 (by decide) (by omega)]; exact v8
  · rw [g 18 (by decide) (by omega)]; exact v9
  · rw [g 19 (by decide) (by omega)]; exact v10
  · rw [g 2 (by decide) (by omega)] at hh
    rw [g (98 + 2 * h) (by omega) (by omega), g (99 + 2 * h) (by omega) (by omega)]
    exact v11 h hh
  · rw [g 1 (by decide) (by omega)] at hi
    rw [g (56 + 3 * i) (by omega) (by omega), g (57 + 3 * i) (by omega) (by omega), g (58 + 3 * i) (by omega) (by omega), e0]
    obtain ⟨w1, w2, w3, w4, w5⟩ := v12 i hi
    exact ⟨by omega, by omega, w3, w4, w5⟩
theorem tW_v {b : Nat → Nat} (v : V1 b) {x0 x1 x2 : Nat} (h : okW b x0 x1 x2) : V1 (tW b x0 x1 x2) := by
  obtain ⟨k1, k2, k3, k4, k5, -, k7⟩ := h
  obtain ⟨v1, v2, v3, v4, v5, v6, v7, v8, v9, v10, v11, v12⟩ := v
  have g : ∀ k, k ≠ 1 → (k < 56 + 3 * b 1 ∨ 58 + 3 * b 1 < k) → tW b x0 x1 x2 k = b k := fun k h h2 => by
    unfold tW; rw [if_neg h, if_neg (by omega), if_neg (by omega), if_neg (by omega)]
  have e1 : tW b x0 x1 x2 1 = b 1 + 1 := by unfold tW; rw [if_pos rfl]
  have q0 : tW b x0 x1 x2 (56 + 3 * b 1) = x0 := by unfold tW; rw [if_neg (by omega), if_pos rfl]
  have q1 : tW b x0 x1 x2 (57 + 3 * b 1) = x1 := by unfold tW; rw [if_neg (by omega), if_neg (by omega), if_pos rfl]
  have q2 : tW b x0 x1 x2 (58 + 3 * b 1) = x2 := by unfold tW; rw [if_neg (by omega), if_neg (by omega), if_neg (by omega), if_pos rfl]
  have e0 : tW b x0 x1 x2 0 = b 0 := g 0 (by decide) (by omega)
  refine ⟨by omega, by omega, by omega, ?_, fun k => ?_, fun p hp => ?_, ?_, ?_, ?_, ?_, fun h hh => ?_, fun i hi => ?_⟩
  · rw [g 2 (by decide) (by omega)]; exact v4
  · by_cases c : k = 1
    · rw [c, e1]; omega
    · by_cases c2 : k < 56 + 3 * b 1 ∨ 58 + 3 * b 1 < k
      · rw [g k c c2]; exact v5 k
      · rcases (by omega : k = 56 + 3 * b 1 ∨ k = 57 + 3 * b 1 ∨ k = 58 + 3 * b 1) with c | c | c
        · rw [c, q0]; omega
        · rw [c, q1]; omega
        · rw [c, q2]; omega
  · rw [e0] at hp ⊢
    rw [g (16 + 5 * p) (by omega) (by omega), g (17 + 5 * p) (by omega) (by omega), g (18 + 5 * p) (by omega) (by omega), g (19 + 5 * p) (by omega) (by omega), g (20 + 5 * p) (by omega) (by omega)]
    exact v6 p hp
  · rw [g 16 (by decide) (by omega)]; exact v7
  · rw [g 17 (by decide) (by omega)]; exact v8
  · rw [g 18 (by decide) (by omega)]; exact v9
  · rw [g 19 (by decide) (by omega)]; exact v10
  · rw [g 2 (by decide) (by omega)] at hh
    rw [g (98 + 2 * h) (by omega) (by omega), g (99 + 2 * h) (by omega) (by omega)]
    exact v11 h hh
  · rw [e1] at hi
    rw [e0]
    by_cases c : i = b 1
    · subst c; rw [q0, q1, q2]; exact ⟨k1, k2, k3, k4, k5⟩
    · rw [g (56 + 3 * i) (by omega) (by omega), g (57 + 3 * i) (by omega) (by omega), g (58 + 3 * i) (by omega) (by omega)]
      exact v12 i (by omega)
theorem tV_v {b : Nat → Nat} (v : V1 b) {x0 x1 : Nat} (h : okV b x0 x1) : V1 (tV b x0 x1) := by
  obtain ⟨k1, k2, k3, -⟩ := h
  obtain ⟨v1, v2, v3, v4, v5, v6, v7, v8, v9, v10, v11, v12⟩ := v
  have g : ∀ k, k ≠ 20 + 5 * x0 → tV b x0 x1 k = b k := fun k h => by unfold tV; rw [if_neg h]
  have q : tV b x0 x1 (20 + 5 * x0) = b (20 + 5 * x0) ||| 2 ^ x1 := by unfold tV; rw [if_pos rfl]
  have e0 : tV b x0 x1 0 = b 0 := g 0 (by omega)
  have ql : b (20 + 5 * x0) ||| 2 ^ x1 < 2 ^ b 0 := Nat.or_lt_two_pow (v6 x0 k1).2.2.2.2.1 (Nat.pow_lt_pow_right (by decide) k2)
  have pl : 2 ^ b 0 ≤ 2 ^ 8 := Nat.pow_le_pow_right (by decide) v2
  have p8 : (2 : Nat) ^ 8 = 256 := by decide
  refine ⟨by omega, by omega, ?_, ?_, fun k => ?_, fun p hp => ?_, ?_, ?_, ?_, ?_, fun h hh => ?_, fun i hi => ?_⟩
  · rw [g 1 (by omega)]; exact v3
  · rw [g 2 (by omega)]; exact v4
  · by_cases c : k = 20 + 5 * x0
    · rw [c, q]; omega
    · rw [g k c]; exact v5 k
  · rw [e0] at hp ⊢
    rw [g (16 + 5 * p) (by omega), g (17 + 5 * p) (by omega), g (18 + 5 * p) (by omega), g (19 + 5 * p) (by omega)]
    obtain ⟨w1, w2, w3, w4, w5, w6⟩ := v6 p hp
    by_cases c : p = x0
    · subst c; rw [q]; exact ⟨w1, w2, w3, w4, ql, sub_l _ _ _ w6⟩
    · rw [g (20 + 5 * p) (by omega)]; exact ⟨w1, w2, w3, w4, w5, w6⟩
  · rw [g 16 (by omega)]; exact v7
  · rw [g 17 (by omega)]; exact v8
  · rw [g 18 (by omega)]; exact v9
  · rw [g 19 (by omega)]; exact v10
  · rw [g 2 (by omega)] at hh
    rw [g (98 + 2 * h) (by omega), g (99 + 2 * h) (by omega)]
    exact v11 h hh
  · rw [g 1 (by omega)] at hi
    rw [g (56 + 3 * i) (by omega), g (57 + 3 * i) (by omega), g (58 + 3 * i) (by omega), e0]
    exact v12 i hi
theorem tH_v {b : Nat → Nat} (v : V1 b) {x0 x1 : Nat} (h : okH b x0 x1) (r1 : x1 ≤ 9) : V1 (tH b x0 x1) := by
  obtain ⟨k1, k2, k3, k4⟩ := h
  obtain ⟨v1, v2, v3, v4, v5, v6, v7, v8, v9, v10, v11, v12⟩ := v
  have g : ∀ k, k ≠ 2 → (k < 98 + 2 * b 2 ∨ 99 + 2 * b 2 < k) → tH b x0 x1 k = b k := fun k h h2 => by
    unfold tH; rw [if_neg h, if_neg (by omega), if_neg (by omega)]
  have e2 : tH b x0 x1 2 = b 2 + 1 := by unfold tH; rw [if_pos rfl]
  have q0 : tH b x0 x1 (98 + 2 * b 2) = x0 := by unfold tH; rw [if_neg (by omega), if_pos rfl]
  have q1 : tH b x0 x1 (99 + 2 * b 2) = x1 := by unfold tH; rw [if_neg (by omega), if_neg (by omega), if_pos rfl]
  have e0 : tH b x0 x1 0 = b 0 := g 0 (by decide) (by omega)
  refine ⟨by omega, by omega, ?_, by omega, fun k => ?_, fun p hp => ?_, ?_, ?_, ?_, ?_, fun h hh => ?_, fun i hi => ?_⟩
  · rw [g 1 (by decide) (by omega)]; exact v3
  · by_cases c : k = 2
    · rw [c, e2]; omega
    · by_cases c2 : k < 98 + 2 * b 2 ∨ 99 + 2 * b 2 < k
      · rw [g k c c2]; exact v5 k
      · rcases (by omega : k = 98 + 2 * b 2 ∨ k = 99 + 2 * b 2) with c | c
        · rw [c, q0]; omega
        · rw [c, q1]; omega
  · rw [e0] at hp ⊢
    rw [g (16 + 5 * p) (by omega) (by omega), g (17 + 5 * p) (by omega) (by omega), g (18 + 5 * p) (by omega) (by omega), g (19 + 5 * p) (by omega) (by omega), g (20 + 5 * p) (by omega) (by omega)]
    exact v6 p hp
  · rw [g 16 (by decide) (by omega)]; exact v7
  · rw [g 17 (by decide) (by omega)]; exact v8
  · rw [g 18 (by decide) (by omega)]; exact v9
  · rw [g 19 (by decide) (by omega)]; exact v10
  · rw [e2] at hh
    by_cases c : h = b 2
    · subst c; rw [q0, q1]; exact ⟨k1, k2, k3, r1⟩
    · rw [g (98 + 2 * h) (by omega) (by omega), g (99 + 2 * h) (by omega) (by omega)]
      exact v11 h (by omega)
  · rw [g 1 (by decide) (by omega)] at hi
    rw [g (56 + 3 * i) (by omega) (by omega), g (57 + 3 * i) (by omega) (by omega), g (58 + 3 * i) (by omega) (by omega), e0]
    exact v12 i hi
/-- what stays as it was -/
def same (b b' : Nat → Nat) : Prop := (b 0 ≤ b' 0 ∧ b 2 ≤ b' 2) ∧ ∀ k, (3 ≤ k ∧ k < 16) ∨ 114 ≤ k → b' k = b k
theorem tel_ok {b b' : Nat → Nat} {c : Nat} {R : RES} (v : V1 b) (r : rng c R) (h : tel b c R b') : V1 b' ∧ same b b' := by
  obtain ⟨r0, r1, r2, r3⟩ := r
  have v' := v
  obtain ⟨v1, v2, v3, v4, -⟩ := v'
  rcases h with ⟨rfl, h1, rfl⟩ | ⟨rfl, h1, rfl⟩ | ⟨rfl, h1, rfl⟩ | ⟨rfl, h1, rfl⟩
  · refine ⟨tP_v v h1 (r1 rfl) r2 r3, ⟨by unfold tP; rw [if_pos rfl]; omega, by unfold tP; rw [if_neg (by omega), if_neg (by omega), if_neg (by omega), if_neg (by omega), if_neg (by omega), if_neg (by omega)]; exact Nat.le_refl _⟩, fun k hk => ?_⟩
    unfold tP; rw [if_neg (by omega), if_neg (by omega), if_neg (by omega), if_neg (by omega), if_neg (by omega), if_neg (by omega)]
  · refine ⟨tW_v v h1, ⟨by unfold tW; rw [if_neg (by omega), if_neg (by omega), if_neg (by omega), if_neg (by omega)]; exact Nat.le_refl _, by unfold tW; rw [if_neg (by omega), if_neg (by omega), if_neg (by omega), if_neg (by omega)]; exact Nat.le_refl _⟩, fun k hk => ?_⟩
    obtain ⟨-, -, -, -, -, -, k7⟩ := h1
    unfold tW; rw [if_neg (by omega), if_neg (by omega), if_neg (by omega), if_neg (by omega)]
  · refine ⟨tV_v v h1, ⟨by unfold tV; rw [if_neg (by omega)]; exact Nat.le_refl _, by unfold tV; rw [if_neg (by omega)]; exact Nat.le_refl _⟩, fun k hk => ?_⟩
    have := h1.1
    unfold tV; rw [if_neg (by omega)]
  · refine ⟨tH_v v h1 r2, ⟨by unfold tH; rw [if_neg (by omega), if_neg (by omega), if_neg (by omega)]; exact Nat.le_refl _, by unfold tH; rw [if_pos rfl]; omega⟩, fun k hk => ?_⟩
    have := h1.2.2.2
    unfold tH; rw [if_neg (by omega), if_neg (by omega), if_neg (by omega)]
def okR (i n c : Nat) (R : RES) : Prop := (R.1 = true → rng c R) ∧ i + 1 ≤ R.2.1 ∧ R.2.1 ≤ n
theorem okR_N {T : Nat → Nat} {i n c least most j : Nat} {k : Nat → Nat → RES} (h1 : i + 1 ≤ j) (h2 : j ≤ n) (h3 : ∀ x j', i + 1 ≤ j' → j' ≤ n → x = (nm T n most j 0).1 → okR i n c (k x j')) : okR i n c (pN T n least most j k) := by
  have := nm_le T n most j 0 h2
  unfold pN
  split
  · exact h3 _ _ (by omega) (by omega) rfl
  · exact ⟨fun z => absurd z Bool.false_ne_true, by show i + 1 ≤ (nm T n most j 0).2; omega, by show (nm T n most j 0).2 ≤ n; omega⟩
theorem okR_M {T : Nat → Nat} {i n c d j : Nat} {k : Nat → RES} (h1 : i + 1 ≤ j) (h2 : j ≤ n) (h3 : ∀ j', i + 1 ≤ j' → j' ≤ n → okR i n c (k j')) : okR i n c (pM T n d j k) := by
  unfold pM
  split
  · exact h3 _ (by omega) (by omega)
  · exact ⟨fun z => absurd z Bool.false_ne_true, h1, h2⟩
theorem okR_K {T : Nat → Nat} {i n c j : Nat} {k : Nat → Nat → RES} (h1 : i + 1 ≤ j) (h2 : j ≤ n) (h3 : ∀ x j', i + 1 ≤ j' → j' ≤ n → x ≤ 7 → okR i n c (k x j')) : okR i n c (pK T n j k) := by
  unfold pK
  split
  · rename_i z; exact h3 _ _ (by omega) (by omega) (by omega)
  · exact ⟨fun z => absurd z Bool.false_ne_true, h1, h2⟩
theorem prs_ok {T : Nat → Nat} {n i : Nat} (hi : i ≤ n) : (prs T n i).2.1 ≤ n ∧ i ≤ (prs T n i).2.1 ∧ ((prs T n i).1 = true → i < n ∧ i < (prs T n i).2.1 ∧ (T i = 112 ∨ T i = 119 ∨ T i = 118 ∨ T i = 104) ∧ rng (T i) (prs T n i)) := by
  have b1 : ∀ i, (nm T n 1 i 0).1 ≤ 9 := fun i => nm_v T n 1 i 0 0 (Nat.le_refl _)
  have b2 : ∀ i, (nm T n 2 i 0).1 ≤ 99 := fun i => nm_v T n 2 i 0 0 (Nat.le_refl _)
  have key : ∀ (c : Nat) (R : RES), okR i n c R → i < n → T i = c → (c = 112 ∨ c = 119 ∨ c = 118 ∨ c = 104) → R.2.1 ≤ n ∧ i ≤ R.2.1 ∧ (R.1 = true → i < n ∧ i < R.2.1 ∧ (T i = 112 ∨ T i = 119 ∨ T i = 118 ∨ T i = 104) ∧ rng (T i) R) := by
    intro c R h1 h4 h5 h6
    obtain ⟨h1, h2, h3⟩ := h1
    refine ⟨h3, by omega, fun z => ⟨h4, by omega, by rw [h5]; exact h6, by rw [h5]; exact h1 z⟩⟩
  unfold prs
  split
  · rename_i z
    refine key 112 _ ?_ z.1 z.2 (Or.inl rfl)
    exact okR_K (by omega) (by omega) (fun x j h1 h2 h3 => okR_N h1 h2 (fun y j h1 h2 h4 => okR_N h1 h2 (fun w j h1 h2 h5 => okR_M h1 h2 (fun j h1 h2 => ⟨fun _ => ⟨by show x ≤ 99; omega, fun _ => h3, by show y ≤ 9; rw [h4]; exact b1 _, by show w ≤ 99; rw [h5]; exact b2 _⟩, h1, h2⟩))))
  · split
    · rename_i z
      refine key 119 _ ?_ z.1 z.2 (Or.inr (Or.inl rfl))
      exact okR_N (by omega) (by omega) (fun x j h1 h2 h3 => okR_N h1 h2 (fun y j h1 h2 h4 => okR_M h1 h2 (fun j h1 h2 => okR_N h1 h2 (fun w j h1 h2 h5 => okR_M h1 h2 (fun j h1 h2 => ⟨fun _ => ⟨by show x ≤ 99; rw [h3]; have := b1 (i + 1); omega, fun q => absurd q (by decide), by show y ≤ 9; rw [h4]; exact b1 _, by show w ≤ 99; rw [h5]; exact b2 _⟩, h1, h2⟩)))))
    · split
      · rename_i z
        refine key 118 _ ?_ z.1 z.2 (Or.inr (Or.inr (Or.inl rfl)))
        exact okR_N (by omega) (by omega) (fun x j h1 h2 h3 => okR_N h1 h2 (fun y j h1 h2 h4 => okR_M h1 h2 (fun j h1 h2 => ⟨fun _ => ⟨by show x ≤ 99; rw [h3]; have := b1 (i + 1); omega, fun q => absurd q (by decide), by show y ≤ 9; rw [h4]; exact b1 _, Nat.zero_le _⟩, h1, h2⟩)))
      · split
        · rename_i z
          refine key 104 _ ?_ z.1 z.2 (Or.inr (Or.inr (Or.inr rfl)))
          exact okR_N (by omega) (by omega) (fun x j h1 h2 h3 => okR_M h1 h2 (fun j h1 h2 => okR_N h1 h2 (fun y j h1 h2 h4 => okR_M h1 h2 (fun j h1 h2 => ⟨fun _ => ⟨by show x ≤ 99; rw [h3]; exact b2 _, fun q => absurd q (by decide), by show y ≤ 9; rw [h4]; exact b1 _, Nat.zero_le _⟩, h1, h2⟩))))
        · exact ⟨hi, Nat.le_refl _, fun z => absurd z Bool.false_ne_true⟩
