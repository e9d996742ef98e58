/-! ===== all seen: what a walk sees ===== -/
def sub (s t : Nat) : Prop := ∀ b, s.testBit b = true → t.testBit b = true
theorem sub_eq {s t : Nat} (h : sub s t) (h2 : sub t s) : s = t := by
  refine Nat.eq_of_testBit_eq (fun b => ?_)
  have := h b
  have := h2 b
  cases h3 : s.testBit b <;> cases h4 : t.testBit b <;> simp_all
theorem sub_or {s t u : Nat} (h : sub s u) (h2 : sub t u) : sub (s ||| t) u := fun b hb => by
  rw [Nat.testBit_or, Bool.or_eq_true] at hb
  rcases hb with hb | hb
  · exact h b hb
  · exact h2 b hb
theorem sub_l (s t : Nat) : sub s (s ||| t) := fun b hb => by rw [Nat.testBit_or, hb]; rfl
theorem sub_r (s t : Nat) : sub t (s ||| t) := fun b hb => by rw [Nat.testBit_or, hb, Bool.or_true]
theorem sub_tr {s t u : Nat} (h : sub s t) (h2 : sub t u) : sub s u := fun b hb => h2 b (h b hb)
theorem sub_rf (s : Nat) : sub s s := fun _ hb => hb
def vw (a : Nat → Nat) (p : Nat) : Nat := a (20 + 5 * p)
theorem sn_tb (a : Nat → Nat) (k b : Nat) : (sn a k).testBit b = true ↔ ∃ p, p < a 0 ∧ k.testBit p = true ∧ (vw a p).testBit b = true := by
  have key : ∀ m i s, (g_it (snF a k) m i s).testBit b = true ↔ s.testBit b = true ∨ ∃ p, i ≤ p ∧ p < i + m ∧ k.testBit p = true ∧ (vw a p).testBit b = true := by
    intro m
    induction m with
    | zero =>
      intro i s
      show s.testBit b = true ↔ _
      constructor
      · exact fun h => Or.inl h
      · rintro (h | ⟨p, h1, h2, -⟩)
        · exact h
        · omega
    | succ m ih =>
      intro i s
      show (g_it (snF a k) m (i + 1) (snF a k i s)).testBit b = true ↔ _
      rw [ih]
      unfold snF
      rw [Nat.testBit_or, Bool.or_eq_true]
      constructor
      · rintro ((h | h) | ⟨p, h1, h2, h3, h4⟩)
        · exact Or.inl h
        · by_cases c : k.testBit i = true
          · rw [if_pos c] at h; exact Or.inr ⟨i, Nat.le_refl _, by omega, c, h⟩
          · rw [if_neg c, Nat.zero_testBit] at h; exact absurd h (by decide)
        · exact Or.inr ⟨p, by omega, by omega, h3, h4⟩
      · rintro (h | ⟨p, h1, h2, h3, h4⟩)
        · exact Or.inl (Or.inl h)
        · by_cases c : p = i
          · subst c; rw [if_pos h3]; exact Or.inl (Or.inr h4)
          · exact Or.inr ⟨p, by omega, by omega, h3, h4⟩
  have := key (a 0) 0 0
  unfold sn
  rw [this, Nat.zero_testBit]
  constructor
  · rintro (h | ⟨p, -, h2, h3⟩)
    · exact absurd h (by decide)
    · exact ⟨p, by omega, h3⟩
  · rintro ⟨p, h1, h2⟩
    exact Or.inr ⟨p, Nat.zero_le _, by omega, h2⟩
theorem pw_tb (q p : Nat) : (2 ^ q).testBit p = decide (q = p) := Nat.testBit_two_pow
theorem sn_or {a : Nat → Nat} {k q : Nat} (hq : q < a 0) : sn a (k ||| 2 ^ q) = sn a k ||| vw a q := by
  refine sub_eq (fun b hb => ?_) (sub_or (fun b hb => ?_) (fun b hb => ?_))
  · obtain ⟨p, h1, h2, h3⟩ := (sn_tb a _ b).mp hb
    rw [Nat.testBit_or, pw_tb, Bool.or_eq_true] at h2
    rw [Nat.testBit_or, Bool.or_eq_true]
    rcases h2 with h2 | h2
    · exact Or.inl ((sn_tb a k b).mpr ⟨p, h1, h2, h3⟩)
    · have : q = p := of_decide_eq_true h2
      subst this; exact Or.inr h3
  · obtain ⟨p, h1, h2, h3⟩ := (sn_tb a _ b).mp hb
    exact (sn_tb a _ b).mpr ⟨p, h1, sub_l _ _ p h2, h3⟩
  · exact (sn_tb a _ b).mpr ⟨q, hq, sub_r k (2 ^ q) q (by rw [pw_tb]; exact decide_eq_true rfl), hb⟩
theorem sn_in {a : Nat → Nat} {k q : Nat} (hq : q < a 0) (h : k.testBit q = true) : sub (vw a q) (sn a k) := fun b hb => (sn_tb a k b).mpr ⟨q, hq, h, hb⟩
theorem sn_1 {a : Nat → Nat} (h : 1 ≤ a 0) : sn a 1 = vw a 0 := by
  refine sub_eq (fun b hb => ?_) (sn_in (by omega) (by decide))
  obtain ⟨p, h1, h2, h3⟩ := (sn_tb a _ b).mp hb
  rw [show (1 : Nat) = 2 ^ 0 from rfl, pw_tb] at h2
  have : 0 = p := of_decide_eq_true h2
  subst this; exact h3
/-- the places that can be come to; all that is seen from them -/
def rcF (a : Nat → Nat) (p s : Nat) : Nat := s ||| (if ds a 0 p < 100000 then 2 ^ p else 0)
def rcS (a : Nat → Nat) : Nat := g_it (rcF a) (a 0) 0 0
theorem rcS_tb (a : Nat → Nat) (b : Nat) : (rcS a).testBit b = true ↔ b < a 0 ∧ ds a 0 b < 100000 := by
  have key : ∀ m i s, (g_it (rcF a) m i s).testBit b = true ↔ s.testBit b = true ∨ (i ≤ b ∧ b < i + m ∧ ds a 0 b < 100000) := by
    intro m
    induction m with
    | zero =>
      intro i s
      show s.testBit b = true ↔ _
      constructor
      · exact fun h => Or.inl h
      · rintro (h | ⟨h1, h2, -⟩)
        · exact h
        · omega
    | succ m ih =>
      intro i s
      show (g_it (rcF a) m (i + 1) (rcF a i s)).testBit b = true ↔ _
      rw [ih]
      unfold rcF
      rw [Nat.testBit_or, Bool.or_eq_true]
      constructor
      · rintro ((h | h) | ⟨h1, h2, h3⟩)
        · exact Or.inl h
        · by_cases c : ds a 0 i < 100000
          · rw [if_pos c, pw_tb] at h
            have : i = b := of_decide_eq_true h
            subst this
            exact Or.inr ⟨Nat.le_refl _, by omega, c⟩
          · rw [if_neg c, Nat.zero_testBit] at h; exact absurd h (by decide)
        · exact Or.inr ⟨by omega, by omega, h3⟩
      · rintro (h | ⟨h1, h2, h3⟩)
        · exact Or.inl (Or.inl h)
        · by_cases c : b = i
          · subst c; rw [if_pos h3, pw_tb]; exact Or.inl (Or.inr (decide_eq_true rfl))
          · exact Or.inr ⟨by omega, by omega, h3⟩
  have := key (a 0) 0 0
  unfold rcS
  rw [this, Nat.zero_testBit]
  constructor
  · rintro (h | ⟨-, h2, h3⟩)
    · exact absurd h (by decide)
    · exact ⟨by omega, h3⟩
  · rintro ⟨h1, h2⟩
    exact Or.inr ⟨Nat.zero_le _, by omega, h2⟩
def gl (a : Nat → Nat) : Nat := sn a (rcS a)
theorem gl_in {a : Nat → Nat} {q : Nat} (hq : q < a 0) (h : ds a 0 q < 100000) : sub (vw a q) (gl a) := sn_in hq ((rcS_tb a q).mpr ⟨hq, h⟩)
/-- walks -/
def rch (a : Nat → Nat) : Nat → Nat → Nat → Nat → Prop
  | 0, p, s, c => p = 0 ∧ s = vw a 0 ∧ c = 0
  | n + 1, q, t, c => ∃ p s c', rch a n p s c' ∧ wy a p q ≠ 0 ∧ t = s ||| vw a q ∧ c = c' + wy a p q
theorem wy_ds {a : Nat → Nat} (v : V1 a) {x z : Nat} (h : wy a x z ≠ 0) : ds a x z ≤ wy a x z := by
  have := ds_dr a x z
  rw [(wy_dr v h).1] at this
  exact this
theorem ds_480 {a : Nat → Nat} (v : V1 a) (y : Nat) : ∀ D x, ds a x y ≤ D → ds a x y < 100000 → ds a x y ≤ 60 * cnt (fun p => decide (ds a p y < ds a x y)) 8 := by
  have b0 : a 0 ≤ 8 := v.2.1
  intro D
  induction D with
  | zero => intro x hx _; omega
  | succ D ih =>
    intro x hx hf
    by_cases c : x = y
    · subst c; rw [ds_xx]; omega
    · obtain ⟨z, z1, z2⟩ := ds_ex v c hf
      have w1 := wy_le v x z
      have := ih z (by omega) (by omega)
      have m : cnt (fun p => decide (ds a p y < ds a z y)) 8 + 1 ≤ cnt (fun p => decide (ds a p y < ds a x y)) 8 :=
        cnt_off (k := z) (by have := (wy_dr v z1).2.2.1; omega) (decide_eq_true (by omega)) (decide_eq_false (by omega)) (fun i _ _ h => decide_eq_true (by have := of_decide_eq_true h; omega))
      omega
theorem ds_b {a : Nat → Nat} (v : V1 a) {x y : Nat} (h : ds a x y < 100000) : ds a x y ≤ 480 := by
  have := ds_480 v y _ x (Nat.le_refl _) h
  have := cnt_le (fun p => decide (ds a p y < ds a x y)) 8
  omega
theorem vw_lt {a : Nat → Nat} (v : V1 a) {p : Nat} (hp : p < a 0) : vw a p < 2 ^ 8 := by
  have b0 : a 0 ≤ 8 := v.2.1
  exact Nat.lt_of_lt_of_le (v.2.2.2.2.2.1 p hp).2.2.2.2.1 (Nat.pow_le_pow_right (by decide) b0)
theorem rch_ok {a : Nat → Nat} (v : V1 a) : ∀ n p s c, rch a n p s c → p < a 0 ∧ ds a 0 p < 100000 ∧ sub s (gl a) ∧ sub (vw a p) s ∧ s < 2 ^ 8
  | 0, p, s, c, h => by
    obtain ⟨rfl, rfl, rfl⟩ := h
    have b1 : 1 ≤ a 0 := v.1
    have h0 : ds a 0 0 < 100000 := by rw [ds_xx]; decide
    exact ⟨b1, h0, gl_in b1 h0, sub_rf _, vw_lt v b1⟩
  | n + 1, q, t, c, h => by
    obtain ⟨p, s, c', h1, h2, rfl, rfl⟩ := h
    obtain ⟨p1, p2, p3, p4, p5⟩ := rch_ok v n p s c' h1
    have hq := (wy_dr v h2).2.2.1
    have hd := wy_ds v h2
    have hb := wy_le v p q
    have ht := ds_tri a (z := p) (by have := v.2.1; omega) 0 q
    have hf := ds_fin v p2
    have hq2 : ds a 0 q < 100000 := by omega
    exact ⟨hq, hq2, sub_or p3 (gl_in hq hq2), sub_r _ _, Nat.or_lt_two_pow p5 (vw_lt v hq)⟩
theorem rch_go {a : Nat → Nat} (v : V1 a) (q : Nat) : ∀ D n p s c, ds a p q ≤ D → ds a p q < 100000 → rch a n p s c → ∃ m t, rch a m q t (c + ds a p q) ∧ sub s t := by
  intro D
  induction D with
  | zero =>
    intro n p s c hD hf h
    by_cases e : p = q
    · subst e; rw [ds_xx, Nat.add_zero]; exact ⟨n, s, h, sub_rf s⟩
    · have := ds_pos a e; omega
  | succ D ih =>
    intro n p s c hD hf h
    by_cases e : p = q
    · subst e; rw [ds_xx, Nat.add_zero]; exact ⟨n, s, h, sub_rf s⟩
    · obtain ⟨z, z1, z2⟩ := ds_ex v e hf
      obtain ⟨m, t, h1, h2⟩ := ih (n + 1) z (s ||| vw a z) (c + wy a p z) (by omega) (by omega) ⟨p, s, c, h, z1, rfl, rfl⟩
      rw [Nat.add_assoc, z2] at h1
      exact ⟨m, t, h1, sub_tr (sub_l _ _) h2⟩
/-- which is the answer -/
def opt (a : Nat → Nat) (c : Nat) : Prop := (∃ n p, rch a n p (gl a) c) ∧ ∀ n p c', rch a n p (gl a) c' → c ≤ c'
theorem opt_eq {a : Nat → Nat} {b c : Nat} (h : opt a b) (h2 : opt a c) : b = c := by
  obtain ⟨⟨n, p, h1⟩, h3⟩ := h
  obtain ⟨⟨m, q, h4⟩, h5⟩ := h2
  have := h3 _ _ _ h4
  have := h5 _ _ _ h1
  omega
/-- orders of sets -/
def sq (a : Nat → Nat) : Nat → Nat → Nat → Nat → Prop
  | 0, set, last, c => set = 1 ∧ last = 0 ∧ c = 0
  | n + 1, set, last, c => ∃ set' last' c', sq a n set' last' c' ∧ last < a 0 ∧ set'.testBit last = false ∧ set = set' ||| 2 ^ last ∧ ds a last' last < 100000 ∧ c = c' + ds a last' last
theorem sq_ok {a : Nat → Nat} (v : V1 a) : ∀ n set last c, sq a n set last c → last < a 0 ∧ set < 2 ^ a 0 ∧ n < set ∧ set.testBit 0 = true ∧ set.testBit last = true ∧ c ≤ 480 * n
  | 0, set, last, c, h => by
    obtain ⟨rfl, rfl, rfl⟩ := h
    have b1 : 1 ≤ a 0 := v.1
    exact ⟨b1, Nat.one_lt_two_pow (by omega), by decide, by decide, by decide, by omega⟩
  | n + 1, set, last, c, h => by
    obtain ⟨s', l', c', h1, h2, h3, rfl, h4, rfl⟩ := h
    obtain ⟨q1, q2, q3, q4, q5, q6⟩ := sq_ok v n s' l' c' h1
    have hd := ds_b v h4
    have hs : s' < s' ||| 2 ^ last := by
      have h5 : s' ≤ s' ||| 2 ^ last := Nat.left_le_or
      rcases Nat.lt_or_ge s' (s' ||| 2 ^ last) with h6 | h6
      · exact h6
      · exfalso
        have h7 : s' ||| 2 ^ last = s' := by omega
        have h8 := sub_r s' (2 ^ last) last (by rw [pw_tb]; exact decide_eq_true rfl)
        rw [h7, h3] at h8
        exact absurd h8 (by decide)
    refine ⟨h2, Nat.or_lt_two_pow q2 (Nat.pow_lt_pow_right (by decide) h2), by omega, sub_l _ _ 0 q4, sub_r _ _ last (by rw [pw_tb]; exact decide_eq_true rfl), by omega⟩
theorem sq_rch {a : Nat → Nat} (v : V1 a) : ∀ n set last c, sq a n set last c → ∃ m s, rch a m last s c ∧ sub (sn a set) s
  | 0, set, last, c, h => by
    obtain ⟨rfl, rfl, rfl⟩ := h
    exact ⟨0, vw a 0, ⟨rfl, rfl, rfl⟩, by rw [sn_1 v.1]; exact sub_rf _⟩
  | n + 1, set, last, c, h => by
    obtain ⟨s', l', c', h1, h2, h3, rfl, h4, rfl⟩ := h
    obtain ⟨m, s, r1, r2⟩ := sq_rch v n s' l' c' h1
    obtain ⟨m2, t, r3, r4⟩ := rch_go v last _ m l' s c' (Nat.le_refl _) h4 r1
    refine ⟨m2, t, r3, ?_⟩
    rw [sn_or h2]
    exact sub_or (sub_tr r2 r4) (rch_ok v _ _ _ _ r3).2.2.2.1
theorem rch_sq {a : Nat → Nat} (v : V1 a) : ∀ n p s c, rch a n p s c → ∃ m set last c', sq a m set last c' ∧ set.testBit p = true ∧ sn a set = s ∧ ds a last p < 100000 ∧ c' + ds a last p ≤ c
  | 0, p, s, c, h => by
    obtain ⟨rfl, rfl, rfl⟩ := h
    exact ⟨0, 1, 0, 0, ⟨rfl, rfl, rfl⟩, by decide, sn_1 v.1, by rw [ds_xx]; decide, by rw [ds_xx]; omega⟩
  | n + 1, q, t, c, h => by
    obtain ⟨p, s, c', h1, h2, rfl, rfl⟩ := h
    obtain ⟨m, set, last, c2, s1, s2, s3, s4, s5⟩ := rch_sq v n p s c' h1
    have hq := (wy_dr v h2).2.2.1
    have hp := (wy_dr v h2).2.1
    have hd := wy_ds v h2
    have hb := wy_le v p q
    have hf := ds_fin v s4
    have ht := ds_tri a (z := p) (by have := v.2.1; omega) last q
    by_cases e : set.testBit q = true
    · refine ⟨m, set, last, c2, s1, e, ?_, by omega, by omega⟩
      rw [← s3]
      exact sub_eq (sub_l _ _) (sub_or (sub_rf _) (sn_in hq e))
    · have e' : set.testBit q = false := Bool.not_eq_true _ ▸ e
      refine ⟨m + 1, set ||| 2 ^ q, q, c2 + ds a last q, ⟨set, last, c2, s1, hq, e', rfl, by omega, rfl⟩, sub_r _ _ q (by rw [pw_tb]; exact decide_eq_true rfl), by rw [sn_or hq, s3], by rw [ds_xx]; decide, by rw [ds_xx]; omega⟩
theorem sq_all {a : Nat → Nat} (v : V1 a) : ∀ j, 1 ≤ j → j ≤ a 0 → ∃ m set last c, sq a m set last c ∧ (∀ p, set.testBit p = true ↔ p < j ∧ ds a 0 p < 100000) ∧ ds a 0 last < 100000 ∧ c ≤ 480 * j := by
  intro j
  induction j with
  | zero => intro h; omega
  | succ j ih =>
    intro _ hj
    by_cases e : j = 0
    · subst e
      refine ⟨0, 1, 0, 0, ⟨rfl, rfl, rfl⟩, fun p => ?_, by rw [ds_xx]; decide, by omega⟩
      rw [show (1 : Nat) = 2 ^ 0 from rfl, pw_tb, decide_eq_true_iff]
      constructor
      · rintro rfl; exact ⟨by decide, by rw [ds_xx]; decide⟩
      · intro h; have := h.1; have e0 : (2 : Nat) ^ 0 = 1 := rfl; omega
    · obtain ⟨m, set, last, c, s1, s2, s3, s4⟩ := ih (by omega) (by omega)
      by_cases f : ds a 0 j < 100000
      · have hl : ds a last j < 100000 := by
          have t := ds_tri a (z := 0) (by decide) last j
          rw [ds_comm a last 0] at t
          have := ds_fin v s3
          have := ds_fin v f
          omega
        have hlb := ds_b v hl
        refine ⟨m + 1, set ||| 2 ^ j, j, c + ds a last j, ⟨set, last, c, s1, by omega, ?_, rfl, hl, rfl⟩, fun p => ?_, f, by omega⟩
        · by_cases g : set.testBit j = true
          · have := ((s2 j).mp g).1; omega
          · exact Bool.not_eq_true _ ▸ g
        · rw [Nat.testBit_or, Bool.or_eq_true, s2, pw_tb, decide_eq_true_iff]
          constructor
          · rintro (h | rfl)
            · exact ⟨by omega, h.2⟩
            · exact ⟨by omega, f⟩
          · rintro ⟨h1, h2⟩
            by_cases g : p = j
            · exact Or.inr g.symm
            · exact Or.inl ⟨by omega, h2⟩
      · refine ⟨m, set, last, c, s1, fun p => ?_, s3, by omega⟩
        rw [s2]
        constructor
        · rintro ⟨h1, h2⟩; exact ⟨by omega, h2⟩
        · rintro ⟨h1, h2⟩
          refine ⟨?_, h2⟩
          by_cases g : p = j
          · subst g; exact absurd h2 f
          · omega
/-- there is a walk, and it is not long -/
theorem walk_ex {a : Nat → Nat} (v : V1 a) : ∃ n p c, rch a n p (gl a) c ∧ c < 100000 := by
  have b0 : a 0 ≤ 8 := v.2.1
  obtain ⟨m, set, last, c, s1, s2, -, s4⟩ := sq_all v (a 0) v.1 (Nat.le_refl _)
  obtain ⟨n, s, r1, r2⟩ := sq_rch v _ _ _ _ s1
  have hs : set = rcS a := sub_eq (fun b hb => (rcS_tb a b).mpr ((s2 b).mp hb)) (fun b hb => (s2 b).mpr ((rcS_tb a b).mp hb))
  rw [hs] at r2
  have e : s = gl a := sub_eq (rch_ok v _ _ _ _ r1).2.2.1 r2
  rw [e] at r1
  exact ⟨n, last, c, r1, by omega⟩
