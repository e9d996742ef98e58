/-! ===== garden: the reference is told ===== -/
theorem RM.p86 {N : g_M} {b : Nat → Nat} {i w : Nat} {x : Int32} (h : RM N 86 b) (hx : x = nI w) : RM (g_ms N 86 (upd (N 86) i x)) 86 (aup b i w) := fun k hk => by
  rw [g_ms_s]
  unfold upd aup
  by_cases c : k = i
  · rw [if_pos c, if_pos c]; exact hx
  · rw [if_neg c, if_neg c]; exact h k hk
theorem RM.eq {N : g_M} {b b' : Nat → Nat} (h : RM N 86 b) (e : ∀ k, b k = b' k) : RM N 86 b' := fun k hk => by rw [← e k]; exact h k hk
theorem wyF_ex {b : Nat → Nat} {x y : Nat} : ∀ n, (∀ i, i < n → 1 ≤ b (58 + 3 * i)) → (wyF b x y n ≠ 0 ↔ ∃ i, i < n ∧ ((b (56 + 3 * i) = x ∧ b (57 + 3 * i) = y) ∨ (b (56 + 3 * i) = y ∧ b (57 + 3 * i) = x)))
  | 0, _ => ⟨fun h => absurd rfl h, fun ⟨i, h, _⟩ => by omega⟩
  | n + 1, hb => by
    have ih := wyF_ex (b := b) (x := x) (y := y) n (fun i hi => hb i (by omega))
    have h1 := hb n (by omega)
    unfold wyF
    by_cases c : (b (56 + 3 * n) = x ∧ b (57 + 3 * n) = y) ∨ (b (56 + 3 * n) = y ∧ b (57 + 3 * n) = x)
    · rw [if_pos c]
      exact ⟨fun _ => ⟨n, by omega, c⟩, fun _ => by omega⟩
    · rw [if_neg c, ih]
      constructor
      · rintro ⟨i, h2, h3⟩; exact ⟨i, by omega, h3⟩
      · rintro ⟨i, h2, h3⟩
        by_cases e : i = n
        · subst e; exact absurd h3 c
        · exact ⟨i, by omega, h3⟩
theorem m_isWay {d x y : Nat} {N : g_M} {Q : g_R} {b : Nat → Nat} (hd : 1 ≤ d) (v : V1 b) (hM : RM N 86 b) (hx : x < 2 ^ 31) (hy : y < 2 ^ 31) (h : Q (some (.int (bI (decide (wy b x y ≠ 0))))) N) : g_cal d k_X10_isWay [.ref 86, .int (nI x), .int (nI y)] N Q := by
  have v3 : b 1 ≤ 14 := v.2.2.1
  have bl := v.2.2.2.2.1
  have vw := v.2.2.2.2.2.2.2.2.2.2.2
  have ex := wyF_ex (b := b) (x := x) (y := y) (b 1) (fun i hi => (vw i hi).2.2.2.1)
  refine g_m hd 3 (fun e he => ?_)
  have loop : ∀ m i u4 u5, i + m = b 1 → (∀ j, j < i → ¬ ((b (56 + 3 * j) = x ∧ b (57 + 3 * j) = y) ∨ (b (56 + 3 * j) = y ∧ b (57 + 3 * j) = x))) → g_Run (g_cal e) (g_mt S0 k_X10_isWay) Q 2 [.ref 86, .int (nI x), .int (nI y), .int (nI i), u4, u5] [] N := by
    intro m
    induction m with
    | zero =>
      intro i u4 u5 hi hn
      have e0 : ¬ wy b x y ≠ 0 := fun z => by
        obtain ⟨j, j1, j2⟩ := ex.mp z
        exact hn j (by omega) j2
      rw [decide_eq_false e0] at h
      exact g_go_ 20 ⟨1, rfl, by decide, b_ge rfl (hM 1 (by decide)) (by omega) (by omega) (fun _ => ⟨rfl, h⟩) (fun z => by omega)⟩
    | succ m ih =>
      intro i u4 u5 hi hn
      have B1 := bl (56 + 3 * i)
      have B2 := bl (57 + 3 * i)
      have yes : ((b (56 + 3 * i) = x ∧ b (57 + 3 * i) = y) ∨ (b (56 + 3 * i) = y ∧ b (57 + 3 * i) = x)) → Q (some (.int 1)) N := fun z => by
        have e0 : wy b x y ≠ 0 := ex.mpr ⟨i, by omega, z⟩
        rw [decide_eq_true e0] at h
        exact h
      have no : ¬ ((b (56 + 3 * i) = x ∧ b (57 + 3 * i) = y) ∨ (b (56 + 3 * i) = y ∧ b (57 + 3 * i) = x)) → g_Run (g_cal e) (g_mt S0 k_X10_isWay) Q 57 [.ref 86, .int (nI x), .int (nI y), .int (nI i), .int (nI (b (56 + 3 * i))), .int (nI (b (57 + 3 * i)))] [] N := fun z => by
        have hR := ih (i + 1) (.int (nI (b (56 + 3 * i)))) (.int (nI (b (57 + 3 * i)))) (by omega) (fun j hj => by
          by_cases c : j = i
          · subst c; exact z
          · exact hn j (by omega))
        rw [nI_succ] at hR
        exact g_go_ 3 (g_to hR _ rfl)
      have r31 : g_Run (g_cal e) (g_mt S0 k_X10_isWay) Q 31 [.ref 86, .int (nI x), .int (nI y), .int (nI i), .int (nI (b (56 + 3 * i))), .int (nI (b (57 + 3 * i)))] [] N := by
        have t2 : (b (56 + 3 * i) = x ∧ b (57 + 3 * i) = y → False) → g_Run (g_cal e) (g_mt S0 k_X10_isWay) Q 43 [.ref 86, .int (nI x), .int (nI y), .int (nI i), .int (nI (b (56 + 3 * i))), .int (nI (b (57 + 3 * i)))] [] N := fun w =>
          g_go_ 20 (b_ne rfl rfl (by omega) (by omega) (fun z => g_to (no (fun q => q.elim w (fun q2 => z q2.1))) _ rfl) (fun z => b_ne rfl rfl (by omega) (by omega) (fun z2 => g_to (no (fun q => q.elim w (fun q2 => z2 q2.2))) _ rfl) (fun z2 => ⟨rfl, yes (Or.inr ⟨z, z2⟩)⟩)))
        exact g_go_ 20 (b_ne rfl rfl (by omega) (by omega) (fun z => g_to (t2 (fun w => z w.1)) _ rfl) (fun z => b_eq rfl rfl (by omega) (by omega) (fun z2 => ⟨rfl, yes (Or.inl ⟨z, z2⟩)⟩) (fun z2 => g_to (t2 (fun w => z2 w.2)) _ rfl)))
      rw [← hM (56 + 3 * i) (by omega), ← hM (57 + 3 * i) (by omega)] at r31
      exact g_go_ 40 ⟨1, rfl, by decide, b_ge rfl (hM 1 (by decide)) (by omega) (by omega) (fun z => by omega) (fun _ => ⟨56 + 3 * i, ia rfl (im rfl rfl), by omega, 57 + 3 * i, by rw [show 57 + 3 * i = 56 + 3 * i + 1 by omega]; exact ia (ia rfl (im rfl rfl)) rfl, by omega, g_to r31 _ rfl⟩)⟩
  exact g_to (loop (b 1) 0 .null .null (by omega) (fun j hj => by omega)) _ rfl
theorem chP (b : Nat → Nat) (x0 x1 x2 k : Nat) : aup (aup (aup (aup (aup (aup b (16 + 5 * b 0 + 0) x0) (16 + 5 * b 0 + 1) x1) (16 + 5 * b 0 + 2) x2) (16 + 5 * b 0 + 3) 0) (16 + 5 * b 0 + 4) (2 ^ b 0)) 0 (b 0 + 1) k = tP b x0 x1 x2 k := by
  by_cases c : k = 0
  · subst c; rw [aup_s, (tP_s b x0 x1 x2).1]
  rw [aup_n c]
  obtain ⟨-, s1, s2, s3, s4, s5⟩ := tP_s b x0 x1 x2
  by_cases c4 : k = 16 + 5 * b 0 + 4
  · subst c4; rw [aup_s, show 16 + 5 * b 0 + 4 = 20 + 5 * b 0 by omega, s5]
  rw [aup_n c4]
  by_cases c3 : k = 16 + 5 * b 0 + 3
  · subst c3; rw [aup_s, show 16 + 5 * b 0 + 3 = 19 + 5 * b 0 by omega, s4]
  rw [aup_n c3]
  by_cases c2 : k = 16 + 5 * b 0 + 2
  · subst c2; rw [aup_s, show 16 + 5 * b 0 + 2 = 18 + 5 * b 0 by omega, s3]
  rw [aup_n c2]
  by_cases c1 : k = 16 + 5 * b 0 + 1
  · subst c1; rw [aup_s, show 16 + 5 * b 0 + 1 = 17 + 5 * b 0 by omega, s2]
  rw [aup_n c1]
  by_cases c0 : k = 16 + 5 * b 0 + 0
  · subst c0; rw [aup_s, show 16 + 5 * b 0 + 0 = 16 + 5 * b 0 by omega, s1]
  rw [aup_n c0, tP_n c (by omega)]
theorem chW (b : Nat → Nat) (x0 x1 x2 k : Nat) : aup (aup (aup (aup b (56 + 3 * b 1 + 0) x0) (56 + 3 * b 1 + 1) x1) (56 + 3 * b 1 + 2) x2) 1 (b 1 + 1) k = tW b x0 x1 x2 k := by
  by_cases c : k = 1
  · subst c; rw [aup_s, (tW_s b x0 x1 x2).1]
  rw [aup_n c]
  obtain ⟨-, s1, s2, s3⟩ := tW_s b x0 x1 x2
  by_cases c2 : k = 56 + 3 * b 1 + 2
  · subst c2; rw [aup_s, show 56 + 3 * b 1 + 2 = 58 + 3 * b 1 by omega, s3]
  rw [aup_n c2]
  by_cases c1 : k = 56 + 3 * b 1 + 1
  · subst c1; rw [aup_s, show 56 + 3 * b 1 + 1 = 57 + 3 * b 1 by omega, s2]
  rw [aup_n c1]
  by_cases c0 : k = 56 + 3 * b 1 + 0
  · subst c0; rw [aup_s, show 56 + 3 * b 1 + 0 = 56 + 3 * b 1 by omega, s1]
  rw [aup_n c0, tW_n c (by omega)]
theorem chH (b : Nat → Nat) (x0 x1 k : Nat) : aup (aup (aup b (98 + 2 * b 2) x0) (98 + 2 * b 2 + 1) x1) 2 (b 2 + 1) k = tH b x0 x1 k := by
  by_cases c : k = 2
  · subst c; rw [aup_s, (tH_s b x0 x1).1]
  rw [aup_n c]
  obtain ⟨-, s1, s2⟩ := tH_s b x0 x1
  by_cases c1 : k = 98 + 2 * b 2 + 1
  · subst c1; rw [aup_s, show 98 + 2 * b 2 + 1 = 99 + 2 * b 2 by omega, s2]
  rw [aup_n c1]
  by_cases c0 : k = 98 + 2 * b 2
  · subst c0; rw [aup_s, s1]
  rw [aup_n c0, tH_n c (by omega)]
theorem chV (b : Nat → Nat) (x0 x1 k : Nat) : aup b (16 + 5 * x0 + 4) (b (20 + 5 * x0) ||| 2 ^ x1) k = tV b x0 x1 k := by
  unfold tV
  by_cases c : k = 20 + 5 * x0
  · subst c; rw [show 16 + 5 * x0 + 4 = 20 + 5 * x0 by omega, aup_s, if_pos rfl]
  · rw [aup_n (by omega), if_neg c]
def FE (M N : g_M) : Prop := ∀ c, c ≠ 86 → N c = M c
theorem m_comes {d c : Nat} {N : g_M} {Q : g_R} {b : Nat → Nat} {R : RES} (hd : 2 ≤ d) (v : V1 b) (hM : RM N 86 b) (r : rng c R) (hc : c = 112 ∨ c = 119 ∨ c = 118 ∨ c = 104) (vy : VY N R (nval c)) (hno : bad b c R → Q (some (.int 0)) N) (hyes : ∀ b' N', tel b c R b' → FE N N' → RM N' 86 b' → Q (some (.int 1)) N') : g_cal d k_X10_comes [.ref 82, .int (nI c)] N Q := by
  obtain ⟨r0, r1, r2, r3⟩ := r
  have b0 : b 0 ≤ 8 := v.2.1
  have v3 : b 1 ≤ 14 := v.2.2.1
  have v4 : b 2 ≤ 8 := v.2.2.2.1
  have bl := v.2.2.2.2.1
  refine g_m (by omega) 40 (fun e he => ?_)
  have e0 : N 88 0 = nI R.2.2.1 := vy.1 (by unfold nval; split <;> decide)
  have e1 : N 88 1 = nI R.2.2.2.1 := vy.2.1 (by unfold nval; split <;> decide)
  have m0 := hM 0 (by decide)
  have hb20 := bl (20 + 5 * R.2.2.1)
  -- by the letter
  have R46 : ∀ tw : Int32, ((tw = 1 ∧ R.2.2.1 < b 0 ∧ R.2.2.2.1 < b 0 ∧ R.2.2.1 ≠ R.2.2.2.1) ∨ (tw = 0 ∧ ¬ (R.2.2.1 < b 0 ∧ R.2.2.2.1 < b 0 ∧ R.2.2.1 ≠ R.2.2.2.1))) → g_Run (g_cal e) (g_mt S0 k_X10_comes) Q 46 [.ref 82, .int (nI c), .int (nI R.2.2.1), .int (nI R.2.2.2.1), .int tw, .null, .null] [] N := by
    intro tw htw
    rcases hc with rfl | rfl | rfl | rfl
    · -- a place
      have e2 : N 88 2 = nI R.2.2.2.2 := vy.2.2 (by decide)
      have r101 : b 0 ≠ 8 → g_Run (g_cal e) (g_mt S0 k_X10_comes) Q 101 [.ref 82, .int (nI 112), .int (nI R.2.2.1), .int (nI R.2.2.2.1), .int tw, .int (nI (b 0)), .null] [] N := by
        intro h8
        have H1 := hM.p86 (i := 16 + 5 * b 0 + 0) e0
        have H2 := H1.p86 (i := 16 + 5 * b 0 + 1) (x := N 88 1) e1
        have H3 := H2.p86 (i := 16 + 5 * b 0 + 2) (x := N 88 2) e2
        have H4 := H3.p86 (i := 16 + 5 * b 0 + 3) (x := 0) (w := 0) rfl
        have H5 := H4.p86 (i := 16 + 5 * b 0 + 4) (x := (1 : Int32) <<< (nI (b 0) &&& 31)) (n_shl (by omega))
        have hl := H5 0 (by decide)
        rw [aup_n (by omega), aup_n (by omega), aup_n (by omega), aup_n (by omega), aup_n (by omega)] at hl
        have H6 := H5.p86 (i := 0) ((congrArg (· + 1) hl).trans (nI_succ (b 0)).symm)
        have hq := hyes _ _ (Or.inl ⟨rfl, h8, rfl⟩) (fun c hc => by rw [g_ms_n hc, g_ms_n hc, g_ms_n hc, g_ms_n hc, g_ms_n hc, g_ms_n hc]) (H6.eq (chP b R.2.2.1 R.2.2.2.1 R.2.2.2.2))
        refine g_go_ 150 (b_f (by decide) ⟨0, rfl, by decide, 16 + 5 * b 0 + 0, ia (ia rfl (im rfl rfl)) rfl, by omega, b_f (by decide) ⟨1, rfl, by decide, 16 + 5 * b 0 + 1, ia (ia rfl (im rfl rfl)) rfl, by omega, b_f (by decide) ⟨2, rfl, by decide, 16 + 5 * b 0 + 2, ia (ia rfl (im rfl rfl)) rfl, by omega, b_t (by decide) ⟨16 + 5 * b 0 + 3, ia (ia rfl (im rfl rfl)) rfl, by omega, 16 + 5 * b 0 + 4, ia (ia rfl (im rfl rfl)) rfl, by omega, 0, rfl, by decide, 0, rfl, by decide, rfl, hq⟩⟩⟩⟩)
      refine g_go_ 20 (g_sw_of 80 (by decide) ⟨0, rfl, by decide, ?_⟩)
      refine b_ne (b := 8) m0 rfl (by omega) (by decide) (fun z => ⟨0, rfl, by decide, ?_⟩) (fun z => ⟨rfl, hno (Or.inl ⟨rfl, z⟩)⟩)
      have hR := r101 z
      rw [← m0] at hR
      exact g_to hR _ rfl
    · -- a way
      have e2 : N 88 2 = nI R.2.2.2.2 := vy.2.2 (by decide)
      have m1 := hM 1 (by decide)
      have bad2 : ¬ okW b R.2.2.1 R.2.2.2.1 R.2.2.2.2 → g_Run (g_cal e) (g_mt S0 k_X10_comes) Q 232 [.ref 82, .int (nI 119), .int (nI R.2.2.1), .int (nI R.2.2.2.1), .int tw, .null, .null] [] N := fun z => g_go_ 5 ⟨rfl, hno (Or.inr (Or.inl ⟨rfl, z⟩))⟩
      rcases htw with ⟨rfl, w1, w2, w3⟩ | ⟨rfl, w⟩
      · have r234 : okW b R.2.2.1 R.2.2.2.1 R.2.2.2.2 → g_Run (g_cal e) (g_mt S0 k_X10_comes) Q 234 [.ref 82, .int (nI 119), .int (nI R.2.2.1), .int (nI R.2.2.2.1), .int 1, .null, .null] [] N := by
          intro hok
          have h14 := hok.2.2.2.2.2.2
          have H1 := hM.p86 (i := 56 + 3 * b 1 + 0) e0
          have l1 := H1 1 (by decide)
          rw [aup_n (by omega)] at l1
          have H2 := H1.p86 (i := 56 + 3 * b 1 + 1) (x := N 88 1) e1
          have l2 := H2 1 (by decide)
          rw [aup_n (by omega), aup_n (by omega)] at l2
          have H3 := H2.p86 (i := 56 + 3 * b 1 + 2) (x := N 88 2) e2
          have hl := H3 1 (by decide)
          rw [aup_n (by omega), aup_n (by omega), aup_n (by omega)] at hl
          have H6 := H3.p86 (i := 1) ((congrArg (· + 1) hl).trans (nI_succ (b 1)).symm)
          have hq := hyes _ _ (Or.inr (Or.inl ⟨rfl, hok, rfl⟩)) (fun c hc => by rw [g_ms_n hc, g_ms_n hc, g_ms_n hc, g_ms_n hc]) (H6.eq (chW b R.2.2.1 R.2.2.2.1 R.2.2.2.2))
          refine g_go_ 150 (b_f (by decide) ⟨1, rfl, by decide, 0, rfl, by decide, 56 + 3 * b 1 + 0, ia (ia rfl (im rfl m1)) rfl, by omega, b_f (by decide) ⟨1, rfl, by decide, 1, rfl, by decide, 56 + 3 * b 1 + 1, ia (ia rfl (im rfl l1)) rfl, by omega, b_f (by decide) ⟨1, rfl, by decide, 2, rfl, by decide, 56 + 3 * b 1 + 2, ia (ia rfl (im rfl l2)) rfl, by omega, b_t (by decide) ⟨1, rfl, by decide, 1, rfl, by decide, rfl, hq⟩⟩⟩⟩)
        refine g_go_ 60 (g_sw_of 183 (by decide) (b_f (by decide) ⟨2, rfl, by decide, ?_⟩))
        refine b_lt (b := 1) e2 rfl (by omega) (by decide) (fun z => g_to (bad2 (fun q => by have := q.2.2.2.1; omega)) _ rfl) (fun z1 => ⟨2, rfl, by decide, ?_⟩)
        refine b_gt (b := 60) e2 rfl (by omega) (by decide) (fun z => g_to (bad2 (fun q => by have := q.2.2.2.2.1; omega)) _ rfl) (fun z2 => ?_)
        refine m_isWay (by omega) v hM (by omega) (by omega) ?_
        by_cases z3 : wy b R.2.2.1 R.2.2.2.1 ≠ 0
        · rw [decide_eq_true z3]
          exact b_nt (by decide) (g_to (bad2 (fun q => z3 q.2.2.2.2.2.1)) _ rfl)
        · rw [decide_eq_false z3]
          refine b_nf rfl ⟨1, rfl, by decide, ?_⟩
          refine b_ne (b := 14) m1 rfl (by omega) (by decide) (fun z4 => g_to (r234 ⟨w1, w2, w3, z1, z2, by omega, z4⟩) _ rfl) (fun z4 => g_to (bad2 (fun q => q.2.2.2.2.2.2 z4)) _ rfl)
      · exact g_go_ 20 (g_sw_of 183 (by decide) (b_t rfl (g_to (bad2 (fun q => w ⟨q.1, q.2.1, q.2.2.1⟩)) _ rfl)))
    · -- a view
      have bad3 : ¬ okV b R.2.2.1 R.2.2.2.1 → g_Run (g_cal e) (g_mt S0 k_X10_comes) Q 313 [.ref 82, .int (nI 118), .int (nI R.2.2.1), .int (nI R.2.2.2.1), .int tw, .null, .null] [] N := fun z => g_go_ 5 ⟨rfl, hno (Or.inr (Or.inr (Or.inl ⟨rfl, z⟩)))⟩
      rcases htw with ⟨rfl, w1, w2, w3⟩ | ⟨rfl, w⟩
      · have hv : N 86 (16 + 5 * R.2.2.1 + 4) = nI (b (20 + 5 * R.2.2.1)) := by rw [hM _ (by omega), show 16 + 5 * R.2.2.1 + 4 = 20 + 5 * R.2.2.1 by omega]
        refine g_go_ 60 (g_sw_of 287 (by decide) (b_f (by decide) ⟨16 + 5 * R.2.2.1 + 4, ia (ia rfl (im rfl rfl)) rfl, by omega, ?_⟩))
        show (¬ (N 86 (16 + 5 * R.2.2.1 + 4) >>> (nI R.2.2.2.1 &&& 31)) &&& 1 = 1 → _) ∧ ((N 86 (16 + 5 * R.2.2.1 + 4) >>> (nI R.2.2.2.1 &&& 31)) &&& 1 = 1 → _)
        have hbt : (N 86 (16 + 5 * R.2.2.1 + 4) >>> (nI R.2.2.2.1 &&& 31)) &&& 1 = bI ((b (20 + 5 * R.2.2.1)).testBit R.2.2.2.1) := by rw [hv]; exact n_bit (by omega) (by omega)
        rw [hbt]
        refine b_b1 (fun z => ?_) (fun z => g_to (bad3 (fun q => by rw [q.2.2.2] at z; exact absurd z (by decide))) _ rfl)
        have hok : okV b R.2.2.1 R.2.2.2.1 := ⟨w1, w2, w3, z⟩
        have hor : N 86 (16 + 5 * R.2.2.1 + 4) ||| ((1 : Int32) <<< (nI R.2.2.2.1 &&& 31)) = nI (b (20 + 5 * R.2.2.1) ||| 2 ^ R.2.2.2.1) := by
          rw [hv, show (1 : Int32) <<< (nI R.2.2.2.1 &&& 31) = nI (2 ^ R.2.2.2.1) from n_shl (by omega), n_or]
        have H1 := hM.p86 (i := 16 + 5 * R.2.2.1 + 4) hor
        have hq := hyes _ _ (Or.inr (Or.inr (Or.inl ⟨rfl, hok, rfl⟩))) (fun c hc => by rw [g_ms_n hc]) (H1.eq (chV b R.2.2.1 R.2.2.2.1))
        exact ⟨16 + 5 * R.2.2.1 + 4, ia (ia rfl (im rfl rfl)) rfl, by omega, 16 + 5 * R.2.2.1 + 4, ia (ia rfl (im rfl rfl)) rfl, by omega, rfl, hq⟩
      · exact g_go_ 20 (g_sw_of 287 (by decide) (b_t rfl (g_to (bad3 (fun q => w ⟨q.1, q.2.1, q.2.2.1⟩)) _ rfl)))
    · -- a hider
      have m2 := hM 2 (by decide)
      have bad4 : ¬ okH b R.2.2.1 R.2.2.2.1 → g_Run (g_cal e) (g_mt S0 k_X10_comes) Q 363 [.ref 82, .int (nI 104), .int (nI R.2.2.1), .int (nI R.2.2.2.1), .int tw, .null, .null] [] N := fun z => g_go_ 5 ⟨rfl, hno (Or.inr (Or.inr (Or.inr ⟨rfl, z⟩)))⟩
      have r365 : okH b R.2.2.1 R.2.2.2.1 → g_Run (g_cal e) (g_mt S0 k_X10_comes) Q 365 [.ref 82, .int (nI 104), .int (nI R.2.2.1), .int (nI R.2.2.2.1), .int tw, .null, .null] [] N := by
        intro hok
        have h8 := hok.2.2.2
        have H1 := hM.p86 (i := 98 + 2 * b 2) (x := nI R.2.2.1) (w := R.2.2.1) rfl
        have l1 := H1 2 (by decide)
        rw [aup_n (by omega)] at l1
        have H2 := H1.p86 (i := 98 + 2 * b 2 + 1) (x := nI R.2.2.2.1) (w := R.2.2.2.1) rfl
        have hl := H2 2 (by decide)
        rw [aup_n (by omega), aup_n (by omega)] at hl
        have H6 := H2.p86 (i := 2) ((congrArg (· + 1) hl).trans (nI_succ (b 2)).symm)
        have hq := hyes _ _ (Or.inr (Or.inr (Or.inr ⟨rfl, hok, rfl⟩))) (fun c hc => by rw [g_ms_n hc, g_ms_n hc, g_ms_n hc]) (H6.eq (chH b R.2.2.1 R.2.2.2.1))
        exact g_go_ 60 ⟨2, rfl, by decide, 98 + 2 * b 2, ia rfl (im rfl m2), by omega, 2, rfl, by decide, 98 + 2 * b 2 + 1, ia (ia rfl (im rfl l1)) rfl, by omega, 2, rfl, by decide, 2, rfl, by decide, rfl, hq⟩
      refine g_go_ 60 (g_sw_of 336 (by decide) ?_)
      refine b_lt (b := 2) rfl rfl (by omega) (by decide) (fun z => g_to (bad4 (fun q => by have := q.1; omega)) _ rfl) (fun z1 => ?_)
      refine b_gt (b := 15) rfl rfl (by omega) (by decide) (fun z => g_to (bad4 (fun q => by have := q.2.1; omega)) _ rfl) (fun z2 => ?_)
      refine b_lt (b := 1) rfl rfl (by omega) (by decide) (fun z => g_to (bad4 (fun q => by have := q.2.2.1; omega)) _ rfl) (fun z3 => ⟨2, rfl, by decide, ?_⟩)
      exact b_ne (b := 8) m2 rfl (by omega) (by decide) (fun z4 => g_to (r365 ⟨z1, z2, z3, z4⟩) _ rfl) (fun z4 => g_to (bad4 (fun q => q.2.2.2 z4)) _ rfl)
  rw [← e0, ← e1] at R46
  refine ⟨0, rfl, by decide, 1, rfl, by decide, 0, rfl, by decide, ?_⟩
  refine b_ge e0 m0 (by omega) (by omega) (fun z => g_to (R46 0 (Or.inr ⟨rfl, fun q => by have := q.1; omega⟩)) _ rfl) (fun z1 => ⟨0, rfl, by decide, ?_⟩)
  refine b_ge e1 m0 (by omega) (by omega) (fun z => g_to (R46 0 (Or.inr ⟨rfl, fun q => by have := q.2.1; omega⟩)) _ rfl) (fun z2 => ?_)
  exact b_eq e0 e1 (by omega) (by omega) (fun z => g_to (R46 0 (Or.inr ⟨rfl, fun q => q.2.2 z⟩)) _ rfl) (fun z => g_to (R46 1 (Or.inl ⟨rfl, z1, z2, z⟩)) _ rfl)
