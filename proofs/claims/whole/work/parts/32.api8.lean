/-! ===== order ===== -/
def rs (x : Int64) : Nat → Int64
  | 0 => x
  | i + 1 => rs x i / 10
def dgt (x : Int64) (i : Nat) : Int32 := (rs x i - rs x i / 10 * 10).toInt32
def jdg (x : Int64) (i : Nat) : Nat := (dgt x i).toNatClampNeg
/-- the state with another order -/
def aor (a : Nat → Nat) (x : Int64) (m : Nat) : Nat → Nat := fun k => if k = 3 then m else if 114 ≤ k ∧ k < 114 + m then jdg x (k - 114) else a k
theorem og_it (f : Nat → Int32) (w : Nat → Int32) (b : Nat) : ∀ m k, g_it (fun i s => upd s (b + i) (w i)) m 0 f k = if b ≤ k ∧ k < b + m then w (k - b) else f k := by
  intro m
  induction m with
  | zero => intro k; rw [if_neg (by omega)]; rfl
  | succ m ih =>
    intro k
    rw [g_it_succ, Nat.zero_add]
    show (if k = b + m then w m else g_it (fun i s => upd s (b + i) (w i)) m 0 f k) = _
    by_cases h : k = b + m
    · subst h
      rw [if_pos rfl, if_pos (by omega)]
      congr 1
      omega
    · rw [if_neg h, ih k]
      by_cases h2 : b ≤ k ∧ k < b + m
      · rw [if_pos h2, if_pos (by omega)]
      · rw [if_neg h2, if_neg (by omega)]
theorem x_takeDigits {d m : Nat} {M : g_M} {x : Int64} {Q : g_R} (hd : 1 ≤ d) (hm : m ≤ 8) (h : Q none (g_ms (g_ms M 14 (upd (M 14) 2 (nI m))) 16 (g_it (fun i s => upd s (0 + i) (dgt x i)) m 0 (M 16)))) : g_cal d k_X7_takeDigits [.ref 14, .int (nI m), .long x] M Q := by
  refine g_m hd 12 (fun e he => ?_)
  have hmin : (if (8 : Int32) < nI m then 8 else nI m) = nI m := by
    exact if_neg (show ¬ nI 8 < nI m from nI_nlt (by omega) (by decide))
  have key : g_Run (g_cal e) (g_mt S0 k_X7_takeDigits) Q 16 [.ref 14, .int (nI m), .long x, .null, .long x, .null, .int (nI 0)] [] (g_ms (g_ms M 14 (upd (M 14) 2 (nI m))) 16 (M 16)) := by
    refine g_loop (fun i f => g_Run (g_cal e) (g_mt S0 k_X7_takeDigits) Q 16 [.ref 14, .int (nI m), .long x, .null, .long (rs x i), .null, .int (nI i)] [] (g_ms (g_ms M 14 (upd (M 14) 2 (nI m))) 16 f)) (fun _ _ => True) (fun i s => upd s (0 + i) (dgt x i)) m ?_ (fun _ _ _ _ => trivial) m 0 (M 16) (by omega) trivial (fun _ => ?_)
    · intro i f hi _ hR
      have hR' : g_Run (g_cal e) (g_mt S0 k_X7_takeDigits) Q 16 [.ref 14, .int (nI m), .long x, .null, .long (rs x i / 10), .null, .int (nI i + 1)] [] (g_ms (g_ms (g_ms M 14 (upd (M 14) 2 (nI m))) 16 f) 16 (upd ((g_ms (g_ms M 14 (upd (M 14) 2 (nI m))) 16 f) 16) i (dgt x i))) := by
        rw [g_ms_ms, g_ms_s, ← nI_succ]; rw [Nat.zero_add] at hR; exact hR
      refine g_go_ 20 (b_ge rfl (show g_ms (g_ms M 14 (upd (M 14) 2 (nI m))) 16 f 14 2 = nI m from rfl) (by omega) (by omega) (fun z => by omega) (fun _ => ⟨by decide, i, rfl, by omega, by decide, g_to hR' _ rfl⟩))
    · exact g_go_ 20 (b_ge rfl (show g_ms (g_ms M 14 (upd (M 14) 2 (nI m))) 16 _ 14 2 = nI m from rfl) (by omega) (by omega) (fun _ => h) (fun z => by omega))
  rw [← hmin] at key
  rw [show g_ms (g_ms M 14 (upd (M 14) 2 (if (8 : Int32) < nI m then 8 else nI m))) 16 (M 16) = g_ms M 14 (upd (M 14) 2 (if (8 : Int32) < nI m then 8 else nI m)) from g_ms_self (g_ms M 14 (upd (M 14) 2 (if (8 : Int32) < nI m then 8 else nI m))) 16] at key
  have key2 := key
  simp only [hmin] at key key2
  show g_wp _ _ _ _ 10 _ [.int (if (8 : Int32) < nI m then 8 else nI m), .ref 14] M
  rw [hmin]
  exact g_to key _ rfl
theorem p_order {d n : Nat} {M : g_M} {w : Int32} {x : Int64} (hd : 6 ≤ d) (I : Inv n M) : g_pair d k_X9_order k_X10_order [.int w, .long x] M (Inv (n + 1)) := by
  have I0 := I
  obtain ⟨a, ⟨v, v2, v3⟩, ⟨g1, g2, t, lx, hw8⟩, hM, hO, hI⟩ := I
  obtain ⟨t1, t2, t3⟩ := t
  have x1 := g1.1
  have m0 := hM 0 (by decide)
  have b0 : a 0 ≤ 8 := v.2.1
  have b3 : a 3 ≤ 8 := v2.2.2.2.2.2.2.2.2.2.1
  refine g_m (by omega) 60 (fun e he => ?_)
  have bad : ∀ (c : Int32) (j : Nat), -c = nI j → j < 7 → c ≠ 0 → (wth w 0 8 = c) → g_cal d k_X10_order [.ref 82, .int w, .long x] (g_ms M 81 (upd (M 81) j (M 81 j + 1))) (fun v2 M2 => v2 = some (.int c) ∧ Inv (n + 1) M2) := by
    intro c j hc hj hc0 hcs
    refine g_m (by omega) 60 (fun e he => ?_)
    refine m_within (by omega) ?_
    rw [hcs]
    have fin : g_Run (g_cal e) (g_mt S0 k_X10_order) (fun v2 M2 => v2 = some (.int c) ∧ Inv (n + 1) M2) 57 [.ref 82, .int w, .long x, .null, .int c, .long x, .null, .int 0, .null] [] (g_ms M 81 (upd (M 81) j (M 81 j + 1))) := g_go_ 20 (b_f hc0 (m_refuse (by omega) j hc hj (e_ref I0 hj)))
    exact ⟨fun _ => g_to fin _ rfl, fun _ => b_nt hc0 (g_to fin _ rfl)⟩
  refine ⟨fun h0 => ⟨fun h1 => ?_, fun h1 => ?_⟩, fun h0 => ?_⟩
  · obtain ⟨m, hm, rfl⟩ := nI_of2 (M := 8) (n := 8) (by decide) (Int32.not_lt.mpr h0) h1
    have hw0 : wth (nI m) 0 8 = 0 := by unfold wth; rw [if_neg (Int32.not_lt.mpr h0), if_neg (Int32.not_lt.mpr h1)]
    -- steps of both
    have sx : ∀ e Q i, e + 1 = d → i < m → inP (dgt x i) (nI (a 0)) = true → g_Run (g_cal e) (g_mt S0 k_X9_order) Q 30 [.ref 0, .int (nI m), .long x, .null, .long (rs x (i + 1)), .null, .int (nI (i + 1))] [] M → g_Run (g_cal e) (g_mt S0 k_X9_order) Q 30 [.ref 0, .int (nI m), .long x, .null, .long (rs x i), .null, .int (nI i)] [] M := by
      intro e Q i he hi hok hR
      rw [nI_succ] at hR
      refine g_go_ 30 (b_ge rfl rfl (by omega) (by omega) (fun z => by omega) (fun _ => ⟨by decide, x_isHid (by omega) ?_⟩))
      show (¬ bI (inP (dgt x i) (M 2 0)) = 0 → _) ∧ (bI (inP (dgt x i) (M 2 0)) = 0 → _)
      rw [x1, hok]
      exact b_nt (by decide) ⟨by decide, g_to hR _ rfl⟩
    have sm : ∀ e Q i (N : g_M), e + 1 = d → N 84 = M 84 → i < m → inP (dgt x i) (nI (a 0)) = true → g_Run (g_cal e) (g_mt S0 k_X10_order) Q 15 [.ref 82, .int (nI m), .long x, .null, .int 0, .long (rs x (i + 1)), .null, .int (nI (i + 1)), .null] [] N → g_Run (g_cal e) (g_mt S0 k_X10_order) Q 15 [.ref 82, .int (nI m), .long x, .null, .int 0, .long (rs x i), .null, .int (nI i), .null] [] N := by
      intro e Q i N he hN hi hok hR
      rw [nI_succ] at hR
      refine g_go_ 30 (b_ge rfl rfl (by omega) (by omega) (fun z => by omega) (fun _ => b_nf rfl ⟨by decide, m_isRoom (by omega) ?_⟩))
      show (¬ bI (inP (dgt x i) (N 84 0)) = 0 → _) ∧ (bI (inP (dgt x i) (N 84 0)) = 0 → _)
      rw [hN, m0, hok]
      exact b_nt (by decide) ⟨by decide, g_to hR _ rfl⟩
    by_cases hall : ∀ i, i < m → inP (dgt x i) (nI (a 0)) = true
    · -- all of them are places
      have key : g_Run (g_cal e) (g_mt S0 k_X9_order) (fun v M1 => ∃ r, v = some (.int r) ∧ g_cal d k_X10_order [.ref 82, .int (nI m), .long x] M1 (fun v2 M2 => v2 = some (.int r) ∧ Inv (n + 1) M2)) 30 [.ref 0, .int (nI m), .long x, .null, .long (rs x 0), .null, .int (nI 0)] [] M := by
        refine g_loop (fun i (_ : Unit) => g_Run (g_cal e) (g_mt S0 k_X9_order) _ 30 [.ref 0, .int (nI m), .long x, .null, .long (rs x i), .null, .int (nI i)] [] M) (fun _ _ => True) (fun _ u => u) m (fun i _ hi _ hR => sx e _ i (by omega) hi (hall i hi) hR) (fun _ _ _ _ => trivial) m 0 () (by omega) trivial (fun _ => ?_)
        refine g_go_ 40 (b_ge rfl rfl (by omega) (by omega) (fun _ => ?_) (fun z => by omega))
        refine x_takeDigits (by omega) hm ⟨_, rfl, ?_⟩
        -- the reference
        have hj : ∀ i, i < m → dgt x i = nI (jdg x i) ∧ 1 ≤ jdg x i ∧ jdg x i < a 0 := by
          intro i hi
          rcases inP_cases (dgt x i) (show a 0 < 2 ^ 31 by omega) with z | ⟨j, h1, h2, h3, -⟩
          · rw [hall i hi] at z; cases z
          · have : jdg x i = j := by unfold jdg; rw [h3, nI_clamp (by omega)]
            rw [this]; exact ⟨h3, h1, h2⟩
        generalize hN : g_ms (g_ms M 14 (upd (M 14) 2 (nI m))) 16 (g_it (fun i s => upd s (0 + i) (dgt x i)) m 0 (M 16)) = N
        have eN : ∀ c, c ≠ 14 → c ≠ 16 → N c = M c := fun c h1 h2 => by rw [← hN, g_ms_n h2, g_ms_n h1]
        have e14 : N 14 = upd (M 14) 2 (nI m) := by rw [← hN]; rfl
        have e16 : ∀ k, N 16 k = if 0 ≤ k ∧ k < 0 + m then dgt x (k - 0) else M 16 k := fun k => by rw [← hN, g_ms_s]; exact og_it _ _ _ _ _
        have n84 := eN 84 (by decide) (by decide)
        refine g_m (by omega) 60 (fun e he => ?_)
        refine m_within (by omega) ?_
        rw [hw0]
        have key2 : g_Run (g_cal e) (g_mt S0 k_X10_order) (fun v2 M2 => v2 = some (.int (M 14 2)) ∧ Inv (n + 1) M2) 15 [.ref 82, .int (nI m), .long x, .null, .int 0, .long (rs x 0), .null, .int (nI 0), .null] [] N := by
          refine g_loop (fun i (_ : Unit) => g_Run (g_cal e) (g_mt S0 k_X10_order) _ 15 [.ref 82, .int (nI m), .long x, .null, .int 0, .long (rs x i), .null, .int (nI i), .null] [] N) (fun _ _ => True) (fun _ u => u) m (fun i _ hi _ hR => sm e _ i N (by omega) n84 hi (hall i hi) hR) (fun _ _ _ _ => trivial) m 0 () (by omega) trivial (fun _ => ?_)
          refine g_go_ 20 (b_ge rfl rfl (by omega) (by omega) (fun _ => b_t rfl ⟨3, rfl, by decide, ?_⟩) (fun z => by omega))
          rw [n84, hM 3 (by decide)]
          have key3 : g_Run (g_cal e) (g_mt S0 k_X10_order) (fun v2 M2 => v2 = some (.int (M 14 2)) ∧ Inv (n + 1) M2) 83 [.ref 82, .int (nI m), .long x, .null, .int 0, .long (rs x 0), .null, .int (nI (a 3)), .int (nI 0)] [] (g_ms N 84 (N 84)) := by
            refine g_loop (fun i f => g_Run (g_cal e) (g_mt S0 k_X10_order) (fun v2 M2 => v2 = some (.int (M 14 2)) ∧ Inv (n + 1) M2) 83 [.ref 82, .int (nI m), .long x, .null, .int 0, .long (rs x i), .null, .int (nI (a 3)), .int (nI i)] [] (g_ms N 84 f)) (fun _ _ => True) (fun i s => upd s (114 + i) (dgt x i)) m ?_ (fun _ _ _ _ => trivial) m 0 (N 84) (by omega) trivial (fun _ => ?_)
            · intro i f hi _ hR
              have hR' : g_Run (g_cal e) (g_mt S0 k_X10_order) (fun v2 M2 => v2 = some (.int (M 14 2)) ∧ Inv (n + 1) M2) 83 [.ref 82, .int (nI m), .long x, .null, .int 0, .long (rs x i / 10), .null, .int (nI (a 3)), .int (nI i + 1)] [] (g_ms (g_ms N 84 f) 84 (upd ((g_ms N 84 f) 84) (114 + i) (dgt x i))) := by
                rw [g_ms_ms, g_ms_s, ← nI_succ]; exact hR
              exact g_go_ 30 (b_ge rfl rfl (by omega) (by omega) (fun z => by omega) (fun _ => ⟨by decide, 114 + i, ia rfl rfl, by omega, by decide, g_to hR' _ rfl⟩))
            · refine g_go_ 20 (b_ge rfl rfl (by omega) (by omega) (fun _ => ⟨3, rfl, by decide, ?_⟩) (fun z => by omega))
              refine ⟨congrArg (fun z => some (Value.int z)) t2.symm, ?_⟩
              have e84 := og_it (N 84) (dgt x) 114 m
              generalize g_it (fun i s => upd s (114 + i) (dgt x i)) m 0 (N 84) = f at e84 ⊢
              rw [g_ms_ms, g_ms_s]
              generalize hP : g_ms N 84 (upd f 3 (nI m)) = P
              have eP : ∀ c, c ≠ 14 → c ≠ 16 → c ≠ 84 → P c = M c := fun c h1 h2 h3 => by rw [← hP, g_ms_n h3]; exact eN c h1 h2
              have p14 : P 14 = upd (M 14) 2 (nI m) := by rw [← hP, g_ms_n (by decide)]; exact e14
              have p16 : ∀ k, k < m → P 16 k = nI (jdg x k) := fun k hk => by
                rw [← hP, g_ms_n (by decide), e16 k, if_pos (by omega)]; exact (hj k hk).1
              have ne : ∀ q, q ≠ 3 → ¬ (114 ≤ q ∧ q < 122) → aor a x m q = a q := fun q h1 h2 => by
                unfold aor; rw [if_neg h1, if_neg (by omega)]
              have a3 : aor a x m 3 = m := by unfold aor; rw [if_pos rfl]
              have ao : ∀ i, i < m → aor a x m (114 + i) = jdg x i := fun i hi => by
                unfold aor; rw [if_neg (by omega), if_pos (by omega), show 114 + i - 114 = i by omega]
              have bb := v.2.2.2.2.1
              have b5 : a 5 ≤ a 2 ∧ a 6 ≤ 8 := ⟨v3.2.2.1, v3.2.2.2⟩
              have b2 : a 2 ≤ 8 := v.2.2.2.1
              have alt : ∀ k, aor a x m k < 65536 := by
                intro k
                unfold aor
                by_cases z1 : k = 3
                · rw [if_pos z1]; omega
                · rw [if_neg z1]
                  by_cases z2 : 114 ≤ k ∧ k < 114 + m
                  · rw [if_pos z2]; have := (hj (k - 114) (by omega)).2.2; omega
                  · rw [if_neg z2]; exact bb k
              refine ⟨aor a x m, ⟨v.co alt (fun q hq => ne q (by omega) (by omega)), ?_, (VV.mono ⟨v, v2, v3⟩).2.2.co (fun q hq => ne q (by omega) (by omega))⟩, ⟨g1.co v (fun c h1 h2 => eP c (by omega) (by omega) (by omega)) (ne 0 (by omega) (by omega)) (ne 1 (by omega) (by omega)) (ne 2 (by omega) (by omega)) (fun q h1 h2 => ne q (by omega) (by omega)), g2.co v (fun c h1 h2 => eP c (by omega) (by omega) (by omega)) (ne 0 (by omega) (by omega)) (ne 1 (by omega) (by omega)) (ne 2 (by omega) (by omega)) (fun q h1 h2 => ne q (by omega) (by omega)) (fun p hp => ne _ (by omega) (by omega)), ?_, lx.co (by omega) b5.2 (fun c h1 h2 => eP c (by omega) (by omega) (by omega)) (fun q hq => ne q (by omega) (by omega)), ?_⟩, ?_, hO.fr (fun c hc => eP c (by omega) (by omega) (by omega)), fun z => ?_⟩
              · obtain ⟨q1, q2, q3, q4, q5, q6, q7, q8, q9, q10, q11⟩ := v2
                unfold V2
                rw [ne 9 (by omega) (by omega), ne 10 (by omega) (by omega), ne 11 (by omega) (by omega), ne 12 (by omega) (by omega), ne 13 (by omega) (by omega), ne 14 (by omega) (by omega), ne 15 (by omega) (by omega), ne 0 (by omega) (by omega), a3]
                refine ⟨q1, q2, q3, q4, q5, q6, q7, q8, q9, hm, fun i hi => ?_⟩
                rw [ao i hi]; exact (hj i hi).2
              · unfold TX
                show (∀ k, k < 7 → P 15 k = _) ∧ P 14 2 = _ ∧ (∀ i, _ → P 16 i = _)
                rw [eP 15 (by decide) (by decide) (by decide), p14, a3]
                refine ⟨fun k hk => ?_, rfl, fun i hi => ?_⟩
                · rw [ne (9 + k) (by omega) (by omega)]; exact t1 k hk
                · rw [p16 i hi, ao i hi]
              · rw [eP 1 (by decide) (by decide) (by decide), ne 8 (by omega) (by omega)]; exact hw8
              · intro k hk
                rw [← hP, g_ms_s]
                unfold upd aor
                by_cases z1 : k = 3
                · rw [if_pos z1, if_pos z1]
                · rw [if_neg z1, if_neg z1, e84 k]
                  by_cases z2 : 114 ≤ k ∧ k < 114 + m
                  · rw [if_pos z2, if_pos z2]; exact (hj _ (by omega)).1
                  · rw [if_neg z2, if_neg z2, n84]; exact hM k hk
              · rw [eP 0 (by decide) (by decide) (by decide)] at z
                obtain ⟨b, b1, b2, b3⟩ := hI z
                exact ⟨b, b1.mono, b2.fr (fun c h1 h2 => eP c (by omega) (by omega) (by omega)), b3.fr (eP 85 (by decide) (by decide) (by decide))⟩
          rw [g_ms_self] at key3
          exact g_to key3 _ rfl
        exact g_to key2 _ rfl
      exact g_to key _ rfl
    · -- the first that is none
      obtain ⟨i0, hi0, hmin⟩ := pk_least (fun i => i < m ∧ inP (dgt x i) (nI (a 0)) = false) (by
        refine Classical.byContradiction (fun hz => hall (fun i hi => ?_))
        cases hh : inP (dgt x i) (nI (a 0)) with
        | true => rfl
        | false => exact absurd ⟨i, hi, hh⟩ hz)
      have hlo : ∀ i, i < i0 → inP (dgt x i) (nI (a 0)) = true := fun i hi => by
        cases hh : inP (dgt x i) (nI (a 0)) with
        | true => rfl
        | false => exact absurd ⟨by omega, hh⟩ (hmin i hi)
      have key : g_Run (g_cal e) (g_mt S0 k_X9_order) (fun v M1 => ∃ r, v = some (.int r) ∧ g_cal d k_X10_order [.ref 82, .int (nI m), .long x] M1 (fun v2 M2 => v2 = some (.int r) ∧ Inv (n + 1) M2)) 30 [.ref 0, .int (nI m), .long x, .null, .long (rs x 0), .null, .int (nI 0)] [] M := by
        refine g_loop (fun i (_ : Unit) => g_Run (g_cal e) (g_mt S0 k_X9_order) _ 30 [.ref 0, .int (nI m), .long x, .null, .long (rs x i), .null, .int (nI i)] [] M) (fun _ _ => True) (fun _ u => u) i0 (fun i _ hi _ hR => sx e _ i (by omega) (by omega) (hlo i hi) hR) (fun _ _ _ _ => trivial) i0 0 () (by omega) trivial (fun _ => ?_)
        refine g_go_ 40 (b_ge rfl rfl (by omega) (by omega) (fun z => by omega) (fun _ => ⟨by decide, x_isHid (by omega) ?_⟩))
        show (¬ bI (inP (dgt x i0) (M 2 0)) = 0 → _) ∧ (bI (inP (dgt x i0) (M 2 0)) = 0 → _)
        rw [x1, hi0.2]
        refine b_nf rfl (x_refuse (by omega) 1 (by decide) (by decide) ⟨_, rfl, ?_⟩)
        refine g_m (by omega) 60 (fun e he => ?_)
        refine m_within (by omega) ?_
        rw [hw0]
        have key2 : g_Run (g_cal e) (g_mt S0 k_X10_order) (fun v2 M2 => v2 = some (.int (-1)) ∧ Inv (n + 1) M2) 15 [.ref 82, .int (nI m), .long x, .null, .int 0, .long (rs x 0), .null, .int (nI 0), .null] [] (g_ms M 81 (upd (M 81) 1 (M 81 1 + 1))) := by
          refine g_loop (fun i (_ : Unit) => g_Run (g_cal e) (g_mt S0 k_X10_order) _ 15 [.ref 82, .int (nI m), .long x, .null, .int 0, .long (rs x i), .null, .int (nI i), .null] [] (g_ms M 81 (upd (M 81) 1 (M 81 1 + 1)))) (fun _ _ => True) (fun _ u => u) i0 (fun i _ hi _ hR => sm e _ i _ (by omega) (g_ms_n (by decide)) (by omega) (hlo i hi) hR) (fun _ _ _ _ => trivial) i0 0 () (by omega) trivial (fun _ => ?_)
          refine g_go_ 40 (b_ge rfl rfl (by omega) (by omega) (fun z => by omega) (fun _ => b_nf rfl ⟨by decide, m_isRoom (by omega) ?_⟩))
          show (¬ bI (inP (dgt x i0) (g_ms M 81 (upd (M 81) 1 (M 81 1 + 1)) 84 0)) = 0 → _) ∧ (bI (inP (dgt x i0) (g_ms M 81 (upd (M 81) 1 (M 81 1 + 1)) 84 0)) = 0 → _)
          rw [g_ms_n (by decide : (84 : Nat) ≠ 81), m0, hi0.2]
          refine b_nf rfl ⟨by decide, ?_⟩
          have fin : g_Run (g_cal e) (g_mt S0 k_X10_order) (fun v2 M2 => v2 = some (.int (-1)) ∧ Inv (n + 1) M2) 57 [.ref 82, .int (nI m), .long x, .null, .int (-1), .long (rs x i0 / 10), .null, .int (nI i0 + 1), .null] [] (g_ms M 81 (upd (M 81) 1 (M 81 1 + 1))) := g_go_ 20 (b_f (by decide) (m_refuse (by omega) 1 (by decide) (by decide) (e_ref I0 (by decide))))
          exact ⟨fun _ => g_to fin _ rfl, fun _ => b_nt (by decide) (g_to fin _ rfl)⟩
        exact g_to key2 _ rfl
      exact g_to key _ rfl
  · exact x_refuse (by omega) 6 (by decide) (by decide) ⟨_, rfl, bad _ _ (by decide) (by decide) (by decide) (by unfold wth; rw [if_neg (Int32.not_lt.mpr h0), if_pos (Int32.not_le.mp h1)])⟩
  · exact x_refuse (by omega) 4 (by decide) (by decide) ⟨_, rfl, bad _ _ (by decide) (by decide) (by decide) (by unfold wth; rw [if_pos (Int32.not_le.mp h0)])⟩
