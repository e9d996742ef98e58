/-! ===== count, row, judge ===== -/
def tsum (a : Nat → Nat) : Nat := g_it (fun p s => s + a (19 + 5 * p)) (a 0) 0 0
theorem x_allTimes {d : Nat} {M : g_M} {Q : g_R} {a : Nat → Nat} (hd : 1 ≤ d) (v : V1 a) (x : GX1 M 2 a) (h : Q (some (.int (nI (tsum a)))) M) : g_cal d k_X1_allTimes [.ref 2] M Q := by
  obtain ⟨v1, v2, v3, v4, v5, v6, -⟩ := v
  obtain ⟨x1, x2, x3, x4, x5, -⟩ := x
  refine g_m hd 4 (fun e he => ?_)
  refine g_loop (fun i s => g_Run (g_cal e) (g_mt S0 k_X1_allTimes) Q 4 [.ref 2, .int (nI s), .int (nI i)] [] M) (fun _ _ => True) (fun p s => s + a (19 + 5 * p)) (a 0) ?_ (fun _ _ _ _ => trivial) (a 0) 0 0 (by omega) trivial (fun _ => ?_)
  · intro i s hi _ hR
    have hR' : g_Run (g_cal e) (g_mt S0 k_X1_allTimes) Q 4 [.ref 2, .int (nI s + M 6 i), .int (nI i + 1)] [] M := by
      rw [(x4 i hi).2.2.2.1, nI_add, ← nI_succ]; exact hR
    exact g_go_ 20 (b_ge rfl x1 (by omega) (by omega) (fun z => by omega) (fun _ => ⟨i, rfl, by omega, g_to hR' _ rfl⟩))
  · exact g_go_ 20 (b_ge rfl x1 (by omega) (by omega) (fun _ => h) (fun z => by omega))
theorem p_count {d n : Nat} {M : g_M} {w : Int32} (hd : 5 ≤ d) (I : Inv n M) : g_pair d k_X9_count k_X10_count [.int w] M (Inv (n + 1)) := by
  have I0 := I
  obtain ⟨a, ⟨hv, -, -⟩, ⟨hg, -, ⟨t1, t2, t3⟩, -, hw8⟩, hM, ⟨⟨n1, o1, o2, o3, -⟩, ⟨n2, o4, o5, o6, -⟩, o7, -, -⟩, -⟩ := I
  have hg0 := hg
  have hv0 := hv
  obtain ⟨v1, v2, v3, v4, v5, v6, w0, w1, w2, w3, -⟩ := hv
  obtain ⟨x1, x2, x3, x4, x5, -⟩ := hg
  have ne : ∀ {i : Nat} (k : Nat), i < 100 → k < 100 → i ≠ k → ¬ nI i = nI k := fun k h1 h2 h3 h => h3 ((nI_eq (by omega) (by omega)).mp h)
  refine g_m (by omega) 60 (fun e he => ?_)
  refine ⟨fun h => ?_, fun h0 => ⟨fun h => ?_, fun h1 => ⟨fun h => ?_, fun h2 => ⟨fun h => ?_, fun h3 => ⟨fun h => ?_, fun h4 => ⟨fun h => ?_, fun h5 => ⟨fun h => ?_, fun h6 => ⟨fun h => ?_, fun h7 => ?_⟩⟩⟩⟩⟩⟩⟩⟩
  · subst h; exact ⟨_, rfl, g_m (by omega) 60 (fun e he => b_t (by decide) (g_sw_of 72 (by decide) ⟨0, rfl, by decide, by rw [hM 0 (by decide)]; exact congrArg (fun z => some (Value.int z)) x1.symm, I0.up⟩))⟩
  · subst h; exact ⟨_, rfl, g_m (by omega) 60 (fun e he => b_t (by decide) (g_sw_of 72 (by decide) ⟨1, rfl, by decide, by rw [hM 1 (by decide)]; exact congrArg (fun z => some (Value.int z)) x2.symm, I0.up⟩))⟩
  · subst h; exact ⟨_, rfl, g_m (by omega) 60 (fun e he => b_t (by decide) (g_sw_of 72 (by decide) ⟨2, rfl, by decide, by rw [hM 2 (by decide)]; exact congrArg (fun z => some (Value.int z)) x3.symm, I0.up⟩))⟩
  · subst h
    refine x_allTimes (by omega) hv0 hg0 ⟨_, rfl, g_m (by omega) 60 (fun e he => b_t (by decide) (g_sw_of 79 (by decide) ?_))⟩
    have key : g_Run (g_cal e) (g_mt S0 k_X10_count) (fun v2 M2 => v2 = some (.int (nI (tsum a))) ∧ Inv (n + 1) M2) 81 [.ref 82, .int 3, .int (nI 0), .int (nI 1)] [] M := by
      refine g_loop (fun i s => g_Run (g_cal e) (g_mt S0 k_X10_count) (fun v2 M2 => v2 = some (.int (nI (tsum a))) ∧ Inv (n + 1) M2) 81 [.ref 82, .int 3, .int (nI s), .int (nI i)] [] M) (fun _ _ => True) (fun p s => s + a (19 + 5 * p)) (a 0) ?_ (fun _ _ _ _ => trivial) (a 0 - 1) 1 0 (by omega) trivial (fun _ => ?_)
      · intro i s hi _ hR
        have hR' : g_Run (g_cal e) (g_mt S0 k_X10_count) (fun v2 M2 => v2 = some (.int (nI (tsum a))) ∧ Inv (n + 1) M2) 81 [.ref 82, .int 3, .int (nI s + M 84 (16 + 5 * i + 3)), .int (nI i + 1)] [] M := by
          rw [hM _ (by omega), nI_add, ← nI_succ, show 16 + 5 * i + 3 = 19 + 5 * i by omega]; exact hR
        exact g_go_ 20 ⟨0, rfl, by decide, b_ge rfl (hM 0 (by decide)) (by omega) (by omega) (fun z => by omega) (fun _ => m_get (by omega) i 3 rfl rfl (by omega) (by decide) (g_to hR' _ rfl))⟩
      · refine g_go_ 20 ⟨0, rfl, by decide, b_ge rfl (hM 0 (by decide)) (by omega) (by omega) (fun _ => ⟨?_, I0.up⟩) (fun z => by omega)⟩
        have e1 : tsum a = g_it (fun p s => s + a (19 + 5 * p)) (a 0 - 1) 1 0 := by
          unfold tsum
          obtain ⟨m, hm⟩ : ∃ m, a 0 = m + 1 := ⟨a 0 - 1, by omega⟩
          rw [hm]
          show g_it _ m 1 (0 + a (19 + 5 * 0)) = _
          rw [show a (19 + 5 * 0) = 0 from w3]
          rfl
        rw [e1]
    exact g_to key _ rfl
  · subst h; exact ⟨_, rfl, g_m (by omega) 60 (fun e he => b_t (by decide) (g_sw_of 108 (by decide) ⟨3, rfl, by decide, by rw [hM 3 (by decide)]; exact congrArg (fun z => some (Value.int z)) t2.symm, I0.up⟩))⟩
  · subst h; exact ⟨_, rfl, g_m (by omega) 60 (fun e he => b_t (by decide) (g_sw_of 115 (by decide) ⟨congrArg (fun z => some (Value.int z)) (o6.trans o5.symm), I0.up⟩))⟩
  · subst h; exact ⟨_, rfl, g_m (by omega) 60 (fun e he => b_t (by decide) (g_sw_of 120 (by decide) ⟨congrArg (fun z => some (Value.int z)) (o3.trans o2.symm), I0.up⟩))⟩
  · subst h; exact ⟨_, rfl, g_m (by omega) 60 (fun e he => b_t (by decide) (g_sw_of 125 (by decide) ⟨8, rfl, by decide, by rw [hM 8 (by decide)]; exact congrArg (fun z => some (Value.int z)) hw8.symm, I0.up⟩))⟩
  · -- 11 .. 16, or none
    have non : ¬ ((10 : Int32) < w ∧ w < 17) → g_cal d k_X10_count [.ref 82, .int w] M (fun v2 M2 => v2 = some (.int (-9)) ∧ Inv (n + 1) M2) := by
      intro hz
      refine g_m (by omega) 60 (fun e he => ?_)
      have fin : g_Run (g_cal e) (g_mt S0 k_X10_count) (fun v2 M2 => v2 = some (.int (-9)) ∧ Inv (n + 1) M2) 22 [.ref 82, .int w, .null, .null] [] M :=
        g_go_ 30 (g_sw_of 133 (by simp only [sw_look, h0, h1, h2, h3, h4, h5, h6, h7, if_false]) ⟨rfl, I0.up⟩)
      exact ⟨fun _ => g_to fin _ rfl, fun z1 => ⟨fun _ => g_to fin _ rfl, fun z2 => absurd ⟨Int32.not_le.mp z1, Int32.not_le.mp z2⟩ hz⟩⟩
    have lt1 : ∀ x : Int32, x < 11 ↔ ¬ (10 : Int32) < x := by
      intro x
      rw [Int32.lt_iff_toInt_lt, Int32.lt_iff_toInt_lt, show (11 : Int32).toInt = 11 from by decide, show (10 : Int32).toInt = 10 from by decide]
      omega
    have lt2 : ∀ x : Int32, (16 : Int32) < x ↔ ¬ x < 17 := by
      intro x
      rw [Int32.lt_iff_toInt_lt, Int32.lt_iff_toInt_lt, show (17 : Int32).toInt = 17 from by decide, show (16 : Int32).toInt = 16 from by decide]
      omega
    refine ⟨fun h => ⟨_, rfl, non (fun z => (lt1 w).mp h z.1)⟩, fun h => ⟨fun h2 => ⟨_, rfl, non (fun z => (lt2 w).mp h2 z.2)⟩, fun h2 => ?_⟩⟩
    have g1 : (10 : Int32) < w := Decidable.not_not.mp (fun z => h ((lt1 w).mpr z))
    have g2 : w < 17 := Decidable.not_not.mp (fun z => h2 ((lt2 w).mpr z))
    have hw : ∃ i, i < 17 ∧ w = nI i := by
      rcases pk_ix w (show 17 < 2 ^ 31 by decide) with z | z | z
      · rw [Int32.lt_iff_toInt_lt] at z g1
        have q1 : (10 : Int32).toInt = 10 := by decide
        have q2 : (0 : Int32).toInt = 0 := by decide
        omega
      · exact absurd g2 (Int32.not_lt.mpr z)
      · exact z
    obtain ⟨i, hi, rfl⟩ := hw
    have hi2 : 10 < i := (nI_ltI (a := 10) (by decide) (by omega)).mp g1
    refine ⟨i - 10, is (by omega) rfl rfl, by omega, ⟨_, rfl, ?_⟩⟩
    refine g_m (by omega) 60 (fun e he => ?_)
    exact b_f (Int32.not_le.mpr g1) (b_f (Int32.not_le.mpr g2) ⟨i - 10, is (by omega) rfl rfl, by omega, by rw [o7 _ (by omega)], I0.up⟩)
theorem p_row {d n : Nat} {M : g_M} {w : Int32} (hd : 5 ≤ d) (I : Inv n M) : g_pair d k_X9_row k_X10_row [.int w] M (Inv (n + 1)) := by
  have I0 := I
  obtain ⟨a, hv, hX, hM, ⟨o0, ⟨n2, o4, o5, o6, o7⟩, o8, o9, oA⟩, hI⟩ := I
  refine g_m (by omega) 60 (fun e he => ?_)
  have bad : ∀ c : Int32, ∀ j : Nat, -c = nI j → j < 7 → c ≠ 0 → (wth w 0 9 = c ∨ (wth w 0 9 = 0 ∧ n2 = 8 ∧ c = -6)) → g_cal d k_X10_row [.ref 82, .int w] (g_ms M 81 (upd (M 81) j (M 81 j + 1))) (fun v2 M2 => v2 = some (.int c) ∧ Inv (n + 1) M2) := by
    intro c j hc hj hc0 hw
    refine g_m (by omega) 60 (fun e he => ?_)
    refine m_within (by omega) ?_
    have fin : g_Run (g_cal e) (g_mt S0 k_X10_row) (fun v2 M2 => v2 = some (.int c) ∧ Inv (n + 1) M2) 24 [.ref 82, .int w, .int c] [] (g_ms M 81 (upd (M 81) j (M 81 j + 1))) := (g_go_ 20 (b_f hc0 (m_refuse (by omega) j hc hj (e_ref I0 hj))))
    rcases hw with hw | ⟨hw, h8, rfl⟩
    · rw [hw]
      exact b_nt hc0 (g_to fin _ rfl)
    · rw [hw]
      refine b_nf rfl ?_
      show ((¬ M 82 37 = 8) → _) ∧ (M 82 37 = 8 → _)
      rw [o6, h8]
      exact b_nf rfl (g_to fin _ rfl)
  refine ⟨fun h0 => ⟨fun h1 => ?_, fun h1 => ?_⟩, fun h => ?_⟩
  · exact x_refuse (by omega) 6 (by decide) (by decide) ⟨_, rfl, bad _ _ (by decide) (by decide) (by decide) (Or.inl (by unfold wth; rw [if_neg (Int32.not_lt.mpr h0), if_pos h1]))⟩
  · have hw0 : wth w 0 9 = 0 := by unfold wth; rw [if_neg (Int32.not_lt.mpr h0), if_neg h1]
    show ((M 0 13 < 8) → _) ∧ (¬ M 0 13 < 8 → _)
    rw [o5]
    refine b_lt rfl (show (8 : Int32) = nI 8 from rfl) (by omega) (by decide) (fun z => ?_) (fun z => ?_)
    · refine ⟨n2, o5, by omega, ⟨_, rfl, ?_⟩⟩
      refine g_m (by omega) 60 (fun e he => ?_)
      refine m_within (by omega) ?_
      rw [hw0]
      refine b_nf rfl ?_
      show ((¬ M 82 37 = 8) → _) ∧ (M 82 37 = 8 → _)
      rw [o6]
      refine b_ne rfl (show (8 : Int32) = nI 8 from rfl) (by omega) (by decide) (fun _ => b_t rfl ⟨n2, o6, by omega, ?_⟩) (fun z2 => by omega)
      have q1 : M 0 13 + 1 = nI (n2 + 1) := by rw [o5]; exact (nI_succ n2).symm
      have q2 : M 82 37 + 1 = nI (n2 + 1) := by rw [o6]; exact (nI_succ n2).symm
      refine ⟨congrArg (fun z => some (Value.int z)) (q2.trans q1.symm), a, hv.mono, hX.fr ?_, hM.fr rfl, ?_, fun z3 => ?_⟩
      · intro c h1 h2
        simp only [g_ms, show c ≠ 80 by omega, show c ≠ 0 by omega, show c ≠ 106 by omega, show c ≠ 82 by omega, if_false]
      · refine ⟨o0, ⟨n2 + 1, by omega, q1, q2, fun i hi => ?_⟩, o8, o9, oA⟩
        show upd (M 80) n2 w i = upd (M 106) n2 w i
        unfold upd
        by_cases hz : i = n2
        · simp [hz]
        · simp only [hz, if_false]; exact o7 i (by omega)
      · obtain ⟨b, b1, b2, b3⟩ := hI z3
        refine ⟨b, b1.mono, b2.fr ?_, b3.fr rfl⟩
        intro c h1 h2
        simp only [g_ms, show c ≠ 80 by omega, show c ≠ 0 by omega, show c ≠ 106 by omega, show c ≠ 82 by omega, if_false]
    · exact x_refuse (by omega) 6 (by decide) (by decide) ⟨_, rfl, bad _ _ (by decide) (by decide) (by decide) (Or.inr ⟨hw0, by omega, rfl⟩)⟩
  · exact x_refuse (by omega) 4 (by decide) (by decide) ⟨_, rfl, bad _ _ (by decide) (by decide) (by decide) (Or.inl (by unfold wth; rw [if_pos (Int32.not_le.mp h)]))⟩
