/-! ===== of, found, count, row ===== -/
theorem inB_ge {w : Int32} {k : Nat} (hk : k < 2 ^ 31) (h : w < 0 ∨ nI k ≤ w) : inB w (nI k) = false := by
  rcases h with h | h
  · simp [inB, h]
  · simp [inB, Int32.not_lt.mpr h]
theorem p_of {d n : Nat} {M : g_M} {p w : Int32} (hd : 5 ≤ d) (I : Inv n M) (hn : n < 1000) : g_pair d k_X9_of k_X10_of [.int p, .int w] M (Inv (n + 1)) := by
  have I0 := I
  obtain ⟨a, ⟨⟨v1, v2, v3, v4, v5, v6, -⟩, -, ⟨u1, u2, u3, u4⟩⟩, ⟨⟨x1, x2, x3, x4, x5, -⟩, -, -, ⟨l1, l2, l3, l4⟩, hw8⟩, hM, -⟩ := I
  have m0 := hM 2 (by decide)
  have m4 := hM 4 (by decide)
  have m5 := hM 5 (by decide)
  have e1 := g_ms_n (M := M) (f := upd (M 81) 1 (M 81 1 + 1)) (by decide : (84 : Nat) ≠ 81)
  refine g_m (by omega) 60 (fun e he => ?_)
  refine x_isHider (by omega) ?_
  rw [x3]
  rcases inB_cases p (show a 2 < 2 ^ 31 by omega) with hp | ⟨j, hj, rfl, hp⟩
  · rw [hp]
    refine b_nf rfl (x_refuse (by omega) 1 (by decide) (by decide) ⟨_, rfl, ?_⟩)
    refine g_m (by omega) 60 (fun e he => ?_)
    refine m_isHider (by omega) ?_
    rw [e1, m0, hp]
    exact b_nf rfl (m_refuse (by omega) 1 (by decide) (by decide) (e_ref I0 (by decide)))
  · rw [hp]
    have bad2 : (w < 0 ∨ nI 3 ≤ w) → g_cal d k_X10_of [.ref 82, .int (nI j), .int w] (g_ms M 81 (upd (M 81) 2 (M 81 2 + 1))) (fun v2 M2 => v2 = some (.int (-2)) ∧ Inv (n + 1) M2) := by
      intro hw
      refine g_m (by omega) 60 (fun e he => ?_)
      refine m_isHider (by omega) ?_
      rw [g_ms_n (by decide : (84 : Nat) ≠ 81), m0, hp]
      refine b_nt (by decide) (m_isIn (by omega) ?_)
      rw [show (3 : Int32) = nI 3 from rfl, inB_ge (by decide) hw]
      exact b_nf rfl (m_refuse (by omega) 2 (by decide) (by decide) (e_ref I0 (by decide)))
    refine b_nt (by decide) ⟨fun h => ?_, fun h0 => ⟨fun h2 => ?_, fun h => ?_⟩⟩
    · exact x_refuse (by omega) 2 (by decide) (by decide) ⟨_, rfl, bad2 (Or.inl h)⟩
    · have hw : ∃ i, i < 3 ∧ w = nI i := by
        rcases pk_ix w (show 3 < 2 ^ 31 by decide) with z | z | z
        · exact absurd z h0
        · exfalso
          have z1 := Int32.le_iff_toInt_le.mp z
          have z2 := Int32.le_iff_toInt_le.mp h2
          have z3 : (nI 3).toInt = 3 := by decide
          have z4 : (2 : Int32).toInt = 2 := by decide
          omega
        · exact z
      obtain ⟨i, hi, rfl⟩ := hw
      have bad3 : (a 8 = 0 ∨ a 5 ≤ j) → g_cal d k_X10_of [.ref 82, .int (nI j), .int (nI i)] (g_ms M 81 (upd (M 81) 3 (M 81 3 + 1))) (fun v2 M2 => v2 = some (.int (-3)) ∧ Inv (n + 1) M2) := by
        intro hz
        refine g_m (by omega) 60 (fun e he => ?_)
        refine m_isHider (by omega) ?_
        rw [g_ms_n (by decide : (84 : Nat) ≠ 81), m0, hp]
        refine b_nt (by decide) (m_isIn (by omega) ?_)
        rw [show inB (nI i) 3 = true from inB_in hi (by decide)]
        refine b_nt (by decide) ⟨4, rfl, by decide, ?_⟩
        rw [g_ms_n (by decide : (84 : Nat) ≠ 81), m4]
        refine b_eq (b := 0) rfl rfl (by have := v5 4; omega) (by decide) (fun _ => m_refuse (by omega) 3 (by decide) (by decide) (e_ref I0 (by decide))) (fun z => ⟨5, rfl, by decide, ?_⟩)
        rw [g_ms_n (by decide : (84 : Nat) ≠ 81), m5]
        refine b_lt rfl rfl (by omega) (by omega) (fun z2 => ?_) (fun _ => m_refuse (by omega) 3 (by decide) (by decide) (e_ref I0 (by decide)))
        exfalso
        rcases hz with hz | hz
        · rw [u2, hz] at z; exact z rfl
        · omega
      show ((M 1 3 = 0) → _) ∧ _
      rw [hw8]
      refine b_eq (b := 0) rfl rfl (by omega) (by decide) (fun z => ?_) (fun z => ?_)
      · exact x_refuse (by omega) 3 (by decide) (by decide) ⟨_, rfl, bad3 (Or.inl z)⟩
      · show ((nI j < M 17 5) → _) ∧ _
        rw [l1]
        refine b_lt rfl rfl (by omega) (by omega) (fun z2 => ?_) (fun z2 => ?_)
        · obtain ⟨y1, y2, y3⟩ := l3 j z2
          have md : ∀ r : Int32, M 84 (122 + 3 * j + i) = r → g_cal d k_X10_of [.ref 82, .int (nI j), .int (nI i)] M (fun v2 M2 => v2 = some (.int r) ∧ Inv (n + 1) M2) := by
            intro r hr
            refine g_m (by omega) 60 (fun e he => ?_)
            refine m_isHider (by omega) ?_
            rw [m0, hp]
            refine b_nt (by decide) (m_isIn (by omega) ?_)
            rw [show inB (nI i) 3 = true from inB_in hi (by decide)]
            refine b_nt (by decide) ⟨4, rfl, by decide, ?_⟩
            rw [m4]
            refine b_eq (b := 0) rfl rfl (by have := v5 4; omega) (by decide) (fun z3 => ?_) (fun z3 => ⟨5, rfl, by decide, ?_⟩)
            · rw [u2, if_neg z] at z3; cases z3
            · rw [m5]
              refine b_lt rfl rfl (by omega) (by omega) (fun _ => ?_) (fun z4 => by omega)
              exact ⟨122 + 3 * j + i, ia (ia rfl (im rfl rfl)) rfl, by omega, by rw [hr], I0.up⟩
          match i, hi with
          | 0, _ => exact ⟨fun _ => ⟨j, rfl, by omega, _, rfl, md _ (by rw [hM _ (by omega)]; exact y1.symm)⟩, fun z => absurd rfl z⟩
          | 1, _ => exact ⟨fun z => absurd z (by decide), fun _ => ⟨fun _ => ⟨j, rfl, by omega, _, rfl, md _ (by rw [y2, hM _ (by omega)]; congr 2; omega)⟩, fun z => absurd rfl z⟩⟩
          | 2, _ => exact ⟨fun z => absurd z (by decide), fun _ => ⟨fun z => absurd z (by decide), fun _ => ⟨j, rfl, by omega, _, rfl, md _ (by rw [y3, hM _ (by omega)]; congr 2; omega)⟩⟩⟩
        · exact x_refuse (by omega) 3 (by decide) (by decide) ⟨_, rfl, bad3 (Or.inr z2)⟩
    · refine x_refuse (by omega) 2 (by decide) (by decide) ⟨_, rfl, bad2 (Or.inr ?_)⟩
      have z2 := Int32.not_le.mp h
      rw [Int32.lt_iff_toInt_lt] at z2
      rw [Int32.le_iff_toInt_le]
      have z3 : (nI 3).toInt = 3 := by decide
      have z4 : (2 : Int32).toInt = 2 := by decide
      omega
theorem p_found {d n : Nat} {M : g_M} {p : Int32} (hd : 5 ≤ d) (I : Inv n M) (hn : n < 1000) : g_pair d k_X9_found k_X10_found [.int p] M (Inv (n + 1)) := by
  have I0 := I
  obtain ⟨a, ⟨⟨v1, v2, v3, v4, v5, v6, -⟩, -, ⟨u1, u2, u3, u4⟩⟩, ⟨⟨x1, x2, x3, x4, x5, -⟩, -, -, ⟨l1, l2, l3, l4⟩, hw8⟩, hM, -⟩ := I
  have m4 := hM 4 (by decide)
  have m6 := hM 6 (by decide)
  have hv4 := v5 4
  refine g_m (by omega) 60 (fun e he => ?_)
  refine ⟨fun h0 => ?_, fun h => ?_⟩
  · show ((¬ M 1 3 = 0) → _) ∧ _
    rw [hw8]
    refine b_ne (b := 0) rfl rfl (by omega) (by decide) (fun z => ?_) (fun z => ?_)
    · show ((M 17 6 ≤ p) → _) ∧ _
      rw [l2]
      have md : ∀ r : Int32, ((∃ i, i < a 6 ∧ p = nI i ∧ r = nI (a (146 + i))) ∨ (nI (a 6) ≤ p ∧ r = -9)) → g_cal d k_X10_found [.ref 82, .int p] M (fun v2 M2 => v2 = some (.int r) ∧ Inv (n + 1) M2) := by
        intro r hr
        refine g_m (by omega) 60 (fun e he => ?_)
        refine b_t h0 ⟨4, rfl, by decide, ?_⟩
        rw [m4]
        refine b_ne (b := 0) rfl rfl (by omega) (by decide) (fun _ => ⟨6, rfl, by decide, ?_⟩) (fun z3 => by rw [u2, if_neg z] at z3; cases z3)
        rw [m6]
        rcases hr with ⟨i, hi, rfl, rfl⟩ | ⟨hr, rfl⟩
        · exact b_ge rfl rfl (by omega) (by omega) (fun z4 => by omega) (fun _ => ⟨146 + i, ia rfl rfl, by omega, by rw [hM _ (by omega)], I0.up⟩)
        · exact b_t hr ⟨rfl, I0.up⟩
      refine ⟨fun z2 => ⟨_, rfl, md _ (Or.inr ⟨z2, rfl⟩)⟩, fun z2 => ?_⟩
      rcases pk_ix p (show a 6 < 2 ^ 31 by omega) with y | y | ⟨i, hi, rfl⟩
      · exact absurd (Int32.le_iff_toInt_le.mp h0) (by have := Int32.lt_iff_toInt_lt.mp y; omega)
      · exact absurd y z2
      · exact ⟨i, rfl, by omega, _, rfl, md _ (Or.inl ⟨i, hi, rfl, l4 i hi⟩)⟩
    · refine x_refuse (by omega) 3 (by decide) (by decide) ⟨_, rfl, ?_⟩
      refine g_m (by omega) 60 (fun e he => ?_)
      refine b_t h0 ⟨4, rfl, by decide, ?_⟩
      rw [g_ms_n (by decide : (84 : Nat) ≠ 81), m4, u2, if_pos z]
      exact b_nf rfl (m_refuse (by omega) 3 (by decide) (by decide) (e_ref I0 (by decide)))
  · refine x_refuse (by omega) 4 (by decide) (by decide) ⟨_, rfl, ?_⟩
    refine g_m (by omega) 60 (fun e he => ?_)
    exact b_f h (m_refuse (by omega) 4 (by decide) (by decide) (e_ref I0 (by decide)))
