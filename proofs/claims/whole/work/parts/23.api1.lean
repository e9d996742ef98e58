/-! ===== calls that only look ===== -/
/-- the ends of a pair -/
theorem e_ref {n j : Nat} {M : g_M} (I : Inv n M) (hj : j < 7) {c : Int32} : some (Value.int c) = some (Value.int c) ∧ Inv (n + 1) (g_ms (g_ms M 81 (upd (M 81) j (M 81 j + 1))) 83 (upd ((g_ms M 81 (upd (M 81) j (M 81 j + 1))) 83) j ((g_ms M 81 (upd (M 81) j (M 81 j + 1))) 83 j + 1))) := by
  refine ⟨rfl, ?_⟩
  rw [g_ms_n (by decide : (83 : Nat) ≠ 81)]
  exact I.ref j hj
theorem p_place {d n : Nat} {M : g_M} {p w : Int32} (hd : 5 ≤ d) (I : Inv n M) : g_pair d k_X9_place k_X10_place [.int p, .int w] M (Inv (n + 1)) := by
  have I0 := I
  obtain ⟨a, ⟨⟨v1, v2, v3, v4, v5, v6, -⟩, -⟩, ⟨⟨x1, x2, x3, x4, -⟩, -⟩, hM, -⟩ := I
  have m0 := hM 0 (by decide)
  refine g_m (by omega) 60 (fun e he => ?_)
  refine x_isPlace (by omega) ?_
  rw [x1]
  rcases inB_cases p (show a 0 < 2 ^ 31 by omega) with hp | ⟨j, hj, rfl, hp⟩
  · rw [hp]
    refine b_nf rfl (x_refuse (by omega) 1 (by decide) (by decide) ⟨_, rfl, ?_⟩)
    refine g_m (by omega) 60 (fun e he => ?_)
    refine m_isPlace (by omega) ?_
    rw [g_ms_n (by decide : (84 : Nat) ≠ 81), m0, hp]
    exact b_nf rfl (m_refuse (by omega) 1 (by decide) (by decide) (e_ref I0 (by decide)))
  · rw [hp]
    obtain ⟨y1, y2, y3, y4, -⟩ := x4 j hj
    have mr : ∀ (r : Int32) (i : Nat), i < 4 → w = nI i → M 84 (16 + 5 * j + i) = r → g_cal d k_X10_place [.ref 82, .int (nI j), .int w] M (fun v2 M2 => v2 = some (.int r) ∧ Inv (n + 1) M2) := by
      intro r i hi hw hr
      refine g_m (by omega) 60 (fun e he => ?_)
      refine m_isPlace (by omega) ?_
      rw [m0, hp]
      refine b_nt (by decide) (m_isIn (by omega) ?_)
      rw [hw, show (4 : Int32) = nI 4 from rfl, inB_in hi (by decide)]
      exact b_f (by decide) (m_get (by omega) j i rfl rfl (by omega) (by omega) ⟨by rw [hr], I0.up⟩)
    refine b_nt (by decide) ⟨fun h => ?_, fun h0 => ⟨fun h => ?_, fun h1 => ⟨fun h => ?_, fun h2 => ⟨fun h => ?_, fun h3 => ?_⟩⟩⟩⟩
    · exact ⟨j, rfl, by omega, _, rfl, mr _ 0 (by decide) h (by rw [y1]; exact hM _ (by omega))⟩
    · exact ⟨j, rfl, by omega, _, rfl, mr _ 1 (by decide) h (by rw [y2, hM _ (by omega)]; congr 2; omega)⟩
    · exact ⟨j, rfl, by omega, _, rfl, mr _ 2 (by decide) h (by rw [y3, hM _ (by omega)]; congr 2; omega)⟩
    · exact ⟨j, rfl, by omega, _, rfl, mr _ 3 (by decide) h (by rw [y4, hM _ (by omega)]; congr 2; omega)⟩
    · refine x_refuse (by omega) 2 (by decide) (by decide) ⟨_, rfl, ?_⟩
      refine g_m (by omega) 60 (fun e he => ?_)
      refine m_isPlace (by omega) ?_
      rw [g_ms_n (by decide : (84 : Nat) ≠ 81), m0, hp]
      refine b_nt (by decide) (m_isIn (by omega) ?_)
      have hw : inB w 4 = false := by
        rcases inB_cases w (show 4 < 2 ^ 31 by decide) with z | ⟨i, hi, rfl, -⟩
        · exact z
        · match i, hi with
          | 0, _ => exact absurd rfl h0
          | 1, _ => exact absurd rfl h1
          | 2, _ => exact absurd rfl h2
          | 3, _ => exact absurd rfl h3
      rw [hw]
      exact b_t rfl (m_refuse (by omega) 2 (by decide) (by decide) (e_ref I0 (by decide)))
