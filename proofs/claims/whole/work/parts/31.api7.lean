/-! ===== set, order ===== -/
def sLo (k : Nat) : Nat := (match k with | 0 => 1 | 5 => 10 | _ => 0)
def sHi (k : Nat) : Nat := (match k with | 0 => 99 | 1 => 50 | 2 => 60 | 3 => 4 | 4 => 1 | 5 => 900 | _ => 9)
theorem m_least {d : Nat} {M : g_M} {Q : g_R} (hd : 1 ≤ d) (k : Nat) (hk : k < 7) (h : Q (some (.int (nI (sLo k)))) M) : g_cal d k_X10_least [.int (nI k)] M Q := by
  refine g_m hd 40 (fun e he => ?_)
  match k, hk with
  | 0, _ => exact b_nf rfl h
  | 1, _ => exact b_nt (by decide) (b_nt (by decide) h)
  | 2, _ => exact b_nt (by decide) (b_nt (by decide) h)
  | 3, _ => exact b_nt (by decide) (b_nt (by decide) h)
  | 4, _ => exact b_nt (by decide) (b_nt (by decide) h)
  | 5, _ => exact b_nt (by decide) (b_nf rfl h)
  | 6, _ => exact b_nt (by decide) (b_nt (by decide) h)
theorem m_most {d : Nat} {M : g_M} {Q : g_R} (hd : 1 ≤ d) (k : Nat) (hk : k < 7) (h : Q (some (.int (nI (sHi k)))) M) : g_cal d k_X10_most [.int (nI k)] M Q := by
  refine g_m hd 40 (fun e he => ?_)
  match k, hk with
  | 0, _ => exact g_sw_of 40 (by decide) h
  | 1, _ => exact g_sw_of 43 (by decide) h
  | 2, _ => exact g_sw_of 46 (by decide) h
  | 3, _ => exact g_sw_of 49 (by decide) h
  | 4, _ => exact g_sw_of 51 (by decide) h
  | 5, _ => exact g_sw_of 53 (by decide) h
  | 6, _ => exact g_sw_of 57 (by decide) h
theorem sLo_st : ∀ k, k < 7 → (g_st 2).getD k 0 = nI (sLo k) := by decide +kernel
theorem sHi_st : ∀ k, k < 7 → (g_st 3).getD k 0 = nI (sHi k) := by decide +kernel
theorem sHi_lt : ∀ k, k < 7 → sHi k < 65536 ∧ sLo k < 65536 := by decide +kernel
theorem V2.set {a : Nat → Nat} (h : V2 a) {k u : Nat} (hk : k < 7) (h1 : sLo k ≤ u) (h2 : u ≤ sHi k) : V2 (aup a (9 + k) u) := by
  obtain ⟨q1, q2, q3, q4, q5, q6, q7, q8, q9, q10, q11⟩ := h
  have q11' : ∀ i, i < a 3 → 1 ≤ aup a (9 + k) u (114 + i) ∧ aup a (9 + k) u (114 + i) < a 0 := fun i hi => by rw [aup_n (by omega)]; exact q11 i hi
  unfold V2
  rw [aup_n (a := a) (v := u) (show 3 ≠ 9 + k by omega), aup_n (a := a) (v := u) (show 0 ≠ 9 + k by omega)]
  match k, hk, h1, h2 with
  | 0, _, h1, h2 => exact ⟨h1, h2, q3, q4, q5, q6, q7, q8, q9, q10, q11'⟩
  | 1, _, h1, h2 => exact ⟨q1, q2, h2, q4, q5, q6, q7, q8, q9, q10, q11'⟩
  | 2, _, h1, h2 => exact ⟨q1, q2, q3, h2, q5, q6, q7, q8, q9, q10, q11'⟩
  | 3, _, h1, h2 => exact ⟨q1, q2, q3, q4, h2, q6, q7, q8, q9, q10, q11'⟩
  | 4, _, h1, h2 => exact ⟨q1, q2, q3, q4, q5, h2, q7, q8, q9, q10, q11'⟩
  | 5, _, h1, h2 => exact ⟨q1, q2, q3, q4, q5, q6, h1, h2, q9, q10, q11'⟩
  | 6, _, h1, h2 => exact ⟨q1, q2, q3, q4, q5, q6, q7, q8, h2, q10, q11'⟩
theorem p_set {d n : Nat} {M : g_M} {p w : Int32} (hd : 6 ≤ d) (I : Inv n M) : g_pair d k_X9_set k_X10_set [.int p, .int w] M (Inv (n + 1)) := by
  have I0 := I
  obtain ⟨a, ⟨v, v2, v3⟩, ⟨g1, g2, t, lx, hw8⟩, hM, hO, hI⟩ := I
  have t0 := t
  obtain ⟨t1, t2, t3⟩ := t
  refine g_m (by omega) 60 (fun e he => ?_)
  have bad2 : inB p (nI 7) = false → g_cal d k_X10_set [.ref 82, .int p, .int w] (g_ms M 81 (upd (M 81) 2 (M 81 2 + 1))) (fun v2 M2 => v2 = some (.int (-2)) ∧ Inv (n + 1) M2) := by
    intro hp
    refine g_m (by omega) 60 (fun e he => ?_)
    refine m_isIn (by omega) ?_
    rw [show inB p 7 = false from hp]
    exact b_nf rfl (m_refuse (by omega) 2 (by decide) (by decide) (e_ref I0 (by decide)))
  refine ⟨fun h => ?_, fun h0 => ⟨fun h1 => ?_, fun h1 => ?_⟩⟩
  · exact x_refuse (by omega) 2 (by decide) (by decide) ⟨_, rfl, bad2 (inB_ge (by decide) (Or.inl h))⟩
  · obtain ⟨k, hk, rfl⟩ : ∃ k, k < 7 ∧ p = nI k := by
      rcases pk_ix p (show 7 < 2 ^ 31 by decide) with z | z | z
      · exact absurd z h0
      · exact absurd h1 (Int32.not_lt.mpr z)
      · exact z
    have hlt := sHi_lt k hk
    have bad : ∀ (c : Int32) (j : Nat), -c = nI j → j < 7 → c ≠ 0 → wth w (nI (sLo k)) (nI (sHi k)) = c → g_cal d k_X10_set [.ref 82, .int (nI k), .int w] (g_ms M 81 (upd (M 81) j (M 81 j + 1))) (fun v2 M2 => v2 = some (.int c) ∧ Inv (n + 1) M2) := by
      intro c j hc hj hc0 hcs
      refine g_m (by omega) 60 (fun e he => ?_)
      refine m_isIn (by omega) ?_
      rw [show inB (nI k) 7 = true from inB_in hk (by decide)]
      refine b_nt (by decide) (m_least (by omega) k hk (m_most (by omega) k hk (m_within (by omega) ?_)))
      rw [hcs]
      exact b_f hc0 (m_refuse (by omega) j hc hj (e_ref I0 hj))
    refine ⟨k, rfl, hk, ?_⟩
    show (((g_st 2).getD k 0 ≤ w) → _) ∧ (¬ (g_st 2).getD k 0 ≤ w → _)
    rw [sLo_st k hk]
    refine ⟨fun h2 => ⟨k, rfl, hk, ?_⟩, fun h2 => ?_⟩
    · show ((w ≤ (g_st 3).getD k 0) → _) ∧ (¬ w ≤ (g_st 3).getD k 0 → _)
      rw [sHi_st k hk]
      refine ⟨fun h3 => ⟨k, rfl, hk, k, rfl, hk, ⟨_, rfl, ?_⟩⟩, fun h3 => ?_⟩
      · have hw0 : wth w (nI (sLo k)) (nI (sHi k)) = 0 := by unfold wth; rw [if_neg (Int32.not_lt.mpr h2), if_neg (Int32.not_lt.mpr h3)]
        obtain ⟨u, hu, rfl⟩ := nI_of2 (M := nI (sHi k)) (n := sHi k) (nI_toInt (by omega)) (x := w) (by
          intro z
          have z1 := Int32.lt_iff_toInt_lt.mp z
          have z2 := Int32.le_iff_toInt_le.mp h2
          rw [nI_toInt (by omega)] at z2
          have z3 : (0 : Int32).toInt = 0 := by decide
          omega) h3
        have hu2 : sLo k ≤ u := (nI_leI (by omega) (by omega)).mp h2
        refine g_m (by omega) 60 (fun e he => ?_)
        refine m_isIn (by omega) ?_
        rw [show inB (nI k) 7 = true from inB_in hk (by decide)]
        refine b_nt (by decide) (m_least (by omega) k hk (m_most (by omega) k hk (m_within (by omega) ?_)))
        rw [hw0]
        refine b_t rfl (m_becomes (by omega) (9 + k) (ia rfl rfl) (by omega) ⟨?_, ?_⟩)
        · rw [g_ms_n (by decide : (84 : Nat) ≠ 15), hM _ (by omega)]
          exact congrArg (fun z => some (Value.int z)) (t1 k hk).symm
        · generalize hN : g_ms (g_ms M 15 (upd (M 15) k (nI u))) 84 (upd ((g_ms M 15 (upd (M 15) k (nI u))) 84) (9 + k) (nI u)) = N
          have eN : ∀ c, c ≠ 15 → c ≠ 84 → N c = M c := fun c h1 h2 => by rw [← hN, g_ms_n h2, g_ms_n h1]
          have e15 : N 15 = upd (M 15) k (nI u) := by rw [← hN]; rfl
          have ne : ∀ q, q ≠ 9 + k → aup a (9 + k) u q = a q := fun q hq => aup_n hq
          have b5 : a 5 ≤ a 2 ∧ a 6 ≤ 8 := ⟨v3.2.2.1, v3.2.2.2⟩
          have b2 : a 2 ≤ 8 := v.2.2.2.1
          refine ⟨aup a (9 + k) u, ⟨v.co (aup_lt v.2.2.2.2.1 (by omega)) (fun q hq => ne q (by omega)), v2.set hk hu2 hu, (VV.mono ⟨v, v2, v3⟩).2.2.co (fun q hq => ne q (by omega))⟩, ⟨g1.co v (fun c h1 h2 => eN c (by omega) (by omega)) (ne 0 (by omega)) (ne 1 (by omega)) (ne 2 (by omega)) (fun q h1 h2 => ne q (by omega)), g2.co v (fun c h1 h2 => eN c (by omega) (by omega)) (ne 0 (by omega)) (ne 1 (by omega)) (ne 2 (by omega)) (fun q h1 h2 => ne q (by omega)) (fun p hp => ne _ (by omega)), ?_, lx.co (by omega) b5.2 (fun c h1 h2 => eN c (by omega) (by omega)) (fun q hq => ne q (by omega)), ?_⟩, ?_, hO.fr (fun c hc => eN c (by omega) (by omega)), fun z => ?_⟩
          · unfold TX
            show (∀ q, q < 7 → N 15 q = _) ∧ N 14 2 = _ ∧ (∀ i, _ → N 16 i = _)
            rw [e15, eN 14 (by decide) (by decide), eN 16 (by decide) (by decide), ne 3 (by omega)]
            refine ⟨fun q hq => ?_, t2, fun i hi => ?_⟩
            · unfold upd
              by_cases z : q = k
              · rw [z, aup_s, if_pos rfl]
              · rw [ne (9 + q) (by omega), if_neg z]; exact t1 q hq
            · rw [ne (114 + i) (by omega)]; exact t3 i hi
          · rw [eN 1 (by decide) (by decide), ne 8 (by omega)]; exact hw8
          · rw [← hN]
            exact RM.up (hM.fr (g_ms_n (by decide)))
          · rw [eN 0 (by decide) (by decide)] at z
            obtain ⟨b, b1, b2, b3⟩ := hI z
            exact ⟨b, b1.mono, b2.fr (fun c h1 h2 => eN c (by omega) (by omega)), b3.fr (eN 85 (by decide) (by decide))⟩
      · exact x_refuse (by omega) 6 (by decide) (by decide) ⟨_, rfl, bad _ _ (by decide) (by decide) (by decide) (by unfold wth; rw [if_neg (Int32.not_lt.mpr h2), if_pos (Int32.not_le.mp h3)])⟩
    · exact x_refuse (by omega) 4 (by decide) (by decide) ⟨_, rfl, bad _ _ (by decide) (by decide) (by decide) (by unfold wth; rw [if_pos (Int32.not_le.mp h2)])⟩
  · exact x_refuse (by omega) 2 (by decide) (by decide) ⟨_, rfl, bad2 (inB_ge (by decide) (Or.inr (Int32.not_lt.mp h1)))⟩
