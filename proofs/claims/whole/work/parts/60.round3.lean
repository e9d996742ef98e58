theorem m_round {d : Nat} {M : g_M} {Q : g_R} {a : Nat → Nat} {z : Int32} (hd : 7 ≤ d) (v : V1 a) (v2 : V2 a) (hM : RM M 84 a)
    (h : ∀ M', (∀ c, c ≠ 82 → c ≠ 84 → c ≠ 89 → c ≠ 90 → (c < 91 ∨ 96 < c) → M' c = M c) → (∀ j, (j < 17 ∨ 25 < j) → M' 82 j = M 82 j) → RM M' 84 (aft a z) → Q (some (.int (nI (hwm a (ply a z) 0)))) M') : g_cal d k_X10_round [.ref 82, .int z] M Q := by
  have b0 : a 0 ≤ 8 := v.2.1
  have b1 : 1 ≤ a 0 := v.1
  have b2 : a 2 ≤ 8 := v.2.2.2.1
  obtain ⟨p1, p2, p3, p4, p5, p6⟩ := ply_ok v v2 z
  have bo : ∀ h, h < a 2 → (ply a z).ho h ≤ 4 := fun h hh => by have := (p1 h hh).2.1; omega
  refine g_m (by omega) 60 (fun e he => m_plays (by omega) v v2 hM (fun N0 q1 q2 q3 q4 => ?_))
  have q30 := q3
  obtain ⟨a1, a2', a3, a4, a5⟩ := q3
  have frame : ∀ N : g_M, (∀ c, c ≠ 84 → N c = N0 c) → (∀ c, c ≠ 82 → c ≠ 84 → c ≠ 89 → c ≠ 90 → (c < 91 ∨ 96 < c) → N c = M c) ∧ (∀ j, (j < 17 ∨ 25 < j) → N 82 j = M 82 j) := fun N hN => ⟨fun c c1 c2 c3 c4 c5 => (hN c c2).trans (q1.1 c c1 c3 c4 c5), fun j hj => by rw [hN 82 (by decide)]; exact q1.2 j hj⟩
  -- places
  have R156 : ∀ m p N u3, p + m = a 0 → 1 ≤ p → (∀ c, c ≠ 84 → N c = N0 c) → PD N a z (fun k => (4 ≤ k ∧ k ≤ 8) ∨ (122 ≤ k) ∨ (k < 16 + 5 * p ∧ 16 ≤ k)) → g_Run (g_cal e) (g_mt S0 k_X10_round) Q 156 [.ref 82, .int z, .int (nI p), u3] [] N := by
    intro m
    induction m with
    | zero =>
      intro p N u3 hp h1 e1 pd
      have hp' : p = a 0 := by omega
      have n0 : N 84 0 = nI (a 0) := (pd 0 (by decide)).2 (by omega)
      have n2 : N 84 2 = nI (a 2) := (pd 2 (by decide)).2 (by omega)
      have rm : RM N 84 (aft a z) := by
        intro k hk
        by_cases c : (4 ≤ k ∧ k ≤ 8) ∨ (122 ≤ k) ∨ (k < 16 + 5 * p ∧ 16 ≤ k)
        · exact (pd k hk).1 c
        · rw [(pd k hk).2 c]
          congr 1
          unfold aft
          rw [if_neg (by omega), if_neg (by omega), if_neg (by omega), if_neg (by omega), if_neg (by omega), if_neg (by omega), if_neg (by omega), if_neg (by omega)]
      have fr := frame N e1
      have hS : MS N (ply a z) := by
        unfold MS
        rw [e1 82 (by decide), e1 91 (by decide), e1 92 (by decide), e1 93 (by decide), e1 94 (by decide), e1 95 (by decide), e1 96 (by decide)]
        exact q30
      refine g_go_ 30 ⟨0, rfl, by decide, ?_⟩
      rw [n0]
      exact b_ge rfl rfl (by omega) (by omega) (fun _ => m_howMany (w := 0) (by omega) b2 bo n2 hS (by decide) (h N fr.1 fr.2 rm)) (fun y => by omega)
    | succ m ih =>
      intro p N u3 hp h1 e1 pd
      have n0 : N 84 0 = nI (a 0) := (pd 0 (by decide)).2 (by omega)
      have nt : N 84 (16 + 5 * p + 3) = nI (a (19 + 5 * p)) := by rw [(pd (16 + 5 * p + 3) (by omega)).2 (by omega)]; congr 2; omega
      have bT := (v.2.2.2.2.2.1 p (by omega)).2.2.2.1
      have bl : lkc (ply a z) p ≤ 8 := cnt_le _ 8
      have at' := aft_tm (a := a) (z := z) (p := p) (by omega) (by omega) h1
      have nx : ∀ x u3, x = nI (aft a z (19 + 5 * p)) → g_Run (g_cal e) (g_mt S0 k_X10_round) Q 205 [.ref 82, .int z, .int (nI p), u3] [] (g_ms N 84 (upd (N 84) (19 + 5 * p) x)) := by
        intro x u3 hx
        have pd2 := PD.st (D' := fun k => ((4 ≤ k ∧ k ≤ 8) ∨ (122 ≤ k) ∨ (k < 16 + 5 * p ∧ 16 ≤ k)) ∨ k = 19 + 5 * p) pd hx (fun k => Iff.rfl)
        have hR := ih (p + 1) (g_ms N 84 (upd (N 84) (19 + 5 * p) x)) u3 (by omega) (by omega) (fun c hc => by rw [g_ms_n hc]; exact e1 c hc) (fun k hk => ⟨fun q => by
          by_cases c : ((4 ≤ k ∧ k ≤ 8) ∨ (122 ≤ k) ∨ (k < 16 + 5 * p ∧ 16 ≤ k)) ∨ k = 19 + 5 * p
          · exact (pd2 k hk).1 c
          · rw [(pd2 k hk).2 c]
            congr 1
            have := aft_pl (a := a) (z := z) (p := p) (j := k - (16 + 5 * p)) (by omega) (by omega) (by omega)
            rw [show 16 + 5 * p + (k - (16 + 5 * p)) = k by omega] at this
            exact this.symm, fun q => (pd2 k hk).2 (by omega)⟩)
        rw [nI_succ] at hR
        exact g_go_ 5 (g_to hR _ rfl)
      refine g_go_ 40 ⟨0, rfl, by decide, ?_⟩
      rw [n0]
      refine b_ge rfl rfl (by omega) (by omega) (fun y => by omega) (fun _ => m_get (by omega) p 3 rfl rfl (by omega) (by decide) ⟨p, rfl, by omega, ?_⟩)
      rw [nt, e1 96 (by decide), a5 p (by omega)]
      refine b_le (ia rfl rfl) (show (99 : Int32) = nI 99 from rfl) (by omega) (by decide) (fun y => ?_) (fun y => ?_)
      · exact ⟨19 + 5 * p, by rw [show 19 + 5 * p = 16 + 5 * p + 3 by omega]; exact ia (ia rfl (im rfl rfl)) rfl, by omega, g_to (nx (nI (a (19 + 5 * p)) + nI (lkc (ply a z) p)) _ (by rw [at', nI_add]; congr 1; omega)) _ rfl⟩
      · exact ⟨19 + 5 * p, by rw [show 19 + 5 * p = 16 + 5 * p + 3 by omega]; exact ia (ia rfl (im rfl rfl)) rfl, by omega, g_to (nx 99 _ (by rw [at']; show nI 99 = _; congr 1; omega)) _ rfl⟩
  -- hiders
  have R59 : ∀ m i N, i + m = 8 → (∀ c, c ≠ 84 → N c = N0 c) → PD N a z (fun k => (4 ≤ k ∧ k ≤ 8) ∨ (122 ≤ k ∧ k < 122 + 3 * i) ∨ (146 ≤ k ∧ k < 146 + i)) → g_Run (g_cal e) (g_mt S0 k_X10_round) Q 59 [.ref 82, .int z, .int (nI i), .null] [] N := by
    intro m
    induction m with
    | zero =>
      intro i N hi e1 pd
      have r := R156 (a 0 - 1) 1 N .null (by omega) (by omega) e1 (fun k hk => ⟨fun q => by
        by_cases c : (4 ≤ k ∧ k ≤ 8) ∨ (122 ≤ k ∧ k < 122 + 3 * i) ∨ (146 ≤ k ∧ k < 146 + i)
        · exact (pd k hk).1 c
        · rw [(pd k hk).2 c, aft_lo (by omega)], fun q => (pd k hk).2 (by omega)⟩)
      exact g_go_ 20 (b_ge rfl (show (8 : Int32) = nI 8 from rfl) (by omega) (by decide) (fun _ => g_to r _ rfl) (fun y => by omega))
    | succ m ih =>
      intro i N hi e1 pd
      obtain ⟨w1, w2, w3, -⟩ := a3 i (by omega)
      obtain ⟨t1, t2, t3⟩ := aft_wh (a := a) (z := z) (h := i) (by omega)
      have tc := aft_ca (a := a) (z := z) (i := i) (by omega)
      obtain ⟨N1, hN1⟩ : ∃ N1, N1 = g_ms N 84 (upd (N 84) (122 + 3 * i) (N 91 i)) := ⟨_, rfl⟩
      obtain ⟨N2, hN2⟩ : ∃ N2, N2 = g_ms N1 84 (upd (N1 84) (123 + 3 * i) (N1 92 i)) := ⟨_, rfl⟩
      obtain ⟨N3, hN3⟩ : ∃ N3, N3 = g_ms N2 84 (upd (N2 84) (124 + 3 * i) (N2 93 i)) := ⟨_, rfl⟩
      have o1 : ∀ c, c ≠ 84 → N1 c = N0 c := fun c hc => by rw [hN1, g_ms_n hc]; exact e1 c hc
      have o2 : ∀ c, c ≠ 84 → N2 c = N0 c := fun c hc => by rw [hN2, g_ms_n hc]; exact o1 c hc
      have o3 : ∀ c, c ≠ 84 → N3 c = N0 c := fun c hc => by rw [hN3, g_ms_n hc]; exact o2 c hc
      have pd1 : PD N1 a z (fun k => ((4 ≤ k ∧ k ≤ 8) ∨ (122 ≤ k ∧ k < 122 + 3 * i) ∨ (146 ≤ k ∧ k < 146 + i)) ∨ k = 122 + 3 * i) := by
        rw [hN1]; exact pd.st (by rw [t1, e1 91 (by decide)]; exact w1) (fun k => Iff.rfl)
      have pd2 : PD N2 a z (fun k => (((4 ≤ k ∧ k ≤ 8) ∨ (122 ≤ k ∧ k < 122 + 3 * i) ∨ (146 ≤ k ∧ k < 146 + i)) ∨ k = 122 + 3 * i) ∨ k = 123 + 3 * i) := by
        rw [hN2]; exact pd1.st (by rw [t2, o1 92 (by decide)]; exact w2) (fun k => Iff.rfl)
      have pd3 : PD N3 a z (fun k => ((((4 ≤ k ∧ k ≤ 8) ∨ (122 ≤ k ∧ k < 122 + 3 * i) ∨ (146 ≤ k ∧ k < 146 + i)) ∨ k = 122 + 3 * i) ∨ k = 123 + 3 * i) ∨ k = 124 + 3 * i) := by
        rw [hN3]; exact pd2.st (by rw [t3, o2 93 (by decide)]; exact w3) (fun k => Iff.rfl)
      have nx : ∀ x, x = nI (aft a z (146 + i)) → g_Run (g_cal e) (g_mt S0 k_X10_round) Q 148 [.ref 82, .int z, .int (nI i), .null] [] (g_ms N3 84 (upd (N3 84) (146 + i) x)) := by
        intro x hx
        have hR := ih (i + 1) (g_ms N3 84 (upd (N3 84) (146 + i) x)) (by omega) (fun c hc => by rw [g_ms_n hc]; exact o3 c hc) (pd3.st hx (fun k => by omega))
        rw [nI_succ] at hR
        exact g_go_ 5 (g_to hR _ rfl)
      have n18 : N3 82 18 = nI (ply a z).cn := by rw [o3 82 (by decide)]; exact a2'
      have R120 : g_Run (g_cal e) (g_mt S0 k_X10_round) Q 120 [.ref 82, .int z, .int (nI i), .null] [] N3 := by
        refine g_go_ 30 ?_
        show (N3 82 18 ≤ nI i → _) ∧ (¬ N3 82 18 ≤ nI i → _)
        rw [n18]
        refine b_ge rfl rfl (by omega) (by omega) (fun y => ?_) (fun y => ⟨i, rfl, by omega, ?_⟩)
        · exact ⟨146 + i, ia rfl rfl, by omega, g_to (nx 0 (by rw [tc, if_neg (by omega)]; rfl)) _ rfl⟩
        · exact ⟨146 + i, ia rfl rfl, by omega, g_to (nx (N3 95 i) (by rw [tc, if_pos y, o3 95 (by decide)]; exact a4 i y)) _ rfl⟩
      rw [hN3, hN2, hN1] at R120
      exact g_go_ 60 (b_ge rfl (show (8 : Int32) = nI 8 from rfl) (by omega) (by decide) (fun y => by omega) (fun _ => ⟨i, rfl, by omega, 122 + 3 * i, ia rfl (im rfl rfl), by omega, i, rfl, by omega, 123 + 3 * i, by rw [show 123 + 3 * i = 122 + 3 * i + 1 by omega]; exact ia (ia rfl (im rfl rfl)) rfl, by omega, i, rfl, by omega, 124 + 3 * i, by rw [show 124 + 3 * i = 122 + 3 * i + 2 by omega]; exact ia (ia rfl (im rfl rfl)) rfl, by omega, g_to R120 _ rfl⟩))
  -- the numbers
  obtain ⟨N1, hN1⟩ : ∃ N1, N1 = g_ms N0 84 (upd (N0 84) 4 1) := ⟨_, rfl⟩
  obtain ⟨N2, hN2⟩ : ∃ N2, N2 = g_ms N1 84 (upd (N1 84) 5 (N1 84 2)) := ⟨_, rfl⟩
  obtain ⟨N3, hN3⟩ : ∃ N3, N3 = g_ms N2 84 (upd (N2 84) 6 (N2 82 18)) := ⟨_, rfl⟩
  obtain ⟨N4, hN4⟩ : ∃ N4, N4 = g_ms N3 84 (upd (N3 84) 7 (N3 82 19)) := ⟨_, rfl⟩
  obtain ⟨N5, hN5⟩ : ∃ N5, N5 = g_ms N4 84 (upd (N4 84) 8 (N4 84 8 + 1)) := ⟨_, rfl⟩
  have o1 : ∀ c, c ≠ 84 → N1 c = N0 c := fun c hc => by rw [hN1, g_ms_n hc]
  have o2 : ∀ c, c ≠ 84 → N2 c = N0 c := fun c hc => by rw [hN2, g_ms_n hc]; exact o1 c hc
  have o3 : ∀ c, c ≠ 84 → N3 c = N0 c := fun c hc => by rw [hN3, g_ms_n hc]; exact o2 c hc
  have o4 : ∀ c, c ≠ 84 → N4 c = N0 c := fun c hc => by rw [hN4, g_ms_n hc]; exact o3 c hc
  have o5 : ∀ c, c ≠ 84 → N5 c = N0 c := fun c hc => by rw [hN5, g_ms_n hc]; exact o4 c hc
  have pd0 : PD N0 a z (fun k => k = 999) := fun k hk => ⟨fun q => by omega, fun _ => q2.1 k hk⟩
  have pd1 : PD N1 a z (fun k => k = 999 ∨ k = 4) := by rw [hN1]; exact pd0.st rfl (fun k => Iff.rfl)
  have pd2 : PD N2 a z (fun k => (k = 999 ∨ k = 4) ∨ k = 5) := by rw [hN2]; exact pd1.st ((pd1 2 (by decide)).2 (by omega)) (fun k => Iff.rfl)
  have pd3 : PD N3 a z (fun k => ((k = 999 ∨ k = 4) ∨ k = 5) ∨ k = 6) := by rw [hN3]; exact pd2.st (by rw [o2 82 (by decide)]; exact a2') (fun k => Iff.rfl)
  have pd4 : PD N4 a z (fun k => (((k = 999 ∨ k = 4) ∨ k = 5) ∨ k = 6) ∨ k = 7) := by rw [hN4]; exact pd3.st (by rw [o3 82 (by decide)]; exact q4) (fun k => Iff.rfl)
  have pd5 : PD N5 a z (fun k => ((((k = 999 ∨ k = 4) ∨ k = 5) ∨ k = 6) ∨ k = 7) ∨ k = 8) := by rw [hN5]; exact pd4.st (by rw [(pd4 8 (by decide)).2 (by omega)]; show nI (a 8) + 1 = nI (a 8 + 1); rw [nI_succ]) (fun k => Iff.rfl)
  have r := R59 8 0 N5 (by omega) o5 (fun k hk => ⟨fun q => (pd5 k hk).1 (by omega), fun q => (pd5 k hk).2 (by omega)⟩)
  rw [hN5, hN4, hN3, hN2, hN1] at r
  exact ⟨4, rfl, by decide, 2, rfl, by decide, 5, rfl, by decide, 6, rfl, by decide, 7, rfl, by decide, 8, rfl, by decide, 8, rfl, by decide, g_to r _ rfl⟩
