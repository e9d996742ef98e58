/-! ===== garden: the reference reads a statement ===== -/
def YS (N : g_M) (T : Nat → Nat) (n i : Nat) : Prop := N 82 7 = nI n ∧ (∀ j, j < n → N 87 j = nI (T j)) ∧ N 82 8 = nI i
def FY (M N : g_M) : Prop := (∀ c, c ≠ 82 → c ≠ 88 → N c = M c) ∧ ∀ j, j ≠ 8 → N 82 j = M 82 j
theorem FY.rf (M : g_M) : FY M M := ⟨fun _ _ _ => rfl, fun _ _ => rfl⟩
theorem FY.tr {M N P : g_M} (h : FY M N) (g : FY N P) : FY M P := ⟨fun c c1 c2 => (g.1 c c1 c2).trans (h.1 c c1 c2), fun j hj => (g.2 j hj).trans (h.2 j hj)⟩
theorem m_sign {d n i : Nat} {N : g_M} {Q : g_R} {T : Nat → Nat} (hd : 1 ≤ d) (t : XT T n) (hi : i ≤ n) (s : YS N T n i) (h : Q (some (.int (sI T n i))) N) : g_cal d k_X10_sign [.ref 82] N Q := by
  obtain ⟨t1, t2⟩ := t
  obtain ⟨s1, s2, s3⟩ := s
  unfold sI at h
  refine g_m hd 40 (fun e he => ?_)
  refine b_lt s3 s1 (by omega) (by omega) (fun y => ⟨i, s3, by omega, ?_⟩) (fun y => ?_)
  · rw [if_pos y, ← s2 i y] at h; exact h
  · rw [if_neg (by omega)] at h; exact h
theorem YS.nx {N : g_M} {T : Nat → Nat} {n i : Nat} (s : YS N T n i) : YS (g_ms N 82 (upd (N 82) 8 (N 82 8 + 1))) T n (i + 1) ∧ FY N (g_ms N 82 (upd (N 82) 8 (N 82 8 + 1))) := by
  refine ⟨⟨by rw [g_ms_s]; exact s.1, fun j hj => by rw [g_ms_n (by decide)]; exact s.2.1 j hj, ?_⟩, fun c c1 c2 => g_ms_n c1, fun j hj => by rw [g_ms_s, upd, if_neg hj]⟩
  rw [g_ms_s]
  show N 82 8 + 1 = _
  rw [s.2.2]; exact (nI_succ i).symm
theorem m_takes {d n i c : Nat} {N : g_M} {Q : g_R} {T : Nat → Nat} (hd : 2 ≤ d) (t : XT T n) (hi : i ≤ n) (hc : c < 256) (s : YS N T n i) (hno : ¬ (i < n ∧ T i = c) → Q (some (.int 0)) N) (hyes : i < n ∧ T i = c → ∀ N', FY N N' → N' 88 = N 88 → YS N' T n (i + 1) → Q (some (.int 1)) N') : g_cal d k_X10_takes [.ref 82, .int (nI c)] N Q := by
  have t2 := t.2
  have t1 := t.1
  refine g_m (by omega) 40 (fun e he => m_sign (by omega) t hi s ?_)
  unfold sI
  by_cases y : i < n
  · rw [if_pos y]
    have := t2 i y
    refine b_eq rfl rfl (by omega) (by omega) (fun z => ⟨rfl, ?_⟩) (fun z => ⟨rfl, hno (fun w => z w.2)⟩)
    exact hyes ⟨y, z⟩ _ s.nx.2 (g_ms_n (by decide)) s.nx.1
  · rw [if_neg y]
    refine ⟨fun z => absurd z (fun w => ?_), fun _ => ⟨rfl, hno (fun w => y w.1)⟩⟩
    have := n_gt1' (x := c) (by omega)
    rw [← w] at this
    exact absurd this (by decide)
theorem m_isDigit {d n i : Nat} {N : g_M} {Q : g_R} {T : Nat → Nat} (hd : 2 ≤ d) (t : XT T n) (hi : i ≤ n) (s : YS N T n i) (h : Q (some (.int (bI (dg T n i)))) N) : g_cal d k_X10_isDigit [.ref 82] N Q := by
  have t2 := t.2
  have no : ¬ (i < n ∧ 48 ≤ T i ∧ T i ≤ 57) → dg T n i = false := fun c => by
    cases hd : dg T n i with
    | false => rfl
    | true => exact absurd ((dg_iff T n i).mp hd) c
  refine g_m (by omega) 40 (fun e he => m_sign (by omega) t hi s ?_)
  by_cases y : i < n
  · have hT := t2 i y
    have hs : sI T n i = nI (T i) := by unfold sI; rw [if_pos y]
    rw [hs]
    refine b_lt (b := 48) rfl rfl (by omega) (by decide) (fun z => ?_) (fun z => m_sign (by omega) t hi s ?_)
    · rw [no (by omega)] at h; exact ⟨rfl, h⟩
    · rw [hs]
      refine b_gt (b := 57) rfl rfl (by omega) (by decide) (fun z2 => ?_) (fun z2 => ?_)
      · rw [no (by omega)] at h; exact ⟨rfl, h⟩
      · rw [(dg_iff T n i).mpr ⟨y, z, z2⟩] at h; exact ⟨rfl, h⟩
  · have hs : sI T n i = -1 := by unfold sI; rw [if_neg y]
    rw [hs]
    rw [no (fun w => y w.1)] at h
    exact b_t (by decide) ⟨rfl, h⟩
theorem m_readsNumber {d n i least most slot : Nat} {N : g_M} {Q : g_R} {T : Nat → Nat} (hd : 3 ≤ d) (t : XT T n) (hi : i ≤ n) (hl : least ≤ 2) (hm : most ≤ 2) (hs : slot < 3) (s : YS N T n i) (hno : ¬ least ≤ (nm T n most i 0).2 - i → ∀ N', FY N N' → YS N' T n (nm T n most i 0).2 → Q (some (.int 0)) N') (hyes : least ≤ (nm T n most i 0).2 - i → ∀ N', FY N N' → (∀ k, k ≠ slot → N' 88 k = N 88 k) → N' 88 slot = nI (nm T n most i 0).1 → YS N' T n (nm T n most i 0).2 → Q (some (.int 1)) N') : g_cal d k_X10_readsNumber [.ref 82, .int (nI slot), .int (nI least), .int (nI most)] N Q := by
  have t1 := t.1
  have t2 := t.2
  have vb := nm_le T n most i 0 hi
  generalize hR : nm T n most i 0 = R at hno hyes vb
  refine g_m (by omega) 8 (fun e he => ⟨slot, rfl, by omega, ?_⟩)
  have R62 : ∀ N', FY N N' → (∀ k, k ≠ slot → N' 88 k = N 88 k) → N' 88 slot = nI R.1 → YS N' T n R.2 → g_Run (g_cal e) (g_mt S0 k_X10_readsNumber) Q 62 [.ref 82, .int (nI slot), .int (nI least), .int (nI most), .int (nI (R.2 - i))] [] N' := by
    intro N' f1 f2 f3 f4
    exact g_go_ 20 (b_lt rfl rfl (by omega) (by omega) (fun y => ⟨rfl, hno (by omega) N' f1 f4⟩) (fun y => ⟨rfl, hyes y N' f1 f2 f3 f4⟩))
  have loop : ∀ m j v' N', j + m = i + most → i ≤ j → j ≤ n → FY N N' → (∀ k, k ≠ slot → N' 88 k = N 88 k) → N' 88 slot = nI v' → YS N' T n j → nm T n m j v' = R → g_Run (g_cal e) (g_mt S0 k_X10_readsNumber) Q 10 [.ref 82, .int (nI slot), .int (nI least), .int (nI most), .int (nI (j - i))] [] N' := by
    intro m
    induction m with
    | zero =>
      intro j v' N' hj hij hjn f1 f2 f3 f4 f5
      have e1 : (v', j) = R := f5
      have e2 : R.1 = v' := by rw [← e1]
      have e3 : R.2 = j := by rw [← e1]
      rw [e2, e3] at R62
      exact g_go_ 20 (b_ge rfl rfl (by omega) (by omega) (fun _ => g_to (R62 N' f1 f2 f3 f4) _ rfl) (fun y => by omega))
    | succ m ih =>
      intro j v' N' hj hij hjn f1 f2 f3 f4 f5
      unfold nm at f5
      refine g_go_ 60 (b_ge rfl rfl (by omega) (by omega) (fun y => by omega) (fun _ => m_isDigit (by omega) t hjn f4 ?_))
      by_cases c : dg T n j = true
      · rw [if_pos c] at f5
        rw [c]
        obtain ⟨y, z, z2⟩ := (dg_iff T n j).mp c
        have hs : sI T n j = nI (T j) := by unfold sI; rw [if_pos y]
        refine b_f (by decide) ⟨slot, rfl, by omega, m_sign (by omega) t hjn f4 ?_⟩
        rw [hs]
        refine ⟨slot, rfl, by omega, ?_⟩
        have hval : 10 * N' 88 slot + nI (T j) - 48 = nI (v' * 10 + T j - 48) := by
          rw [f3]
          exact is (a := v' * 10 + T j) (b := 48) (by omega) (by rw [show v' * 10 = 10 * v' by omega]; exact ia (im rfl rfl) rfl) rfl
        obtain ⟨N2, hN2⟩ : ∃ N2, N2 = g_ms N' 88 (upd (N' 88) slot (10 * N' 88 slot + nI (T j) - 48)) := ⟨_, rfl⟩
        have s2 : YS N2 T n j := ⟨by rw [hN2, g_ms_n (by decide)]; exact f4.1, fun j hj => by rw [hN2, g_ms_n (by decide)]; exact f4.2.1 j hj, by rw [hN2, g_ms_n (by decide)]; exact f4.2.2⟩
        have g2 : FY N' N2 := ⟨fun c c1 c2 => by rw [hN2, g_ms_n c2], fun j hj => by rw [hN2, g_ms_n (by decide)]⟩
        have hR2 := ih (j + 1) (v' * 10 + T j - 48) _ (by omega) (by omega) (by omega) ((f1.tr g2).tr s2.nx.2) (fun k hk => by rw [g_ms_n (by decide), hN2, g_ms_s, upd, if_neg hk]; exact f2 k hk) (by rw [g_ms_n (by decide), hN2, g_ms_s, upd, if_pos rfl, hval]) s2.nx.1 f5
        rw [show j + 1 - i = (j - i) + 1 by omega, nI_succ, hN2] at hR2
        exact g_to hR2 _ rfl
      · rw [if_neg c] at f5
        have e2 : R.1 = v' := by rw [← f5]
        have e3 : R.2 = j := by rw [← f5]
        rw [e2, e3] at R62
        rw [show dg T n j = false from Bool.not_eq_true _ ▸ c]
        exact b_t rfl (g_to (R62 N' f1 f2 f3 f4) _ rfl)
  have hR2 := loop most i 0 (g_ms N 88 (upd (N 88) slot 0)) rfl (Nat.le_refl _) hi ⟨fun c c1 c2 => g_ms_n c2, fun j hj => by rw [g_ms_n (by decide)]⟩ (fun k hk => by rw [g_ms_s, upd, if_neg hk]) (by rw [g_ms_s, upd, if_pos rfl]; rfl) ⟨by rw [g_ms_n (by decide)]; exact s.1, fun j hj => by rw [g_ms_n (by decide)]; exact s.2.1 j hj, by rw [g_ms_n (by decide)]; exact s.2.2⟩ hR
  rw [Nat.sub_self] at hR2
  exact g_to hR2 _ rfl
def kdI (T : Nat → Nat) (n i : Nat) : Int32 := if i < n ∧ kd (T i) < 8 then nI (kd (T i)) else -9
def kdT (c : Nat) : Nat := if c = 112 then 80 else if c = 107 then 82 else if c = 115 then 84 else if c = 103 then 86 else if c = 109 then 88 else if c = 110 then 90 else if c = 104 then 92 else if c = 100 then 95 else 98
theorem kdT_ok : ∀ c, c < 256 → sw_look [(100, 95), (101, 98), (102, 98), (103, 86), (104, 92), (105, 98), (106, 98), (107, 82), (108, 98), (109, 88), (110, 90), (111, 98), (112, 80), (113, 98), (114, 98), (115, 84)] 98 (nI c) = kdT c := by decide +kernel
theorem kd_cases (c : Nat) : (c = 112 ∧ kd c = 0) ∨ (c = 107 ∧ kd c = 1) ∨ (c = 115 ∧ kd c = 2) ∨ (c = 103 ∧ kd c = 3) ∨ (c = 109 ∧ kd c = 4) ∨ (c = 110 ∧ kd c = 5) ∨ (c = 104 ∧ kd c = 6) ∨ (c = 100 ∧ kd c = 7) ∨ (kdT c = 98 ∧ kd c = 9) := by
  unfold kdT kd
  by_cases h1 : c = 112
  · simp [h1]
  by_cases h2 : c = 107
  · simp [h2]
  by_cases h3 : c = 115
  · simp [h3]
  by_cases h4 : c = 103
  · simp [h4]
  by_cases h5 : c = 109
  · simp [h5]
  by_cases h6 : c = 110
  · simp [h6]
  by_cases h7 : c = 104
  · simp [h7]
  by_cases h8 : c = 100
  · simp [h8]
  simp [h1, h2, h3, h4, h5, h6, h7, h8]
theorem m_kindOf {d n i : Nat} {N : g_M} {Q : g_R} {T : Nat → Nat} (hd : 1 ≤ d) (t : XT T n) (h : Q (some (.int (kdI T n i))) N) : g_cal d k_X10_kindOf [.int (sI T n i)] N Q := by
  have t2 := t.2
  unfold kdI at h
  unfold sI
  by_cases y : i < n
  · rw [if_pos y]
    have hT := t2 i y
    have hk := kdT_ok (T i) hT
    generalize T i = c at *
    rcases kd_cases c with ⟨rfl, e⟩ | ⟨rfl, e⟩ | ⟨rfl, e⟩ | ⟨rfl, e⟩ | ⟨rfl, e⟩ | ⟨rfl, e⟩ | ⟨rfl, e⟩ | ⟨rfl, e⟩ | ⟨e2, e⟩
    · rw [e, if_pos ⟨y, by decide⟩] at h; exact g_m hd 9 (fun e he => g_sw_of 80 (by decide) h)
    · rw [e, if_pos ⟨y, by decide⟩] at h; exact g_m hd 9 (fun e he => g_sw_of 82 (by decide) h)
    · rw [e, if_pos ⟨y, by decide⟩] at h; exact g_m hd 9 (fun e he => g_sw_of 84 (by decide) h)
    · rw [e, if_pos ⟨y, by decide⟩] at h; exact g_m hd 9 (fun e he => g_sw_of 86 (by decide) h)
    · rw [e, if_pos ⟨y, by decide⟩] at h; exact g_m hd 9 (fun e he => g_sw_of 88 (by decide) h)
    · rw [e, if_pos ⟨y, by decide⟩] at h; exact g_m hd 9 (fun e he => g_sw_of 90 (by decide) h)
    · rw [e, if_pos ⟨y, by decide⟩] at h; exact g_m hd 9 (fun e he => g_sw_of 92 (by decide) h)
    · rw [e, if_pos ⟨y, by decide⟩] at h; exact g_m hd 9 (fun e he => g_sw_of 95 (by decide) h)
    · rw [e, if_neg (fun z => absurd z.2 (by decide))] at h
      rw [e2] at hk
      exact g_m hd 9 (fun e he => g_sw_of 98 hk h)
  · rw [if_neg y]
    rw [if_neg (fun z => y z.1)] at h
    exact g_m hd 9 (fun e he => g_sw_of 98 (by decide) h)
def VY (N : g_M) (R : RES) (j : Nat) : Prop := (0 < j → N 88 0 = nI R.2.2.1) ∧ (1 < j → N 88 1 = nI R.2.2.2.1) ∧ (2 < j → N 88 2 = nI R.2.2.2.2)
theorem m_readsStatement {d n i : Nat} {N : g_M} {Q : g_R} {T : Nat → Nat} (hd : 5 ≤ d) (t : XT T n) (hi : i ≤ n) (s : YS N T n i) (h : ∀ N', FY N N' → YS N' T n (prs T n i).2.1 → ((prs T n i).1 = true → VY N' (prs T n i) (nval (T i))) → Q (some (.int (bI (prs T n i).1))) N') : g_cal d k_X10_readsStatement [.ref 82] N Q := by
  have t2 := t.2
  have t1 := t.1
  generalize hR : prs T n i = R at h
  have hF : ∀ j N', R = (false, j, 0, 0, 0) → FY N N' → YS N' T n j → Q (some (.int 0)) N' := fun j N' e f1 f2 => by
    subst e
    exact h N' f1 f2 (fun z => absurd z Bool.false_ne_true)
  refine g_m (by omega) 3 (fun e he => m_sign (by omega) t hi s ?_)
  unfold prs at hR
  by_cases y : i < n
  · have hT := t2 i y
    have hs : sI T n i = nI (T i) := by unfold sI; rw [if_pos y]
    rw [hs]
    obtain ⟨f2, f1⟩ := s.nx
    generalize hN1 : g_ms N 82 (upd (N 82) 8 (N 82 8 + 1)) = N1 at f1 f2
    by_cases c1 : T i = 112
    · rw [if_pos ⟨y, c1⟩] at hR
      rw [c1]
      have r76 : g_Run (g_cal e) (g_mt S0 k_X10_readsStatement) Q 76 [.ref 82, .int (nI 112)] [] N1 := by
        unfold pK at hR
        refine g_go_ 80 (m_sign (by omega) t (by omega) f2 (m_kindOf (by omega) t ⟨0, rfl, by decide, 0, rfl, by decide, ?_⟩))
        obtain ⟨N2, hN2⟩ : ∃ N2, N2 = g_ms N1 88 (upd (N1 88) 0 (kdI T n (i + 1))) := ⟨_, rfl⟩
        have g4 : YS N2 T n (i + 1) := ⟨by rw [hN2, g_ms_n (by decide)]; exact f2.1, fun j hj => by rw [hN2, g_ms_n (by decide)]; exact f2.2.1 j hj, by rw [hN2, g_ms_n (by decide)]; exact f2.2.2⟩
        have g1 : FY N N2 := f1.tr ⟨fun c c1 c2 => by rw [hN2, g_ms_n c2], fun j hj => by rw [hN2, g_ms_n (by decide)]⟩
        have e0 : N2 88 0 = kdI T n (i + 1) := by rw [hN2, g_ms_s]; rfl
        rw [← hN2, e0]
        by_cases z : i + 1 < n ∧ kd (T (i + 1)) < 8
        · have hk : kdI T n (i + 1) = nI (kd (T (i + 1))) := by unfold kdI; rw [if_pos z]
          rw [hk]
          rw [hk] at e0
          rw [if_pos z] at hR
          try dsimp only at hR
          have r110 : ∀ N3, FY N N3 → N3 88 = N2 88 → YS N3 T n (i + 1 + 1) → g_Run (g_cal e) (g_mt S0 k_X10_readsStatement) Q 110 [.ref 82, .int (nI 112)] [] N3 := by
            intro N3 g6 e69 g5
            unfold pN at hR
            have b2 := nm_le T n 1 (i + 1 + 1) 0 (by omega)
            refine g_go_ 60 (m_readsNumber (slot := 1) (least := 1) (most := 1) (by omega) t (by omega) (by decide) (by decide) (by decide) g5 (fun z N' k1 k2 => ?_) (fun z N4 k1 k2 k3 k4 => b_f (by decide) ?_))
            · rw [if_neg z] at hR; exact b_t rfl ⟨rfl, hF _ N' hR.symm (g6.tr k1) k2⟩
            rw [if_pos z] at hR
            try dsimp only at hR
            replace k1 : FY N N4 := g6.tr k1
            generalize nm T n 1 (i + 1 + 1) 0 = r1 at *
            have b3 := nm_le T n 2 r1.2 0 (by omega)
            refine m_readsNumber (slot := 2) (least := 2) (most := 2) (by omega) t (by omega) (by decide) (by decide) (by decide) k4 (fun z N' l1 l2 => ?_) (fun z N5 l1 l2 l3 l4 => b_f (by decide) ?_)
            · rw [if_neg z] at hR; exact b_t rfl ⟨rfl, hF _ N' hR.symm (k1.tr l1) l2⟩
            rw [if_pos z] at hR
            try dsimp only at hR
            replace l1 : FY N N5 := k1.tr l1
            generalize nm T n 2 r1.2 0 = r2 at *
            unfold pM at hR
            refine m_takes (c := 59) (by omega) t (by omega) (by decide) l4 (fun z => ?_) (fun z N6 m1 m2 m3 => b_f (by decide) ⟨rfl, ?_⟩)
            · rw [if_neg z] at hR; exact b_t rfl ⟨rfl, hF _ N5 hR.symm l1 l4⟩
            rw [if_pos z] at hR
            try dsimp only at hR
            subst hR
            refine h N6 (l1.tr m1) m3 (fun _ => ⟨fun _ => ?_, fun _ => ?_, fun _ => ?_⟩)
            · rw [m2, l2 0 (by decide), k2 0 (by decide), e69, e0]
            · rw [m2, l2 1 (by decide), k3]
            · rw [m2, l3]
          obtain ⟨g5, g6⟩ := g4.nx
          exact b_ge (b := 0) rfl rfl (by omega) (by decide) (fun _ => g_to (r110 _ (g1.tr g6) (g_ms_n (by decide)) g5) _ rfl) (fun w => by omega)
        · have hk : kdI T n (i + 1) = -9 := by unfold kdI; rw [if_neg z]
          rw [hk]
          rw [if_neg z] at hR
          exact b_f (by decide) ⟨rfl, hF _ N2 hR.symm g1 g4⟩
      have r0 : g_Run (g_cal e) (g_mt S0 k_X10_readsStatement) Q 5 [.ref 82, .int (nI 112)] [] N := by
        rw [← hN1] at r76
        exact g_go_ 20 (b_t rfl (g_sw_of 76 (by decide) (g_to r76 _ rfl)))
      exact g_to r0 _ rfl
    · rw [if_neg (fun z => c1 z.2)] at hR
      by_cases c2 : T i = 119
      · rw [if_pos ⟨y, c2⟩] at hR
        rw [c2]
        have r145 : g_Run (g_cal e) (g_mt S0 k_X10_readsStatement) Q 145 [.ref 82, .int (nI 119)] [] N1 := by
          unfold pN at hR
          have b1 := nm_le T n 1 (i + 1) 0 (by omega)
          refine g_go_ 80 (m_readsNumber (slot := 0) (least := 1) (most := 1) (by omega) t (by omega) (by decide) (by decide) (by decide) f2 (fun z N' k1 k2 => ?_) (fun z N2 g1 g2 g3 g4 => b_f (by decide) ?_))
          · rw [if_neg z] at hR; exact b_t rfl ⟨rfl, hF _ N' hR.symm (f1.tr k1) k2⟩
          rw [if_pos z] at hR
          try dsimp only at hR
          replace g1 : FY N N2 := f1.tr g1
          generalize nm T n 1 (i + 1) 0 = r1 at *
          have b2 := nm_le T n 1 r1.2 0 (by omega)
          refine m_readsNumber (slot := 1) (least := 1) (most := 1) (by omega) t (by omega) (by decide) (by decide) (by decide) g4 (fun z N' k1 k2 => ?_) (fun z N3 k1 k2 k3 k4 => b_f (by decide) ?_)
          · rw [if_neg z] at hR; exact b_t rfl ⟨rfl, hF _ N' hR.symm (g1.tr k1) k2⟩
          rw [if_pos z] at hR
          try dsimp only at hR
          replace k1 : FY N N3 := g1.tr k1
          generalize nm T n 1 r1.2 0 = r2 at *
          unfold pM at hR
          refine m_takes (c := 44) (by omega) t (by omega) (by decide) k4 (fun z => ?_) (fun z N4 l1 l2 l3 => b_f (by decide) ?_)
          · rw [if_neg z] at hR; exact b_t rfl ⟨rfl, hF _ N3 hR.symm k1 k4⟩
          rw [if_pos z] at hR
          try dsimp only at hR
          replace l1 : FY N N4 := k1.tr l1
          have b3 := nm_le T n 2 (r2.2 + 1) 0 (by omega)
          refine m_readsNumber (slot := 2) (least := 1) (most := 2) (by omega) t (by omega) (by decide) (by decide) (by decide) l3 (fun z N' k1 k2 => ?_) (fun z N5 m1 m2 m3 m4 => b_f (by decide) ?_)
          · rw [if_neg z] at hR; exact b_t rfl ⟨rfl, hF _ N' hR.symm (l1.tr k1) k2⟩
          rw [if_pos z] at hR
          try dsimp only at hR
          replace m1 : FY N N5 := l1.tr m1
          generalize nm T n 2 (r2.2 + 1) 0 = r3 at *
          refine m_takes (c := 59) (by omega) t (by omega) (by decide) m4 (fun z => ?_) (fun z N6 q1 q2 q3 => b_f (by decide) ⟨rfl, ?_⟩)
          · rw [if_neg z] at hR; exact b_t rfl ⟨rfl, hF _ N5 hR.symm m1 m4⟩
          rw [if_pos z] at hR
          try dsimp only at hR
          subst hR
          refine h N6 (m1.tr q1) q3 (fun _ => ⟨fun _ => ?_, fun _ => ?_, fun _ => ?_⟩)
          · rw [q2, m2 0 (by decide), l2, k2 0 (by decide), g3]
          · rw [q2, m2 1 (by decide), l2, k3]
          · rw [q2, m3]
        have r0 : g_Run (g_cal e) (g_mt S0 k_X10_readsStatement) Q 5 [.ref 82, .int (nI 119)] [] N := by
          rw [← hN1] at r145
          exact g_go_ 20 (b_f (by decide) (b_t rfl (g_sw_of 145 (by decide) (g_to r145 _ rfl))))
        exact g_to r0 _ rfl
      · rw [if_neg (fun z => c2 z.2)] at hR
        by_cases c3 : T i = 118
        · rw [if_pos ⟨y, c3⟩] at hR
          rw [c3]
          have r199 : g_Run (g_cal e) (g_mt S0 k_X10_readsStatement) Q 199 [.ref 82, .int (nI 118)] [] N1 := by
            unfold pN at hR
            have b1 := nm_le T n 1 (i + 1) 0 (by omega)
            refine g_go_ 80 (m_readsNumber (slot := 0) (least := 1) (most := 1) (by omega) t (by omega) (by decide) (by decide) (by decide) f2 (fun z N' k1 k2 => ?_) (fun z N2 g1 g2 g3 g4 => b_f (by decide) ?_))
            · rw [if_neg z] at hR; exact b_t rfl ⟨rfl, hF _ N' hR.symm (f1.tr k1) k2⟩
            rw [if_pos z] at hR
            try dsimp only at hR
            replace g1 : FY N N2 := f1.tr g1
            generalize nm T n 1 (i + 1) 0 = r1 at *
            have b2 := nm_le T n 1 r1.2 0 (by omega)
            refine m_readsNumber (slot := 1) (least := 1) (most := 1) (by omega) t (by omega) (by decide) (by decide) (by decide) g4 (fun z N' k1 k2 => ?_) (fun z N3 k1 k2 k3 k4 => b_f (by decide) ?_)
            · rw [if_neg z] at hR; exact b_t rfl ⟨rfl, hF _ N' hR.symm (g1.tr k1) k2⟩
            rw [if_pos z] at hR
            try dsimp only at hR
            replace k1 : FY N N3 := g1.tr k1
            generalize nm T n 1 r1.2 0 = r2 at *
            unfold pM at hR
            refine m_takes (c := 59) (by omega) t (by omega) (by decide) k4 (fun z => ?_) (fun z N4 l1 l2 l3 => b_f (by decide) ⟨rfl, ?_⟩)
            · rw [if_neg z] at hR; exact b_t rfl ⟨rfl, hF _ N3 hR.symm k1 k4⟩
            rw [if_pos z] at hR
            try dsimp only at hR
            subst hR
            refine h N4 (k1.tr l1) l3 (fun _ => ⟨fun _ => ?_, fun _ => ?_, fun w => ?_⟩)
            · rw [l2, k2 0 (by decide), g3]
            · rw [l2, k3]
            · rw [c3] at w; exact absurd w (by decide)
          have r0 : g_Run (g_cal e) (g_mt S0 k_X10_readsStatement) Q 5 [.ref 82, .int (nI 118)] [] N := by
            rw [← hN1] at r199
            exact g_go_ 20 (b_f (by decide) (b_f (by decide) (b_t rfl (g_sw_of 199 (by decide) (g_to r199 _ rfl)))))
          exact g_to r0 _ rfl
        · rw [if_neg (fun z => c3 z.2)] at hR
          by_cases c4 : T i = 104
          · rw [if_pos ⟨y, c4⟩] at hR
            rw [c4]
            have r234 : g_Run (g_cal e) (g_mt S0 k_X10_readsStatement) Q 234 [.ref 82, .int (nI 104)] [] N1 := by
              unfold pN at hR
              have b1 := nm_le T n 2 (i + 1) 0 (by omega)
              refine g_go_ 80 (m_readsNumber (slot := 0) (least := 1) (most := 2) (by omega) t (by omega) (by decide) (by decide) (by decide) f2 (fun z N' k1 k2 => ?_) (fun z N2 g1 g2 g3 g4 => b_f (by decide) ?_))
              · rw [if_neg z] at hR; exact b_t rfl ⟨rfl, hF _ N' hR.symm (f1.tr k1) k2⟩
              rw [if_pos z] at hR
              try dsimp only at hR
              replace g1 : FY N N2 := f1.tr g1
              generalize nm T n 2 (i + 1) 0 = r1 at *
              unfold pM at hR
              refine m_takes (c := 44) (by omega) t (by omega) (by decide) g4 (fun z => ?_) (fun z N3 l1 l2 l3 => b_f (by decide) ?_)
              · rw [if_neg z] at hR; exact b_t rfl ⟨rfl, hF _ N2 hR.symm g1 g4⟩
              rw [if_pos z] at hR
              try dsimp only at hR
              replace l1 : FY N N3 := g1.tr l1
              have b2 := nm_le T n 1 (r1.2 + 1) 0 (by omega)
              refine m_readsNumber (slot := 1) (least := 1) (most := 1) (by omega) t (by omega) (by decide) (by decide) (by decide) l3 (fun z N' k1 k2 => ?_) (fun z N4 k1 k2 k3 k4 => b_f (by decide) ?_)
              · rw [if_neg z] at hR; exact b_t rfl ⟨rfl, hF _ N' hR.symm (l1.tr k1) k2⟩
              rw [if_pos z] at hR
              try dsimp only at hR
              replace k1 : FY N N4 := l1.tr k1
              generalize nm T n 1 (r1.2 + 1) 0 = r2 at *
              refine m_takes (c := 59) (by omega) t (by omega) (by decide) k4 (fun z => ?_) (fun z N5 q1 q2 q3 => b_f (by decide) ⟨rfl, ?_⟩)
              · rw [if_neg z] at hR; exact b_t rfl ⟨rfl, hF _ N4 hR.symm k1 k4⟩
              rw [if_pos z] at hR
              try dsimp only at hR
              subst hR
              refine h N5 (k1.tr q1) q3 (fun _ => ⟨fun _ => ?_, fun _ => ?_, fun w => ?_⟩)
              · rw [q2, k2 0 (by decide), l2, g3]
              · rw [q2, k3]
              · rw [c4] at w; exact absurd w (by decide)
            have r0 : g_Run (g_cal e) (g_mt S0 k_X10_readsStatement) Q 5 [.ref 82, .int (nI 104)] [] N := by
              rw [← hN1] at r234
              exact g_go_ 30 (b_f (by decide) (b_f (by decide) (b_f (by decide) (b_t rfl (g_sw_of 234 (by decide) (g_to r234 _ rfl))))))
            exact g_to r0 _ rfl
          · rw [if_neg (fun z => c4 z.2)] at hR
            have nl : ∀ c : Nat, c < 256 → T i ≠ c → ¬ nI (T i) = nI c := fun c hc hn z => hn ((nI_eq (by omega) (by omega)).mp z)
            have r0 : g_Run (g_cal e) (g_mt S0 k_X10_readsStatement) Q 5 [.ref 82, .int (nI (T i))] [] N := g_go_ 30 (b_f (nl 112 (by decide) c1) (b_f (nl 119 (by decide) c2) (b_f (nl 118 (by decide) c3) (b_f (nl 104 (by decide) c4) ⟨rfl, hF _ N hR.symm (FY.rf N) s⟩))))
            exact g_to r0 _ rfl
  · have hs : sI T n i = -1 := by unfold sI; rw [if_neg y]
    rw [hs]
    rw [if_neg (fun z => y z.1), if_neg (fun z => y z.1), if_neg (fun z => y z.1), if_neg (fun z => y z.1)] at hR
    have r0 : g_Run (g_cal e) (g_mt S0 k_X10_readsStatement) Q 5 [.ref 82, .int (-1)] [] N := g_go_ 30 (b_f (by decide) (b_f (by decide) (b_f (by decide) (b_f (by decide) ⟨rfl, hF _ N hR.symm (FY.rf N) s⟩))))
    exact g_to r0 _ rfl
