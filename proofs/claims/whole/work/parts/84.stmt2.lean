/-! ===== garden: the component reads a statement, the parts ===== -/
theorem x_rvN {d n i least most slot : Nat} {N : g_M} {Q : g_R} {T : Nat → Nat} {ch : Int32} (hd : 3 ≤ d) (hc : (ch = 68 ∧ least = 1 ∧ most = 1) ∨ (ch = 84 ∧ least = 2 ∧ most = 2) ∨ (ch = 78 ∧ least = 1 ∧ most = 2)) (t : XT T n) (hi : i ≤ n) (hs : slot < 3) (s : XS N T n i) (hno : ¬ least ≤ (nm T n most i 0).2 - i → ∀ N', FR N N' → XS N' T n (nm T n most i 0).2 → Q (some (.int 0)) N') (hyes : least ≤ (nm T n most i 0).2 - i → ∀ N', FR N N' → (∀ k, k ≠ slot → N' 69 k = N 69 k) → N' 69 slot = nI (nm T n most i 0).1 → XS N' T n (nm T n most i 0).2 → Q (some (.int 1)) N') : g_cal d k_X3_readValue [.ref 67, .int ch, .int (nI slot)] N Q := by
  rcases hc with ⟨rfl, rfl, rfl⟩ | ⟨rfl, rfl, rfl⟩ | ⟨rfl, rfl, rfl⟩
  · exact g_m (by omega) 20 (fun e he => g_sw_of 42 (by decide) (x_readNumber (least := 1) (most := 1) (by omega) t hi (by decide) (by decide) hs s (fun z N' f1 f2 => ⟨rfl, hno z N' f1 f2⟩) (fun z N' f1 f2 f3 f4 => ⟨rfl, hyes z N' f1 f2 f3 f4⟩)))
  · exact g_m (by omega) 20 (fun e he => g_sw_of 50 (by decide) (x_readNumber (least := 2) (most := 2) (by omega) t hi (by decide) (by decide) hs s (fun z N' f1 f2 => ⟨rfl, hno z N' f1 f2⟩) (fun z N' f1 f2 f3 f4 => ⟨rfl, hyes z N' f1 f2 f3 f4⟩)))
  · exact g_m (by omega) 20 (fun e he => g_sw_of 58 (by decide) (x_readNumber (least := 1) (most := 2) (by omega) t hi (by decide) (by decide) hs s (fun z N' f1 f2 => ⟨rfl, hno z N' f1 f2⟩) (fun z N' f1 f2 f3 f4 => ⟨rfl, hyes z N' f1 f2 f3 f4⟩)))
theorem x_rvK {d n i : Nat} {N : g_M} {Q : g_R} {T : Nat → Nat} (hd : 8 ≤ d) (t : XT T n) (hi : i ≤ n) (s : XS N T n i) (hno : ¬ (i < n ∧ kd (T i) < 8) → Q (some (.int 0)) N) (hyes : i < n ∧ kd (T i) < 8 → ∀ N', FR N N' → (∀ k, k ≠ 0 → N' 69 k = N 69 k) → N' 69 0 = nI (kd (T i)) → XS N' T n (i + 1) → Q (some (.int 1)) N') : g_cal d k_X3_readValue [.ref 67, .int 75, .int (nI 0)] N Q :=
  g_m (by omega) 20 (fun e he => g_sw_of 36 (by decide) (x_readKind (by omega) t hi s (fun z => ⟨rfl, hno z⟩) (fun z N' f1 f2 f3 f4 => ⟨rfl, hyes z N' f1 f2 f3 f4⟩)))
theorem s_mark {e n i k len j c s : Nat} {N : g_M} {Q : g_R} {T : Nat → Nat} {u4 u5 : Value} (he : 5 ≤ e) (t : XT T n) (hi : i ≤ n) (hk : k = 10 ∨ k = 11 ∨ k = 12 ∨ k = 13) (hc : c = 44 ∨ c = 59) (hlen : ∀ Q' : g_R, Q' (some (.int (nI len))) N → g_cal e k_J0_length [.retAddr k] N Q') (hch : ∀ Q' : g_R, Q' (some (.int (nI c))) N → g_cal e k_J0_charAt [.retAddr k, .int (nI j)] N Q') (hj : j < len) (hl : len ≤ 5) (xs : XS N T n i) (hno : ¬ (i < n ∧ T i = c) → Q (some (.int 0)) N) (hyes : i < n ∧ T i = c → ∀ N' u4 u5, FR N N' → N' 69 = N 69 → XS N' T n (i + 1) → g_Run (g_cal e) (g_mt S0 k_X3_readStatement) Q 31 [.ref 67, .retAddr k, .int (nI s), .int (nI (j + 1)), u4, u5] [] N') : g_Run (g_cal e) (g_mt S0 k_X3_readStatement) Q 31 [.ref 67, .retAddr k, .int (nI s), .int (nI j), u4, u5] [] N := by
  have mk : ∀ Q' : g_R, (¬ (i < n ∧ T i = c) → Q' (some (.int 0)) N) → (i < n ∧ T i = c → ∀ N', FR N N' → N' 69 = N 69 → XS N' T n (i + 1) → Q' (some (.int 1)) N') → g_cal e k_X3_readMark [.ref 67, .int (nI c)] N Q' := fun Q' h1 h2 => x_readMark (by omega) t hi (by omega) xs h1 h2
  have R72 : (k = 10 ∨ k = 11 ∨ k = 12 ∨ k = 13) → g_Run (g_cal e) (g_mt S0 k_X3_readStatement) Q 67 [.ref 67, .retAddr k, .int (nI s), .int (nI j), .int (nI c), .int 1] [] N := fun hk => by
    refine g_go_ 60 (b_f (by decide) (mk _ (fun z => b_t rfl ⟨rfl, hno z⟩) (fun z N' f1 f2 f3 => b_f (by decide) (b_f (by decide) ?_))))
    have hR := hyes z N' (.int (nI c)) (.int 1) f1 f2 f3
    rw [nI_succ] at hR
    have hR2 : g_Run (g_cal e) (g_mt S0 k_X3_readStatement) Q 31 [.ref 67, .retAddr k, .int (nI s + 0), .int (nI j + 1), .int (nI c), .int 1] [] N' := by rw [Int32.add_zero]; exact hR
    exact g_to hR2 _ rfl
  have R72' := R72 hk
  rcases hk with rfl | rfl | rfl | rfl
  all_goals
    refine g_go_ 60 (hlen _ (b_ge rfl rfl (by omega) (by omega) (fun y => by omega) (fun _ => hch _ ?_)))
    rcases hc with rfl | rfl
    · exact b_t rfl (g_to R72' _ rfl)
    · exact b_f (by decide) (b_nf rfl (g_to R72' _ rfl))
theorem s_num {e n i k len j s least most : Nat} {N : g_M} {Q : g_R} {T : Nat → Nat} {u4 u5 : Value} {ch : Int32} (he : 5 ≤ e) (hc : (ch = 68 ∧ least = 1 ∧ most = 1) ∨ (ch = 84 ∧ least = 2 ∧ most = 2) ∨ (ch = 78 ∧ least = 1 ∧ most = 2)) (t : XT T n) (hi : i ≤ n) (hk : k = 10 ∨ k = 11 ∨ k = 12 ∨ k = 13) (hlen : ∀ Q' : g_R, Q' (some (.int (nI len))) N → g_cal e k_J0_length [.retAddr k] N Q') (hch : ∀ Q' : g_R, Q' (some (.int ch)) N → g_cal e k_J0_charAt [.retAddr k, .int (nI j)] N Q') (hj : j < len) (hl : len ≤ 5) (hs : s < 3) (xs : XS N T n i) (hno : ¬ least ≤ (nm T n most i 0).2 - i → ∀ N', FR N N' → XS N' T n (nm T n most i 0).2 → Q (some (.int 0)) N') (hyes : least ≤ (nm T n most i 0).2 - i → ∀ N' u4 u5, FR N N' → (∀ k, k ≠ s → N' 69 k = N 69 k) → N' 69 s = nI (nm T n most i 0).1 → XS N' T n (nm T n most i 0).2 → g_Run (g_cal e) (g_mt S0 k_X3_readStatement) Q 31 [.ref 67, .retAddr k, .int (nI (s + 1)), .int (nI (j + 1)), u4, u5] [] N') : g_Run (g_cal e) (g_mt S0 k_X3_readStatement) Q 31 [.ref 67, .retAddr k, .int (nI s), .int (nI j), u4, u5] [] N := by
  have R84 : (k = 10 ∨ k = 11 ∨ k = 12 ∨ k = 13) → g_Run (g_cal e) (g_mt S0 k_X3_readStatement) Q 67 [.ref 67, .retAddr k, .int (nI s), .int (nI j), .int ch, .int 0] [] N := fun hk => by
    refine g_go_ 60 (b_t rfl (x_rvN (by omega) hc t hi hs xs (fun z N' f1 f2 => b_nf rfl ⟨rfl, hno z N' f1 f2⟩) (fun z N' f1 f2 f3 f4 => b_nt (by decide) (b_t rfl ?_))))
    have hR := hyes z N' (.int ch) (.int 0) f1 f2 f3 f4
    rw [nI_succ, nI_succ] at hR
    exact g_to hR _ rfl
  have R84' := R84 hk
  have c1 : ¬ ch = 44 := by rcases hc with ⟨rfl, -⟩ | ⟨rfl, -⟩ | ⟨rfl, -⟩ <;> decide
  have c2 : ¬ ch = 59 := by rcases hc with ⟨rfl, -⟩ | ⟨rfl, -⟩ | ⟨rfl, -⟩ <;> decide
  rcases hk with rfl | rfl | rfl | rfl
  all_goals exact g_go_ 60 (hlen _ (b_ge rfl rfl (by omega) (by omega) (fun y => by omega) (fun _ => hch _ (b_f c1 (b_nt c2 (g_to R84' _ rfl))))))
theorem s_kind {e n i : Nat} {N : g_M} {Q : g_R} {T : Nat → Nat} {u4 u5 : Value} (he : 9 ≤ e) (t : XT T n) (hi : i ≤ n) (xs : XS N T n i) (hno : ¬ (i < n ∧ kd (T i) < 8) → Q (some (.int 0)) N) (hyes : i < n ∧ kd (T i) < 8 → ∀ N' u4 u5, FR N N' → (∀ k, k ≠ 0 → N' 69 k = N 69 k) → N' 69 0 = nI (kd (T i)) → XS N' T n (i + 1) → g_Run (g_cal e) (g_mt S0 k_X3_readStatement) Q 31 [.ref 67, .retAddr 10, .int (nI 1), .int (nI 1), u4, u5] [] N') : g_Run (g_cal e) (g_mt S0 k_X3_readStatement) Q 31 [.ref 67, .retAddr 10, .int (nI 0), .int (nI 0), u4, u5] [] N := by
  refine g_go_ 90 (x_len_10 (by omega) (b_f (by decide) (x_ch_10_0 rfl (by omega) (b_f (by decide) (b_nt (by decide) (b_t rfl (x_rvK (by omega) t hi xs (fun z => b_nf rfl ⟨rfl, hno z⟩) (fun z N' f1 f2 f3 f4 => b_nt (by decide) (b_t rfl ?_)))))))))
  exact g_to (hyes z N' (.int 75) (.int 0) f1 f2 f3 f4) _ rfl
theorem s_end {e k len : Nat} {N : g_M} {Q : g_R} {x : Int32} {u4 u5 : Value} (hk : k = 10 ∨ k = 11 ∨ k = 12 ∨ k = 13) (hl : len ≤ 5) (hlen : ∀ Q' : g_R, Q' (some (.int (nI len))) N → g_cal e k_J0_length [.retAddr k] N Q') (h : Q (some (.int 1)) N) : g_Run (g_cal e) (g_mt S0 k_X3_readStatement) Q 31 [.ref 67, .retAddr k, .int x, .int (nI len), u4, u5] [] N := by
  rcases hk with rfl | rfl | rfl | rfl
  all_goals exact g_go_ 60 (hlen _ (b_ge rfl rfl (by omega) (by omega) (fun _ => ⟨rfl, h⟩) (fun y => by omega)))
theorem x_readStatement {d n i : Nat} {N : g_M} {Q : g_R} {T : Nat → Nat} (hd : 10 ≤ d) (t : XT T n) (hi : i ≤ n) (s : XS N T n i) (h : ∀ N', FR N N' → XS N' T n (prs T n i).2.1 → ((prs T n i).1 = true → VX N' (prs T n i) (nval (T i))) → Q (some (.int (bI (prs T n i).1))) N') : g_cal d k_X3_readStatement [.ref 67] N Q := by
  have t2 := t.2
  have t1 := t.1
  generalize hR : prs T n i = R at h
  have hF : ∀ j N', R = (false, j, 0, 0, 0) → FR N N' → XS N' T n j → Q (some (.int 0)) N' := fun j N' e f1 f2 => by
    subst e
    exact h N' f1 f2 (fun z => absurd z Bool.false_ne_true)
  refine g_m (by omega) 9 (fun e he => x_sign (by omega) t hi s ?_)
  unfold prs at hR
  -- the letter is read
  have start : ∀ k : Nat, (k = 10 ∨ k = 11 ∨ k = 12 ∨ k = 13) → (∀ N', FR N N' → XS N' T n (i + 1) → g_Run (g_cal e) (g_mt S0 k_X3_readStatement) Q 31 [.ref 67, .retAddr k, .int (nI 0), .int (nI 0), .null, .null] [] N') → g_Run (g_cal e) (g_mt S0 k_X3_readStatement) Q 7 [.ref 67, .null, .null, .null, .null, .null] [.retAddr k] N := by
    intro k hk hq
    obtain ⟨N2, hN2⟩ : ∃ N2, N2 = g_ms N 67 (upd (N 67) 3 (N 67 3 + 1)) := ⟨_, rfl⟩
    have hR2 := hq N2 (fun c c1 c2 => by rw [hN2, g_ms_n c1]) ⟨by rw [hN2, g_ms_s]; exact s.1, fun j hj => by rw [hN2, g_ms_n (by decide)]; exact s.2.1 j hj, by rw [hN2, g_ms_s]; show N 67 3 + 1 = _; rw [s.2.2]; exact (nI_succ i).symm⟩
    rw [hN2] at hR2
    rcases hk with rfl | rfl | rfl | rfl
    · exact g_go_ 30 (x_emp_10 (by omega) (b_t rfl (g_to hR2 _ rfl)))
    · exact g_go_ 30 (x_emp_11 (by omega) (b_t rfl (g_to hR2 _ rfl)))
    · exact g_go_ 30 (x_emp_12 (by omega) (b_t rfl (g_to hR2 _ rfl)))
    · exact g_go_ 30 (x_emp_13 (by omega) (b_t rfl (g_to hR2 _ rfl)))
  by_cases y : i < n
  · have hT := t2 i y
    have hs : sI T n i = nI (T i) := by unfold sI; rw [if_pos y]
    rw [hs]
    by_cases c1 : T i = 112
    · rw [if_pos ⟨y, c1⟩] at hR
      rw [c1]
      refine g_m (by omega) 9 (fun e2 he2 => g_sw_of 44 (by decide) (g_to (start 10 (by decide) (fun N1 f1 f2 => ?_)) _ rfl))
      unfold pK at hR
      refine s_kind (by omega) t (by omega) f2 (fun z => ?_) (fun z N2 u4 u5 g1 g2 g3 g4 => ?_)
      · rw [if_neg z] at hR; exact hF _ N1 hR.symm f1 f2
      rw [if_pos z] at hR
      try dsimp only at hR
      replace g1 : FR N N2 := fun c k1 k2 => (g1 c k1 k2).trans (f1 c k1 k2)
      unfold pN at hR
      have b2 := nm_le T n 1 (i + 1 + 1) 0 (by omega)
      refine s_num (least := 1) (most := 1) (len := 4) (by omega) (by decide) t (by omega) (by decide) (fun Q' => x_len_10 (by omega)) (fun Q' => x_ch_10_1 rfl (by omega)) (by decide) (by decide) (by decide) g4 (fun z N' k1 k2 => ?_) (fun z N3 u4 u5 k1 k2 k3 k4 => ?_)
      · rw [if_neg z] at hR; exact hF _ N' hR.symm (fun c m1 m2 => (k1 c m1 m2).trans (g1 c m1 m2)) k2
      rw [if_pos z] at hR
      try dsimp only at hR
      replace k1 : FR N N3 := fun c m1 m2 => (k1 c m1 m2).trans (g1 c m1 m2)
      generalize nm T n 1 (i + 1 + 1) 0 = r1 at *
      have b3 := nm_le T n 2 r1.2 0 (by omega)
      refine s_num (least := 2) (most := 2) (len := 4) (by omega) (by decide) t (by omega) (by decide) (fun Q' => x_len_10 (by omega)) (fun Q' => x_ch_10_2 rfl (by omega)) (by decide) (by decide) (by decide) k4 (fun z N' l1 l2 => ?_) (fun z N4 u4 u5 l1 l2 l3 l4 => ?_)
      · rw [if_neg z] at hR; exact hF _ N' hR.symm (fun c m1 m2 => (l1 c m1 m2).trans (k1 c m1 m2)) l2
      rw [if_pos z] at hR
      try dsimp only at hR
      replace l1 : FR N N4 := fun c m1 m2 => (l1 c m1 m2).trans (k1 c m1 m2)
      generalize nm T n 2 r1.2 0 = r2 at *
      unfold pM at hR
      refine s_mark (c := 59) (len := 4) (by omega) t (by omega) (by decide) (by decide) (fun Q' => x_len_10 (by omega)) (fun Q' => x_ch_10_3 rfl (by omega)) (by decide) (by decide) l4 (fun z => ?_) (fun z N5 u4 u5 m1 m2 m3 => ?_)
      · rw [if_neg z] at hR; exact hF _ N4 hR.symm l1 l4
      rw [if_pos z] at hR
      try dsimp only at hR
      refine s_end (len := 4) (by decide) (by decide) (fun Q' => x_len_10 (by omega)) ?_
      subst hR
      refine h N5 (fun c q1 q2 => (m1 c q1 q2).trans (l1 c q1 q2)) m3 (fun _ => ⟨fun _ => ?_, fun _ => ?_, fun _ => ?_⟩)
      · rw [m2, l2 0 (by decide), k2 0 (by decide), g3]
      · rw [m2, l2 1 (by decide), k3]
      · rw [m2, l3]
    · rw [if_neg (fun z => c1 z.2)] at hR
      by_cases c2 : T i = 119
      · rw [if_pos ⟨y, c2⟩] at hR
        rw [c2]
        refine g_m (by omega) 9 (fun e2 he2 => g_sw_of 47 (by decide) (g_to (start 11 (by decide) (fun N1 f1 f2 => ?_)) _ rfl))
        unfold pN at hR
        have b1 := nm_le T n 1 (i + 1) 0 (by omega)
        refine s_num (least := 1) (most := 1) (len := 5) (by omega) (by decide) t (by omega) (by decide) (fun Q' => x_len_11 (by omega)) (fun Q' => x_ch_11_0 rfl (by omega)) (by decide) (by decide) (by decide) f2 (fun z N' k1 k2 => ?_) (fun z N2 u4 u5 g1 g2 g3 g4 => ?_)
        · rw [if_neg z] at hR; exact hF _ N' hR.symm (fun c m1 m2 => (k1 c m1 m2).trans (f1 c m1 m2)) k2
        rw [if_pos z] at hR
        try dsimp only at hR
        replace g1 : FR N N2 := fun c m1 m2 => (g1 c m1 m2).trans (f1 c m1 m2)
        generalize nm T n 1 (i + 1) 0 = r1 at *
        have b2 := nm_le T n 1 r1.2 0 (by omega)
        refine s_num (least := 1) (most := 1) (len := 5) (by omega) (by decide) t (by omega) (by decide) (fun Q' => x_len_11 (by omega)) (fun Q' => x_ch_11_1 rfl (by omega)) (by decide) (by decide) (by decide) g4 (fun z N' k1 k2 => ?_) (fun z N3 u4 u5 k1 k2 k3 k4 => ?_)
        · rw [if_neg z] at hR; exact hF _ N' hR.symm (fun c m1 m2 => (k1 c m1 m2).trans (g1 c m1 m2)) k2
        rw [if_pos z] at hR
        try dsimp only at hR
        replace k1 : FR N N3 := fun c m1 m2 => (k1 c m1 m2).trans (g1 c m1 m2)
        generalize nm T n 1 r1.2 0 = r2 at *
        unfold pM at hR
        refine s_mark (c := 44) (len := 5) (by omega) t (by omega) (by decide) (by decide) (fun Q' => x_len_11 (by omega)) (fun Q' => x_ch_11_2 rfl (by omega)) (by decide) (by decide) k4 (fun z => ?_) (fun z N4 u4 u5 l1 l2 l3 => ?_)
        · rw [if_neg z] at hR; exact hF _ N3 hR.symm k1 k4
        rw [if_pos z] at hR
        try dsimp only at hR
        replace l1 : FR N N4 := fun c m1 m2 => (l1 c m1 m2).trans (k1 c m1 m2)
        have b3 := nm_le T n 2 (r2.2 + 1) 0 (by omega)
        refine s_num (least := 1) (most := 2) (len := 5) (by omega) (by decide) t (by omega) (by decide) (fun Q' => x_len_11 (by omega)) (fun Q' => x_ch_11_3 rfl (by omega)) (by decide) (by decide) (by decide) l3 (fun z N' k1 k2 => ?_) (fun z N5 u4 u5 m1 m2 m3 m4 => ?_)
        · rw [if_neg z] at hR; exact hF _ N' hR.symm (fun c m1 m2 => (k1 c m1 m2).trans (l1 c m1 m2)) k2
        rw [if_pos z] at hR
        try dsimp only at hR
        replace m1 : FR N N5 := fun c q1 q2 => (m1 c q1 q2).trans (l1 c q1 q2)
        generalize nm T n 2 (r2.2 + 1) 0 = r3 at *
        refine s_mark (c := 59) (len := 5) (by omega) t (by omega) (by decide) (by decide) (fun Q' => x_len_11 (by omega)) (fun Q' => x_ch_11_4 rfl (by omega)) (by decide) (by decide) m4 (fun z => ?_) (fun z N6 u4 u5 q1 q2 q3 => ?_)
        · rw [if_neg z] at hR; exact hF _ N5 hR.symm m1 m4
        rw [if_pos z] at hR
        try dsimp only at hR
        refine s_end (len := 5) (by decide) (by decide) (fun Q' => x_len_11 (by omega)) ?_
        subst hR
        refine h N6 (fun c p1 p2 => (q1 c p1 p2).trans (m1 c p1 p2)) q3 (fun _ => ⟨fun _ => ?_, fun _ => ?_, fun _ => ?_⟩)
        · rw [q2, m2 0 (by decide), l2, k2 0 (by decide), g3]
        · rw [q2, m2 1 (by decide), l2, k3]
        · rw [q2, m3]
      · rw [if_neg (fun z => c2 z.2)] at hR
        by_cases c3 : T i = 118
        · rw [if_pos ⟨y, c3⟩] at hR
          rw [c3]
          refine g_m (by omega) 9 (fun e2 he2 => g_sw_of 50 (by decide) (g_to (start 12 (by decide) (fun N1 f1 f2 => ?_)) _ rfl))
          unfold pN at hR
          have b1 := nm_le T n 1 (i + 1) 0 (by omega)
          refine s_num (least := 1) (most := 1) (len := 3) (by omega) (by decide) t (by omega) (by decide) (fun Q' => x_len_12 (by omega)) (fun Q' => x_ch_12_0 rfl (by omega)) (by decide) (by decide) (by decide) f2 (fun z N' k1 k2 => ?_) (fun z N2 u4 u5 g1 g2 g3 g4 => ?_)
          · rw [if_neg z] at hR; exact hF _ N' hR.symm (fun c m1 m2 => (k1 c m1 m2).trans (f1 c m1 m2)) k2
          rw [if_pos z] at hR
          try dsimp only at hR
          replace g1 : FR N N2 := fun c m1 m2 => (g1 c m1 m2).trans (f1 c m1 m2)
          generalize nm T n 1 (i + 1) 0 = r1 at *
          have b2 := nm_le T n 1 r1.2 0 (by omega)
          refine s_num (least := 1) (most := 1) (len := 3) (by omega) (by decide) t (by omega) (by decide) (fun Q' => x_len_12 (by omega)) (fun Q' => x_ch_12_1 rfl (by omega)) (by decide) (by decide) (by decide) g4 (fun z N' k1 k2 => ?_) (fun z N3 u4 u5 k1 k2 k3 k4 => ?_)
          · rw [if_neg z] at hR; exact hF _ N' hR.symm (fun c m1 m2 => (k1 c m1 m2).trans (g1 c m1 m2)) k2
          rw [if_pos z] at hR
          try dsimp only at hR
          replace k1 : FR N N3 := fun c m1 m2 => (k1 c m1 m2).trans (g1 c m1 m2)
          generalize nm T n 1 r1.2 0 = r2 at *
          unfold pM at hR
          refine s_mark (c := 59) (len := 3) (by omega) t (by omega) (by decide) (by decide) (fun Q' => x_len_12 (by omega)) (fun Q' => x_ch_12_2 rfl (by omega)) (by decide) (by decide) k4 (fun z => ?_) (fun z N4 u4 u5 l1 l2 l3 => ?_)
          · rw [if_neg z] at hR; exact hF _ N3 hR.symm k1 k4
          rw [if_pos z] at hR
          try dsimp only at hR
          refine s_end (len := 3) (by decide) (by decide) (fun Q' => x_len_12 (by omega)) ?_
          subst hR
          refine h N4 (fun c p1 p2 => (l1 c p1 p2).trans (k1 c p1 p2)) l3 (fun _ => ⟨fun _ => ?_, fun _ => ?_, fun w => ?_⟩)
          · rw [l2, k2 0 (by decide), g3]
          · rw [l2, k3]
          · rw [c3] at w; exact absurd w (by decide)
        · rw [if_neg (fun z => c3 z.2)] at hR
          by_cases c4 : T i = 104
          · rw [if_pos ⟨y, c4⟩] at hR
            rw [c4]
            refine g_m (by omega) 9 (fun e2 he2 => g_sw_of 53 (by decide) (g_to (start 13 (by decide) (fun N1 f1 f2 => ?_)) _ rfl))
            unfold pN at hR
            have b1 := nm_le T n 2 (i + 1) 0 (by omega)
            refine s_num (least := 1) (most := 2) (len := 4) (by omega) (by decide) t (by omega) (by decide) (fun Q' => x_len_13 (by omega)) (fun Q' => x_ch_13_0 rfl (by omega)) (by decide) (by decide) (by decide) f2 (fun z N' k1 k2 => ?_) (fun z N2 u4 u5 g1 g2 g3 g4 => ?_)
            · rw [if_neg z] at hR; exact hF _ N' hR.symm (fun c m1 m2 => (k1 c m1 m2).trans (f1 c m1 m2)) k2
            rw [if_pos z] at hR
            try dsimp only at hR
            replace g1 : FR N N2 := fun c m1 m2 => (g1 c m1 m2).trans (f1 c m1 m2)
            generalize nm T n 2 (i + 1) 0 = r1 at *
            unfold pM at hR
            refine s_mark (c := 44) (len := 4) (by omega) t (by omega) (by decide) (by decide) (fun Q' => x_len_13 (by omega)) (fun Q' => x_ch_13_1 rfl (by omega)) (by decide) (by decide) g4 (fun z => ?_) (fun z N3 u4 u5 l1 l2 l3 => ?_)
            · rw [if_neg z] at hR; exact hF _ N2 hR.symm g1 g4
            rw [if_pos z] at hR
            try dsimp only at hR
            replace l1 : FR N N3 := fun c m1 m2 => (l1 c m1 m2).trans (g1 c m1 m2)
            have b2 := nm_le T n 1 (r1.2 + 1) 0 (by omega)
            refine s_num (least := 1) (most := 1) (len := 4) (by omega) (by decide) t (by omega) (by decide) (fun Q' => x_len_13 (by omega)) (fun Q' => x_ch_13_2 rfl (by omega)) (by decide) (by decide) (by decide) l3 (fun z N' k1 k2 => ?_) (fun z N4 u4 u5 k1 k2 k3 k4 => ?_)
            · rw [if_neg z] at hR; exact hF _ N' hR.symm (fun c m1 m2 => (k1 c m1 m2).trans (l1 c m1 m2)) k2
            rw [if_pos z] at hR
            try dsimp only at hR
            replace k1 : FR N N4 := fun c m1 m2 => (k1 c m1 m2).trans (l1 c m1 m2)
            generalize nm T n 1 (r1.2 + 1) 0 = r2 at *
            refine s_mark (c := 59) (len := 4) (by omega) t (by omega) (by decide) (by decide) (fun Q' => x_len_13 (by omega)) (fun Q' => x_ch_13_3 rfl (by omega)) (by decide) (by decide) k4 (fun z => ?_) (fun z N5 u4 u5 q1 q2 q3 => ?_)
            · rw [if_neg z] at hR; exact hF _ N4 hR.symm k1 k4
            rw [if_pos z] at hR
            try dsimp only at hR
            refine s_end (len := 4) (by decide) (by decide) (fun Q' => x_len_13 (by omega)) ?_
            subst hR
            refine h N5 (fun c p1 p2 => (q1 c p1 p2).trans (k1 c p1 p2)) q3 (fun _ => ⟨fun _ => ?_, fun _ => ?_, fun w => ?_⟩)
            · rw [q2, k2 0 (by decide), l2, g3]
            · rw [q2, k3]
            · rw [c4] at w; exact absurd w (by decide)
          · rw [if_neg (fun z => c4 z.2)] at hR
            have nl : ∀ c : Nat, c < 256 → T i ≠ c → ¬ nI (T i) = nI c := fun c hc hn z => hn ((nI_eq (by omega) (by omega)).mp z)
            refine g_m (by omega) 9 (fun e2 he2 => ?_)
            refine ⟨fun z => absurd z (nl 104 (by decide) c4), fun _ => ⟨fun z => absurd z (nl 112 (by decide) c1), fun _ => ⟨fun z => absurd z (nl 118 (by decide) c3), fun _ => ⟨fun z => absurd z (nl 119 (by decide) c2), fun _ => ?_⟩⟩⟩⟩
            have r7 : g_Run (g_cal e) (g_mt S0 k_X3_readStatement) Q 7 [.ref 67, .null, .null, .null, .null, .null] [.retAddr 14] N := g_go_ 30 (x_emp_14 (by omega) (b_f (by decide) ⟨rfl, hF _ N hR.symm (fun _ _ _ => rfl) s⟩))
            exact g_to r7 _ rfl
  · have hs : sI T n i = -1 := by unfold sI; rw [if_neg y]
    rw [hs]
    rw [if_neg (fun z => y z.1), if_neg (fun z => y z.1), if_neg (fun z => y z.1), if_neg (fun z => y z.1)] at hR
    refine g_m (by omega) 9 (fun e2 he2 => g_sw_of 56 (by decide) ?_)
    have r7 : g_Run (g_cal e) (g_mt S0 k_X3_readStatement) Q 7 [.ref 67, .null, .null, .null, .null, .null] [.retAddr 14] N := g_go_ 30 (x_emp_14 (by omega) (b_f (by decide) ⟨rfl, hF _ N hR.symm (fun _ _ _ => rfl) s⟩))
    exact g_to r7 _ rfl
