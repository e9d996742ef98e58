/-! ===== garden: texts ===== -/
theorem x_len_10 {d : Nat} {M : g_M} {Q : g_R} (hd : 2 ≤ d) (h : Q (some (.int 4)) M) : g_cal d k_J0_length [.retAddr 10] M Q :=
  g_m (by omega) 20 (fun e he => g_m (by omega) 20 (fun e2 he2 => b_f (by decide) ⟨rfl, h⟩))
theorem x_emp_10 {d : Nat} {M : g_M} {Q : g_R} (hd : 1 ≤ d) (h : Q (some (.int 0)) M) : g_cal d k_J0_isEmpty [.retAddr 10] M Q :=
  g_m (by omega) 20 (fun e he => b_nt (by decide) ⟨rfl, h⟩)
theorem x_len_11 {d : Nat} {M : g_M} {Q : g_R} (hd : 2 ≤ d) (h : Q (some (.int 5)) M) : g_cal d k_J0_length [.retAddr 11] M Q :=
  g_m (by omega) 20 (fun e he => g_m (by omega) 20 (fun e2 he2 => b_f (by decide) ⟨rfl, h⟩))
theorem x_emp_11 {d : Nat} {M : g_M} {Q : g_R} (hd : 1 ≤ d) (h : Q (some (.int 0)) M) : g_cal d k_J0_isEmpty [.retAddr 11] M Q :=
  g_m (by omega) 20 (fun e he => b_nt (by decide) ⟨rfl, h⟩)
theorem x_len_12 {d : Nat} {M : g_M} {Q : g_R} (hd : 2 ≤ d) (h : Q (some (.int 3)) M) : g_cal d k_J0_length [.retAddr 12] M Q :=
  g_m (by omega) 20 (fun e he => g_m (by omega) 20 (fun e2 he2 => b_f (by decide) ⟨rfl, h⟩))
theorem x_emp_12 {d : Nat} {M : g_M} {Q : g_R} (hd : 1 ≤ d) (h : Q (some (.int 0)) M) : g_cal d k_J0_isEmpty [.retAddr 12] M Q :=
  g_m (by omega) 20 (fun e he => b_nt (by decide) ⟨rfl, h⟩)
theorem x_len_13 {d : Nat} {M : g_M} {Q : g_R} (hd : 2 ≤ d) (h : Q (some (.int 4)) M) : g_cal d k_J0_length [.retAddr 13] M Q :=
  g_m (by omega) 20 (fun e he => g_m (by omega) 20 (fun e2 he2 => b_f (by decide) ⟨rfl, h⟩))
theorem x_emp_13 {d : Nat} {M : g_M} {Q : g_R} (hd : 1 ≤ d) (h : Q (some (.int 0)) M) : g_cal d k_J0_isEmpty [.retAddr 13] M Q :=
  g_m (by omega) 20 (fun e he => b_nt (by decide) ⟨rfl, h⟩)
theorem x_len_14 {d : Nat} {M : g_M} {Q : g_R} (hd : 2 ≤ d) (h : Q (some (.int 0)) M) : g_cal d k_J0_length [.retAddr 14] M Q :=
  g_m (by omega) 20 (fun e he => g_m (by omega) 20 (fun e2 he2 => b_f (by decide) ⟨rfl, h⟩))
theorem x_emp_14 {d : Nat} {M : g_M} {Q : g_R} (hd : 1 ≤ d) (h : Q (some (.int 1)) M) : g_cal d k_J0_isEmpty [.retAddr 14] M Q :=
  g_m (by omega) 20 (fun e he => b_nf rfl ⟨rfl, h⟩)
theorem x_chk {d j n : Nat} {M : g_M} {Q : g_R} (hd : 2 ≤ d) (hj : j < n) (hn : n < 1000) (h : Q none M) : g_cal d k_J0_checkIndex [.int (nI j), .int (nI n)] M Q := by
  have c : ∀ (e : Nat) (v : Value) (Q' : g_R), (v = .null ∨ v = .retAddr 40) → 1 ≤ e → Q' (some (.int (nI j))) M → g_cal e k_J3_checkIndex [.int (nI j), .int (nI n), v] M Q' := fun e v Q' hv he hq => by
    rcases hv with rfl | rfl
    all_goals exact g_m he 20 (fun e2 he2 => b_lt (b := 0) rfl rfl (by omega) (by decide) (fun y => by omega) (fun _ => b_lt rfl rfl (by omega) (by omega) (fun _ => hq) (fun y => by omega)))
  exact g_m (by omega) 20 (fun e he => ⟨c e _ _ (Or.inl rfl) (by omega) h, c e _ _ (Or.inr rfl) (by omega) h⟩)
theorem x_lat {d : Nat} {M : g_M} {Q : g_R} (k : Nat) (hk : k = 10 ∨ k = 11 ∨ k = 12 ∨ k = 13 ∨ k = 15) (hd : 1 ≤ d) (h : Q (some (.int 1)) M) : g_cal d k_J0_isLatin1 [.retAddr k] M Q := by
  rcases hk with rfl | rfl | rfl | rfl | rfl
  all_goals exact g_m hd 20 (fun e he => b_f (by decide) (b_nf rfl ⟨rfl, h⟩))
theorem x_ch_10_0 {d : Nat} {M : g_M} {Q : g_R} {x : Int32} (hx : x = nI 0) (hd : 4 ≤ d) (h : Q (some (.int 75)) M) : g_cal d k_J0_charAt [.retAddr 10, .int x] M Q := by
  subst hx
  refine g_m (by omega) 20 (fun e he => x_lat 10 (by decide) (by omega) (b_f (by decide) (g_m (by omega) 20 (fun e2 he2 => x_chk (n := 4) (by omega) (by decide) (by decide) ⟨0, rfl, by decide, by decide, by decide, ?_⟩))))
  exact h
theorem x_ch_10_1 {d : Nat} {M : g_M} {Q : g_R} {x : Int32} (hx : x = nI 1) (hd : 4 ≤ d) (h : Q (some (.int 68)) M) : g_cal d k_J0_charAt [.retAddr 10, .int x] M Q := by
  subst hx
  refine g_m (by omega) 20 (fun e he => x_lat 10 (by decide) (by omega) (b_f (by decide) (g_m (by omega) 20 (fun e2 he2 => x_chk (n := 4) (by omega) (by decide) (by decide) ⟨1, rfl, by decide, by decide, by decide, ?_⟩))))
  exact h
theorem x_ch_10_2 {d : Nat} {M : g_M} {Q : g_R} {x : Int32} (hx : x = nI 2) (hd : 4 ≤ d) (h : Q (some (.int 84)) M) : g_cal d k_J0_charAt [.retAddr 10, .int x] M Q := by
  subst hx
  refine g_m (by omega) 20 (fun e he => x_lat 10 (by decide) (by omega) (b_f (by decide) (g_m (by omega) 20 (fun e2 he2 => x_chk (n := 4) (by omega) (by decide) (by decide) ⟨2, rfl, by decide, by decide, by decide, ?_⟩))))
  exact h
theorem x_ch_10_3 {d : Nat} {M : g_M} {Q : g_R} {x : Int32} (hx : x = nI 3) (hd : 4 ≤ d) (h : Q (some (.int 59)) M) : g_cal d k_J0_charAt [.retAddr 10, .int x] M Q := by
  subst hx
  refine g_m (by omega) 20 (fun e he => x_lat 10 (by decide) (by omega) (b_f (by decide) (g_m (by omega) 20 (fun e2 he2 => x_chk (n := 4) (by omega) (by decide) (by decide) ⟨3, rfl, by decide, by decide, by decide, ?_⟩))))
  exact h
theorem x_ch_11_0 {d : Nat} {M : g_M} {Q : g_R} {x : Int32} (hx : x = nI 0) (hd : 4 ≤ d) (h : Q (some (.int 68)) M) : g_cal d k_J0_charAt [.retAddr 11, .int x] M Q := by
  subst hx
  refine g_m (by omega) 20 (fun e he => x_lat 11 (by decide) (by omega) (b_f (by decide) (g_m (by omega) 20 (fun e2 he2 => x_chk (n := 5) (by omega) (by decide) (by decide) ⟨0, rfl, by decide, by decide, by decide, ?_⟩))))
  exact h
theorem x_ch_11_1 {d : Nat} {M : g_M} {Q : g_R} {x : Int32} (hx : x = nI 1) (hd : 4 ≤ d) (h : Q (some (.int 68)) M) : g_cal d k_J0_charAt [.retAddr 11, .int x] M Q := by
  subst hx
  refine g_m (by omega) 20 (fun e he => x_lat 11 (by decide) (by omega) (b_f (by decide) (g_m (by omega) 20 (fun e2 he2 => x_chk (n := 5) (by omega) (by decide) (by decide) ⟨1, rfl, by decide, by decide, by decide, ?_⟩))))
  exact h
theorem x_ch_11_2 {d : Nat} {M : g_M} {Q : g_R} {x : Int32} (hx : x = nI 2) (hd : 4 ≤ d) (h : Q (some (.int 44)) M) : g_cal d k_J0_charAt [.retAddr 11, .int x] M Q := by
  subst hx
  refine g_m (by omega) 20 (fun e he => x_lat 11 (by decide) (by omega) (b_f (by decide) (g_m (by omega) 20 (fun e2 he2 => x_chk (n := 5) (by omega) (by decide) (by decide) ⟨2, rfl, by decide, by decide, by decide, ?_⟩))))
  exact h
theorem x_ch_11_3 {d : Nat} {M : g_M} {Q : g_R} {x : Int32} (hx : x = nI 3) (hd : 4 ≤ d) (h : Q (some (.int 78)) M) : g_cal d k_J0_charAt [.retAddr 11, .int x] M Q := by
  subst hx
  refine g_m (by omega) 20 (fun e he => x_lat 11 (by decide) (by omega) (b_f (by decide) (g_m (by omega) 20 (fun e2 he2 => x_chk (n := 5) (by omega) (by decide) (by decide) ⟨3, rfl, by decide, by decide, by decide, ?_⟩))))
  exact h
theorem x_ch_11_4 {d : Nat} {M : g_M} {Q : g_R} {x : Int32} (hx : x = nI 4) (hd : 4 ≤ d) (h : Q (some (.int 59)) M) : g_cal d k_J0_charAt [.retAddr 11, .int x] M Q := by
  subst hx
  refine g_m (by omega) 20 (fun e he => x_lat 11 (by decide) (by omega) (b_f (by decide) (g_m (by omega) 20 (fun e2 he2 => x_chk (n := 5) (by omega) (by decide) (by decide) ⟨4, rfl, by decide, by decide, by decide, ?_⟩))))
  exact h
theorem x_ch_12_0 {d : Nat} {M : g_M} {Q : g_R} {x : Int32} (hx : x = nI 0) (hd : 4 ≤ d) (h : Q (some (.int 68)) M) : g_cal d k_J0_charAt [.retAddr 12, .int x] M Q := by
  subst hx
  refine g_m (by omega) 20 (fun e he => x_lat 12 (by decide) (by omega) (b_f (by decide) (g_m (by omega) 20 (fun e2 he2 => x_chk (n := 3) (by omega) (by decide) (by decide) ⟨0, rfl, by decide, by decide, by decide, ?_⟩))))
  exact h
theorem x_ch_12_1 {d : Nat} {M : g_M} {Q : g_R} {x : Int32} (hx : x = nI 1) (hd : 4 ≤ d) (h : Q (some (.int 68)) M) : g_cal d k_J0_charAt [.retAddr 12, .int x] M Q := by
  subst hx
  refine g_m (by omega) 20 (fun e he => x_lat 12 (by decide) (by omega) (b_f (by decide) (g_m (by omega) 20 (fun e2 he2 => x_chk (n := 3) (by omega) (by decide) (by decide) ⟨1, rfl, by decide, by decide, by decide, ?_⟩))))
  exact h
theorem x_ch_12_2 {d : Nat} {M : g_M} {Q : g_R} {x : Int32} (hx : x = nI 2) (hd : 4 ≤ d) (h : Q (some (.int 59)) M) : g_cal d k_J0_charAt [.retAddr 12, .int x] M Q := by
  subst hx
  refine g_m (by omega) 20 (fun e he => x_lat 12 (by decide) (by omega) (b_f (by decide) (g_m (by omega) 20 (fun e2 he2 => x_chk (n := 3) (by omega) (by decide) (by decide) ⟨2, rfl, by decide, by decide, by decide, ?_⟩))))
  exact h
theorem x_ch_13_0 {d : Nat} {M : g_M} {Q : g_R} {x : Int32} (hx : x = nI 0) (hd : 4 ≤ d) (h : Q (some (.int 78)) M) : g_cal d k_J0_charAt [.retAddr 13, .int x] M Q := by
  subst hx
  refine g_m (by omega) 20 (fun e he => x_lat 13 (by decide) (by omega) (b_f (by decide) (g_m (by omega) 20 (fun e2 he2 => x_chk (n := 4) (by omega) (by decide) (by decide) ⟨0, rfl, by decide, by decide, by decide, ?_⟩))))
  exact h
theorem x_ch_13_1 {d : Nat} {M : g_M} {Q : g_R} {x : Int32} (hx : x = nI 1) (hd : 4 ≤ d) (h : Q (some (.int 44)) M) : g_cal d k_J0_charAt [.retAddr 13, .int x] M Q := by
  subst hx
  refine g_m (by omega) 20 (fun e he => x_lat 13 (by decide) (by omega) (b_f (by decide) (g_m (by omega) 20 (fun e2 he2 => x_chk (n := 4) (by omega) (by decide) (by decide) ⟨1, rfl, by decide, by decide, by decide, ?_⟩))))
  exact h
theorem x_ch_13_2 {d : Nat} {M : g_M} {Q : g_R} {x : Int32} (hx : x = nI 2) (hd : 4 ≤ d) (h : Q (some (.int 68)) M) : g_cal d k_J0_charAt [.retAddr 13, .int x] M Q := by
  subst hx
  refine g_m (by omega) 20 (fun e he => x_lat 13 (by decide) (by omega) (b_f (by decide) (g_m (by omega) 20 (fun e2 he2 => x_chk (n := 4) (by omega) (by decide) (by decide) ⟨2, rfl, by decide, by decide, by decide, ?_⟩))))
  exact h
theorem x_ch_13_3 {d : Nat} {M : g_M} {Q : g_R} {x : Int32} (hx : x = nI 3) (hd : 4 ≤ d) (h : Q (some (.int 59)) M) : g_cal d k_J0_charAt [.retAddr 13, .int x] M Q := by
  subst hx
  refine g_m (by omega) 20 (fun e he => x_lat 13 (by decide) (by omega) (b_f (by decide) (g_m (by omega) 20 (fun e2 he2 => x_chk (n := 4) (by omega) (by decide) (by decide) ⟨3, rfl, by decide, by decide, by decide, ?_⟩))))
  exact h
