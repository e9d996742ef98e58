/-! ===== bestOrder ===== -/
def oa (a : Nat → Nat) (k o : Nat) : Nat → Nat := fun j => if j = 3 then k else if 114 ≤ j ∧ j < 114 + k then ol k o (j - 114) else a j
theorem oa_3 (a : Nat → Nat) (k o : Nat) : oa a k o 3 = k := by unfold oa; rw [if_pos rfl]
theorem oa_i {a : Nat → Nat} {k o i : Nat} (h : i < k) : oa a k o (114 + i) = ol k o i := by unfold oa; rw [if_neg (by omega), if_pos (by omega), show 114 + i - 114 = i by omega]
theorem oa_n {a : Nat → Nat} {k o j : Nat} (h : j ≠ 3) (h2 : j < 114 ∨ 114 + k ≤ j) : oa a k o j = a j := by unfold oa; rw [if_neg h, if_neg (by omega)]
theorem oa_v {a : Nat → Nat} {k o : Nat} (v : V1 a) (v2 : V2 a) (hk : k < 5) (ka : k < a 0) (ho : o < om k) : V1 (oa a k o) ∧ V2 (oa a k o) := by
  constructor
  · refine v.co (fun j => ?_) (fun j hj => oa_n (by omega) (by omega))
    unfold oa
    split
    · omega
    · split
      · have := (ol_b k hk o ho (j - 114) (by omega)).2; omega
      · exact v.2.2.2.2.1 j
  · obtain ⟨q1, q2, q3, q4, q5, q6, q7, q8, q9, q10, q11⟩ := v2
    unfold V2
    rw [oa_n (j := 9) (by decide) (by omega), oa_n (j := 10) (by decide) (by omega), oa_n (j := 11) (by decide) (by omega), oa_n (j := 12) (by decide) (by omega), oa_n (j := 13) (by decide) (by omega), oa_n (j := 14) (by decide) (by omega), oa_n (j := 15) (by decide) (by omega), oa_n (j := 0) (by decide) (by omega), oa_3]
    refine ⟨q1, q2, q3, q4, q5, q6, q7, q8, q9, by omega, fun i hi => ?_⟩
    rw [oa_i hi]
    have := ol_b k hk o ho i hi
    omega
theorem oa_cw {M : g_M} {a : Nat → Nat} {k o : Nat} (v : V1 a) (g1 : GX1 M 2 a) (g2 : GX2 M 2 a) (h1 : ∀ j, j < 7 → M 58 j = nI (a (9 + j))) (h2 : M 57 2 = nI k) (h3 : ∀ i, i < k → M 59 i = nI (ol k o i)) : CW M 57 (oa a k o) := by
  refine ⟨g1.co v (fun c _ _ => rfl) (oa_n (by decide) (by omega)) (oa_n (by decide) (by omega)) (oa_n (by decide) (by omega)) (fun j h1 h2 => oa_n (by omega) (by omega)), g2.co v (fun c _ _ => rfl) (oa_n (by decide) (by omega)) (oa_n (by decide) (by omega)) (oa_n (by decide) (by omega)) (fun j h1 h2 => oa_n (by omega) (by omega)) (fun p hp => oa_n (by omega) (by have := v.2.1; omega)), fun j hj => ?_, ?_, fun i hi => ?_⟩
  · rw [oa_n (by omega) (by omega)]; exact h1 j hj
  · rw [oa_3]; exact h2
  · rw [oa_3] at hi
    rw [oa_i hi]; exact h3 i hi
theorem x_takeRow {d k : Nat} {M : g_M} {Q : g_R} {row : Nat → Nat} (hd : 1 ≤ d) (hk : k ≤ 4) (hr : RW M k row) (h : ∀ N, (∀ c, c ≠ 57 → c ≠ 59 → N c = M c) → N 57 2 = nI k → (∀ i, i < k → N 59 i = nI (row i)) → Q none N) : g_cal d k_X7_takeRow [.ref 57, .ref 78, .int (nI k)] M Q := by
  have hm : (if (4 : Int32) < nI k then (4 : Int32) else nI k) = nI k := by
    rw [if_neg (fun z => by have := (ilt (a := 4) (b := k) rfl rfl (by decide) (by omega)).mp z; omega)]
  refine g_m hd 60 (fun e he => ?_)
  obtain ⟨N1, hN1⟩ : ∃ N1, N1 = g_ms M 57 (upd (M 57) 2 (nI k)) := ⟨_, rfl⟩
  have r9 : g_Run (g_cal e) (g_mt S0 k_X7_takeRow) Q 9 [.ref 57, .ref 78, .int (nI k)] [] N1 := by
    refine g_go_ 20 ⟨0, 0, k, rfl, rfl, by rw [hN1, g_ms_s]; rfl, by omega, by omega, ?_⟩
    refine h _ (fun c c1 c2 => by rw [g_ms_n c2, hN1, g_ms_n c1]) (by rw [g_ms_n (by decide), hN1, g_ms_s]; rfl) (fun i hi => ?_)
    rw [g_ms_s]
    have : va_cpy (N1 78) (N1 59) 0 0 k i = N1 78 i := by
      unfold va_cpy
      simp
      omega
    rw [this, hN1, g_ms_n (by decide)]
    exact hr i hi
  have r9' : g_Run (g_cal e) (g_mt S0 k_X7_takeRow) Q 9 [.ref 57, .ref 78, .int (nI k)] [] (g_ms M 57 (upd (M 57) 2 (if (4 : Int32) < nI k then (4 : Int32) else nI k))) := by rw [hm, ← hN1]; exact r9
  exact g_to r9' _ rfl
/-- all that counts is as before -/
theorem Inv.fr2 {n : Nat} {K P : g_M} (I : Inv n K) (kc : ∀ c, c < 57 ∨ c = 67 ∨ c = 68 ∨ c = 80 ∨ c = 81 ∨ c = 83 ∨ c = 85 ∨ c = 87 ∨ c = 106 → P c = K c) (p84 : ∀ k, k < 154 → P 84 k = K 84 k) (k7 : P 82 7 = K 82 7) (k37 : P 82 37 = K 82 37) (k4 : P 82 4 = K 82 4) : Inv n P := by
  obtain ⟨a', hv', hX', hM', hO', hI'⟩ := I
  refine ⟨a', hv', hX'.fr (fun c h1 h2 => kc c (by omega)), fun k hk => by rw [p84 k hk]; exact hM' k hk, ?_, fun y => ?_⟩
  · unfold OX at hO' ⊢
    rw [kc 67 (by decide), kc 68 (by decide), kc 87 (by decide), kc 0 (by decide), kc 80 (by decide), kc 106 (by decide), kc 81 (by decide), kc 83 (by decide), k7, k37, k4]
    exact hO'
  · rw [kc 0 (by decide)] at y
    obtain ⟨b, b1, b2', b3⟩ := hI' y
    exact ⟨b, b1, b2'.fr (fun c h1 h2 => kc c (by omega)), b3.fr (kc 85 (by decide))⟩
def boF (a : Nat → Nat) (k m : Nat) (z : Int32) (o : Nat) : Nat := fnd (oa a k o) m z
theorem boF_le {a : Nat → Nat} (v : V1 a) (k m : Nat) (z : Int32) (o : Nat) (hm : m ≤ 5) : boF a k m z o ≤ 40 := by
  have b2 : a 2 ≤ 8 := v.2.2.2.1
  have := fnd_le (oa a k o) m z (by rw [oa_n (by decide) (by omega)]; exact b2)
  unfold boF
  omega
/-- the answer -/
def boR (k G : Nat) (f : Nat → Nat) (i : Int32) (r : Int32) : Prop := (i < 0 ∧ r = nI (f G)) ∨ (∃ j, i = nI j ∧ j < k ∧ r = nI (ol k G j)) ∨ (¬ i < 0 ∧ nI k ≤ i ∧ r = -9)
