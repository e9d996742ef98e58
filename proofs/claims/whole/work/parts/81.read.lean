/-! ===== garden: reading the tape ===== -/
def sI (T : Nat → Nat) (n i : Nat) : Int32 := if i < n then nI (T i) else -1
def dg (T : Nat → Nat) (n i : Nat) : Bool := decide (i < n) && (decide (48 ≤ T i) && decide (T i ≤ 57))
theorem dg_iff (T : Nat → Nat) (n i : Nat) : dg T n i = true ↔ i < n ∧ 48 ≤ T i ∧ T i ≤ 57 := by
  unfold dg
  rw [Bool.and_eq_true, Bool.and_eq_true, decide_eq_true_iff, decide_eq_true_iff, decide_eq_true_iff]
def nm (T : Nat → Nat) (n : Nat) : Nat → Nat → Nat → Nat × Nat
  | 0, i, v => (v, i)
  | m + 1, i, v => if dg T n i = true then nm T n m (i + 1) (v * 10 + T i - 48) else (v, i)
theorem nm_le (T : Nat → Nat) (n : Nat) : ∀ m i v, i ≤ n → i ≤ (nm T n m i v).2 ∧ (nm T n m i v).2 ≤ n ∧ (nm T n m i v).2 ≤ i + m
  | 0, i, v, h => ⟨Nat.le_refl _, h, by show i ≤ _; omega⟩
  | m + 1, i, v, h => by
    unfold nm
    by_cases c : dg T n i = true
    · rw [if_pos c]
      have := ((dg_iff T n i).mp c).1
      have := nm_le T n m (i + 1) (v * 10 + T i - 48) (by omega)
      omega
    · rw [if_neg c]; exact ⟨Nat.le_refl _, h, by show i ≤ _; omega⟩
theorem nm_v (T : Nat → Nat) (n : Nat) : ∀ m i v w, v ≤ w → (nm T n m i v).1 ≤ 10 ^ m * (w + 1) - 1
  | 0, i, v, w, h => by show v ≤ _; rw [Nat.pow_zero]; omega
  | m + 1, i, v, w, h => by
    unfold nm
    have hp : 0 < 10 ^ m := Nat.pow_pos (by decide)
    have h1 : 10 ^ m * (w + 1) ≤ 10 ^ (m + 1) * (w + 1) := Nat.mul_le_mul_right _ (Nat.pow_le_pow_right (by decide) (by omega))
    have h2 : w + 1 ≤ 10 ^ m * (w + 1) := Nat.le_mul_of_pos_left _ hp
    by_cases c : dg T n i = true
    · rw [if_pos c]
      have := ((dg_iff T n i).mp c).2.2
      have h3 := nm_v T n m (i + 1) (v * 10 + T i - 48) (w * 10 + 9) (by omega)
      rw [show w * 10 + 9 + 1 = 10 * (w + 1) by omega, ← Nat.mul_assoc, ← Nat.pow_succ] at h3
      exact h3
    · rw [if_neg c]; show v ≤ _; omega
def kd (c : Nat) : Nat := if c = 112 then 0 else if c = 107 then 1 else if c = 115 then 2 else if c = 103 then 3 else if c = 109 then 4 else if c = 110 then 5 else if c = 104 then 6 else if c = 100 then 7 else 9
abbrev RES := Bool × Nat × Nat × Nat × Nat
def pN (T : Nat → Nat) (n least most i : Nat) (k : Nat → Nat → RES) : RES := if least ≤ (nm T n most i 0).2 - i then k (nm T n most i 0).1 (nm T n most i 0).2 else (false, (nm T n most i 0).2, 0, 0, 0)
def pM (T : Nat → Nat) (n c i : Nat) (k : Nat → RES) : RES := if i < n ∧ T i = c then k (i + 1) else (false, i, 0, 0, 0)
def pK (T : Nat → Nat) (n i : Nat) (k : Nat → Nat → RES) : RES := if i < n ∧ kd (T i) < 8 then k (kd (T i)) (i + 1) else (false, i, 0, 0, 0)
def prs (T : Nat → Nat) (n i : Nat) : RES :=
  if i < n ∧ T i = 112 then pK T n (i + 1) (fun a i => pN T n 1 1 i (fun b i => pN T n 2 2 i (fun c i => pM T n 59 i (fun i => (true, i, a, b, c)))))
  else if i < n ∧ T i = 119 then pN T n 1 1 (i + 1) (fun a i => pN T n 1 1 i (fun b i => pM T n 44 i (fun i => pN T n 1 2 i (fun c i => pM T n 59 i (fun i => (true, i, a, b, c))))))
  else if i < n ∧ T i = 118 then pN T n 1 1 (i + 1) (fun a i => pN T n 1 1 i (fun b i => pM T n 59 i (fun i => (true, i, a, b, 0))))
  else if i < n ∧ T i = 104 then pN T n 1 2 (i + 1) (fun a i => pM T n 44 i (fun i => pN T n 1 1 i (fun b i => pM T n 59 i (fun i => (true, i, a, b, 0)))))
  else (false, i, 0, 0, 0)
/-- where the component's reader stands -/
def XS (N : g_M) (T : Nat → Nat) (n i : Nat) : Prop := N 67 2 = nI n ∧ (∀ j, j < n → N 68 j = nI (T j)) ∧ N 67 3 = nI i
def XT (T : Nat → Nat) (n : Nat) : Prop := n ≤ 64 ∧ ∀ j, j < n → T j < 256
theorem x_sign {d n i : Nat} {N : g_M} {Q : g_R} {T : Nat → Nat} (hd : 1 ≤ d) (t : XT T n) (hi : i ≤ n) (s : XS N T n i) (h : Q (some (.int (sI T n i))) N) : g_cal d k_X3_sign [.ref 67] N Q := by
  obtain ⟨t1, t2⟩ := t
  obtain ⟨s1, s2, s3⟩ := s
  unfold sI at h
  refine g_m hd 40 (fun e he => ?_)
  refine b_ge s3 s1 (by omega) (by omega) (fun y => ?_) (fun y => ?_)
  · rw [if_neg (by omega)] at h; exact h
  · rw [if_pos y, ← s2 i y] at h
    exact b_ge s3 (show (64 : Int32) = nI 64 from rfl) (by omega) (by decide) (fun z => by omega) (fun _ => ⟨i, s3, by omega, h⟩)
theorem x_keep {d k : Nat} {N : g_M} {Q : g_R} {x : Int32} (hd : 1 ≤ d) (hk : k < 3) (h : Q none (g_ms N 69 (upd (N 69) k x))) : g_cal d k_X3_keep [.ref 67, .int (nI k), .int x] N Q := by
  refine g_m hd 40 (fun e he => ?_)
  exact b_lt (b := 0) rfl rfl (by omega) (by decide) (fun y => by omega) (fun _ => b_ge (b := 3) rfl rfl (by omega) (by decide) (fun y => by omega) (fun _ => ⟨k, rfl, by omega, h⟩))
/-- what reading leaves as it was -/
def FR (M N : g_M) : Prop := ∀ c, c ≠ 67 → c ≠ 69 → N c = M c
theorem n_gt1' {x : Nat} (h : x < 2 ^ 31) : (-1 : Int32) < nI x := by
  rw [Int32.lt_iff_toInt_lt, show (-1 : Int32).toInt = -1 from by decide, nI_toInt h]
  omega
theorem x_readMark {d n i c : Nat} {N : g_M} {Q : g_R} {T : Nat → Nat} (hd : 2 ≤ d) (t : XT T n) (hi : i ≤ n) (hc : c < 256) (s : XS N T n i) (hno : ¬ (i < n ∧ T i = c) → Q (some (.int 0)) N) (hyes : i < n ∧ T i = c → ∀ N', FR N N' → N' 69 = N 69 → XS N' T n (i + 1) → Q (some (.int 1)) N') : g_cal d k_X3_readMark [.ref 67, .int (nI c)] N Q := by
  have t2 := t.2
  have s3 := s.2.2
  have t1 := t.1
  refine g_m (by omega) 40 (fun e he => x_sign (by omega) t hi s ?_)
  unfold sI
  by_cases y : i < n
  · rw [if_pos y]
    have := t2 i y
    refine b_eq rfl rfl (by omega) (by omega) (fun z => ⟨rfl, ?_⟩) (fun z => ⟨rfl, hno (fun w => z w.2)⟩)
    refine hyes ⟨y, z⟩ _ (fun c c1 c2 => g_ms_n c1) (g_ms_n (by decide)) ⟨by rw [g_ms_s]; exact s.1, fun j hj => by rw [g_ms_n (by decide)]; exact s.2.1 j hj, ?_⟩
    rw [g_ms_s]
    show N 67 3 + 1 = _
    rw [s3]; exact (nI_succ i).symm
  · rw [if_neg y]
    refine ⟨fun z => absurd z (fun w => ?_), fun _ => ⟨rfl, hno (fun w => y w.1)⟩⟩
    have := n_gt1' (x := c) (by omega)
    rw [← w] at this
    exact absurd this (by decide)
theorem x_readNumber {d n i least most slot : Nat} {N : g_M} {Q : g_R} {T : Nat → Nat} (hd : 2 ≤ d) (t : XT T n) (hi : i ≤ n) (hl : least ≤ 2) (hm : most ≤ 2) (hs : slot < 3) (s : XS N T n i) (hno : ¬ least ≤ (nm T n most i 0).2 - i → ∀ N', FR N N' → XS N' T n (nm T n most i 0).2 → Q (some (.int 0)) N') (hyes : least ≤ (nm T n most i 0).2 - i → ∀ N', FR N N' → (∀ k, k ≠ slot → N' 69 k = N 69 k) → N' 69 slot = nI (nm T n most i 0).1 → XS N' T n (nm T n most i 0).2 → Q (some (.int 1)) N') : g_cal d k_X3_readNumber [.ref 67, .int (nI least), .int (nI most), .int (nI slot)] N Q := by
  have t1 := t.1
  have t2 := t.2
  have vb := nm_le T n most i 0 hi
  generalize hR : nm T n most i 0 = R at hno hyes vb
  refine g_m (by omega) 5 (fun e he => ?_)
  have R61 : ∀ N', FR N N' → N' 69 = N 69 → XS N' T n R.2 → g_Run (g_cal e) (g_mt S0 k_X3_readNumber) Q 61 [.ref 67, .int (nI least), .int (nI most), .int (nI slot), .int (nI R.1), .int (nI (R.2 - i))] [] N' := by
    intro N' f1 f2 f3
    refine g_go_ 30 (x_keep (by omega) hs ?_)
    obtain ⟨N2, hN2⟩ : ∃ N2, N2 = g_ms N' 69 (upd (N' 69) slot (nI R.1)) := ⟨_, rfl⟩
    rw [← hN2]
    have g1 : FR N N2 := fun c c1 c2 => by rw [hN2, g_ms_n c2]; exact f1 c c1 c2
    have g2 : XS N2 T n R.2 := ⟨by rw [hN2, g_ms_n (by decide)]; exact f3.1, fun j hj => by rw [hN2, g_ms_n (by decide)]; exact f3.2.1 j hj, by rw [hN2, g_ms_n (by decide)]; exact f3.2.2⟩
    refine b_lt rfl rfl (by omega) (by omega) (fun y => ⟨rfl, hno (by omega) N2 g1 g2⟩) (fun y => ⟨rfl, hyes y N2 g1 (fun k hk => ?_) ?_ g2⟩)
    · rw [hN2, g_ms_s, upd, if_neg hk, f2]
    · rw [hN2, g_ms_s, upd, if_pos rfl]
  have loop : ∀ m j v' N', j + m = i + most → i ≤ j → j ≤ n → FR N N' → N' 69 = N 69 → XS N' T n j → nm T n m j v' = R → g_Run (g_cal e) (g_mt S0 k_X3_readNumber) Q 6 [.ref 67, .int (nI least), .int (nI most), .int (nI slot), .int (nI v'), .int (nI (j - i))] [] N' := by
    intro m
    induction m with
    | zero =>
      intro j v' N' hj hij hjn f1 f2 f3 f4
      have e1 : (v', j) = R := f4
      have e2 : R.1 = v' := by rw [← e1]
      have e3 : R.2 = j := by rw [← e1]
      rw [e2, e3] at R61
      exact g_go_ 20 (b_ge rfl rfl (by omega) (by omega) (fun _ => g_to (R61 N' f1 f2 f3) _ rfl) (fun y => by omega))
    | succ m ih =>
      intro j v' N' hj hij hjn f1 f2 f3 f4
      unfold nm at f4
      have stop : ¬ dg T n j = true → g_Run (g_cal e) (g_mt S0 k_X3_readNumber) Q 61 [.ref 67, .int (nI least), .int (nI most), .int (nI slot), .int (nI v'), .int (nI (j - i))] [] N' := fun c => by
        rw [if_neg c] at f4
        have e2 : R.1 = v' := by rw [← f4]
        have e3 : R.2 = j := by rw [← f4]
        rw [e2, e3] at R61
        exact R61 N' f1 f2 f3
      refine g_go_ 60 (b_ge rfl rfl (by omega) (by omega) (fun y => by omega) (fun _ => x_sign (by omega) t hjn f3 ?_))
      by_cases y : j < n
      · have hT := t2 j y
        have hs : sI T n j = nI (T j) := by unfold sI; rw [if_pos y]
        rw [hs]
        refine b_lt (b := 48) rfl rfl (by omega) (by decide) (fun z => g_to (stop (fun w => by have := (dg_iff T n j).mp w; omega)) _ rfl) (fun z => ?_)
        refine x_sign (by omega) t hjn f3 ?_
        rw [hs]
        refine b_gt (b := 57) rfl rfl (by omega) (by decide) (fun z2 => g_to (stop (fun w => by have := (dg_iff T n j).mp w; omega)) _ rfl) (fun z2 => ?_)
        refine x_sign (by omega) t hjn f3 ?_
        rw [hs]
        have c : dg T n j = true := (dg_iff T n j).mpr ⟨y, z, z2⟩
        rw [if_pos c] at f4
        obtain ⟨N2, hN2⟩ : ∃ N2, N2 = g_ms N' 67 (upd (N' 67) 3 (N' 67 3 + 1)) := ⟨_, rfl⟩
        have hR2 := ih (j + 1) (v' * 10 + T j - 48) N2 (by omega) (by omega) (by omega) (fun c c1 c2 => by rw [hN2, g_ms_n c1]; exact f1 c c1 c2) (by rw [hN2, g_ms_n (by decide)]; exact f2) ⟨by rw [hN2, g_ms_s]; exact f3.1, fun j hj => by rw [hN2, g_ms_n (by decide)]; exact f3.2.1 j hj, by rw [hN2, g_ms_s]; show N' 67 3 + 1 = _; rw [f3.2.2]; exact (nI_succ j).symm⟩ f4
        rw [show j + 1 - i = (j - i) + 1 by omega, nI_succ, hN2, ← (is (a := v' * 10 + T j) (b := 48) (by omega) (ia (im rfl rfl) rfl) rfl : nI v' * 10 + nI (T j) - 48 = _)] at hR2
        exact g_to hR2 _ rfl
      · have hs : sI T n j = -1 := by unfold sI; rw [if_neg y]
        rw [hs]
        exact b_t (by decide) (g_to (stop (fun w => y ((dg_iff T n j).mp w).1)) _ rfl)
  have hR2 := loop most i 0 N rfl (Nat.le_refl _) hi (fun _ _ _ => rfl) rfl s hR
  rw [Nat.sub_self] at hR2
  exact g_to hR2 _ rfl
