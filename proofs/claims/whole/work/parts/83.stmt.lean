/-! ===== garden: the component reads a statement ===== -/
theorem i8_112 : ∀ c, c < 256 → (((112 : Int32) = (nI c).toInt8.toInt32) ↔ c = 112) := by decide +kernel
theorem i8_107 : ∀ c, c < 256 → (((107 : Int32) = (nI c).toInt8.toInt32) ↔ c = 107) := by decide +kernel
theorem i8_115 : ∀ c, c < 256 → (((115 : Int32) = (nI c).toInt8.toInt32) ↔ c = 115) := by decide +kernel
theorem i8_103 : ∀ c, c < 256 → (((103 : Int32) = (nI c).toInt8.toInt32) ↔ c = 103) := by decide +kernel
theorem i8_109 : ∀ c, c < 256 → (((109 : Int32) = (nI c).toInt8.toInt32) ↔ c = 109) := by decide +kernel
theorem i8_110 : ∀ c, c < 256 → (((110 : Int32) = (nI c).toInt8.toInt32) ↔ c = 110) := by decide +kernel
theorem i8_104 : ∀ c, c < 256 → (((104 : Int32) = (nI c).toInt8.toInt32) ↔ c = 104) := by decide +kernel
theorem i8_100 : ∀ c, c < 256 → (((100 : Int32) = (nI c).toInt8.toInt32) ↔ c = 100) := by decide +kernel
theorem i2c_c : ∀ c, c < 256 → ((nI c).toUInt32 % 65536).toInt32 = nI c := by decide +kernel
theorem x_len_15 {d : Nat} {M : g_M} {Q : g_R} (hd : 2 ≤ d) (h : Q (some (.int 8)) M) : g_cal d k_J0_length [.retAddr 15] M Q :=
  g_m (by omega) 20 (fun e he => g_m (by omega) 20 (fun e2 he2 => b_f (by decide) ⟨rfl, h⟩))
theorem x_index {d c : Nat} {M : g_M} {Q : g_R} (hd : 5 ≤ d) (hc : c < 256) (h : Q (some (.int (if kd c < 8 then nI (kd c) else -1))) M) : g_cal d k_J0_indexOf [.retAddr 15, .int (nI c)] M Q := by
  have ic : ∀ (e : Nat) (Q' : g_R), 1 ≤ e → Q' (some (.int (if kd c < 8 then nI (kd c) else -1))) M → g_cal e k_J1_indexOfChar [.retAddr 25, .int (nI c), .int 0, .int 8] M Q' := fun e Q' he hq => by
    refine g_m he 120 (fun e2 he2 => ?_)
    exact b_f (by decide) ⟨0, by decide, by decide, fun z0 => b_f (by decide) ⟨1, by decide, by decide, fun z1 => b_f (by decide) ⟨2, by decide, by decide, fun z2 => b_f (by decide) ⟨3, by decide, by decide, fun z3 => b_f (by decide) ⟨4, by decide, by decide, fun z4 => b_f (by decide) ⟨5, by decide, by decide, fun z5 => b_f (by decide) ⟨6, by decide, by decide, fun z6 => b_f (by decide) ⟨7, by decide, by decide, fun z7 => b_t (by decide) (by
      have hk : kd c = 9 := by
        unfold kd
        rw [if_neg (fun w => z0 ((i8_112 c hc).mpr w)), if_neg (fun w => z1 ((i8_107 c hc).mpr w)), if_neg (fun w => z2 ((i8_115 c hc).mpr w)), if_neg (fun w => z3 ((i8_103 c hc).mpr w)), if_neg (fun w => z4 ((i8_109 c hc).mpr w)), if_neg (fun w => z5 ((i8_110 c hc).mpr w)), if_neg (fun w => z6 ((i8_104 c hc).mpr w)), if_neg (fun w => z7 ((i8_100 c hc).mpr w))]
      rw [hk, if_neg (by decide)] at hq
      exact hq), fun z7 => by
      have hk : c = 100 := (i8_100 c hc).mp z7
      subst hk
      rw [show (if kd 100 < 8 then nI (kd 100) else (-1 : Int32)) = 7 from by decide] at hq
      exact hq⟩, fun z6 => by
      have hk : c = 104 := (i8_104 c hc).mp z6
      subst hk
      rw [show (if kd 104 < 8 then nI (kd 104) else (-1 : Int32)) = 6 from by decide] at hq
      exact hq⟩, fun z5 => by
      have hk : c = 110 := (i8_110 c hc).mp z5
      subst hk
      rw [show (if kd 110 < 8 then nI (kd 110) else (-1 : Int32)) = 5 from by decide] at hq
      exact hq⟩, fun z4 => by
      have hk : c = 109 := (i8_109 c hc).mp z4
      subst hk
      rw [show (if kd 109 < 8 then nI (kd 109) else (-1 : Int32)) = 4 from by decide] at hq
      exact hq⟩, fun z3 => by
      have hk : c = 103 := (i8_103 c hc).mp z3
      subst hk
      rw [show (if kd 103 < 8 then nI (kd 103) else (-1 : Int32)) = 3 from by decide] at hq
      exact hq⟩, fun z2 => by
      have hk : c = 115 := (i8_115 c hc).mp z2
      subst hk
      rw [show (if kd 115 < 8 then nI (kd 115) else (-1 : Int32)) = 2 from by decide] at hq
      exact hq⟩, fun z1 => by
      have hk : c = 107 := (i8_107 c hc).mp z1
      subst hk
      rw [show (if kd 107 < 8 then nI (kd 107) else (-1 : Int32)) = 1 from by decide] at hq
      exact hq⟩, fun z0 => by
      have hk : c = 112 := (i8_112 c hc).mp z0
      subst hk
      rw [show (if kd 112 < 8 then nI (kd 112) else (-1 : Int32)) = 0 from by decide] at hq
      exact hq⟩
  have io : ∀ (e : Nat) (Q' : g_R), 2 ≤ e → Q' (some (.int (if kd c < 8 then nI (kd c) else -1))) M → g_cal e k_J1_indexOf [.retAddr 25, .int (nI c), .int 0, .int 8] M Q' := fun e Q' he hq => by
    refine g_m (by omega) 40 (fun e2 he2 => ?_)
    refine g_m (by omega) 20 (fun e3 he3 => b_lt (b := 0) rfl rfl (by omega) (by decide) (fun y => by omega) (fun _ => b_gt (b := 255) rfl rfl (by omega) (by decide) (fun y => by omega) (fun _ => ⟨rfl, ?_⟩)))
    refine b_nt (by decide) (b_t (by decide) ?_)
    exact ic e2 _ (by omega) hq
  exact g_m (by omega) 20 (fun e he => g_m (by omega) 40 (fun e2 he2 => x_lat 15 (by decide) (by omega) (b_f (by decide) (x_len_15 (by omega) (io e2 _ (by omega) h)))))
theorem x_readKind {d n i : Nat} {N : g_M} {Q : g_R} {T : Nat → Nat} (hd : 7 ≤ d) (t : XT T n) (hi : i ≤ n) (s : XS N T n i) (hno : ¬ (i < n ∧ kd (T i) < 8) → Q (some (.int 0)) N) (hyes : i < n ∧ kd (T i) < 8 → ∀ N', FR N N' → (∀ k, k ≠ 0 → N' 69 k = N 69 k) → N' 69 0 = nI (kd (T i)) → XS N' T n (i + 1) → Q (some (.int 1)) N') : g_cal d k_X3_readKind [.ref 67, .int (nI 0)] N Q := by
  have t2 := t.2
  have s3 := s.2.2
  have t1 := t.1
  refine g_m (by omega) 60 (fun e he => x_sign (by omega) t hi s ?_)
  unfold sI
  by_cases y : i < n
  · rw [if_pos y]
    have hT := t2 i y
    refine b_ge (b := 0) rfl rfl (by omega) (by decide) (fun _ => ?_) (fun z => by omega)
    have cx : ∀ Q' : g_R, Q' (some (.int (if kd (T i) < 8 then nI (kd (T i)) else -1))) N → g_cal e k_J0_indexOf [.retAddr 15, .int (((nI (T i)).toUInt32 % 65536).toInt32)] N Q' := fun Q' hq => by
      rw [i2c_c _ hT]; exact x_index (by omega) hT hq
    refine cx _ ?_
    by_cases k : kd (T i) < 8
    · rw [if_pos k]
      refine b_ge (b := 0) rfl rfl (by omega) (by decide) (fun _ => x_keep (k := 0) (by omega) (by decide) ?_) (fun z => by omega)
      obtain ⟨N1, hN1⟩ : ∃ N1, N1 = g_ms N 69 (upd (N 69) 0 (nI (kd (T i)))) := ⟨_, rfl⟩
      rw [← hN1]
      refine ⟨rfl, hyes ⟨y, k⟩ _ (fun c c1 c2 => by rw [g_ms_n c1, hN1, g_ms_n c2]) (fun k hk => by rw [g_ms_n (by decide), hN1, g_ms_s, upd, if_neg hk]) (by rw [g_ms_n (by decide), hN1, g_ms_s]; rfl) ⟨by rw [g_ms_s]; show N1 67 2 = _; rw [hN1, g_ms_n (by decide)]; exact s.1, fun j hj => by rw [g_ms_n (by decide), hN1, g_ms_n (by decide)]; exact s.2.1 j hj, ?_⟩⟩
      rw [g_ms_s]
      show N1 67 3 + 1 = _
      rw [hN1, g_ms_n (by decide), s3]; exact (nI_succ i).symm
    · rw [if_neg k]
      exact b_f (by decide) ⟨rfl, hno (fun w => k w.2)⟩
  · rw [if_neg y]
    exact b_f (by decide) (b_f (by decide) ⟨rfl, hno (fun w => y w.1)⟩)
/-- what a statement's end leaves: the reader, the values -/
def VX (N : g_M) (R : RES) (j : Nat) : Prop := (0 < j → N 69 0 = nI R.2.2.1) ∧ (1 < j → N 69 1 = nI R.2.2.2.1) ∧ (2 < j → N 69 2 = nI R.2.2.2.2)
def nval (c : Nat) : Nat := if c = 112 ∨ c = 119 then 3 else 2
