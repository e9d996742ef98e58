/-! ===== game, taken ===== -/
theorem e_ref2 {n j : Nat} {M N : g_M} (I : Inv n M) (hj : j < 7) (s : Sm (g_ms M 81 (upd (M 81) j (M 81 j + 1))) N) : Inv (n + 1) (g_ms N 83 (upd (N 83) j (N 83 j + 1))) := by
  have I1 := (e_ref I hj (c := 0)).2
  refine I1.fr ⟨fun c hc => ?_, ?_, ?_, ?_, ?_⟩
  · by_cases h : c = 83
    · subst h
      rw [g_ms_s, g_ms_s, s.1 83 (by decide)]
    · rw [g_ms_n h, g_ms_n h]; exact s.1 c hc
  · rw [g_ms_n (by decide), g_ms_n (by decide)]; exact s.2.1
  · rw [g_ms_n (by decide), g_ms_n (by decide)]; exact s.2.2.1
  · rw [g_ms_n (by decide), g_ms_n (by decide)]; exact s.2.2.2.1
  · rw [g_ms_n (by decide), g_ms_n (by decide)]; exact s.2.2.2.2
theorem x_distNo {d : Nat} {M : g_M} {Q : g_R} {a : Nat → Nat} (hd : 1 ≤ d) (v : V1 a) (g1 : GX1 M 2 a) (p q : Nat) (hp : p < a 0) (hq : a 0 ≤ q) (hq2 : q < 2 ^ 31) (h : Q (some (.int (-9))) M) : g_cal d k_X1_distance [.ref 2, .int (nI p), .int (nI q)] M Q := by
  have b0 : a 0 ≤ 8 := v.2.1
  refine g_m hd 60 (fun e he => ?_)
  refine b_lt (b := 0) rfl rfl (by omega) (by decide) (fun z => by omega) (fun _ => b_ge rfl g1.1 (by omega) (by omega) (fun z => by omega) (fun _ => ?_))
  exact b_lt (b := 0) rfl rfl (by omega) (by decide) (fun z => by omega) (fun _ => b_ge rfl g1.1 (by omega) (by omega) (fun z => h) (fun _ => by omega))
theorem x_canCome {d k : Nat} {M : g_M} {Q : g_R} {a : Nat → Nat} (hd : 2 ≤ d) (hk : k < 5) (v : V1 a) (g1 : GX1 M 2 a) (g2 : GX2 M 2 a) (h : fin a k ∨ (k = 0) → Q (some (.int 1)) M) (h2 : ¬ fin a k → Q (some (.int 0)) M) : g_cal d k_X1_canComeToFirst [.ref 2, .int (nI k)] M Q := by
  have b0 : a 0 ≤ 8 := v.2.1
  have b1 : 1 ≤ a 0 := v.1
  refine g_m (by omega) 3 (fun e he => ?_)
  have loop : ∀ m p, p + m = k + 1 → 1 ≤ p → (∀ q, 1 ≤ q → q < p → q < a 0 ∧ ds a 0 q < 100000) → g_Run (g_cal e) (g_mt S0 k_X1_canComeToFirst) Q 2 [.ref 2, .int (nI k), .int (nI p)] [] M := by
    intro m
    induction m with
    | zero =>
      intro p hp hp1 f1
      have hq : Q (some (.int 1)) M := h (by
        by_cases c : k = 0
        · exact Or.inr c
        · exact Or.inl ⟨(f1 k (by omega) (by omega)).1, fun q q1 q2 => (f1 q q1 (by omega)).2⟩)
      exact g_go_ 20 (b_gt rfl rfl (by omega) (by omega) (fun _ => ⟨rfl, hq⟩) (fun y => by omega))
    | succ m ih =>
      intro p hp hp1 f1
      refine g_go_ 20 (b_gt rfl rfl (by omega) (by omega) (fun y => by omega) (fun _ => ?_))
      by_cases c : p < a 0
      · refine x_distance (by omega) v g1 g2 0 p (by omega) c ?_
        by_cases c2 : ds a 0 p < 100000
        · rw [cD_in c2]
          have hR := ih (p + 1) (by omega) (by omega) (fun q q1 q2 => by
            by_cases c3 : q = p
            · rw [c3]; exact ⟨c, c2⟩
            · exact f1 q q1 (by omega))
          rw [nI_succ] at hR
          exact b_nt (n_ne9 (by omega)) (g_to hR _ rfl)
        · rw [cD_no c2]
          exact b_nf rfl ⟨rfl, h2 (fun z => c2 (z.2 p hp1 (by omega)))⟩
      · refine x_distNo (by omega) v g1 0 p (by omega) (by omega) (by omega) ?_
        exact b_nf rfl ⟨rfl, h2 (fun z => by have := z.1; omega)⟩
  exact g_to (loop k 1 (by omega) (by omega) (fun q q1 q2 => by omega)) _ rfl
theorem one_le {k : Nat} (hk : k < 2 ^ 31) (h : ¬ nI k < 1) : 1 ≤ k := Nat.not_lt.mp (fun z => h ((ilt (a := k) (b := 1) rfl rfl hk (by decide)).mpr z))
theorem n_of1 {x : Int32} {m : Nat} (hm : m < 1000) (h1 : ¬ x < 1) (h2 : x ≤ nI m) : ∃ k, 1 ≤ k ∧ k ≤ m ∧ x = nI k := by
  have z1 : (1 : Int32).toInt = 1 := by decide
  have z2 : (0 : Int32).toInt = 0 := by decide
  have h0 : ¬ x < 0 := by
    rw [Int32.lt_iff_toInt_lt] at h1 ⊢
    omega
  rcases pk_ix x (show m + 1 < 2 ^ 31 by omega) with h | h | ⟨j, hj, rfl⟩
  · exact absurd h h0
  · exfalso
    rw [Int32.le_iff_toInt_le] at h h2
    rw [show nI (m + 1) = nI m + 1 from nI_succ m] at h
    have : (nI m).toInt = m := by exact nI_toInt (by omega)
    have : (nI m + 1).toInt = m + 1 := by rw [← nI_succ]; exact_mod_cast nI_toInt (show m + 1 < 2 ^ 31 by omega)
    omega
  · exact ⟨j, one_le (by omega) h1, by omega, rfl⟩
/-- may the game be played -/
def gtc (a : Nat → Nat) (x y : Int32) (m : Nat) (c : Int32) : Prop :=
  (c = -4 ∧ (x < 1 ∨ y < 1)) ∨ (c = -6 ∧ ¬ x < 1 ∧ ¬ y < 1 ∧ (4 < x ∨ nI m < y)) ∨ (c = -3 ∧ ∃ k n, x = nI k ∧ y = nI n ∧ 1 ≤ k ∧ k < 5 ∧ 1 ≤ n ∧ n ≤ m ∧ ¬ fin a k) ∨ (c = 0 ∧ ∃ k n, x = nI k ∧ y = nI n ∧ 1 ≤ k ∧ k < 5 ∧ 1 ≤ n ∧ n ≤ m ∧ fin a k)
theorem x_refGame {d m : Nat} {M : g_M} {Q : g_R} {a : Nat → Nat} {x y : Int32} (hd : 3 ≤ d) (hm : m < 1000) (v : V1 a) (g1 : GX1 M 2 a) (g2 : GX2 M 2 a) (h : ∀ c, gtc a x y m c → Q (some (.int c)) M) : g_cal d k_X9_refusalOfGame [.ref 0, .int x, .int y, .int (nI m)] M Q := by
  refine g_m (by omega) 60 (fun e he => ?_)
  have r4 : (x < 1 ∨ y < 1) → Q (some (.int (-4))) M := fun z => h _ (Or.inl ⟨rfl, z⟩)
  refine ⟨fun z => r4 (Or.inl z), fun hx => ⟨fun hy => ?_, fun hy => r4 (Or.inr (Int32.not_le.mp hy))⟩⟩
  have hy' : ¬ y < 1 := Int32.not_lt.mpr hy
  have r6 : (4 < x ∨ nI m < y) → Q (some (.int (-6))) M := fun z => h _ (Or.inr (Or.inl ⟨rfl, hx, hy', z⟩))
  refine ⟨fun z => r6 (Or.inl z), fun hx2 => ⟨fun hy2 => ?_, fun hy2 => r6 (Or.inr (Int32.not_le.mp hy2))⟩⟩
  obtain ⟨k, k1, k2, rfl⟩ := n_of1 (m := 4) (by decide) hx (Int32.not_lt.mp hx2)
  obtain ⟨n, n1, n2, rfl⟩ := n_of1 hm hy' hy2
  refine x_canCome (by omega) (by omega) v g1 g2 (fun z => ?_) (fun z => ?_)
  · refine b_f (by decide) (h 0 (Or.inr (Or.inr (Or.inr ⟨rfl, k, n, rfl, rfl, k1, by omega, n1, n2, ?_⟩))))
    rcases z with z | z
    · exact z
    · omega
  · exact b_t rfl (h (-3) (Or.inr (Or.inr (Or.inl ⟨rfl, k, n, rfl, rfl, k1, by omega, n1, n2, z⟩))))
theorem m_isGame {d k : Nat} {M : g_M} {Q : g_R} {a : Nat → Nat} (hd : 3 ≤ d) (hk : k < 5) (k1 : 1 ≤ k) (v : V1 a) (hM : RM M 84 a) (h1 : ¬ fin a k → ∀ N, (N = M ∨ FN M N a) → Q (some (.int 0)) N) (h2 : fin a k → ∀ N, FN M N a → Q (some (.int 1)) N) : g_cal d k_X10_isGame [.ref 82, .int (nI k)] M Q := by
  have b0 : a 0 ≤ 8 := v.2.1
  have b1 : 1 ≤ a 0 := v.1
  refine g_m (by omega) 9 (fun e he => ⟨0, rfl, by decide, ?_⟩)
  show (nI k < M 84 0 → _) ∧ (¬ nI k < M 84 0 → _)
  rw [hM 0 (by decide)]
  refine b_lt rfl rfl (by omega) (by omega) (fun z => ?_) (fun z => ⟨rfl, h1 (fun y => by have := y.1; omega) M (Or.inl rfl)⟩)
  have r12 : g_Run (g_cal e) (g_mt S0 k_X10_isGame) Q 12 [.ref 82, .int (nI k), .null] [] M := by
    refine g_go_ 3 (m_findFar (by omega) v hM (fun N fn => ?_))
    have fa := fn.fa hM
    have loop : ∀ m p, p + m = k + 1 → 1 ≤ p → (∀ q, 1 ≤ q → q < p → ds a 0 q < 100000) → g_Run (g_cal e) (g_mt S0 k_X10_isGame) Q 18 [.ref 82, .int (nI k), .int (nI p)] [] N := by
      intro m
      induction m with
      | zero =>
        intro p hp hp1 f1
        exact g_go_ 20 (b_gt rfl rfl (by omega) (by omega) (fun _ => ⟨rfl, h2 ⟨z, fun q q1 q2 => f1 q q1 (by omega)⟩ N fn⟩) (fun y => by omega))
      | succ m ih =>
        intro p hp hp1 f1
        refine g_go_ 20 (b_gt rfl rfl (by omega) (by omega) (fun y => by omega) (fun _ => ?_))
        refine m_isFar (by omega) v fa _ _ 0 p rfl rfl (by omega) (by omega) ?_
        by_cases c2 : ds a 0 p < 100000
        · rw [decide_eq_true c2]
          have hR := ih (p + 1) (by omega) (by omega) (fun q q1 q2 => by
            by_cases c3 : q = p
            · rw [c3]; exact c2
            · exact f1 q q1 (by omega))
          rw [nI_succ] at hR
          exact b_nt (by decide) (g_to hR _ rfl)
        · rw [decide_eq_false c2]
          exact b_nf rfl ⟨rfl, h1 (fun z => c2 (z.2 p hp1 (by omega))) N (Or.inr fn)⟩
    exact g_to (g_go_ (pc := 16) (L := [.ref 82, .int (nI k), .null]) (st := []) 3 (g_to (loop k 1 (by omega) (by omega) (fun q q1 q2 => by omega)) _ rfl)) _ rfl
  exact g_to r12 _ rfl
theorem m_wrongGame {d : Nat} {M : g_M} {Q : g_R} {a : Nat → Nat} {x y c : Int32} (hd : 4 ≤ d) (v : V1 a) (hM : RM M 84 a) (hc : gtc a x y 60 c) (h : ∀ N, (N = M ∨ FN M N a) → (c = 0 → FN M N a) → Q (some (.int c)) N) : g_cal d k_X10_wrongGame [.ref 82, .int x, .int y] M Q := by
  refine g_m (by omega) 60 (fun e he => ?_)
  rcases hc with ⟨rfl, hc⟩ | ⟨rfl, hx, hy, hc⟩ | ⟨rfl, k, n, rfl, rfl, k1, k2, n1, n2, hf⟩ | ⟨rfl, k, n, rfl, rfl, k1, k2, n1, n2, hf⟩
  · have hq := h M (Or.inl rfl) (fun z => absurd z (by decide))
    refine ⟨fun _ => b_f (by decide) hq, fun hx => ⟨fun hy => ?_, fun _ => b_f (by decide) hq⟩⟩
    rcases hc with hc | hc
    · exact absurd hc hx
    · exact absurd hc (Int32.not_lt.mpr hy)
  · have hq := h M (Or.inl rfl) (fun z => absurd z (by decide))
    refine b_f hx (b_t (Int32.not_lt.mp hy) ⟨fun _ => b_f (by decide) hq, fun hx2 => ⟨fun hy2 => ?_, fun _ => b_f (by decide) hq⟩⟩)
    rcases hc with hc | hc
    · exact absurd hc hx2
    · exact absurd hc (Int32.not_lt.mpr hy2)
  · refine b_lt (a := k) (b := 1) rfl rfl (by omega) (by decide) (fun z => by omega) (fun _ => b_ge (a := n) (b := 1) rfl rfl (by omega) (by decide) (fun _ => ?_) (fun z => by omega))
    refine b_gt (a := k) (b := 4) rfl rfl (by omega) (by decide) (fun z => by omega) (fun _ => b_le (a := n) (b := 60) rfl rfl (by omega) (by decide) (fun _ => ?_) (fun z => by omega))
    refine b_t rfl (m_isGame (by omega) k2 k1 v hM (fun _ N hN => ?_) (fun z => absurd z hf))
    exact b_t rfl (h N hN (fun z => absurd z (by decide)))
  · refine b_lt (a := k) (b := 1) rfl rfl (by omega) (by decide) (fun z => by omega) (fun _ => b_ge (a := n) (b := 1) rfl rfl (by omega) (by decide) (fun _ => ?_) (fun z => by omega))
    refine b_gt (a := k) (b := 4) rfl rfl (by omega) (by decide) (fun z => by omega) (fun _ => b_le (a := n) (b := 60) rfl rfl (by omega) (by decide) (fun _ => ?_) (fun z => by omega))
    refine b_t rfl (m_isGame (by omega) k2 k1 v hM (fun z => absurd hf z) (fun _ N hN => ?_))
    exact b_f (by decide) (h N (Or.inr hN) (fun _ => hN))
theorem FG.sm {M N : g_M} (h : FG M N) : Sm M N := by
  have e : ∀ c, g_kp c = true ∨ c = 82 ∨ c = 67 → N c = M c := fun c hc => by
    refine h c ?_ ?_ ?_ ?_ ?_ ?_ ?_ <;> intro z <;> rw [z] at hc <;> revert hc <;> decide
  exact ⟨fun c hc => e c (Or.inl hc), by rw [e 82 (Or.inr (Or.inl rfl))], by rw [e 82 (Or.inr (Or.inl rfl))], by rw [e 82 (Or.inr (Or.inl rfl))], by rw [e 67 (Or.inr (Or.inr rfl))]⟩
theorem FH.sm {M N : g_M} (h : FH M N) : Sm M N := by
  refine ⟨fun c hc => h.1 c (fun z => by rw [z] at hc; exact absurd hc (by decide)) ?_, h.2 7 (by decide), h.2 37 (by decide), h.2 4 (by decide), by rw [h.1 67 (by decide) (by decide)]⟩
  unfold g_kp at hc
  simp at hc
  omega
theorem inB_m1 {p : Int32} {k : Nat} (hk : k < 5) : inB (p - 1) (nI k) = true ↔ ¬ p < 1 ∧ p ≤ nI k := by
  have e1 : (1 : Int32).toInt = 1 := by decide
  have e0 : (0 : Int32).toInt = 0 := by decide
  have ek : (nI k).toInt = k := nI_toInt (by omega)
  have l1 := Int32.minValue_le_toInt p
  have l2 := Int32.toInt_lt p
  have em : Int32.minValue.toInt = -2147483648 := by decide
  have es : (p - 1).toInt = (p.toInt - 1).bmod (2 ^ 32) := by rw [Int32.toInt_sub, e1]
  unfold inB
  rw [Bool.and_eq_true, Bool.not_eq_true', decide_eq_false_iff_not, decide_eq_true_iff, Int32.lt_iff_toInt_lt, Int32.lt_iff_toInt_lt, Int32.lt_iff_toInt_lt, Int32.le_iff_toInt_le, es, e1, e0, ek]
  rw [Int.bmod_def]
  split <;> omega
theorem p_taken {d n : Nat} {M : g_M} {x y p : Int32} (hd : 10 ≤ d) (I : Inv n M) : g_pair d k_X9_taken k_X10_taken [.int x, .int y, .int p] M (Inv (n + 1)) := by
  have I0 := I
  obtain ⟨a, ⟨v, v2, v3⟩, ⟨g1, g2, tx, -⟩, hM, -⟩ := I
  refine g_m (by omega) 60 (fun e he => ?_)
  refine x_refGame (m := 60) (by omega) (by decide) v g1 g2 (fun c hc => ?_)
  have bad : ∀ (j : Nat), -c = nI j → j < 7 → c ≠ 0 → g_cal d k_X10_taken [.ref 82, .int x, .int y, .int p] (g_ms M 81 (upd (M 81) j (M 81 j + 1))) (fun v2 M2 => v2 = some (.int c) ∧ Inv (n + 1) M2) := by
    intro j hj1 hj c0
    refine g_m (by omega) 60 (fun e he => m_wrongGame (by omega) v (hM.fr (g_ms_n (by decide))) hc (fun N hN _ => ?_))
    refine b_nt c0 (b_f c0 (m_refuse (by omega) j hj1 hj ⟨rfl, e_ref2 I0 hj ?_⟩))
    rcases hN with rfl | hN
    · exact Sm.rf _
    · exact hN.sm
  by_cases c0 : c = 0
  · subst c0
    refine b_t rfl ?_
    obtain ⟨k, m, rfl, rfl, k1, k2, m1, m2, hf⟩ : ∃ k n, x = nI k ∧ y = nI n ∧ 1 ≤ k ∧ k < 5 ∧ 1 ≤ n ∧ n ≤ 60 ∧ fin a k := by
      rcases hc with ⟨z, -⟩ | ⟨z, -⟩ | ⟨z, -⟩ | ⟨-, h⟩
      · exact absurd z (by decide)
      · exact absurd z (by decide)
      · exact absurd z (by decide)
      · exact h
    have hb : ∀ K : g_M, RM K 84 a → ∀ Q' : g_R, (∀ N, FN K N a → Q' (some (.int 0)) N) → ∀ e, 4 ≤ e → g_cal e k_X10_wrongGame [.ref 82, .int (nI k), .int (nI m)] K Q' := fun K hK Q' hq e he => m_wrongGame he v hK hc (fun N _ hN => hq N (hN rfl))
    have bad2 : inB (p - 1) (nI k) = false → g_cal d k_X10_taken [.ref 82, .int (nI k), .int (nI m), .int p] (g_ms M 81 (upd (M 81) 1 (M 81 1 + 1))) (fun v2 M2 => v2 = some (.int (-1)) ∧ Inv (n + 1) M2) := fun hp => by
      refine g_m (by omega) 60 (fun e he => hb _ (hM.fr (g_ms_n (by decide))) _ (fun N hN => ?_) e (by omega))
      refine b_nf rfl (m_isIn (by omega) ?_)
      rw [hp]
      exact b_nf rfl (b_f (by decide) (m_refuse (by omega) 1 (by decide) (by decide) ⟨rfl, e_ref2 I0 (by decide) hN.sm⟩))
    have inp : inB (p - 1) (nI k) = true ↔ ¬ p < 1 ∧ p ≤ nI k := inB_m1 k2
    have bad3 : (p < 1 ∨ ¬ p ≤ nI k) → inB (p - 1) (nI k) = false := fun h => by
      by_cases hb : inB (p - 1) (nI k) = true
      · obtain ⟨h1, h2⟩ := inp.mp hb
        rcases h with h | h
        · exact absurd h h1
        · exact absurd h2 h
      · exact Bool.not_eq_true _ ▸ hb
    refine ⟨fun z => x_refuse (by omega) 1 (by decide) (by decide) ⟨_, rfl, bad2 (bad3 (Or.inl z))⟩, fun z => ⟨fun z2 => ?_, fun z2 => x_refuse (by omega) 1 (by decide) (by decide) ⟨_, rfl, bad2 (bad3 (Or.inr z2))⟩⟩⟩
    have hin := inp.mpr ⟨z, z2⟩
    obtain ⟨q, q1, q2, rfl⟩ := n_of1 (by omega) z z2
    have hq1 : nI q - 1 = nI (q - 1) := is q1 rfl rfl
    refine x_gplay (by omega) k2 k1 m2 v hf g1 g2 (fun N f1 f2 f3 f4 => ⟨q - 1, hq1, by omega, _, rfl, ?_⟩)
    rw [f4.2.2 (q - 1) (by omega)]
    have hMN : RM N 84 a := hM.fr (f1.sm.1 84 rfl)
    refine g_m (by omega) 60 (fun e2 he2 => hb N hMN _ (fun N2 hN2 => ?_) e2 (by omega))
    refine b_nf rfl (m_isIn (by omega) ?_)
    rw [hin]
    refine b_nt (by decide) (b_t rfl ?_)
    refine m_goesGame (by omega) k2 k1 m2 v hf (hN2.fa hMN) (fun N3 t1 t2 t3 => ⟨q - 1, hq1, by omega, ?_, ?_⟩)
    · rw [t3.2.2 (q - 1) (by omega)]
    · exact ((I0.fr f1.sm).fr hN2.sm |>.fr t1.sm).up
  · refine b_f c0 ?_
    have : ∃ j, -c = nI j ∧ j < 7 := by
      rcases hc with ⟨rfl, -⟩ | ⟨rfl, -⟩ | ⟨rfl, -⟩ | ⟨z, -⟩
      · exact ⟨4, by decide, by decide⟩
      · exact ⟨6, by decide, by decide⟩
      · exact ⟨3, by decide, by decide⟩
      · exact absurd z c0
    obtain ⟨j, j1, j2⟩ := this
    exact x_refuse (by omega) j j1 j2 ⟨_, rfl, bad j j1 j2 c0⟩
