/-! ===== far, run, table, mayGo ===== -/
def FA (N : g_M) (a : Nat → Nat) : Prop := RM N 84 a ∧ (∀ x y, x < 8 → y < 8 → N 90 (8 * x + y) = nI (dr a x y)) ∧ (∀ x y, x < 8 → y < 8 → N 89 (8 * x + y) = nI (ds a x y))
theorem FN.fa {M N : g_M} {a : Nat → Nat} (h : FN M N a) (hM : RM M 84 a) : FA N a := ⟨hM.fr (h.1 84 (by decide) (by decide)), h.2⟩
theorem cD_in {x : Nat} (h : x < 100000) : cD x = nI x := by unfold cD; rw [if_pos h]
theorem cD_no {x : Nat} (h : ¬ x < 100000) : cD x = -9 := by unfold cD; rw [if_neg h]
theorem n_ne9 {x : Nat} (h : x < 2 ^ 31) : ¬ nI x = -9 := fun z => nI_pos h (by rw [z]; decide)
theorem n_lt9 {x : Nat} (h : x < 2 ^ 31) : (-9 : Int32) < nI x := by
  have := nI_pos h
  rw [Int32.lt_iff_toInt_lt] at this ⊢
  have z0 : (0 : Int32).toInt = 0 := by decide
  have z9 : (-9 : Int32).toInt = -9 := by decide
  omega
theorem x_distance {d : Nat} {M : g_M} {Q : g_R} {a : Nat → Nat} (hd : 1 ≤ d) (v : V1 a) (g1 : GX1 M 2 a) (g2 : GX2 M 2 a) (p q : Nat) (hp : p < a 0) (hq : q < a 0) (h : Q (some (.int (cD (ds a p q)))) M) : g_cal d k_X1_distance [.ref 2, .int (nI p), .int (nI q)] M Q := by
  have b0 : a 0 ≤ 8 := v.2.1
  rw [← g2.1 p q (by omega) (by omega)] at h
  refine g_m hd 60 (fun e he => ?_)
  refine b_lt (b := 0) rfl rfl (by omega) (by decide) (fun z => by omega) (fun _ => b_ge rfl g1.1 (by omega) (by omega) (fun z => by omega) (fun _ => ?_))
  refine b_lt (b := 0) rfl rfl (by omega) (by decide) (fun z => by omega) (fun _ => b_ge rfl g1.1 (by omega) (by omega) (fun z => by omega) (fun _ => ?_))
  exact ⟨p * 8 + q, ia (im rfl rfl) rfl, by omega, h⟩
theorem x_secRun {d : Nat} {M : g_M} {Q : g_R} {a : Nat → Nat} (hd : 1 ≤ d) (v : V1 a) (g1 : GX1 M 2 a) (g2 : GX2 M 2 a) (i p : Nat) (hi : i < a 2) (hp : p < a 0) (h : Q (some (.int (if ds a p 0 < 100000 then nI (rno a i p) else -9))) M) : g_cal d k_X1_secondsToRun [.ref 2, .int (nI i), .int (nI p)] M Q := by
  have b0 : a 0 ≤ 8 := v.2.1
  have b2 : a 2 ≤ 8 := v.2.2.2.1
  rw [← (g2.2 i p hi hp).2] at h
  refine g_m hd 60 (fun e he => ?_)
  refine b_lt (b := 0) rfl rfl (by omega) (by decide) (fun z => by omega) (fun _ => b_ge rfl g1.2.2.1 (by omega) (by omega) (fun z => by omega) (fun _ => ?_))
  refine b_lt (b := 0) rfl rfl (by omega) (by decide) (fun z => by omega) (fun _ => b_ge rfl g1.1 (by omega) (by omega) (fun z => by omega) (fun _ => ?_))
  exact ⟨i * 8 + p, ia (im rfl rfl) rfl, by omega, h⟩
theorem x_secWalk {d : Nat} {M : g_M} {Q : g_R} {a : Nat → Nat} (hd : 1 ≤ d) (v : V1 a) (g1 : GX1 M 2 a) (g2 : GX2 M 2 a) (i p : Nat) (hi : i < a 2) (hp : p < a 0) (h : Q (some (.int (if ds a p 0 < 100000 then nI (pcd a i p) else -9))) M) : g_cal d k_X1_secondsToWalk [.ref 2, .int (nI i), .int (nI p)] M Q := by
  have b0 : a 0 ≤ 8 := v.2.1
  have b2 : a 2 ≤ 8 := v.2.2.2.1
  rw [← (g2.2 i p hi hp).1] at h
  refine g_m hd 60 (fun e he => ?_)
  refine b_lt (b := 0) rfl rfl (by omega) (by decide) (fun z => by omega) (fun _ => b_ge rfl g1.2.2.1 (by omega) (by omega) (fun z => by omega) (fun _ => ?_))
  refine b_lt (b := 0) rfl rfl (by omega) (by decide) (fun z => by omega) (fun _ => b_ge rfl g1.1 (by omega) (by omega) (fun z => by omega) (fun _ => ?_))
  exact ⟨i * 8 + p, ia (im rfl rfl) rfl, by omega, h⟩
theorem pcd_le {a : Nat → Nat} (v : V1 a) (i p : Nat) : pcd a i p ≤ 1000000 := by
  unfold pcd
  have := ds_le v p 0
  exact Nat.le_trans (Nat.div_le_self _ _) (by omega)
theorem rno_le {a : Nat → Nat} (v : V1 a) (i p : Nat) : rno a i p ≤ 1000005 := by
  unfold rno
  have := pcd_le v i p
  split <;> omega
theorem rno_ge (a : Nat → Nat) (i p : Nat) : 1 ≤ rno a i p := by unfold rno; omega
/-- a hider would run from q, told x, when the seeker is y away -/
def wrB (a : Nat → Nat) (i q x y : Nat) : Bool := decide (ds a q 0 < 100000 ∧ rno a i q + x < y)
theorem x_wouldRun {d : Nat} {M : g_M} {Q : g_R} {a : Nat → Nat} (hd : 2 ≤ d) (v : V1 a) (g1 : GX1 M 2 a) (g2 : GX2 M 2 a) (i q x y : Nat) (hi : i < a 2) (hq : q < a 0) (hx : x < 1000) (hy : y < 2 ^ 31) (h : Q (some (.int (bI (wrB a i q x y)))) M) : g_cal d k_X1_wouldRun [.ref 2, .int (nI i), .int (nI q), .int (nI x), .int (nI y)] M Q := by
  have br := rno_le v i q
  refine g_m (by omega) 60 (fun e he => ?_)
  refine x_secRun (by omega) v g1 g2 i q hi hq ?_
  unfold wrB at h
  by_cases z : ds a q 0 < 100000
  · rw [if_pos z]
    refine b_f (n_ne9 (by omega)) ?_
    refine b_ge (ia rfl rfl) rfl (by omega) hy (fun z2 => ⟨rfl, ?_⟩) (fun z2 => ⟨rfl, ?_⟩)
    · rw [decide_eq_false (by omega)] at h; exact h
    · rw [decide_eq_true ⟨z, by omega⟩] at h; exact h
  · rw [if_neg z]
    refine b_t rfl ⟨rfl, ?_⟩
    rw [decide_eq_false (by omega)] at h; exact h
theorem m_farOf {d : Nat} {N : g_M} {Q : g_R} {a : Nat → Nat} (hd : 1 ≤ d) (f : FA N a) (x y : Int32) (p q : Nat) (hx : x = nI p) (hy : y = nI q) (hp : p < 8) (hq : q < 8) (h : Q (some (.int (nI (ds a p q)))) N) : g_cal d k_X10_farOf [.ref 82, .int x, .int y] N Q := by
  refine g_m hd 40 (fun e he => ⟨8 * p + q, ia (im rfl hx) hy, by omega, ?_⟩)
  rw [f.2.2 p q hp hq]
  exact h
theorem m_isFar {d : Nat} {N : g_M} {Q : g_R} {a : Nat → Nat} (hd : 2 ≤ d) (v : V1 a) (f : FA N a) (x y : Int32) (p q : Nat) (hx : x = nI p) (hy : y = nI q) (hp : p < 8) (hq : q < 8) (h : Q (some (.int (bI (decide (ds a p q < 100000))))) N) : g_cal d k_X10_isFar [.ref 82, .int x, .int y] N Q := by
  have := ds_le v p q
  refine g_m (by omega) 40 (fun e he => m_farOf (by omega) f x y p q hx hy hp hq ?_)
  refine b_ge rfl (show (100000 : Int32) = nI 100000 from rfl) (by omega) (by decide) (fun z => ⟨rfl, ?_⟩) (fun z => ⟨rfl, ?_⟩)
  · rw [decide_eq_false (by omega)] at h; exact h
  · rw [decide_eq_true z] at h; exact h
theorem m_paceOf {d : Nat} {N : g_M} {Q : g_R} {a : Nat → Nat} (hd : 1 ≤ d) (hM : RM N 84 a) (i : Nat) (hi : i < 8) (h : Q (some (.int (nI (a (99 + 2 * i))))) N) : g_cal d k_X10_paceOf [.ref 82, .int (nI i)] N Q := by
  refine g_m hd 40 (fun e he => ?_)
  refine ⟨99 + 2 * i, by rw [show 99 + 2 * i = 98 + 2 * i + 1 by omega]; exact ia (ia rfl (im rfl rfl)) rfl, by omega, ?_⟩
  rw [hM _ (by omega)]
  exact h
theorem m_paced {d : Nat} {N : g_M} {Q : g_R} {a : Nat → Nat} (hd : 2 ≤ d) (v : V1 a) (f : FA N a) (i p : Nat) (hi : i < a 2) (hp : p < 8) (h : Q (some (.int (nI (pcd a i p)))) N) : g_cal d k_X10_paced [.ref 82, .int (nI i), .int (nI p)] N Q := by
  have b2 : a 2 ≤ 8 := v.2.2.2.1
  have b := ds_le v p 0
  have b5 : a (99 + 2 * i) < 65536 := v.2.2.2.2.1 _
  refine g_m (by omega) 40 (fun e he => m_farOf (by omega) f _ _ p 0 rfl rfl hp (by decide) (m_paceOf (by omega) f.1 i (by omega) ⟨?_, ?_⟩))
  · rw [show nI (a (99 + 2 * i)) + 5 = nI (a (99 + 2 * i) + 5) from ia rfl rfl]
    intro z
    have := (nI_eq (b := 0) (by omega) (by decide)).mp z
    omega
  · show Q (some (.int (nI (ds a p 0) * 10 / (nI (a (99 + 2 * i)) + 5)))) N
    have hq : nI (ds a p 0) * 10 / (nI (a (99 + 2 * i)) + 5) = nI (pcd a i p) := idv (a := ds a p 0 * 10) (b := a (99 + 2 * i) + 5) (by omega) (by omega) (by omega) (im rfl rfl) (ia rfl rfl)
    rw [hq]
    exact h
theorem m_runOf {d : Nat} {N : g_M} {Q : g_R} {a : Nat → Nat} (hd : 3 ≤ d) (v : V1 a) (f : FA N a) (i p : Nat) (hi : i < a 2) (hp : p < a 0) (h : Q (some (.int (nI (rno a i p)))) N) : g_cal d k_X10_runOf [.ref 82, .int (nI i), .int (nI p)] N Q := by
  have b0 : a 0 ≤ 8 := v.2.1
  have bp := pcd_le v i p
  have bk : a (16 + 5 * p) < 65536 := v.2.2.2.2.1 _
  unfold rno at h
  have fin : ∀ e x, 2 ≤ e → x ≤ 5 → Q (some (.int (nI (max 1 (x + pcd a i p))))) N → g_Run (g_cal e) (g_mt S0 k_X10_runOf) Q 16 [.ref 82, .int (nI i), .int (nI p), .null] [.int (nI x)] N := by
    intro e x he hx hq
    refine g_go_ 40 (m_paced he v f i p hi (by omega) ?_)
    refine b_ge (ia rfl rfl) (show (1 : Int32) = nI 1 from rfl) (by omega) (by decide) (fun z => ?_) (fun z => ?_)
    · rw [show max 1 (x + pcd a i p) = x + pcd a i p by omega, ← nI_add] at hq; exact hq
    · rw [show max 1 (x + pcd a i p) = 1 by omega] at hq; exact hq
  refine g_m (by omega) 40 (fun e he => m_get (by omega) p 0 rfl rfl (by omega) (by decide) ?_)
  rw [show 16 + 5 * p + 0 = 16 + 5 * p by omega, f.1 _ (by omega)]
  refine b_ne rfl (show (6 : Int32) = nI 6 from rfl) (by omega) (by decide) (fun z => ?_) (fun z => ?_)
  · rw [if_neg z] at h
    exact g_to (fin e 0 (by omega) (by decide) h) _ rfl
  · rw [if_pos z] at h
    exact g_to (fin e 5 (by omega) (by decide) h) _ rfl
/-- the places from which a hider would run, as bits -/
def tb (a : Nat → Nat) (i y : Nat) : Nat := g_it (fun q s => if wrB a i q (a 11) y = true then s ||| 2 ^ q else s) (a 0 - 1) 1 0
theorem tb_J (a : Nat → Nat) (i y : Nat) (h1 : 1 ≤ a 0) (h8 : a 0 ≤ 8) : (∀ q, (tb a i y).testBit q = (decide (1 ≤ q ∧ q < a 0) && wrB a i q (a 11) y)) ∧ tb a i y < 2 ^ 8 := by
  unfold tb
  refine (g_it_J (fun n s => 1 ≤ n ∧ (∀ q, s.testBit q = (decide (1 ≤ q ∧ q < n) && wrB a i q (a 11) y)) ∧ s < 2 ^ 8) _ (a 0) ?_ (a 0 - 1) 1 0 (by omega) ⟨by omega, fun q => ?_, by decide⟩).2
  · intro n s hn ⟨hn1, hs⟩
    refine ⟨by omega, fun q => ?_, ?_⟩
    · by_cases z : wrB a i n (a 11) y = true
      · rw [if_pos z, Nat.testBit_or, hs.1 q, Nat.testBit_two_pow]
        by_cases zq : q = n
        · subst zq
          simp [z, hn1]
        · have : (decide (1 ≤ q ∧ q < n)) = decide (1 ≤ q ∧ q < n + 1) := decide_eq_decide.mpr (by omega)
          rw [this]
          have : ¬ n = q := fun w => zq w.symm
          simp [this]
      · rw [if_neg z, hs.1 q]
        by_cases zq : q = n
        · subst zq
          simp [z]
        · have : (decide (1 ≤ q ∧ q < n)) = decide (1 ≤ q ∧ q < n + 1) := decide_eq_decide.mpr (by omega)
          rw [this]
    · split
      · exact Nat.or_lt_two_pow hs.2 (Nat.pow_lt_pow_right (by decide) (by omega))
      · exact hs.2
  · rw [Nat.zero_testBit, decide_eq_false (by omega)]; rfl
theorem m_tableOf {d : Nat} {N : g_M} {Q : g_R} {a : Nat → Nat} (hd : 4 ≤ d) (v : V1 a) (v2 : V2 a) (f : FA N a) (i p : Nat) (hi : i < a 2) (hp : p < a 0) (h : Q (some (.int (nI (tb a i (ds a p 0))))) N) : g_cal d k_X10_tableOf [.ref 82, .int (nI i), .int (nI p)] N Q := by
  have b0 : a 0 ≤ 8 := v.2.1
  have b1 : 1 ≤ a 0 := v.1
  have b11 : a 11 ≤ 60 := v2.2.2.2.1
  have bd := ds_le v p 0
  refine g_m (by omega) 4 (fun e he => ?_)
  have key : g_Run (g_cal e) (g_mt S0 k_X10_tableOf) Q 5 [.ref 82, .int (nI i), .int (nI p), .int (nI 0), .int (nI 1)] [] N := by
    refine g_loop (fun q s => g_Run (g_cal e) (g_mt S0 k_X10_tableOf) Q 5 [.ref 82, .int (nI i), .int (nI p), .int (nI s), .int (nI q)] [] N) (fun _ _ => True) (fun q s => if wrB a i q (a 11) (ds a p 0) = true then s ||| 2 ^ q else s) (a 0) ?_ (fun _ _ _ _ => trivial) (a 0 - 1) 1 0 (by omega) trivial (fun _ => ?_)
    · intro q s hq _ hR
      have br := rno_le v i q
      rw [nI_succ] at hR
      refine g_go_ 40 ⟨0, rfl, by decide, ?_⟩
      rw [f.1 0 (by decide)]
      refine b_ge rfl rfl (by omega) (by omega) (fun z => by omega) (fun _ => m_isFar (by omega) v f _ _ q 0 rfl rfl (by omega) (by decide) ?_)
      have no : wrB a i q (a 11) (ds a p 0) = false → g_Run (g_cal e) (g_mt S0 k_X10_tableOf) Q 57 [.ref 82, .int (nI i), .int (nI p), .int (nI s), .int (nI q)] [.int 0, .int (nI s)] N := by
        intro hz
        rw [if_neg (by rw [hz]; decide)] at hR
        have hR' : g_Run (g_cal e) (g_mt S0 k_X10_tableOf) Q 5 [.ref 82, .int (nI i), .int (nI p), .int (nI s ||| 0), .int (nI q + 1)] [] N := by
          rw [show nI s ||| 0 = nI s from by rw [show (0 : Int32) = nI 0 from rfl, n_or, Nat.or_zero]]; exact hR
        exact g_go_ 20 (g_to hR' _ rfl)
      refine b_z (fun z => ?_) (fun z => ?_)
      · have z2 := of_decide_eq_false z
        exact g_to (no (by unfold wrB; rw [decide_eq_false]; omega)) _ rfl
      · have z2 := of_decide_eq_true z
        refine m_runOf (by omega) v f i q hi hq (m_setOf (by omega) 2 rfl (by decide) ?_)
        rw [f.1 _ (by decide), show 9 + 2 = 11 from rfl]
        refine m_farOf (by omega) f _ _ p 0 rfl rfl (by omega) (by decide) ?_
        refine b_ge (ia rfl rfl) rfl (by omega) (by omega) (fun z3 => ?_) (fun z3 => ?_)
        · exact g_to (no (by unfold wrB; rw [decide_eq_false]; omega)) _ rfl
        · rw [if_pos (by unfold wrB; rw [decide_eq_true ⟨z2, z3⟩])] at hR
          have hR' : g_Run (g_cal e) (g_mt S0 k_X10_tableOf) Q 5 [.ref 82, .int (nI i), .int (nI p), .int (nI s ||| 1 <<< (nI q &&& 31)), .int (nI q + 1)] [] N := by
            rw [show (1 : Int32) <<< (nI q &&& 31) = nI (2 ^ q) from n_shl (by omega), n_or]; exact hR
          exact g_to hR' _ rfl
    · refine g_go_ 40 ⟨0, rfl, by decide, ?_⟩
      rw [f.1 0 (by decide)]
      exact b_ge rfl rfl (by omega) (by omega) (fun z => h) (fun z => by omega)
  exact g_to key _ rfl
theorem p_far {d n : Nat} {M : g_M} {p w : Int32} (hd : 8 ≤ d) (I : Inv n M) : g_pair d k_X9_far k_X10_far [.int p, .int w] M (Inv (n + 1)) := by
  have I0 := I
  obtain ⟨a, ⟨v, -⟩, ⟨g1, g2, -⟩, hM, -⟩ := I
  have b0 : a 0 ≤ 8 := v.2.1
  have m0 := hM 0 (by decide)
  have x1 := g1.1
  have bad : (inB p (nI (a 0)) = false ∨ (inB p (nI (a 0)) = true ∧ inB w (nI (a 0)) = false)) → g_cal d k_X10_far [.ref 82, .int p, .int w] (g_ms M 81 (upd (M 81) 1 (M 81 1 + 1))) (fun v2 M2 => v2 = some (.int (-1)) ∧ Inv (n + 1) M2) := by
    intro h
    refine g_m (by omega) 60 (fun e he => m_isPlace (by omega) ?_)
    rw [g_ms_n (by decide : (84 : Nat) ≠ 81), m0]
    rcases h with h | ⟨h, h2⟩
    · rw [h]; exact b_t rfl (m_refuse (by omega) 1 (by decide) (by decide) (e_ref I0 (by decide)))
    · rw [h]
      refine b_f (by decide) (m_isPlace (by omega) ?_)
      rw [g_ms_n (by decide : (84 : Nat) ≠ 81), m0, h2]
      exact b_nf rfl (m_refuse (by omega) 1 (by decide) (by decide) (e_ref I0 (by decide)))
  refine g_m (by omega) 60 (fun e he => x_isPlace (by omega) ?_)
  rw [x1]
  rcases inB_cases p (show a 0 < 2 ^ 31 by omega) with hp | ⟨i, hi, rfl, hp⟩
  · rw [hp]; exact b_t rfl (x_refuse (by omega) 1 (by decide) (by decide) ⟨_, rfl, bad (Or.inl hp)⟩)
  · rw [hp]
    refine b_f (by decide) (x_isPlace (by omega) ?_)
    rw [x1]
    rcases inB_cases w (show a 0 < 2 ^ 31 by omega) with hw | ⟨j, hj, rfl, hw⟩
    · rw [hw]; exact b_nf rfl (x_refuse (by omega) 1 (by decide) (by decide) ⟨_, rfl, bad (Or.inr ⟨hp, hw⟩)⟩)
    · rw [hw]
      refine b_nt (by decide) (x_distance (by omega) v g1 g2 i j hi hj ⟨_, rfl, ?_⟩)
      refine g_m (by omega) 60 (fun e he => m_isPlace (by omega) ?_)
      rw [m0, hp]
      refine b_f (by decide) (m_isPlace (by omega) ?_)
      rw [m0, hw]
      refine b_nt (by decide) (m_findFar (by omega) v hM (fun N hN => ?_))
      have f := hN.fa hM
      refine m_isFar (by omega) v f _ _ i j rfl rfl (by omega) (by omega) (b_z (fun z => ?_) (fun z => ?_))
      · exact ⟨by rw [cD_no (of_decide_eq_false z)], (I0.fr hN.sm).up⟩
      · exact m_farOf (by omega) f _ _ i j rfl rfl (by omega) (by omega) ⟨by rw [cD_in (of_decide_eq_true z)], (I0.fr hN.sm).up⟩
theorem p_run {d n : Nat} {M : g_M} {p w : Int32} (hd : 8 ≤ d) (I : Inv n M) : g_pair d k_X9_run k_X10_run [.int p, .int w] M (Inv (n + 1)) := by
  have I0 := I
  obtain ⟨a, ⟨v, -⟩, ⟨g1, g2, -⟩, hM, -⟩ := I
  have b0 : a 0 ≤ 8 := v.2.1
  have b2 : a 2 ≤ 8 := v.2.2.2.1
  have m0 := hM 0 (by decide)
  have m2 := hM 2 (by decide)
  have x1 := g1.1
  have x3 := g1.2.2.1
  have bad : (inB p (nI (a 2)) = false ∨ (inB p (nI (a 2)) = true ∧ inP w (nI (a 0)) = false)) → g_cal d k_X10_run [.ref 82, .int p, .int w] (g_ms M 81 (upd (M 81) 1 (M 81 1 + 1))) (fun v2 M2 => v2 = some (.int (-1)) ∧ Inv (n + 1) M2) := by
    intro h
    refine g_m (by omega) 60 (fun e he => m_isHider (by omega) ?_)
    rw [g_ms_n (by decide : (84 : Nat) ≠ 81), m2]
    rcases h with h | ⟨h, h2⟩
    · rw [h]; exact b_t rfl (m_refuse (by omega) 1 (by decide) (by decide) (e_ref I0 (by decide)))
    · rw [h]
      refine b_f (by decide) (m_isRoom (by omega) ?_)
      rw [g_ms_n (by decide : (84 : Nat) ≠ 81), m0, h2]
      exact b_nf rfl (m_refuse (by omega) 1 (by decide) (by decide) (e_ref I0 (by decide)))
  refine g_m (by omega) 60 (fun e he => x_isHider (by omega) ?_)
  rw [x3]
  rcases inB_cases p (show a 2 < 2 ^ 31 by omega) with hp | ⟨i, hi, rfl, hp⟩
  · rw [hp]; exact b_t rfl (x_refuse (by omega) 1 (by decide) (by decide) ⟨_, rfl, bad (Or.inl hp)⟩)
  · rw [hp]
    refine b_f (by decide) (x_isHid (by omega) ?_)
    rw [x1]
    rcases inP_cases w (show a 0 < 2 ^ 31 by omega) with hw | ⟨j, hj0, hj, rfl, hw⟩
    · rw [hw]; exact b_nf rfl (x_refuse (by omega) 1 (by decide) (by decide) ⟨_, rfl, bad (Or.inr ⟨hp, hw⟩)⟩)
    · rw [hw]
      refine b_nt (by decide) (x_secRun (by omega) v g1 g2 i j hi hj ⟨_, rfl, ?_⟩)
      refine g_m (by omega) 60 (fun e he => m_isHider (by omega) ?_)
      rw [m2, hp]
      refine b_f (by decide) (m_isRoom (by omega) ?_)
      rw [m0, hw]
      refine b_nt (by decide) (m_findFar (by omega) v hM (fun N hN => ?_))
      have f := hN.fa hM
      refine m_isFar (by omega) v f _ _ j 0 rfl rfl (by omega) (by omega) (b_z (fun z => ?_) (fun z => ?_))
      · exact ⟨by rw [if_neg (of_decide_eq_false z)], (I0.fr hN.sm).up⟩
      · exact m_runOf (by omega) v f i j hi hj ⟨by rw [if_pos (of_decide_eq_true z)], (I0.fr hN.sm).up⟩
theorem p_table {d n : Nat} {M : g_M} {p w : Int32} (hd : 8 ≤ d) (I : Inv n M) : g_pair d k_X9_table k_X10_table [.int p, .int w] M (Inv (n + 1)) := by
  have I0 := I
  obtain ⟨a, ⟨v, v2, -⟩, ⟨g1, g2, ⟨t1, -⟩, -⟩, hM, -⟩ := I
  have b0 : a 0 ≤ 8 := v.2.1
  have b2 : a 2 ≤ 8 := v.2.2.2.1
  have b1 : 1 ≤ a 0 := v.1
  have b11 : a 11 ≤ 60 := v2.2.2.2.1
  have m0 := hM 0 (by decide)
  have m2 := hM 2 (by decide)
  have x1 := g1.1
  have x3 := g1.2.2.1
  have bad : (inB p (nI (a 2)) = false ∨ (inB p (nI (a 2)) = true ∧ inB w (nI (a 0)) = false)) → g_cal d k_X10_table [.ref 82, .int p, .int w] (g_ms M 81 (upd (M 81) 1 (M 81 1 + 1))) (fun v2 M2 => v2 = some (.int (-1)) ∧ Inv (n + 1) M2) := by
    intro h
    refine g_m (by omega) 60 (fun e he => m_isHider (by omega) ?_)
    rw [g_ms_n (by decide : (84 : Nat) ≠ 81), m2]
    rcases h with h | ⟨h, h2⟩
    · rw [h]; exact b_t rfl (m_refuse (by omega) 1 (by decide) (by decide) (e_ref I0 (by decide)))
    · rw [h]
      refine b_f (by decide) (m_isPlace (by omega) ?_)
      rw [g_ms_n (by decide : (84 : Nat) ≠ 81), m0, h2]
      exact b_nf rfl (m_refuse (by omega) 1 (by decide) (by decide) (e_ref I0 (by decide)))
  refine g_m (by omega) 60 (fun e he => x_isHider (by omega) ?_)
  rw [x3]
  rcases inB_cases p (show a 2 < 2 ^ 31 by omega) with hp | ⟨i, hi, rfl, hp⟩
  · rw [hp]; exact b_t rfl (x_refuse (by omega) 1 (by decide) (by decide) ⟨_, rfl, bad (Or.inl hp)⟩)
  · rw [hp]
    refine b_f (by decide) (x_isPlace (by omega) ?_)
    rw [x1]
    rcases inB_cases w (show a 0 < 2 ^ 31 by omega) with hw | ⟨j, hj, rfl, hw⟩
    · rw [hw]; exact b_nf rfl (x_refuse (by omega) 1 (by decide) (by decide) ⟨_, rfl, bad (Or.inr ⟨hp, hw⟩)⟩)
    · rw [hw]
      have bd := ds_le v j 0
      refine b_nt (by decide) (x_distance (by omega) v g1 g2 j 0 hj (by omega) ?_)
      by_cases z : ds a j 0 < 100000
      · rw [cD_in z]
        refine b_nt (n_ne9 (by omega)) ⟨2, rfl, by decide, ?_⟩
        rw [t1 2 (by decide)]
        have md : g_cal d k_X10_table [.ref 82, .int (nI i), .int (nI j)] M (fun v2 M2 => v2 = some (.int (nI (tb a i (ds a j 0)))) ∧ Inv (n + 1) M2) := by
          refine g_m (by omega) 60 (fun e he => m_isHider (by omega) ?_)
          rw [m2, hp]
          refine b_f (by decide) (m_isPlace (by omega) ?_)
          rw [m0, hw]
          refine b_nt (by decide) (m_findFar (by omega) v hM (fun N hN => ?_))
          have f := hN.fa hM
          refine m_isFar (by omega) v f _ _ j 0 rfl rfl (by omega) (by omega) ?_
          rw [decide_eq_true z]
          exact b_f (by decide) (m_tableOf (by omega) v v2 f i j hi hj ⟨rfl, (I0.fr hN.sm).up⟩)
        have key : g_Run (g_cal e) (g_mt S0 k_X9_table) (fun v M1 => ∃ r, v = some (.int r) ∧ g_cal d k_X10_table [.ref 82, .int (nI i), .int (nI j)] M1 (fun v2 M2 => v2 = some (.int r) ∧ Inv (n + 1) M2)) 72 [.ref 0, .int (nI i), .int (nI j), .ref 2, .int (nI (ds a j 0)), .int (nI (a 11)), .int (nI 0), .int (nI 1)] [] M := by
          refine g_loop (fun q s => g_Run (g_cal e) (g_mt S0 k_X9_table) (fun v M1 => ∃ r, v = some (.int r) ∧ g_cal d k_X10_table [.ref 82, .int (nI i), .int (nI j)] M1 (fun v2 M2 => v2 = some (.int r) ∧ Inv (n + 1) M2)) 72 [.ref 0, .int (nI i), .int (nI j), .ref 2, .int (nI (ds a j 0)), .int (nI (a 11)), .int (nI s), .int (nI q)] [] M) (fun _ _ => True) (fun q s => if wrB a i q (a 11) (ds a j 0) = true then s ||| 2 ^ q else s) (a 0) ?_ (fun _ _ _ _ => trivial) (a 0 - 1) 1 0 (by omega) trivial (fun _ => ?_)
          · intro q s hq _ hR
            rw [nI_succ] at hR
            refine g_go_ 40 (b_ge rfl x1 (by omega) (by omega) (fun z => by omega) (fun _ => ?_))
            refine x_wouldRun (by omega) v g1 g2 i q (a 11) (ds a j 0) hi hq (by omega) (by omega) (b_z (fun z => ?_) (fun z => ?_))
            · rw [if_neg (by rw [z]; decide)] at hR
              exact g_to hR _ rfl
            · rw [if_pos z, ← n_or, ← n_shl (show q < 32 by omega)] at hR
              exact g_to hR _ rfl
          · exact g_go_ 40 (b_ge rfl x1 (by omega) (by omega) (fun _ => ⟨_, rfl, md⟩) (fun z => by omega))
        exact g_to key _ rfl
      · rw [cD_no z]
        refine b_nf rfl (x_refuse (by omega) 3 (by decide) (by decide) ⟨_, rfl, ?_⟩)
        generalize hK : g_ms M 81 (upd (M 81) 3 (M 81 3 + 1)) = K
        have hMK : RM K 84 a := hM.fr (by rw [← hK]; rfl)
        refine g_m (by omega) 60 (fun e he => m_isHider (by omega) ?_)
        rw [hMK 2 (by decide), hp]
        refine b_f (by decide) (m_isPlace (by omega) ?_)
        rw [hMK 0 (by decide), hw]
        refine b_nt (by decide) (m_findFar (by omega) v hMK (fun N hN => ?_))
        have f := hN.fa hMK
        refine m_isFar (by omega) v f _ _ j 0 rfl rfl (by omega) (by omega) ?_
        rw [decide_eq_false z]
        refine b_t rfl (m_refuse (by omega) 3 (by decide) (by decide) ⟨rfl, ?_⟩)
        have r := I0.ref 3 (by decide)
        refine r.fr ?_
        have e : ∀ c, c ≠ 89 → c ≠ 90 → g_ms N 83 (upd (N 83) 3 (N 83 3 + 1)) c = rfs M 3 c := by
          intro c c1 c2
          unfold rfs
          by_cases hc : c = 83
          · subst hc
            rw [g_ms_s, g_ms_s, hN.1 83 (by decide) (by decide), ← hK, g_ms_n (by decide)]
          · rw [g_ms_n hc, g_ms_n hc, hN.1 c c1 c2, ← hK]
        refine ⟨fun c hc => e c (fun z => by rw [z] at hc; exact absurd hc (by decide)) (fun z => by rw [z] at hc; exact absurd hc (by decide)), ?_, ?_, ?_, ?_⟩ <;> rw [e _ (by decide) (by decide)]
