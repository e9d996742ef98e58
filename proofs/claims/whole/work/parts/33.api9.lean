/-! ===== judge, feed ===== -/
/-- the first of m places at which the row is not so; else what is due then -/
def jl (ne : Nat → Bool) (t f : Nat) : Nat → Nat → Int32
  | 0, _ => if t = f then -9 else nI (min t f)
  | k + 1, i => if ne i = true then nI i else jl ne t f k (i + 1)
theorem p_judge {d n : Nat} {M : g_M} (hd : 5 ≤ d) (I : Inv n M) (hn : n < 1000) : g_pair d k_X9_judge k_X10_judge [] M (Inv (n + 1)) := by
  have I0 := I
  obtain ⟨a, hv, hX, hM, ⟨o0, ⟨t, o4, o5, o6, o7⟩, o8, o9, oA⟩, hI⟩ := I
  have hX0 := hX
  obtain ⟨-, -, -, ⟨l1, l2, l3, l4⟩, hw8⟩ := hX
  have u1 := hv.2.2.1
  have u2 := hv.2.2.2.1
  have u4 := hv.2.2.2.2.2
  have m4 := hM 4 (by decide)
  have m6 := hM 6 (by decide)
  have b4 := hv.1.2.2.2.2.1 4
  refine g_m (by omega) 60 (fun e he => ?_)
  show (¬ M 1 3 = 0 → _) ∧ (M 1 3 = 0 → _)
  rw [hw8]
  refine b_ne (b := 0) rfl rfl (by omega) (by decide) (fun z => ?_) (fun z => ?_)
  · -- a round was
    have z4 : a 4 ≠ 0 := by rw [u2, if_neg z]; decide
    generalize hne : (fun i => decide (M 80 i ≠ nI (a (146 + i)))) = ne
    have hN : ∀ i, ne i = decide (M 80 i ≠ nI (a (146 + i))) := fun i => by rw [← hne]
    -- the reference, over the component's memory
    generalize hM1 : g_ms M 0 (upd (M 0) 13 0) = M1
    have e1 : ∀ c, c ≠ 0 → M1 c = M c := fun c hc => by rw [← hM1]; exact g_ms_n hc
    have md : g_cal d k_X10_judge [.ref 82] M1 (fun v2 M2 => v2 = some (.int (jl ne t (a 6) (min t (a 6)) 0)) ∧ Inv (n + 1) M2) := by
      refine g_m (by omega) 60 (fun e he => ⟨4, rfl, by decide, ?_⟩)
      rw [e1 84 (by decide), m4]
      refine b_ne (b := 0) rfl rfl (by omega) (by decide) (fun _ => ?_) (fun y => absurd y z4)
      show g_wp _ _ _ _ _ [.ref 82, .int (M1 82 37), .null] _ _
      rw [e1 82 (by decide), o6]
      generalize hM2 : g_ms M1 82 (upd (M1 82) 37 0) = M2
      have e2 : ∀ c, c ≠ 0 → c ≠ 82 → M2 c = M c := fun c h1 h2 => by rw [← hM2, g_ms_n h2]; exact e1 c h1
      have hI2 : Inv (n + 1) M2 := by
        refine ⟨a, hv.mono, hX0.fr (fun c h1 h2 => e2 c (by omega) (by omega)), hM.fr (e2 84 (by decide) (by decide)), ?_, fun y => ?_⟩
        · unfold OX
          rw [e2 67 (by decide) (by decide), e2 68 (by decide) (by decide), e2 80 (by decide) (by decide), e2 81 (by decide) (by decide), e2 83 (by decide) (by decide), e2 87 (by decide) (by decide), e2 106 (by decide) (by decide), ← hM2, ← hM1]
          exact ⟨o0, ⟨0, by decide, rfl, rfl, fun i hi => by omega⟩, o8, o9, oA⟩
        · have y' : M 0 14 = 1 := by rw [← hM2, ← hM1] at y; exact y
          obtain ⟨b, b1, b2, b3⟩ := hI y'
          exact ⟨b, b1.mono, b2.fr (fun c h1 h2 => e2 c (by omega) (by omega)), b3.fr (e2 85 (by decide) (by decide))⟩
      have loop : ∀ k i, i + k = min t (a 6) → g_Run (g_cal e) (g_mt S0 k_X10_judge) (fun v2 M2 => v2 = some (.int (jl ne t (a 6) k i)) ∧ Inv (n + 1) M2) 28 [.ref 82, .int (nI t), .int (nI i)] [] M2 := by
        intro k
        induction k with
        | zero =>
          intro i hi
          refine g_go_ 30 ⟨6, rfl, by decide, ?_⟩
          rw [e2 84 (by decide) (by decide), m6]
          show _ ∧ _
          unfold jl
          refine b_ge rfl rfl (by omega) (by omega) (fun y => ⟨6, rfl, by decide, ?_⟩) (fun y => ?_)
          · rw [e2 84 (by decide) (by decide), m6]
            refine b_le rfl rfl (by omega) (by omega) (fun y2 => ?_) (fun y2 => ⟨6, rfl, by decide, ?_⟩)
            · rw [if_pos (by omega)]; exact ⟨rfl, hI2⟩
            · rw [e2 84 (by decide) (by decide), m6, if_neg (by omega), Nat.min_eq_right (by omega)]; exact ⟨rfl, hI2⟩
          · refine b_ne rfl rfl (by omega) (by omega) (fun y2 => by omega) (fun y2 => ?_)
            rw [if_neg (by omega), Nat.min_eq_left (by omega)]; exact ⟨rfl, hI2⟩
        | succ k ih =>
          intro i hi
          have hR := ih (i + 1) (by omega)
          refine g_go_ 30 ⟨6, rfl, by decide, ?_⟩
          rw [e2 84 (by decide) (by decide), m6]
          show _ ∧ _
          unfold jl
          refine b_ge rfl rfl (by omega) (by omega) (fun y => by omega) (fun y => ?_)
          refine b_ne rfl rfl (by omega) (by omega) (fun y2 => ⟨i, rfl, by omega, 146 + i, ia rfl rfl, by omega, ?_⟩) (fun y2 => by omega)
          rw [e2 84 (by decide) (by decide), e2 106 (by decide) (by decide), hM _ (by omega), ← o7 i (by omega), hN i]
          refine ⟨fun y3 => ?_, fun y3 => ?_⟩
          · rw [if_neg (by simp [y3])]
            rw [nI_succ] at hR
            exact g_to hR _ rfl
          · rw [if_pos (by simp [y3])]; exact ⟨rfl, hI2⟩
      have hl := loop (min t (a 6)) 0 (by omega)
      rw [← hM2] at hl
      exact g_to hl _ rfl
    -- the component
    show g_wp _ _ _ _ _ [.ref 0, .int (M 0 13), .null, .null] _ M
    rw [o5]
    have comp : g_Run (g_cal e) (g_mt S0 k_X9_judge) (fun v M1 => ∃ r, v = some (.int r) ∧ g_cal d k_X10_judge [.ref 82] M1 (fun v2 M2 => v2 = some (.int r) ∧ Inv (n + 1) M2)) 44 [.ref 0, .int (nI t), .int (nI (min t (a 6))), .int (nI 0)] [] M1 := by
      have loop : ∀ k i, i + k = min t (a 6) → (∀ r, r = jl ne t (a 6) k i → g_cal d k_X10_judge [.ref 82] M1 (fun v2 M2 => v2 = some (.int r) ∧ Inv (n + 1) M2)) → g_Run (g_cal e) (g_mt S0 k_X9_judge) (fun v M1 => ∃ r, v = some (.int r) ∧ g_cal d k_X10_judge [.ref 82] M1 (fun v2 M2 => v2 = some (.int r) ∧ Inv (n + 1) M2)) 44 [.ref 0, .int (nI t), .int (nI (min t (a 6))), .int (nI i)] [] M1 := by
        intro k
        induction k with
        | zero =>
          intro i hi hr
          unfold jl at hr
          refine g_go_ 30 (b_ge rfl rfl (by omega) (by omega) (fun _ => ?_) (fun y => by omega))
          show (¬ nI t = M1 17 6 → _) ∧ (nI t = M1 17 6 → _)
          rw [e1 17 (by decide), l2]
          refine b_ne rfl rfl (by omega) (by omega) (fun y => ⟨_, rfl, hr _ ?_⟩) (fun y => ⟨_, rfl, hr _ ?_⟩)
          · rw [if_neg y]
          · rw [if_pos y]
        | succ k ih =>
          intro i hi hr
          unfold jl at hr
          refine g_go_ 30 (b_ge rfl rfl (by omega) (by omega) (fun y => by omega) (fun _ => ⟨i, rfl, by omega, i, rfl, by omega, ?_⟩))
          rw [e1 80 (by decide), e1 21 (by decide), l4 i (by omega)]
          refine ⟨fun y3 => ?_, fun y3 => ⟨_, rfl, hr _ ?_⟩⟩
          · rw [if_neg (by rw [hN i]; simp [y3])] at hr
            have hR := ih (i + 1) (by omega) hr
            rw [nI_succ] at hR
            exact g_to hR _ rfl
          · rw [if_pos (by rw [hN i]; simp [y3])]
      exact loop (min t (a 6)) 0 (by omega) (fun r hr => by rw [hr]; exact md)
    have hmin : (if M 17 6 < nI t then M 17 6 else nI t) = nI (min t (a 6)) := by rw [l2]; exact n_min (by omega) (by omega)
    rw [← hmin, ← hM1] at comp
    exact g_to comp _ rfl
  · refine x_refuse (by omega) 3 (by decide) (by decide) ⟨_, rfl, ?_⟩
    refine g_m (by omega) 60 (fun e he => ⟨4, rfl, by decide, ?_⟩)
    rw [g_ms_n (by decide : (84 : Nat) ≠ 81), m4, u2, if_pos z]
    exact b_nf rfl (m_refuse (by omega) 3 (by decide) (by decide) (e_ref I0 (by decide)))
/-! feed -/
def fdF (x : Int64) (n : Nat) (m : Nat) (f : Nat → Int32) : Nat → Int32 := g_it (fun i s => upd s (n + i) (nI (lby x i))) m 0 f
theorem x_append {d n m : Nat} {M : g_M} {x : Int64} {Q : g_R} (hd : 1 ≤ d) (hm : m ≤ 8) (hn : n + m ≤ 64) (hl : M 67 2 = nI n) (h : Q none (g_ms (g_ms M 68 (fdF x n m (M 68))) 67 (upd (M 67) 2 (nI (n + m))))) : g_cal d k_X3_append [.ref 67, .int (nI m), .long x] M Q := by
  refine g_m hd 2 (fun e he => ?_)
  have key : g_Run (g_cal e) (g_mt S0 k_X3_append) Q 3 [.ref 67, .int (nI m), .long x, .null, .int (nI 0)] [] (g_ms (g_ms M 68 (M 68)) 67 (upd (M 67) 2 (nI (n + 0)))) := by
    refine g_loop (fun i f => g_Run (g_cal e) (g_mt S0 k_X3_append) Q 3 [.ref 67, .int (nI m), .long x, .null, .int (nI i)] [] (g_ms (g_ms M 68 f) 67 (upd (M 67) 2 (nI (n + i))))) (fun _ _ => True) (fun i s => upd s (n + i) (nI (lby x i))) m ?_ (fun _ _ _ _ => trivial) m 0 (M 68) (by omega) trivial (fun _ => ?_)
    · intro i f hi _ hR
      have hR' : g_Run (g_cal e) (g_mt S0 k_X3_append) Q 3 [.ref 67, .int (nI m), .long x, .null, .int (nI i + 1)] [] (g_ms (g_ms (g_ms (g_ms M 68 f) 67 (upd (M 67) 2 (nI (n + i)))) 68 (upd (g_ms (g_ms M 68 f) 67 (upd (M 67) 2 (nI (n + i))) 68) (n + i) ((x.toUInt64 >>> ((8 * nI i).toInt64.toUInt64 &&& Int64.toUInt64 63)).toInt64 &&& 255).toInt32)) 67 (upd (g_ms (g_ms (g_ms M 68 f) 67 (upd (M 67) 2 (nI (n + i)))) 68 (upd (g_ms (g_ms M 68 f) 67 (upd (M 67) 2 (nI (n + i))) 68) (n + i) ((x.toUInt64 >>> ((8 * nI i).toInt64.toUInt64 &&& Int64.toUInt64 63)).toInt64 &&& 255).toInt32) 67) 2 (g_ms (g_ms (g_ms M 68 f) 67 (upd (M 67) 2 (nI (n + i)))) 68 (upd (g_ms (g_ms M 68 f) 67 (upd (M 67) 2 (nI (n + i))) 68) (n + i) ((x.toUInt64 >>> ((8 * nI i).toInt64.toUInt64 &&& Int64.toUInt64 63)).toInt64 &&& 255).toInt32) 67 2 + 1))) := by
        rw [lby_u x (show i < 8 by omega) (im rfl rfl : 8 * nI i = nI (8 * i))]
        have q : g_ms (g_ms (g_ms (g_ms M 68 f) 67 (upd (M 67) 2 (nI (n + i)))) 68 (upd (g_ms (g_ms M 68 f) 67 (upd (M 67) 2 (nI (n + i))) 68) (n + i) (nI (lby x i)))) 67 (upd (g_ms (g_ms (g_ms M 68 f) 67 (upd (M 67) 2 (nI (n + i)))) 68 (upd (g_ms (g_ms M 68 f) 67 (upd (M 67) 2 (nI (n + i))) 68) (n + i) (nI (lby x i))) 67) 2 (g_ms (g_ms (g_ms M 68 f) 67 (upd (M 67) 2 (nI (n + i)))) 68 (upd (g_ms (g_ms M 68 f) 67 (upd (M 67) 2 (nI (n + i))) 68) (n + i) (nI (lby x i))) 67 2 + 1)) = g_ms (g_ms M 68 (upd f (n + i) (nI (lby x i)))) 67 (upd (M 67) 2 (nI (n + (i + 1)))) := by
          rw [g_ms_n (by decide : (68 : Nat) ≠ 67), g_ms_s, g_ms_n (by decide : (67 : Nat) ≠ 68), g_ms_s]
          rw [g_ms_comm (by decide : (67 : Nat) ≠ 68), g_ms_ms, g_ms_ms]
          congr 1
          funext k
          unfold upd
          by_cases hk : k = 2
          · simp only [hk, if_true]; rw [← nI_succ]; rfl
          · simp only [hk, if_false]
        rw [q, ← nI_succ]
        exact hR
      refine g_go_ 40 (b_ge rfl rfl (by omega) (by omega) (fun z => by omega) (fun _ => ?_))
      refine b_ge (show g_ms (g_ms M 68 f) 67 (upd (M 67) 2 (nI (n + i))) 67 2 = nI (n + i) from rfl) (show (64 : Int32) = nI 64 from rfl) (by omega) (by decide) (fun z => by omega) (fun _ => ?_)
      exact ⟨n + i, rfl, by omega, g_to hR' _ rfl⟩
    · exact g_go_ 20 (b_ge rfl rfl (by omega) (by omega) (fun _ => h) (fun z => by omega))
  have q : g_ms (g_ms M 68 (M 68)) 67 (upd (M 67) 2 (nI (n + 0))) = M := by
    rw [g_ms_self]
    have : upd (M 67) 2 (nI (n + 0)) = M 67 := by
      funext k
      unfold upd
      by_cases hk : k = 2
      · rw [if_pos hk, hk, hl]; rfl
      · rw [if_neg hk]
    rw [this, g_ms_self]
  rw [q] at key
  exact g_to key _ rfl
theorem fdF_at (x : Int64) (n m : Nat) (f : Nat → Int32) (k : Nat) : fdF x n m f k = if n ≤ k ∧ k < n + m then nI (lby x (k - n)) else f k := og_it f (fun i => nI (lby x i)) n m k
theorem p_feed {d n : Nat} {M : g_M} {w : Int32} {x : Int64} (hd : 5 ≤ d) (I : Inv n M) : g_pair d k_X9_feed k_X10_feed [.int w, .long x] M (Inv (n + 1)) := by
  have I0 := I
  obtain ⟨a, hv, hX, hM, ⟨⟨t, o1, o2, o3, o4⟩, o5, o6, o7, o8⟩, hI⟩ := I
  refine g_m (by omega) 60 (fun e he => ?_)
  have bad4 : ¬ (1 : Int32) ≤ w → g_cal d k_X10_feed [.ref 82, .int w, .long x] (g_ms M 81 (upd (M 81) 4 (M 81 4 + 1))) (fun v2 M2 => v2 = some (.int (-4)) ∧ Inv (n + 1) M2) := by
    intro h
    refine g_m (by omega) 60 (fun e he => ?_)
    exact b_f h (m_refuse (by omega) 4 (by decide) (by decide) (e_ref I0 (by decide)))
  have bad6 : (1 : Int32) ≤ w → ((8 : Int32) < w ∨ ¬ M 67 2 + w ≤ 64) → g_cal d k_X10_feed [.ref 82, .int w, .long x] (g_ms M 81 (upd (M 81) 6 (M 81 6 + 1))) (fun v2 M2 => v2 = some (.int (-6)) ∧ Inv (n + 1) M2) := by
    intro h h2
    refine g_m (by omega) 60 (fun e he => ?_)
    refine b_t h ⟨fun _ => ?_, fun h3 => ?_⟩
    · exact m_refuse (by omega) 6 (by decide) (by decide) (e_ref I0 (by decide))
    · show (M 82 7 + w ≤ 64 → _) ∧ (¬ M 82 7 + w ≤ 64 → _)
      rcases h2 with h2 | h2
      · exact absurd h2 h3
      · rw [o3, ← o2]
        exact b_f h2 (m_refuse (by omega) 6 (by decide) (by decide) (e_ref I0 (by decide)))
  refine ⟨fun h1 => ⟨fun h2 => ?_, fun h2 => ?_⟩, fun h => ?_⟩
  · exact x_refuse (by omega) 6 (by decide) (by decide) ⟨_, rfl, bad6 h1 (Or.inl h2)⟩
  · obtain ⟨m, hm, rfl⟩ := nI_of2 (M := 8) (n := 8) (by decide) (x := w) (by
      intro z
      rw [Int32.lt_iff_toInt_lt] at z
      rw [Int32.le_iff_toInt_le] at h1
      have z1 : (1 : Int32).toInt = 1 := by decide
      have z2 : (0 : Int32).toInt = 0 := by decide
      omega) (Int32.not_lt.mp h2)
    have hm1 : 1 ≤ m := (nI_leI (a := 1) (by decide) (by omega)).mp h1
    have hs : M 67 2 + nI m = nI (t + m) := by rw [o2, nI_add]
    show (M 67 2 + nI m ≤ 64 → _) ∧ (¬ M 67 2 + nI m ≤ 64 → _)
    refine ⟨fun h3 => ?_, fun h3 => ?_⟩
    · have h4 : t + m ≤ 64 := by rw [hs] at h3; exact (nI_leI (b := 64) (by omega) (by decide)).mp h3
      refine x_append (by omega) hm h4 o2 ⟨_, rfl, ?_⟩
      generalize hN : g_ms (g_ms M 68 (fdF x t m (M 68))) 67 (upd (M 67) 2 (nI (t + m))) = N
      have eN : ∀ c, c ≠ 67 → c ≠ 68 → N c = M c := fun c h1 h2 => by rw [← hN, g_ms_n h1, g_ms_n h2]
      have n67 : N 67 2 = nI (t + m) := by rw [← hN]; rfl
      have n68 : N 68 = fdF x t m (M 68) := by rw [← hN]; rfl
      refine g_m (by omega) 60 (fun e he => ?_)
      refine b_t h1 (b_f h2 ?_)
      show (N 82 7 + nI m ≤ 64 → _) ∧ (¬ N 82 7 + nI m ≤ 64 → _)
      rw [eN 82 (by decide) (by decide), o3, ← o2]
      refine b_t h3 ?_
      have key : g_Run (g_cal e) (g_mt S0 k_X10_feed) (fun v2 M2 => v2 = some (.int (N 67 2)) ∧ Inv (n + 1) M2) 39 [.ref 82, .int (nI m), .long x, .null, .int (nI 0)] [] (g_ms (g_ms N 87 (N 87)) 82 (upd (N 82) 7 (nI (t + 0)))) := by
        refine g_loop (fun i f => g_Run (g_cal e) (g_mt S0 k_X10_feed) (fun v2 M2 => v2 = some (.int (N 67 2)) ∧ Inv (n + 1) M2) 39 [.ref 82, .int (nI m), .long x, .null, .int (nI i)] [] (g_ms (g_ms N 87 f) 82 (upd (N 82) 7 (nI (t + i))))) (fun _ _ => True) (fun i s => upd s (t + i) (nI (lby x i))) m ?_ (fun _ _ _ _ => trivial) m 0 (N 87) (by omega) trivial (fun _ => ?_)
        · intro i f hi _ hR
          generalize hP : g_ms (g_ms N 87 f) 82 (upd (N 82) 7 (nI (t + i))) = P
          have p82 : P 82 = upd (N 82) 7 (nI (t + i)) := by rw [← hP]; rfl
          have p87 : P 87 = f := by rw [← hP]; rfl
          have hR' : g_Run (g_cal e) (g_mt S0 k_X10_feed) (fun v2 M2 => v2 = some (.int (N 67 2)) ∧ Inv (n + 1) M2) 39 [.ref 82, .int (nI m), .long x, .null, .int (nI i + 1)] [] (g_ms (g_ms P 87 (upd (P 87) (t + i) ((x >>> ((8 * nI i).toInt64 &&& 63)) &&& 255).toInt32)) 82 (upd (g_ms P 87 (upd (P 87) (t + i) ((x >>> ((8 * nI i).toInt64 &&& 63)) &&& 255).toInt32) 82) 7 (g_ms P 87 (upd (P 87) (t + i) ((x >>> ((8 * nI i).toInt64 &&& 63)) &&& 255).toInt32) 82 7 + 1))) := by
            rw [lby_s x (show i < 8 by omega) (im rfl rfl : 8 * nI i = nI (8 * i)), p87, g_ms_n (by decide : (82 : Nat) ≠ 87), p82]
            have q : g_ms (g_ms P 87 (upd f (t + i) (nI (lby x i)))) 82 (upd (upd (N 82) 7 (nI (t + i))) 7 (upd (N 82) 7 (nI (t + i)) 7 + 1)) = g_ms (g_ms N 87 (upd f (t + i) (nI (lby x i)))) 82 (upd (N 82) 7 (nI (t + (i + 1)))) := by
              rw [← hP, g_ms_comm (by decide : (82 : Nat) ≠ 87), g_ms_ms, g_ms_ms]
              congr 1
              funext k
              unfold upd
              by_cases hk : k = 7
              · simp only [hk, if_true]; rw [← nI_succ]; rfl
              · simp only [hk, if_false]
            rw [q, ← nI_succ]
            exact hR
          refine g_go_ 40 (b_ge rfl rfl (by omega) (by omega) (fun z => by omega) (fun _ => ?_))
          exact ⟨t + i, by rw [p82]; rfl, by omega, g_to hR' _ rfl⟩
        · refine g_go_ 20 (b_ge rfl rfl (by omega) (by omega) (fun _ => ?_) (fun z => by omega))
          refine ⟨congrArg (fun z => some (Value.int z)) n67.symm, ?_⟩
          change Inv (n + 1) (g_ms (g_ms N 87 (fdF x t m (N 87))) 82 (upd (N 82) 7 (nI (t + m))))
          generalize hP : g_ms (g_ms N 87 (fdF x t m (N 87))) 82 (upd (N 82) 7 (nI (t + m))) = P
          have eP : ∀ c, c ≠ 67 → c ≠ 68 → c ≠ 82 → c ≠ 87 → P c = M c := fun c h1 h2 h3 h4 => by rw [← hP, g_ms_n h3, g_ms_n h4]; exact eN c h1 h2
          have p67 : P 67 2 = nI (t + m) := by rw [← hP, g_ms_n (by decide), g_ms_n (by decide)]; exact n67
          have p68 : P 68 = fdF x t m (M 68) := by rw [← hP, g_ms_n (by decide), g_ms_n (by decide)]; exact n68
          have p82 : P 82 = upd (M 82) 7 (nI (t + m)) := by rw [← hP, g_ms_s, eN 82 (by decide) (by decide)]
          have p87 : P 87 = fdF x t m (M 87) := by rw [← hP, g_ms_n (by decide), g_ms_s, eN 87 (by decide) (by decide)]
          refine ⟨a, hv.mono, hX.fr (fun c h1 h2 => eP c (by omega) (by omega) (by omega) (by omega)), hM.fr (eP 84 (by decide) (by decide) (by decide) (by decide)), ?_, fun z => ?_⟩
          · unfold OX
            rw [p67, p68, p82, p87, eP 0 (by decide) (by decide) (by decide) (by decide), eP 80 (by decide) (by decide) (by decide) (by decide), eP 81 (by decide) (by decide) (by decide) (by decide), eP 83 (by decide) (by decide) (by decide) (by decide), eP 106 (by decide) (by decide) (by decide) (by decide)]
            refine ⟨⟨t + m, h4, rfl, rfl, fun i hi => ?_⟩, o5, o6, o7, o8⟩
            rw [fdF_at, fdF_at]
            by_cases z : t ≤ i ∧ i < t + m
            · rw [if_pos z, if_pos z]; exact ⟨_, lby_lt x _, rfl, rfl⟩
            · rw [if_neg z, if_neg z]; exact o4 i (by omega)
          · rw [eP 0 (by decide) (by decide) (by decide) (by decide)] at z
            obtain ⟨b, b1, b2, b3⟩ := hI z
            exact ⟨b, b1.mono, b2.fr (fun c h1 h2 => eP c (by omega) (by omega) (by omega) (by omega)), b3.fr (eP 85 (by decide) (by decide) (by decide) (by decide))⟩
      have q : g_ms (g_ms N 87 (N 87)) 82 (upd (N 82) 7 (nI (t + 0))) = N := by
        rw [g_ms_self]
        have : upd (N 82) 7 (nI (t + 0)) = N 82 := by
          funext k
          unfold upd
          by_cases hk : k = 7
          · rw [if_pos hk, hk, eN 82 (by decide) (by decide), o3]; rfl
          · rw [if_neg hk]
        rw [this, g_ms_self]
      rw [q] at key
      exact g_to key _ rfl
    · exact x_refuse (by omega) 6 (by decide) (by decide) ⟨_, rfl, bad6 h1 (Or.inr h3)⟩
  · exact x_refuse (by omega) 4 (by decide) (by decide) ⟨_, rfl, bad4 h⟩
