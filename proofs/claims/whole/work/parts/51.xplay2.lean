theorem CS.fr {M M' : g_M} {r n : Nat} {a : Nat → Nat} {s : RS} (h : CS M r a n s) (e : ∀ c, r ≤ c → c ≤ r + 4 → M' c = M c) : CS M' r a n s := by
  unfold CS at h ⊢
  rw [e r (by omega) (by omega), e (r + 1) (by omega) (by omega), e (r + 2) (by omega) (by omega), e (r + 3) (by omega) (by omega), e (r + 4) (by omega) (by omega)]
  exact h
theorem CS.sk {M : g_M} {r n : Nat} {a : Nat → Nat} {s : RS} {sp to mo pa : Nat} {wk : Bool} (h : CS M r a n s) : CS M r a n (s.sSk sp to mo pa wk) := h
theorem cs_go {M : g_M} {r n t : Nat} {a : Nat → Nat} {s : RS} (h : CS M r a n s) : CS M r a n (goA a t s) := by
  unfold goA
  split
  · split
    · exact CS.sk h
    · exact CS.sk h
  · exact h
theorem x_begin {d r : Nat} {M : g_M} {Q : g_R} {a : Nat → Nat} {z : Int32} (hd : 1 ≤ d) (hr : r = 17 ∨ r = 60) (v : V1 a) (g1 : GX1 M 2 a) (h : ∀ M', Fx r M M' → M' 66 = M 66 → CS M' r a 0 (rs0 z) → RL M' r a (rs0 z) → Q none M') : g_cal d k_X4_begin [.ref r, .ref 2, .int z] M Q := by
  have b0 : a 0 ≤ 8 := v.2.1
  have hz : ∀ p, hidN a (rs0 z) p = 0 := fun p => by
    rw [hidN_cnt]
    exact cnt_no (fun i _ => decide_eq_false (fun w => by have : (0 : Nat) = 3 := w.1; omega))
  rcases hr with rfl | rfl
  all_goals
    refine g_m hd 60 (fun e he => ⟨0, 0, 8, rfl, rfl, rfl, by decide, by decide, h _ (fun c c1 c2 => ?_) ?_ ⟨?_, rfl, rfl, ⟨0, by decide, rfl, fun k => Nat.zero_testBit k⟩, fun k hk => by omega, fun k hk => absurd hk (Nat.not_lt_zero _)⟩ (fun p hp => ?_)⟩)
    · rw [g_ms_n (by omega), g_ms_n (by omega), g_ms_n (by omega), g_ms_n (by omega), g_ms_n (by omega), g_ms_n (by omega)]
    · rfl
    · exact g1.2.2.1
    · rw [hz, Nat.sub_zero, ← (g1.2.2.2.1 p hp).2.1]
      exact sb_cpy0 (by omega)
theorem x_sbegin {d : Nat} {M : g_M} {Q : g_R} {a : Nat → Nat} {z : Int32} (hd : 1 ≤ d) (v : V1 a) (h : ∀ M', (∀ c, c ≠ 66 → M' c = M c) → CK M' (hide a z) → Q none M') : g_cal d k_X5_begin [.ref 66] M Q := by
  obtain ⟨-, -, -, -, -, ⟨j1, j2, j3, j4, j5⟩, -, -⟩ := HI.all v z
  refine g_m hd 60 (fun e he => ⟨Or.inl rfl, h _ (fun c hc => ?_) ?_⟩)
  · rw [g_ms_n hc, g_ms_n hc, g_ms_n hc, g_ms_n hc, g_ms_n hc]
  · unfold CK
    rw [j1, j3, j4, j5]
    exact ⟨rfl, rfl, rfl, (fun y => by cases y), fun _ => Or.inl ⟨by decide, rfl⟩⟩
theorem x_play {d r tt : Nat} {M : g_M} {Q : g_R} {a : Nat → Nat} {z : Int32} (hd : 6 ≤ d) (hr : r = 17 ∨ r = 60) (htt : tt = 14 ∨ tt = 57) (v : V1 a) (v2 : V2 a) (w : CW M tt a)
    (h : ∀ M', Fx r M M' → CS M' r a (a 2) (ply a z) → M' r 7 = nI (plt a z) → Q none M') : g_cal d k_X4_play [.ref r, .ref 2, .ref tt, .ref 66, .int z] M Q := by
  have b2 : a 2 ≤ 8 := v.2.2.2.1
  have b14 : a 14 ≤ 900 := v2.2.2.2.2.2.2.2.1
  have b13 : a 13 ≤ 1 := v2.2.2.2.2.2.1
  have b11 : a 11 ≤ 60 := v2.2.2.2.1
  refine g_m (by omega) 60 (fun e he => ?_)
  have body : ∀ step t s N, step ≤ t → t ≤ a 14 → RI a t s → CS N r a (a 2) s → CK N s → Fx r M N → plyR a z = rnn a (a 14 - t) t (sec a t s) →
      (∀ t' N', t < t' → t' ≤ a 14 → RI a t' (sec a t s) → CS N' r a (a 2) (sec a t s) → CK N' (sec a t s) → Fx r M N' → plyR a z = rnn a (a 14 - t') t' (sec a t' (sec a t s)) → g_Run (g_cal e) (g_mt S0 k_X4_play) Q 37 [.ref r, .ref 2, .ref tt, .ref 66, .int z, .int (nI (a 14)), .int (nI t'), .int (nI (step + 1))] [] N') →
      g_Run (g_cal e) (g_mt S0 k_X4_play) Q 37 [.ref r, .ref 2, .ref tt, .ref 66, .int z, .int (nI (a 14)), .int (nI t), .int (nI step)] [] N := by
    intro step t s N hst ht I cs ck fx hp nxt
    have ht9 : t ≤ 900 := by omega
    have I1 := ri_look v2 ht9 I
    have I2 := ri_home (u := t) ht9 I1.1
    have hk := homeA_k a t (lookA a t s)
    have I3 := ri_go v v2 ht9 I2 (fun y => by rw [hk.2.2.1]; exact I1.2 (by rw [← hk.1]; exact y))
    have I4 := ri_sec v v2 ht9 I
    have bb : bck a t (goA a t (homeA a t (lookA a t s))) < 2 ^ 31 := by
      unfold bck
      split
      · rename_i y
        have := (I3.2.2.2.2.2.1 y).2.2.2
        have := ds_le v (goA a t (homeA a t (lookA a t s))).to 0
        omega
      · have := ds_le v (goA a t (homeA a t (lookA a t s))).sp 0
        omega
    -- the end
    have R144 : ∀ N', (a 14 - t = 0 ∨ outB a (sec a t s) = true) → CS N' r a (a 2) (sec a t s) → Fx r M N' → g_Run (g_cal e) (g_mt S0 k_X4_play) Q 144 [.ref r, .ref 2, .ref tt, .ref 66, .int z, .int (nI (a 14)), .int (nI t), .int (nI step)] [] N' := by
      intro N' ho c1 c2
      rw [rnn_out ho] at hp
      have en : ∀ Q' : g_R, (∀ M', Fx r N' M' → CS M' r a (a 2) (endA a t (sec a t s)) → M' r 7 = nI t → Q' none M') → g_cal e k_X4_end [.ref r, .int (nI t)] N' Q' := fun Q' hq => x_end (by omega) hr b2 I4 c1 hq
      have fin : ∀ M', Fx r N' M' → CS M' r a (a 2) (endA a t (sec a t s)) → M' r 7 = nI t → Q none M' := by
        intro M' m1 m2 m3
        refine h M' (c2.tr m1) ?_ ?_
        · unfold ply; rw [hp]; exact m2
        · unfold plt; rw [hp]; exact m3
      rcases hr with rfl | rfl
      all_goals exact g_go_ 10 (en _ fin)
    -- after they ran
    have R107 : ∀ N', CS N' r a (a 2) (sec a t s) → CK N' (sec a t s) → Fx r M N' → g_Run (g_cal e) (g_mt S0 k_X4_play) Q 107 [.ref r, .ref 2, .ref tt, .ref 66, .int z, .int (nI (a 14)), .int (nI t), .int (nI step)] [] N' := by
      intro N' c1 c2 c3
      refine g_go_ 40 (b_ge rfl rfl (by omega) (by omega) (fun y => g_to (R144 N' (Or.inl (by omega)) c1 c3) _ rfl) (fun y => ?_))
      have op : ∀ Q' : g_R, Q' (some (.int (bI (!outB a (sec a t s))))) N' → g_cal e k_X4_isOpen [.ref r] N' Q' := fun Q' hq => x_isOpen (by omega) hr b2 (fun k hk => (I4.1 k hk).2.1) c1.1 (fun k hk => (c1.2.2.2.2.1 k hk).2.1) hq
      have nm : ∀ Q' : g_R, Q' (some (.int (nI (max (t + 1) (nxm a (sec a t s)))))) N' → g_cal e k_X4_nextMoment [.ref r, .ref 66, .int (nI t)] N' Q' := fun Q' hq => x_nextMoment (by omega) hr b2 ht9 I4 c1 c2 hq
      obtain ⟨J1, J2⟩ := nxm_J a (sec a t s)
      have bm : nxm a (sec a t s) < 2 ^ 31 := by
        have : mo' (sec a t s) < 2 ^ 31 := by
          unfold mo'
          split
          · decide
          · rename_i y3
            by_cases y4 : (sec a t s).wk = true
            · have := (I4.2.2.2.2.2.1 y4).2.2.2; omega
            · have := (I4.2.2.2.2.2.2.1 (Bool.not_eq_true _ ▸ y4)).2; omega
        omega
      have go : outB a (sec a t s) = false → g_Run (g_cal e) (g_mt S0 k_X4_play) Q 37 [.ref r, .ref 2, .ref tt, .ref 66, .int z, .int (nI (a 14)), .int (nI (min (a 14) (max (t + 1) (nxm a (sec a t s))))), .int (nI (step + 1))] [] N' := by
        intro ho
        have hmo : ∀ u, u ≤ 900 → u < max (t + 1) (nxm a (sec a t s)) → t < u → u < (sec a t s).mo := by
          intro u h9 h1 h2
          have : u < nxm a (sec a t s) := by omega
          unfold mo' at J1
          by_cases y2 : (sec a t s).wk = false ∧ (sec a t s).mo = 100000
          · rw [if_pos y2] at J1; rw [y2.2]; omega
          · rw [if_neg y2] at J1; omega
        have quiet : ∀ u, u ≤ 900 → t < u → u < max (t + 1) (nxm a (sec a t s)) → sec a u (sec a t s) = sec a t s := by
          intro u h9 h1 h2
          refine qt (t := t) (by omega) (sq_sec a t s) (fun _ => hmo u h9 h2 h1) (fun _ => hmo u h9 h2 h1) (fun k hk h4 => ?_)
          have := J2 k hk h4
          omega
        generalize htt' : min (a 14) (max (t + 1) (nxm a (sec a t s))) = t'
        have t1 : t < t' := by omega
        have t2 : t' ≤ a 14 := by omega
        refine nxt t' N' t1 t2 ?_ c1 c2 c3 ?_
        · by_cases y5 : t' = t + 1
          · rw [y5]; exact I4
          · refine I4.go ?_
            have := hmo (t' - 1) (by omega) (by omega) (by omega)
            omega
        · rw [hp, rnn_jump (t' - t - 1) (a 14 - t) t (sec a t s) ho (by omega) (fun u h1 h2 => quiet u (by omega) h1 (by omega))]
          rw [show a 14 - t - (t' - t - 1) - 1 = a 14 - t' by omega, show t + (t' - t - 1) + 1 = t' by omega]
      have hmin := n_min (a := a 14) (b := max (t + 1) (nxm a (sec a t s))) (by omega) (by omega)
      rw [← hmin, nI_succ] at go
      rcases hr with rfl | rfl
      all_goals
        refine op _ ?_
        refine b_nz (fun y2 => ?_) (fun y2 => g_to (R144 N' (Or.inr (by simpa using y2)) c1 c3) _ rfl)
        refine nm _ ?_
        exact g_to (go (by simpa using y2)) _ rfl
    -- she went on
    have R87 : ∀ N', CS N' r a (a 2) (goA a t (homeA a t (lookA a t s))) → CK N' (goA a t (homeA a t (lookA a t s))) → Fx r M N' → g_Run (g_cal e) (g_mt S0 k_X4_play) Q 87 [.ref r, .ref 2, .ref tt, .ref 66, .int z, .int (nI (a 14)), .int (nI t), .int (nI step)] [] N' := by
      intro N' c1 c2 c3
      have wN := w.fr hr htt c3
      have t2 : N' (tt + 1) 2 = nI (a 11) := wN.2.2.1 2 (by decide)
      have sb : ∀ Q' : g_R, Q' (some (.int (nI (bck a t (goA a t (homeA a t (lookA a t s))))))) N' → g_cal e k_X5_secondsBack [.ref 66, .int (nI t), .ref 2] N' Q' := fun Q' hq => x_secondsBack (by omega) v wN.1 wN.2.1 I3 (by omega) c2 hq
      have sr : ∀ Q' : g_R, (∀ M', (∀ k, k ≠ r + 2 → k ≠ r + 3 → M' k = N' k) → CS M' r a (a 2) (sec a t s) → Q' none M') → g_cal e k_X4_startRuns [.ref r, .ref 2, .int (nI t), .int (nI (a 11)), .int (nI (bck a t (goA a t (homeA a t (lookA a t s)))))] N' Q' := fun Q' hq => x_startRuns (by omega) hr v v2 wN.1 wN.2.1 ht9 bb I3 c1 hq
      have ckk : CK N' (sec a t s) := c2
      rcases hr with rfl | rfl <;> rcases htt with rfl | rfl
      all_goals
        refine g_go_ 40 ⟨2, rfl, by decide, ?_⟩
        rw [t2]
        refine sb _ ?_
        refine sr _ (fun M' m1 m2 => ?_)
        exact g_to (R107 M' m2 (ckk.fr (m1 66 (by decide) (by decide))) (c3.tr (fun c c1 c2 => m1 c (by omega) (by omega)))) _ rfl
    -- they came home
    have R79 : ∀ N', CS N' r a (a 2) (homeA a t (lookA a t s)) → CK N' (homeA a t (lookA a t s)) → Fx r M N' → g_Run (g_cal e) (g_mt S0 k_X4_play) Q 79 [.ref r, .ref 2, .ref tt, .ref 66, .int z, .int (nI (a 14)), .int (nI t), .int (nI step)] [] N' := by
      intro N' c1 c2 c3
      have wN := w.fr hr htt c3
      have go : ∀ Q' : g_R, (∀ M', (∀ c, c ≠ 66 → M' c = N' c) → CK M' (goA a t (homeA a t (lookA a t s))) → Q' none M') → g_cal e k_X5_goOnAt [.ref 66, .int (nI t), .ref 2, .ref tt] N' Q' := fun Q' hq => x_goOnAt (by omega) htt v v2 wN ht9 I2 c2 hq
      rcases htt with rfl | rfl
      all_goals
        refine g_go_ 20 (go _ (fun M' m1 m2 => ?_))
        exact g_to (R87 M' ((cs_go c1).fr (fun c h1 h2 => m1 c (by omega))) m2 (c3.tr (fun c c1 _ => m1 c c1))) _ rfl
    -- she looked
    have R54 : ∀ N', CS N' r a (a 2) (lookA a t s) → CK N' (lookA a t s) → Fx r M N' → g_Run (g_cal e) (g_mt S0 k_X4_play) Q 54 [.ref r, .ref 2, .ref tt, .ref 66, .int z, .int (nI (a 14)), .int (nI t), .int (nI step)] [] N' := by
      intro N' c1 c2 c3
      have wN := w.fr hr htt c3
      have t4 : N' (tt + 1) 4 = nI (a 13) := wN.2.2.1 4 (by decide)
      have bh : ∀ Q' : g_R, (∀ M', Fx r N' M' → M' 66 = N' 66 → CS M' r a (a 2) (homeA a t (lookA a t s)) → Q' none M') → g_cal e k_X4_bringHome [.ref r, .int (nI t), .int (bI (!(lookA a t s).wk && decide ((lookA a t s).sp = 0))), .int (bI (decide (a 13 = 1)))] N' Q' := fun Q' hq => x_bringHome (by omega) hr v v2 ht9 rfl I1.1 c1 hq
      have st : ∀ Q' : g_R, Q' (some (.int (bI (!(lookA a t s).wk && decide ((lookA a t s).sp = 0))))) N' → g_cal e k_X5_standsAtBase [.ref 66] N' Q' := fun Q' hq => x_stands (by omega) c2 (by have := I1.1.2.2.2.1.1; have := v.2.1; omega) hq
      have R76 : g_Run (g_cal e) (g_mt S0 k_X4_play) Q 76 [.ref r, .ref 2, .ref tt, .ref 66, .int z, .int (nI (a 14)), .int (nI t), .int (nI step)] [.int (bI (decide (a 13 = 1))), .int (bI (!(lookA a t s).wk && decide ((lookA a t s).sp = 0))), .int (nI t), .ref r] N' := by
        rcases hr with rfl | rfl
        all_goals
          refine g_go_ 10 (bh _ (fun M' m1 m2 m3 => ?_))
          exact g_to (R79 M' m3 ((c2.eq hk).fr m2) (c3.tr m1)) _ rfl
      rcases htt with rfl | rfl
      all_goals
        refine g_go_ 40 (st _ ⟨4, rfl, by decide, ?_⟩)
        rw [t4]
        refine b_ne rfl (show (1 : Int32) = nI 1 from rfl) (by omega) (by decide) (fun y => ?_) (fun y => ?_)
        · rw [decide_eq_false y] at R76
          exact g_to R76 _ rfl
        · rw [decide_eq_true y] at R76
          exact g_to R76 _ rfl
    have cl : ∀ Q' : g_R, (∀ M', Fx r N M' → CS M' r a (a 2) (lookA a t s) → CK M' (lookA a t s) → Q' none M') → g_cal e k_X4_comeAndLook [.ref r, .ref 2, .ref tt, .ref 66, .int (nI t)] N Q' := fun Q' hq => x_comeAndLook (by omega) hr htt v v2 (w.fr hr htt fx) ht9 I cs ck hq
    rcases hr with rfl | rfl <;> rcases htt with rfl | rfl
    all_goals
      refine g_go_ 40 (b_gt rfl (show (900 : Int32) = nI 900 from rfl) (by omega) (by decide) (fun y => by omega) (fun _ => ?_))
      refine cl _ (fun M' m1 m2 m3 => ?_)
      exact g_to (R54 M' m2 m3 (fx.tr m1)) _ rfl
  have loop : ∀ n step t s N, a 14 - t ≤ n → step ≤ t → t ≤ a 14 → RI a t s → CS N r a (a 2) s → CK N s → Fx r M N → plyR a z = rnn a (a 14 - t) t (sec a t s) → g_Run (g_cal e) (g_mt S0 k_X4_play) Q 37 [.ref r, .ref 2, .ref tt, .ref 66, .int z, .int (nI (a 14)), .int (nI t), .int (nI step)] [] N := by
    intro n
    induction n with
    | zero =>
      intro step t s N hn hst ht I cs ck fx hp
      exact body step t s N hst ht I cs ck fx hp (fun t' N' h1 h2 => by omega)
    | succ n ih =>
      intro step t s N hn hst ht I cs ck fx hp
      exact body step t s N hst ht I cs ck fx hp (fun t' N' h1 h2 i1 i2 i3 i4 i5 => ih (step + 1) t' (sec a t s) N' (by omega) (by omega) h2 i1 i2 i3 i4 i5)
  have HA := HI.all v z
  have bg : ∀ Q' : g_R, (∀ M', Fx r M M' → M' 66 = M 66 → CS M' r a 0 (rs0 z) → RL M' r a (rs0 z) → Q' none M') → g_cal e k_X4_begin [.ref r, .ref 2, .int z] M Q' := fun Q' hq => x_begin (by omega) hr v w.1 hq
  have hd' : ∀ M1, Fx r M M1 → CS M1 r a 0 (rs0 z) → RL M1 r a (rs0 z) → ∀ Q' : g_R, (∀ M', Fx r M1 M' → M' 66 = M1 66 → CS M' r a (a 2) (hide a z) → Q' none M') → g_cal e k_X4_hideAll [.ref r, .ref 2, .ref tt] M1 Q' := fun M1 f1 f2 f3 Q' hq => x_hideAll (by omega) hr htt v v2 (w.fr hr htt f1) f2 f3 hq
  have R17 : ∀ M3, Fx r M M3 → CS M3 r a (a 2) (hide a z) → CK M3 (hide a z) → g_Run (g_cal e) (g_mt S0 k_X4_play) Q 17 [.ref r, .ref 2, .ref tt, .ref 66, .int z, .null, .null, .null] [] M3 := by
    intro M3 f1 f2 f3
    have t5 : M3 (tt + 1) 5 = nI (a 14) := (w.fr hr htt f1).2.2.1 5 (by decide)
    have hR := loop (a 14) 0 0 (hide a z) M3 (by omega) (by omega) (by omega) (HA.ri v) f2 f3 f1 rfl
    have hm : (if M3 (tt + 1) 5 < 900 then M3 (tt + 1) 5 else 900) = nI (a 14) := by
      rw [t5]
      have := n_min (a := 900) (b := a 14) (by decide) (by omega)
      rw [show min 900 (a 14) = a 14 by omega] at this
      exact this
    rw [← hm] at hR
    rcases htt with rfl | rfl
    all_goals exact g_go_ 30 ⟨5, rfl, by decide, g_to hR _ rfl⟩
  rcases hr with rfl | rfl <;> rcases htt with rfl | rfl
  all_goals
    refine bg _ (fun M1 f1 f2 f3 f4 => ?_)
    refine hd' M1 f1 f3 f4 _ (fun M2 g1 g2 g3 => ?_)
    refine x_sbegin (a := a) (z := z) (by omega) v (fun M3 k1 k2 => ?_)
    exact g_to (R17 M3 ((f1.tr g1).tr (fun c c1 _ => k1 c c1)) (g3.fr (fun c h1 h2 => k1 c (by omega))) k2) _ rfl
