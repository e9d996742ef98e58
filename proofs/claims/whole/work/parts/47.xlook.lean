/-! ===== the component's round: she comes and looks ===== -/
theorem x_draw2 {d r n : Nat} {M : g_M} {Q : g_R} (hd : 1 ≤ d) (hr : r = 17 ∨ r = 60) (h0 : 0 < n) (hn : n < 2 ^ 31) (h : ∀ M' s', s' = nsd (M r 9) → (∀ k, k ≠ r → M' k = M k) → (∀ j, j ≠ 9 → M' r j = M r j) → M' r 9 = s' → Q (some (.int (nI (drw s' n)))) M') : g_cal d k_X4_drawBelow [.ref r, .int (nI n)] M Q :=
  x_draw hd hr h0 hn (h _ (nsd (M r 9)) rfl (fun k hk => g_ms_n hk) (fun j hj => by rw [g_ms_s]; unfold upd; rw [if_neg hj]) (by rw [g_ms_s]; unfold upd; rw [if_pos rfl]))
theorem CK.eq {M : g_M} {s s' : RS} (h : CK M s) (e : s'.wk = s.wk ∧ s'.sp = s.sp ∧ s'.mo = s.mo ∧ s'.to = s.to ∧ s'.pa = s.pa) : CK M s' := by
  obtain ⟨e1, e2, e3, e4, e5⟩ := e
  unfold CK at h ⊢
  rw [e1, e2, e3, e4, e5]
  exact h
theorem n_sub10 {c : Nat} (hc : c ≤ 99) : (if (0 : Int32) < nI c - 10 then nI c - 10 else 0) = nI (c - 10) := by
  by_cases h : c < 10
  · have := pk_sneg (a := c) (b := 10) (by decide) h
    have h2 : ¬ (0 : Int32) < nI c - 10 := by
      intro z
      have this' : nI c - 10 < 0 := this
      rw [Int32.lt_iff_toInt_lt] at z this'
      omega
    rw [if_neg h2, show c - 10 = 0 by omega]; rfl
  · have e : nI c - 10 = nI (c - 10) := is (b := 10) (by omega) rfl rfl
    rw [e]
    by_cases z : c = 10
    · subst z; rfl
    · have h0 : (0 : Int32) < nI (c - 10) := nI_lt (a := 0) (b := c - 10) (by omega) (by omega)
      rw [if_pos h0]
theorem x_coverOf {d r tt i t : Nat} {M : g_M} {Q : g_R} {a : Nat → Nat} {s : RS} (hd : 2 ≤ d) (hr : r = 17 ∨ r = 60) (v : V1 a) (v2 : V2 a) (w : CW M tt a) {u : Nat} (I : RI a u s) (hS : CS M r a (a 2) s) (hi : i < a 2) (ht : t ≤ 900) (h : Q (some (.int (nI (cvH a t i s)))) M) : g_cal d k_X4_coverOf [.ref r, .ref 2, .int (nI i), .int (nI s.sp), .int (nI t), .int (nI (a 10))] M Q := by
  have b0 : a 0 ≤ 8 := v.2.1
  have b2 : a 2 ≤ 8 := v.2.2.2.1
  have hw := (I.1 i hi).1
  have hsp := I.2.2.2.1.1
  have g1 := w.1
  obtain ⟨y1, y2, y3, y4, y5⟩ := g1.2.2.2.1 (s.wh i) hw
  have hage := (g1.2.2.2.2.1 i hi).1
  have bag : a (98 + 2 * i) < 65536 := v.2.2.2.2.1 _
  have bT := (v.2.2.2.2.2.1 (s.wh i) hw).2.2.2.1
  have hN := hidN_le a s (s.wh i)
  have bC : cvA a (s.wh i) t (hidN a s (s.wh i)) (a (19 + 5 * s.wh i)) ≤ 99 := cv_le (v.2.2.2.2.2.1 _ hw).2.2.1
  have hid : ∀ e, 1 ≤ e → ∀ Q' : g_R, Q' (some (.int (nI (hidN a s (s.wh i))))) M → g_cal e k_X4_hidingIn [.ref r, .int (nI (s.wh i))] M Q' := fun e he Q' hq => x_hidingIn he hr b2 (fun k hk => ⟨by have := (I.1 k hk).1; omega, (I.1 k hk).2.1⟩) hS (s.wh i) (by omega) hq
  have sr := (hS.2.2.2.2.1 i hi).1
  refine g_m (by omega) 60 (fun e he => ?_)
  generalize hc : cvA a (s.wh i) t (hidN a s (s.wh i)) (a (19 + 5 * s.wh i)) = c at bC
  have fin : ∀ c', c' ≤ 99 → cvH a t i s = (if s.wh i = s.sp then c' / 2 else c') → g_Run (g_cal e) (g_mt S0 k_X4_coverOf) Q 55 [.ref r, .ref 2, .int (nI i), .int (nI s.sp), .int (nI t), .int (nI (a 10)), .int (nI (s.wh i)), .int (nI c')] [] M := by
    intro c' hc' hq
    rw [hq] at h
    refine g_go_ 20 (b_ne rfl rfl (by omega) (by omega) (fun z => ?_) (fun z => ⟨by decide, ?_⟩))
    · rw [if_neg z] at h; exact h
    · rw [if_pos z] at h
      show Q (some (.int (nI c' / 2))) M
      rw [show nI c' / 2 = nI (c' / 2) from idv (b := 2) (by omega) (by decide) (by decide) rfl rfl]
      exact h
  have mid : g_Run (g_cal e) (g_mt S0 k_X4_coverOf) Q 31 [.ref r, .ref 2, .int (nI i), .int (nI s.sp), .int (nI t), .int (nI (a 10)), .int (nI (s.wh i)), .null] [.int (nI c)] M := by
    refine g_go_ 30 ⟨i, rfl, by omega, ?_⟩
    rw [hage]
    refine b_ge rfl (show (6 : Int32) = nI 6 from rfl) (by omega) (by decide) (fun z => ?_) (fun z => ?_)
    · exact g_to (fin c bC (by unfold cvH; rw [if_neg (show ¬ a (98 + 2 * i) < 6 by omega), hc])) _ rfl
    · have hR := fin (c - 10) (by omega) (by unfold cvH; rw [if_pos z, hc])
      rw [← n_sub10 bC] at hR
      exact g_to hR _ rfl
  rcases hr with rfl | rfl
  all_goals
    refine ⟨i, rfl, by omega, ?_⟩
    rw [sr]
    refine hid e (by omega) _ ⟨s.wh i, rfl, by omega, ?_⟩
    rw [y4]
    refine xc_coverAt (by omega) v v2 g1 (s.wh i) t (hidN a s (s.wh i)) (a (19 + 5 * s.wh i)) hw (by omega) (by omega) bT ?_
    rw [hc]
    exact g_to mid _ rfl
theorem x_comesAt {d t : Nat} {M : g_M} {Q : g_R} {s : RS} (hd : 1 ≤ d) (k : CK M s) (ht : t < 2 ^ 31) (hm : s.mo < 2 ^ 31) (h : Q (some (.int (bI (decide (s.wk = true ∧ s.mo = t))))) M) : g_cal d k_X5_comesAt [.ref 66, .int (nI t)] M Q := by
  obtain ⟨k1, k2, k3, k4, k5⟩ := k
  refine g_m hd 30 (fun e he => ?_)
  show (M 66 4 = 0 → _) ∧ (¬ M 66 4 = 0 → _)
  rw [k3]
  refine b_z (fun z => ⟨rfl, ?_⟩) (fun z => ?_)
  · rw [decide_eq_false (by rw [z]; intro y; cases y.1)] at h; exact h
  · show (¬ M 66 3 = nI t → _) ∧ (M 66 3 = nI t → _)
    rw [(k4 z).2]
    refine b_ne rfl rfl hm ht (fun z2 => ⟨rfl, ?_⟩) (fun z2 => ⟨rfl, ?_⟩)
    · rw [decide_eq_false (fun y => z2 y.2)] at h; exact h
    · rw [decide_eq_true ⟨z, z2⟩] at h; exact h
theorem x_lookL {r tt t : Nat} {M : g_M} {Q : g_R} {a : Nat → Nat} {s0 : RS} {e : Nat} (he : 3 ≤ e) (hr : r = 17 ∨ r = 60) (htt : tt = 14 ∨ tt = 57) (v : V1 a) (v2 : V2 a) (w : CW M tt a) (ht : t ≤ 900)
    (h : ∀ M', Fx r M M' → CS M' r a (a 2) s0 → CK M' s0 → Q none M') : ∀ m i s N u, i + m = a 2 → RI a t s → CS N r a (a 2) s → CK N s → Fx r M N → g_it (lookH a t) m i s = s0 → g_Run (g_cal e) (g_mt S0 k_X4_comeAndLook) Q 26 [.ref r, .ref 2, .ref tt, .ref 66, .int (nI t), .int (nI i), u] [] N := by
  have b0 : a 0 ≤ 8 := v.2.1
  have b2 : a 2 ≤ 8 := v.2.2.2.1
  intro m
  induction m with
  | zero =>
    intro i s N u hi I cs ck fx hh
    have hh' : s = s0 := hh
    subst hh'
    have := h N fx cs ck
    rcases hr with rfl | rfl
    all_goals exact g_go_ 20 (b_ge rfl cs.1 (by omega) (by omega) (fun _ => this) (fun y => by omega))
  | succ m ih =>
    intro i s N u hi I cs ck fx hh
    have wN := w.fr hr htt fx
    have I' := ri_lookH (a := a) (t := t) (u := t) (h := i) I (by omega) ht
    have nxt : ∀ N' u', CS N' r a (a 2) (lookH a t i s) → Fx r N N' → N' 66 = N 66 → g_Run (g_cal e) (g_mt S0 k_X4_comeAndLook) Q 26 [.ref r, .ref 2, .ref tt, .ref 66, .int (nI t), .int (nI i + 1), u'] [] N' := by
      intro N' u' c1 c2 c3
      rw [← nI_succ]
      exact ih (i + 1) (lookH a t i s) N' u' (by omega) I' c1 ((ck.fr c3).eq (lookH_k a t i s)) (fx.tr c2) hh
    clear ih hh I'
    unfold lookH at nxt
    obtain ⟨s', hs'⟩ : ∃ s', s' = nsd s.sd := ⟨_, rfl⟩
    rw [← hs'] at nxt
    have cs0 := cs
    obtain ⟨s5, s6, s9, ⟨lb, lb1, lb2, lb3⟩, sr, sc⟩ := cs
    obtain ⟨q1, q2, q3, q4⟩ := sr i (by omega)
    obtain ⟨j1, j2, j3, j4, j5⟩ := I.1 i (by omega)
    have hsp := I.2.2.2.1.1
    have hv := (wN.1.2.2.2.1 s.sp hsp).2.2.2.2
    have bv := (v.2.2.2.2.2.1 s.sp hsp).2.2.2.2.1
    have bv8 : a (20 + 5 * s.sp) < 256 := Nat.lt_of_lt_of_le bv (by have := Nat.pow_le_pow_right (n := 2) (by decide) b0; exact this)
    have no : ∀ u', ¬ (s.ho i = 3 ∧ (a (20 + 5 * s.sp)).testBit (s.wh i) = true) → g_Run (g_cal e) (g_mt S0 k_X4_comeAndLook) Q 121 [.ref r, .ref 2, .ref tt, .ref 66, .int (nI t), .int (nI i), u'] [] N := by
      intro u' z
      have := nxt N u' (by unfold lookS; rw [if_neg z]; exact cs0) (Fx.rf r N) rfl
      exact g_go_ 5 (g_to this _ rfl)
    have t1 : N (tt + 1) 1 = nI (a 10) := wN.2.2.1 1 (by decide)
    have cov : ∀ Q' : g_R, Q' (some (.int (nI (cvH a t i s)))) N → g_cal e k_X4_coverOf [.ref r, .ref 2, .int (nI i), .int (nI s.sp), .int (nI t), .int (nI (a 10))] N Q' := fun Q' hq => x_coverOf (by omega) hr v v2 wN I cs0 (by omega) ht hq
    have bcv : cvH a t i s ≤ 99 := by
      have : cvA a (s.wh i) t (hidN a s (s.wh i)) (a (19 + 5 * s.wh i)) ≤ 99 := cv_le (v.2.2.2.2.2.1 _ j1).2.2.1
      unfold cvH
      generalize cvA a (s.wh i) t (hidN a s (s.wh i)) (a (19 + 5 * s.wh i)) = c at this
      split <;> split <;> omega
    have dr : ∀ Q' : g_R, (∀ M', (∀ k, k ≠ r → M' k = N k) → (∀ j, j ≠ 9 → M' r j = N r j) → M' r 9 = s' → Q' (some (.int (nI (drw s' 100)))) M') → g_cal e k_X4_drawBelow [.ref r, .int 100] N Q' := fun Q' hq => x_draw2 (n := 100) (by omega) hr (by decide) (by decide) (fun M' s2 e1 e2 e3 e4 => by rw [s9, ← hs'] at e1; rw [e1] at e4 ⊢; exact hq M' e2 e3 e4)
    have bdr : drw s' 100 < 100 := Nat.mod_lt _ (by decide)
    have drawn : s.ho i = 3 → (a (20 + 5 * s.sp)).testBit (s.wh i) = true → ∀ N1, (∀ k, k ≠ r → N1 k = N k) → (∀ j, j ≠ 9 → N1 r j = N r j) → N1 r 9 = s' → g_Run (g_cal e) (g_mt S0 k_X4_comeAndLook) Q 95 [.ref r, .ref 2, .ref tt, .ref 66, .int (nI t), .int (nI i), .int (nI (cvH a t i s))] [.int (nI (drw s' 100))] N1 := by
      intro z1 z2 N1 e1 e2 e3
      have hlk : lookS s' a t i s = if drw s' 100 < cvH a t i s then s.sSd s' else (ctc i t (s.sSd s')).sLk (fun k => if k = i then true else s.lk k) := by unfold lookS; rw [if_pos ⟨z1, z2⟩]
      rw [hlk] at nxt
      refine g_go_ 40 (b_lt rfl rfl (by omega) (by omega) (fun z3 => ?_) (fun z3 => ?_))
      · rw [if_pos z3] at nxt
        have := nxt N1 (.int (nI (cvH a t i s))) ⟨(e2 5 (by decide)).trans s5, (e2 6 (by decide)).trans s6, e3, ⟨lb, lb1, (e2 8 (by decide)).trans lb2, lb3⟩, fun k hk => by rw [e1 _ (by omega), e1 _ (by omega), e1 _ (by omega)]; exact sr k hk, fun k hk => by rw [e1 _ (by omega)]; exact sc k hk⟩ (fun c c1 c2 => e1 c (by omega)) (e1 66 (by omega))
        exact g_to this _ rfl
      · rw [if_neg (by omega)] at nxt
        have cn8 : s.cn < a 2 := I.cn (h := i) (by omega) (by omega)
        have fnd : ∀ Q' : g_R, (∀ M', (∀ k, k ≠ r → k ≠ r + 2 → k ≠ r + 3 → k ≠ r + 4 → M' k = N1 k) → M' (r + 2) = upd (N1 (r + 2)) i 0 → M' (r + 3) = upd (N1 (r + 3)) i (nI t) → M' (r + 4) = upd (N1 (r + 4)) s.cn (nI i) → M' r = upd (N1 r) 6 (nI (s.cn + 1)) → Q' none M') → g_cal e k_X4_find [.ref r, .int (nI i), .int (nI t)] N1 Q' := fun Q' hq => x_find (by omega) hr (by omega) (by omega) ((e2 6 (by decide)).trans s6) hq
        have last : ∀ N2, (∀ k, k ≠ r → k ≠ r + 2 → k ≠ r + 3 → k ≠ r + 4 → N2 k = N1 k) → N2 (r + 2) = upd (N1 (r + 2)) i 0 → N2 (r + 3) = upd (N1 (r + 3)) i (nI t) → N2 (r + 4) = upd (N1 (r + 4)) s.cn (nI i) → N2 r = upd (N1 r) 6 (nI (s.cn + 1)) → g_Run (g_cal e) (g_mt S0 k_X4_comeAndLook) Q 26 [.ref r, .ref 2, .ref tt, .ref 66, .int (nI t), .int (nI i + 1), .int (nI (cvH a t i s))] [] (g_ms N2 r (upd (N2 r) 8 (N2 r 8 ||| 1 <<< (nI i &&& 31)))) := by
          intro N2 f1 f2 f3 f4 f5
          have n8 : N2 r 8 ||| 1 <<< (nI i &&& 31) = nI (lb ||| 2 ^ i) := by
            rw [f5]
            show N1 r 8 ||| _ = _
            rw [e2 8 (by decide), lb2, show (1 : Int32) <<< (nI i &&& 31) = nI (2 ^ i) from n_shl (by omega), n_or]
          rw [n8]
          refine nxt _ _ ⟨?_, ?_, ?_, ⟨lb ||| 2 ^ i, ?_, ?_, fun k => ?_⟩, fun k hk => ?_, fun k hk => ?_⟩ (fun c c1 c2 => ?_) ?_
          · rw [g_ms_s, f5]; exact (e2 5 (by decide)).trans s5
          · rw [g_ms_s, f5]; rfl
          · rw [g_ms_s, f5]; exact e3
          · exact Nat.or_lt_two_pow (n := 8) lb1 (Nat.pow_lt_pow_right (by decide) (by omega))
          · rw [g_ms_s]; rfl
          · rw [Nat.testBit_or, lb3, Nat.testBit_two_pow]
            show _ = (if k = i then true else s.lk k)
            by_cases ek : k = i
            · rw [if_pos ek, ek]; simp
            · rw [if_neg ek]
              have : ¬ i = k := fun y => ek y.symm
              simp [this]
          · show g_ms N2 r _ (r + 1) k = nI (s.wh k) ∧ g_ms N2 r _ (r + 2) k = nI (aup s.ho i 0 k) ∧ (aup s.ho i 0 k = 4 → g_ms N2 r _ (r + 3) k = nI (s.cm k)) ∧ (aup s.ho i 0 k < 3 → g_ms N2 r _ (r + 3) k = nI (aup s.wn i t k))
            rw [g_ms_n (by omega), g_ms_n (by omega), g_ms_n (by omega), f1 _ (by omega) (by omega) (by omega) (by omega), f2, f3, e1 _ (by omega), e1 _ (by omega), e1 _ (by omega)]
            unfold upd
            by_cases ek : k = i
            · subst ek
              rw [if_pos rfl, if_pos rfl, aup_s, aup_s]
              exact ⟨q1, rfl, fun y => by omega, fun _ => rfl⟩
            · rw [if_neg ek, if_neg ek, aup_n ek, aup_n ek]
              exact sr k hk
          · show g_ms N2 r _ (r + 4) k = nI (aup s.ca s.cn i k)
            rw [g_ms_n (by omega), f4, e1 _ (by omega)]
            unfold upd
            by_cases ek : k = s.cn
            · rw [if_pos ek, ek, aup_s]
            · rw [if_neg ek, aup_n ek]
              exact sc k (by have : k < s.cn + 1 := hk; omega)
          · rw [g_ms_n (by omega), f1 c (by omega) (by omega) (by omega) (by omega), e1 c (by omega)]
          · rw [g_ms_n (by omega), f1 66 (by omega) (by omega) (by omega) (by omega), e1 66 (by omega)]
        rcases hr with rfl | rfl
        all_goals
          refine fnd _ (fun N2 f1 f2 f3 f4 f5 => ?_)
          exact g_to (last N2 f1 f2 f3 f4 f5) _ rfl
    have k1 := ck.1
    have dec : ∀ Q' : g_R, Q' (some (.int (bI ((a (20 + 5 * s.sp)).testBit (s.wh i))))) N → g_cal e k_X9_hasBit [.int (nI (a (20 + 5 * s.sp))), .int (nI (s.wh i))] N Q' := fun Q' hq => x_hasBit (by omega) _ _ rfl rfl (by omega) (by omega) hq
    rcases hr with rfl | rfl <;> rcases htt with rfl | rfl
    all_goals
      refine g_go_ 60 (b_ge rfl s5 (by omega) (by omega) (fun y => by omega) (fun _ => ⟨i, rfl, by omega, ?_⟩))
      rw [q2]
      refine b_ne rfl (show (3 : Int32) = nI 3 from rfl) (by omega) (by decide) (fun z => g_to (no _ (fun y => z y.1)) _ rfl) (fun z => ⟨s.sp, k1, by omega, i, rfl, by omega, ?_⟩)
      rw [q1, hv]
      refine dec _ (b_z (fun z2 => g_to (no _ (fun y => by rw [z2] at y; exact absurd y.2 (by decide))) _ rfl) (fun z2 => ⟨1, rfl, by decide, ?_⟩))
      rw [t1]
      show g_cal e k_X4_coverOf [_, .ref 2, .int (nI i), .int (N 66 0), .int (nI t), .int (nI (a 10))] N _
      rw [k1]
      refine cov _ ?_
      refine dr _ (fun N1 e1 e2 e3 => ?_)
      exact g_to (drawn z z2 N1 e1 e2 e3) _ rfl
theorem x_comeAndLook {d r tt t : Nat} {M : g_M} {Q : g_R} {a : Nat → Nat} {s : RS} (hd : 4 ≤ d) (hr : r = 17 ∨ r = 60) (htt : tt = 14 ∨ tt = 57) (v : V1 a) (v2 : V2 a) (w : CW M tt a) (ht : t ≤ 900) (I : RI a t s) (cs : CS M r a (a 2) s) (ck : CK M s)
    (h : ∀ M', Fx r M M' → CS M' r a (a 2) (lookA a t s) → CK M' (lookA a t s) → Q none M') : g_cal d k_X4_comeAndLook [.ref r, .ref 2, .ref tt, .ref 66, .int (nI t)] M Q := by
  refine g_m (by omega) 60 (fun e he => ?_)
  have mob : s.mo < 2 ^ 31 := by
    by_cases z : s.wk = true
    · have := (I.2.2.2.2.2.1 z).2.2.2; omega
    · have := (I.2.2.2.2.2.2.1 (Bool.not_eq_true _ ▸ z)).2; omega
  refine x_comesAt (by omega) ck (by omega) mob ?_
  by_cases c : s.wk = true ∧ s.mo = t
  · rw [decide_eq_true c]
    unfold lookA at h
    rw [if_pos c] at h
    have t6 : M (tt + 1) 6 = nI (a 15) := w.2.2.1 6 (by decide)
    have I1 := ri_come (a := a) (t := t) v2 ht I c.1
    obtain ⟨k1, k2, k3, k4, k5⟩ := ck
    have b15 := v2.2.2.2.2.2.2.2.2.1
    have come : ∀ Q' : g_R, (∀ M', (∀ k, k ≠ 66 → M' k = M k) → CK M' (s.sSk s.to s.to (t + a 15) s.pa false) → Q' none M') → g_cal e k_X5_come [.ref 66, .int (nI t), .int (nI (a 15))] M Q' := by
      intro Q' hq
      refine g_m (by omega) 20 (fun e2 he2 => ?_)
      refine ⟨Or.inl rfl, hq _ (fun k hk => by rw [g_ms_n hk, g_ms_n hk, g_ms_n hk]) ⟨?_, ?_, ?_, (fun y => by cases y), fun _ => Or.inl ⟨?_, ?_⟩⟩⟩
      · exact (k4 c.1).1
      · exact k2
      · rfl
      · show t + a 15 < 100000; omega
      · show nI t + nI (a 15) = nI (t + a 15); rw [nI_add]
    have lp := x_lookL (Q := Q) (M := M) (e := e) (by omega) hr htt v v2 w ht h (a 2) 0 (s.sSk s.to s.to (t + a 15) s.pa false)
    rcases htt with rfl | rfl
    all_goals
      refine b_nt (by decide) ⟨6, rfl, by decide, ?_⟩
      rw [t6]
      refine come _ (fun M' e1 e2 => ?_)
      refine g_to (lp M' .null (by omega) I1 ?_ e2 (fun c c1 _ => e1 c c1) rfl) _ rfl
      obtain ⟨s5, s6, s9, ⟨lb, lb1, lb2, lb3⟩, sr, sc⟩ := cs
      refine ⟨?_, ?_, ?_, ⟨lb, lb1, ?_, lb3⟩, fun k hk => ?_, fun k hk => ?_⟩
      · rw [e1 _ (by omega)]; exact s5
      · rw [e1 _ (by omega)]; exact s6
      · rw [e1 _ (by omega)]; exact s9
      · rw [e1 _ (by omega)]; exact lb2
      · rw [e1 _ (by omega), e1 _ (by omega), e1 _ (by omega)]; exact sr k hk
      · rw [e1 _ (by omega)]; exact sc k hk
  · rw [decide_eq_false c]
    unfold lookA at h
    rw [if_neg c] at h
    exact b_nf rfl (h M (Fx.rf r M) cs ck)
