/-! ===== the reference's round: one second ===== -/
theorem lkc_on {s : RS} {h p : Nat} (hh : h < 8) (hl : s.lk h = false) (f : Nat → Bool) (hf : ∀ k, f k = if k = h then true else s.lk k) : cnt (fun k => f k && decide (s.wh k = p)) 8 = if s.wh h = p then lkc s p + 1 else lkc s p := by
  unfold lkc
  by_cases c : s.wh h = p
  · rw [if_pos c]
    refine cnt_put (k := h) hh (by rw [hl]; rfl) (by rw [hf, if_pos rfl, decide_eq_true c]; rfl) (fun i _ hn => by rw [hf, if_neg hn])
  · rw [if_neg c]
    refine cnt_congr (fun i _ => ?_)
    by_cases e : i = h
    · subst e; rw [decide_eq_false c, Bool.and_false, Bool.and_false]
    · rw [hf, if_neg e]
theorem m_catches {d i t c : Nat} {M : g_M} {Q : g_R} (hd : 1 ≤ d) (hi : i < 8) (hc : c < 8) (h18 : M 82 18 = nI c) (h : ∀ M', (∀ k, k ≠ 82 → k ≠ 92 → k ≠ 93 → k ≠ 95 → M' k = M k) → M' 92 = upd (M 92) i 0 → M' 93 = upd (M 93) i (nI t) → M' 95 = upd (M 95) c (nI i) → M' 82 = upd (M 82) 18 (nI (c + 1)) → Q none M') : g_cal d k_X10_catches [.ref 82, .int (nI i), .int (nI t)] M Q := by
  refine g_m hd 40 (fun e he => ⟨i, rfl, hi, i, rfl, hi, c, h18, hc, h _ (fun k h1 h2 h3 h4 => ?_) rfl rfl rfl ?_⟩)
  · rw [g_ms_n h1, g_ms_n h4, g_ms_n h3, g_ms_n h2]
  · rw [g_ms_s, nI_succ, ← h18]; rfl
/-- what catching does to the relation -/
theorem ms_ctc {N N1 : g_M} {s : RS} {i t : Nat} (hi : i < 8) (hS : MS N s) (f1 : ∀ k, k ≠ 82 → k ≠ 92 → k ≠ 93 → k ≠ 95 → N1 k = N k) (f2 : N1 92 = upd (N 92) i 0) (f3 : N1 93 = upd (N 93) i (nI t)) (f4 : N1 95 = upd (N 95) s.cn (nI i)) (f5 : N1 82 = upd (N 82) 18 (nI (s.cn + 1))) : MS N1 (ctc i t s) := by
  obtain ⟨a1, a2, a3, a4, a5⟩ := hS
  refine ⟨by rw [f5]; exact a1, by rw [f5]; rfl, fun k hk => ?_, fun k hk => ?_, fun p hp => ?_⟩
  · obtain ⟨q1, q2, q3, q4⟩ := a3 k hk
    show N1 91 k = nI (s.wh k) ∧ N1 92 k = nI (aup s.ho i 0 k) ∧ N1 93 k = nI (aup s.wn i t k) ∧ (aup s.ho i 0 k = 4 → N1 94 k = nI (s.cm k))
    rw [f1 91 (by decide) (by decide) (by decide) (by decide), f1 94 (by decide) (by decide) (by decide) (by decide), f2, f3]
    unfold upd
    by_cases e : k = i
    · subst e
      rw [if_pos rfl, if_pos rfl, aup_s, aup_s]
      exact ⟨q1, rfl, rfl, fun y => by omega⟩
    · rw [if_neg e, if_neg e, aup_n e, aup_n e]
      exact ⟨q1, q2, q3, q4⟩
  · show N1 95 k = nI (aup s.ca s.cn i k)
    rw [f4]
    unfold upd
    by_cases e : k = s.cn
    · rw [if_pos e, e, aup_s]
    · rw [if_neg e, aup_n e]; exact a4 k (by have : k < s.cn + 1 := hk; omega)
  · rw [f1 96 (by decide) (by decide) (by decide) (by decide)]; exact a5 p hp
theorem m_ageOf {d : Nat} {N : g_M} {Q : g_R} {a : Nat → Nat} (hd : 1 ≤ d) (hM : RM N 84 a) (i : Nat) (hi : i < 8) (h : Q (some (.int (nI (a (98 + 2 * i))))) N) : g_cal d k_X10_ageOf [.ref 82, .int (nI i)] N Q := by
  refine g_m hd 40 (fun e he => ⟨98 + 2 * i, ia rfl (im rfl rfl), by omega, ?_⟩)
  rw [hM _ (by omega)]
  exact h
theorem RI.lkf {a : Nat → Nat} {t h : Nat} {s : RS} (I : RI a t s) (h3 : 3 ≤ s.ho h) : s.lk h = false := by
  by_cases z : s.lk h = true
  · have := (I.2.2.2.2.2.2.2.1 h z).2.2; omega
  · exact Bool.not_eq_true _ ▸ z
theorem m_looks {d t : Nat} {M : g_M} {Q : g_R} {a : Nat → Nat} {s0 : RS} (hd : 4 ≤ d) (v : V1 a) (v2 : V2 a) (f : FA M a) (ht : t ≤ 900) (I : RI a t s0) (hS : MS M s0) (hk : M 82 20 = nI s0.sp)
    (h : ∀ M', Fm M M' → (∀ j, 19 ≤ j → M' 82 j = M 82 j) → MS M' (g_it (lookH a t) (a 2) 0 s0) → Q none M') : g_cal d k_X10_looks [.ref 82, .int (nI t)] M Q := by
  have b0 : a 0 ≤ 8 := v.2.1
  have b2 : a 2 ≤ 8 := v.2.2.2.1
  refine g_m (by omega) 4 (fun e he => ?_)
  have loop : ∀ m i s N u3 u4, i + m = a 2 → RI a t s → MS N s → s.sp = s0.sp → Fm M N → (∀ j, 19 ≤ j → N 82 j = M 82 j) → g_it (lookH a t) m i s = g_it (lookH a t) (a 2) 0 s0 → g_Run (g_cal e) (g_mt S0 k_X10_looks) Q 2 [.ref 82, .int (nI t), .int (nI i), u3, u4] [] N := by
    intro m
    induction m with
    | zero =>
      intro i s N u3 u4 hi I hS hsp fm k9 hh
      have fin := h N fm k9 (by rw [← hh]; exact hS)
      refine g_go_ 20 ⟨2, rfl, by decide, ?_⟩
      rw [(f.fr fm).b2]
      exact b_ge rfl rfl (by omega) (by omega) (fun _ => fin) (fun z => by omega)
    | succ m ih =>
      intro i s N u3 u4 hi I hS hsp fm k9 hh
      have fN := f.fr fm
      have I' := ri_lookH (a := a) (t := t) (u := t) (h := i) I (by omega) ht
      have nxt : ∀ N' u3 u4, MS N' (lookH a t i s) → Fm N N' → (∀ j, 19 ≤ j → N' 82 j = N 82 j) → g_Run (g_cal e) (g_mt S0 k_X10_looks) Q 135 [.ref 82, .int (nI t), .int (nI i), u3, u4] [] N' := by
        intro N' u3 u4 c1 c2 c3
        have hR := ih (i + 1) (lookH a t i s) N' u3 u4 (by omega) I' c1 ((lookH_k a t i s).2.1.trans hsp) (fm.tr c2) (fun j hj => (c3 j hj).trans (k9 j hj)) hh
        rw [nI_succ] at hR
        exact g_go_ 5 (g_to hR _ rfl)
      clear ih hh I'
      unfold lookH at nxt
      obtain ⟨s', hs'⟩ : ∃ s', s' = nsd s.sd := ⟨_, rfl⟩
      rw [← hs'] at nxt
      have n20 : N 82 20 = nI s.sp := by rw [k9 20 (by decide), hk, hsp]
      obtain ⟨q1, q2, q3, q4⟩ := hS.2.2.1 i (by omega)
      obtain ⟨j1, j2, j3, j4, j5⟩ := I.1 i (by omega)
      have hspl := I.2.2.2.1.1
      have bv := (v.2.2.2.2.2.1 s.sp hspl).2.2.2.2.1
      have bv8 : a (20 + 5 * s.sp) < 256 := Nat.lt_of_lt_of_le bv (by have := Nat.pow_le_pow_right (n := 2) (by decide) b0; exact this)
      have no : ¬ (s.ho i = 3 ∧ (a (20 + 5 * s.sp)).testBit (s.wh i) = true) → ∀ u3 u4, g_Run (g_cal e) (g_mt S0 k_X10_looks) Q 135 [.ref 82, .int (nI t), .int (nI i), u3, u4] [] N := by
        intro z u3 u4
        exact nxt N u3 u4 (by unfold lookS; rw [if_neg z]; exact hS) (Fm.rf N) (fun _ _ => rfl)
      have bcv : cvA a (s.wh i) t (hidN a s (s.wh i)) (a (19 + 5 * s.wh i)) ≤ 99 := cv_le (v.2.2.2.2.2.1 _ j1).2.2.1
      have bcH : cvH a t i s ≤ 99 := by
        unfold cvH
        generalize cvA a (s.wh i) t (hidN a s (s.wh i)) (a (19 + 5 * s.wh i)) = c at bcv
        split <;> split <;> omega
      have R105 : s.ho i = 3 → (a (20 + 5 * s.sp)).testBit (s.wh i) = true → g_Run (g_cal e) (g_mt S0 k_X10_looks) Q 105 [.ref 82, .int (nI t), .int (nI i), .int (nI (s.wh i)), .int (nI (cvH a t i s))] [] N := by
        intro z1 z2
        have hlk : lookS s' a t i s = if drw s' 100 < cvH a t i s then s.sSd s' else (ctc i t (s.sSd s')).sLk (fun k => if k = i then true else s.lk k) := by unfold lookS; rw [if_pos ⟨z1, z2⟩]
        rw [hlk] at nxt
        have bdr : drw s' 100 < 100 := Nat.mod_lt _ (by decide)
        refine g_go_ 40 (m_draw (n := 100) (by omega) (by decide) (by decide) (fun N1 s2 e1 e2 e3 e4 => ?_))
        rw [hS.1, ← hs'] at e1
        subst e1
        have hS1 : MS N1 (s.sSd s2) := by
          unfold MS
          rw [e2 91 (by decide), e2 92 (by decide), e2 93 (by decide), e2 94 (by decide), e2 95 (by decide), e2 96 (by decide), e3 18 (by decide)]
          exact ⟨e4, hS.2⟩
        have fm1 : Fm N N1 := ⟨fun c c1 _ => e2 c c1, fun j hj => e3 j (by omega)⟩
        refine b_ge rfl rfl (by omega) (by omega) (fun z3 => ?_) (fun z3 => ?_)
        · rw [if_neg (by omega)] at nxt
          have cn8 : s.cn < a 2 := I.cn (h := i) (by omega) (by omega)
          refine m_catches (c := s.cn) (by omega) (by omega) (by omega) hS1.2.1 (fun N2 f1 f2 f3 f4 f5 => ?_)
          have hS2 := ms_ctc (i := i) (t := t) (by omega) hS1 f1 f2 f3 f4 f5
          obtain ⟨N3, hN3⟩ : ∃ N3, N3 = g_ms N2 96 (upd (N2 96) (s.wh i) (N2 96 (s.wh i) + 1)) := ⟨_, rfl⟩
          have lf : s.lk i = false := I.lkf (by omega)
          have hR := nxt N3 (.int (nI (s.wh i))) (.int (nI (cvH a t i s))) ?_ ?_ ?_
          · rw [hN3] at hR
            exact ⟨s.wh i, rfl, by omega, s.wh i, rfl, by omega, g_to hR _ rfl⟩
          · obtain ⟨a1, a2, a3, a4, a5⟩ := hS2
            have o : ∀ c, c ≠ 96 → N3 c = N2 c := fun c hc => by rw [hN3, g_ms_n hc]
            unfold MS
            rw [o 82 (by decide), o 91 (by decide), o 92 (by decide), o 93 (by decide), o 94 (by decide), o 95 (by decide)]
            refine ⟨a1, a2, a3, a4, fun p hp => ?_⟩
            have hc := lkc_on (s := s) (h := i) (p := p) (by omega) lf (fun k => if k = i then true else s.lk k) (fun _ => rfl)
            have hc' : lkc ((ctc i t (s.sSd s2)).sLk (fun k => if k = i then true else s.lk k)) p = if s.wh i = p then lkc s p + 1 else lkc s p := hc
            have a5' : ∀ p, p < 8 → N2 96 p = nI (lkc s p) := a5
            rw [hN3, g_ms_s, hc']
            unfold upd
            by_cases ep : p = s.wh i
            · rw [if_pos ep, if_pos ep.symm, ep, a5' _ (by omega), nI_succ]
            · rw [if_neg ep, if_neg (fun y => ep y.symm)]; exact a5' p hp
          · exact fm1.tr ⟨fun c c1 c2 => by rw [hN3, g_ms_n (by omega)]; exact f1 c c1 (by omega) (by omega) (by omega), fun j hj => by rw [hN3, g_ms_n (by decide), f5]; unfold upd; rw [if_neg (by omega)]⟩
          · intro j hj
            rw [hN3, g_ms_n (by decide), f5]
            unfold upd
            rw [if_neg (by omega)]
            exact e3 j (by omega)
        · rw [if_pos z3] at nxt
          exact g_to (nxt N1 _ _ hS1 fm1 (fun j hj => e3 j (by omega))) _ rfl
      refine g_go_ 60 ⟨2, rfl, by decide, ?_⟩
      rw [fN.b2]
      refine b_ge rfl rfl (by omega) (by omega) (fun z => by omega) (fun _ => ⟨i, rfl, by omega, i, rfl, by omega, ?_⟩)
      rw [q1, q2]
      refine b_ne rfl (show (3 : Int32) = nI 3 from rfl) (by omega) (by decide) (fun z => g_to (no (fun y => z y.1) _ _) _ rfl) (fun z1 => ?_)
      refine m_seesOne (by omega) s.sp (s.wh i) (a (20 + 5 * s.sp)) n20 rfl (by omega) (by omega) (by rw [fN.1 _ (by omega)]; congr 2; omega) (by omega) ?_
      refine b_nz (fun z2 => ?_) (fun z2 => g_to (no (fun y => by rw [z2] at y; exact absurd y.2 (by decide)) _ _) _ rfl)
      have hage : a (98 + 2 * i) < 65536 := v.2.2.2.2.1 _
      have bT := (v.2.2.2.2.2.1 (s.wh i) j1).2.2.2.1
      have hN := hidN_le a s (s.wh i)
      refine m_hidingIn (by omega) b2 fN (fun k hk => ⟨by have := (I.1 k hk).1; omega, (I.1 k hk).2.1⟩) hS (s.wh i) (by omega) (m_get (by omega) (s.wh i) 3 rfl rfl (by omega) (by decide) ?_)
      rw [fN.1 _ (by omega), show 16 + 5 * s.wh i + 3 = 19 + 5 * s.wh i by omega]
      refine mc_coverOf (by omega) v v2 fN.1 (s.wh i) t (hidN a s (s.wh i)) (a (19 + 5 * s.wh i)) j1 (by omega) (by omega) bT ?_
      generalize hc : cvA a (s.wh i) t (hidN a s (s.wh i)) (a (19 + 5 * s.wh i)) = c at bcv
      have R91 : ∀ c', c' ≤ 99 → cvH a t i s = (if s.wh i = s.sp then c' / 2 else c') → g_Run (g_cal e) (g_mt S0 k_X10_looks) Q 91 [.ref 82, .int (nI t), .int (nI i), .int (nI (s.wh i)), .int (nI c')] [] N := by
        intro c' hc' hq
        have r := R105 z1 z2
        rw [hq] at r
        refine g_go_ 20 ?_
        show (¬ nI (s.wh i) = N 82 20 → _) ∧ (nI (s.wh i) = N 82 20 → _)
        rw [n20]
        refine b_ne rfl rfl (by omega) (by omega) (fun z => ?_) (fun z => ⟨by decide, ?_⟩)
        · rw [if_neg z] at r; exact g_to r _ rfl
        · rw [if_pos z, ← show nI c' / 2 = nI (c' / 2) from idv (b := 2) (by omega) (by decide) (by decide) rfl rfl] at r
          exact g_to r _ rfl
      refine m_ageOf (by omega) fN.1 i (by omega) ?_
      refine b_ge rfl (show (6 : Int32) = nI 6 from rfl) (by omega) (by decide) (fun z => ?_) (fun z => ?_)
      · exact g_to (R91 c bcv (by unfold cvH; rw [if_neg (show ¬ a (98 + 2 * i) < 6 by omega), hc])) _ rfl
      · have r := R91 (c - 10) (by omega) (by unfold cvH; rw [if_pos z, hc])
        refine b_ge rfl (show (10 : Int32) = nI 10 from rfl) (by omega) (by decide) (fun z3 => ?_) (fun z3 => ?_)
        · rw [← show nI c - 10 = nI (c - 10) from is (b := 10) z3 rfl rfl] at r
          exact g_to r _ rfl
        · rw [show c - 10 = 0 by omega] at r
          exact g_to r _ rfl
  exact g_to (loop (a 2) 0 s0 M .null .null (by omega) I hS rfl (Fm.rf M) (fun _ _ => rfl) rfl) _ rfl
