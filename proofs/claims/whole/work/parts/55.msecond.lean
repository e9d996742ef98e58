/-! ===== the reference's round: a second ===== -/
theorem MS.sk {M : g_M} {s : RS} {sp to mo pa : Nat} {wk : Bool} (h : MS M s) : MS M (s.sSk sp to mo pa wk) := h
theorem ms_go {M : g_M} {t : Nat} {a : Nat → Nat} {s : RS} (h : MS M s) : MS M (goA a t s) := by
  unfold goA
  split
  · split
    · exact MS.sk h
    · exact MS.sk h
  · exact h
theorem MS.fr {M M' : g_M} {s : RS} (h : MS M s) (e : ∀ c, c ≠ 82 → M' c = M c) (e1 : M' 82 17 = M 82 17) (e2 : M' 82 18 = M 82 18) : MS M' s := by
  unfold MS at h ⊢
  rw [e1, e2, e 91 (by decide), e 92 (by decide), e 93 (by decide), e 94 (by decide), e 95 (by decide), e 96 (by decide)]
  exact h
theorem m_second {d t : Nat} {M : g_M} {Q : g_R} {a : Nat → Nat} {s0 : RS} (hd : 5 ≤ d) (v : V1 a) (v2 : V2 a) (f : FA M a) (ht : t ≤ 900) (I : RI a t s0) (hS : MS M s0) (hK : MK M s0)
    (h : ∀ M', Fm M M' → MS M' (sec a t s0) → MK M' (sec a t s0) → Q none M') : g_cal d k_X10_second [.ref 82, .int (nI t)] M Q := by
  have b0 : a 0 ≤ 8 := v.2.1
  have b2 : a 2 ≤ 8 := v.2.2.2.1
  have b11 : a 11 ≤ 60 := v2.2.2.2.1
  have b13 : a 13 ≤ 1 := v2.2.2.2.2.2.1
  have I1 := ri_look v2 ht I
  have I2 := ri_home (u := t) ht I1.1
  have hk := homeA_k a t (lookA a t s0)
  have I3 := ri_go v v2 ht I2 (fun y => by rw [hk.2.2.1]; exact I1.2 (by rw [← hk.1]; exact y))
  refine g_m (by omega) 60 (fun e he => ?_)
  -- they run
  have R183 : ∀ s b, RI a (t + 1) s → s = goA a t (homeA a t (lookA a t s0)) → b = bck a t s → b < 2 ^ 31 → ∀ N0, Fm M N0 → MS N0 s → MK N0 s → ∀ m i N, i + m = a 2 → (∀ k, k ≠ 92 → k ≠ 94 → N k = N0 k) → (∀ k, k < 8 → N 92 k = (if k < i ∧ runB a b s k = true then 4 else N0 92 k) ∧ N 94 k = (if k < i ∧ runB a b s k = true then nI (t + rno a k (s.wh k)) else N0 94 k)) → ∀ u2, g_Run (g_cal e) (g_mt S0 k_X10_second) Q 183 [.ref 82, .int (nI t), u2, .int (nI b), .int (nI i)] [] N := by
    intro s b Is hs hb hb31 N0 fm hS hK m
    obtain ⟨a1, a2', a3, a4, a5⟩ := hS
    have hsec : sec a t s0 = runA a t b s := by unfold sec; rw [hb, hs]
    induction m with
    | zero =>
      intro i N hi e1 e2 u2
      have hi' : i = a 2 := by omega
      subst hi'
      have fm2 : Fm N0 N := ⟨fun c c1 c2 => e1 c (by omega) (by omega), fun j _ => by rw [e1 82 (by decide) (by decide)]⟩
      have fin := h N (fm.tr fm2) (by
        rw [hsec]
        unfold MS
        rw [e1 82 (by decide) (by decide), e1 91 (by decide) (by decide), e1 93 (by decide) (by decide), e1 95 (by decide) (by decide), e1 96 (by decide) (by decide)]
        refine ⟨a1, a2', fun k hk => ?_, a4, a5⟩
        obtain ⟨q1, q2, q3, q4⟩ := a3 k hk
        obtain ⟨f1, f2⟩ := e2 k hk
        rw [f1, f2]
        show _ ∧ _ = nI (if runB a b s k = true then 4 else s.ho k) ∧ _ ∧ ((if runB a b s k = true then 4 else s.ho k) = 4 → _ = nI (if runB a b s k = true then t + rno a k (s.wh k) else s.cm k))
        by_cases z : runB a b s k = true
        · have hka := (of_decide_eq_true z).1
          rw [if_pos ⟨hka, z⟩, if_pos z, if_pos ⟨hka, z⟩, if_pos z]
          exact ⟨q1, rfl, q3, fun _ => rfl⟩
        · rw [if_neg (fun y => z y.2), if_neg z, if_neg (fun y => z y.2), if_neg z]
          exact ⟨q1, q2, q3, q4⟩) (by
        rw [hsec]
        exact hK.fr (fun j _ _ => by rw [e1 82 (by decide) (by decide)]))
      refine g_go_ 20 ⟨2, rfl, by decide, ?_⟩
      rw [e1 84 (by decide) (by decide), (f.fr fm).b2]
      exact b_ge rfl rfl (by omega) (by omega) (fun _ => fin) (fun z => by omega)
    | succ m ih =>
      intro i N hi e1 e2 u2
      have fN : FA N a := (f.fr fm).fr ⟨fun c c1 c2 => e1 c (by omega) (by omega), fun j _ => by rw [e1 82 (by decide) (by decide)]⟩
      obtain ⟨f1, f2⟩ := e2 i (by omega)
      obtain ⟨q1, q2, q3, q4⟩ := a3 i (by omega)
      rw [if_neg (fun y => by omega), q2] at f1
      obtain ⟨j1, j2, j3, j4, j5⟩ := Is.1 i (by omega)
      have n91 : N 91 i = nI (s.wh i) := by rw [e1 91 (by decide) (by decide)]; exact q1
      have brn := rno_le v i (s.wh i)
      obtain ⟨N2, hN2⟩ : ∃ N2, N2 = g_ms N 92 (upd (N 92) i 4) := ⟨_, rfl⟩
      obtain ⟨N3, hN3⟩ : ∃ N3, N3 = g_ms N2 94 (upd (N2 94) i (nI t + nI (rno a i (s.wh i)))) := ⟨_, rfl⟩
      have yes : runB a b s i = true → g_Run (g_cal e) (g_mt S0 k_X10_second) Q 261 [.ref 82, .int (nI t), u2, .int (nI b), .int (nI i)] [] N3 := by
        intro z
        have hR := ih (i + 1) N3 (by omega) (fun k h1 h2 => by rw [hN3, g_ms_n h2, hN2, g_ms_n h1]; exact e1 k h1 h2) (fun k hk => by
          obtain ⟨g1, g2⟩ := e2 k hk
          rw [hN3, g_ms_n (by decide), g_ms_s, hN2, g_ms_s, g_ms_n (by decide)]
          unfold upd
          by_cases ek : k = i
          · subst ek
            rw [if_pos rfl, if_pos rfl, if_pos ⟨by omega, z⟩, if_pos ⟨by omega, z⟩, nI_add]
            exact ⟨rfl, rfl⟩
          · rw [if_neg ek, if_neg ek, g1, g2]
            by_cases z2 : k < i ∧ runB a b s k = true
            · rw [if_pos z2, if_pos z2, if_pos ⟨by omega, z2.2⟩, if_pos ⟨by omega, z2.2⟩]; exact ⟨rfl, rfl⟩
            · rw [if_neg z2, if_neg z2, if_neg (fun y => z2 ⟨by omega, y.2⟩), if_neg (fun y => z2 ⟨by omega, y.2⟩)]; exact ⟨rfl, rfl⟩) u2
        rw [nI_succ] at hR
        exact g_go_ 5 (g_to hR _ rfl)
      have no : ¬ runB a b s i = true → g_Run (g_cal e) (g_mt S0 k_X10_second) Q 261 [.ref 82, .int (nI t), u2, .int (nI b), .int (nI i)] [] N := by
        intro z
        have hR := ih (i + 1) N (by omega) e1 (fun k hk => by
          obtain ⟨g1, g2⟩ := e2 k hk
          rw [g1, g2]
          by_cases z2 : k < i ∧ runB a b s k = true
          · rw [if_pos z2, if_pos z2, if_pos ⟨by omega, z2.2⟩, if_pos ⟨by omega, z2.2⟩]; exact ⟨rfl, rfl⟩
          · have z3 : ¬ (k < i + 1 ∧ runB a b s k = true) := by
              intro y
              by_cases ek : k = i
              · subst ek; exact z y.2
              · exact z2 ⟨by omega, y.2⟩
            rw [if_neg z2, if_neg z2, if_neg z3, if_neg z3]; exact ⟨rfl, rfl⟩) u2
        rw [nI_succ] at hR
        exact g_go_ 5 (g_to hR _ rfl)
      rw [hN3] at yes
      have fN2 : FA N2 a := fN.fr ⟨fun c c1 c2 => by rw [hN2, g_ms_n (by omega)], fun j _ => by rw [hN2, g_ms_n (by decide)]⟩
      have n291 : N2 91 i = nI (s.wh i) := by rw [hN2, g_ms_n (by decide)]; exact n91
      have R239 : runB a b s i = true → g_Run (g_cal e) (g_mt S0 k_X10_second) Q 239 [.ref 82, .int (nI t), u2, .int (nI b), .int (nI i)] [] N2 := by
        intro z
        have hR := yes z
        refine g_go_ 30 ⟨i, rfl, by omega, ?_⟩
        rw [n291]
        exact m_runOf (by omega) v fN2 i (s.wh i) (by omega) j1 ⟨i, rfl, by omega, g_to hR _ rfl⟩
      rw [hN2] at R239
      refine g_go_ 40 ⟨2, rfl, by decide, ?_⟩
      rw [fN.b2]
      refine b_ge rfl rfl (by omega) (by omega) (fun y => by omega) (fun _ => ⟨i, rfl, by omega, ?_⟩)
      rw [f1]
      refine b_ne rfl (show (3 : Int32) = nI 3 from rfl) (by omega) (by decide) (fun z => g_to (no (fun y => z (of_decide_eq_true y).2.1)) _ rfl) (fun z => ⟨i, rfl, by omega, ?_⟩)
      rw [n91]
      refine m_runOf (by omega) v fN i (s.wh i) (by omega) j1 (m_setOf (by omega) 2 rfl (by decide) ?_)
      rw [fN.1 _ (by decide), show 9 + 2 = 11 from rfl]
      refine b_lt (ia rfl rfl) rfl (by omega) hb31 (fun z2 => ⟨i, rfl, by omega, ?_⟩) (fun z2 => g_to (no (fun y => by have := (of_decide_eq_true y).2.2; omega)) _ rfl)
      exact g_to (R239 (decide_eq_true ⟨by omega, z, z2⟩)) _ rfl
  -- back
  have R174 : ∀ N, Fm M N → MS N (goA a t (homeA a t (lookA a t s0))) → MK N (goA a t (homeA a t (lookA a t s0))) → ∀ (u2 : Int32) u3 u4, g_Run (g_cal e) (g_mt S0 k_X10_second) Q 174 [.ref 82, .int (nI t), .int u2, u3, u4] [] N := by
    intro N fm c1 c2 u2 u3 u4
    generalize hg : goA a t (homeA a t (lookA a t s0)) = s at *
    have bb : bck a t s < 2 ^ 31 := by
      unfold bck
      split
      · rename_i y
        have := (I3.2.2.2.2.2.1 y).2.2.2
        have := ds_le v s.to 0
        omega
      · have := ds_le v s.sp 0
        omega
    refine g_go_ 20 (m_back (by omega) v (f.fr fm) I3 (by omega) c2 ?_)
    exact g_to (R183 s (bck a t s) I3 rfl rfl bb N fm c1 c2 (a 2) 0 N (by omega) (fun _ _ _ => rfl) (fun k hk => by rw [if_neg (fun y => by omega), if_neg (fun y => by omega)]; exact ⟨rfl, rfl⟩) (.int u2)) _ rfl
  -- she goes on
  have R154 : ∀ N, Fm M N → MS N (homeA a t (lookA a t s0)) → MK N (homeA a t (lookA a t s0)) → ∀ (u2 : Int32) u3 u4, g_Run (g_cal e) (g_mt S0 k_X10_second) Q 154 [.ref 82, .int (nI t), .int u2, u3, u4] [] N := by
    intro N fm c1 c2 u2 u3 u4
    generalize hg : homeA a t (lookA a t s0) = s at *
    have c20 := c2
    obtain ⟨k1, k2, k3, k4, k5⟩ := c2
    have stay : ¬ (s.wk = false ∧ s.mo ≤ t) → g_Run (g_cal e) (g_mt S0 k_X10_second) Q 174 [.ref 82, .int (nI t), .int u2, u3, u4] [] N := by
      intro z
      have : goA a t s = s := by unfold goA; rw [if_neg z]
      exact R174 N fm (by rw [this]; exact c1) (by rw [this]; exact c20) u2 u3 u4
    refine g_go_ 30 ?_
    show (¬ N 82 25 = 0 → _) ∧ (N 82 25 = 0 → _)
    rw [k3]
    refine b_nz (fun z => g_to (stay (fun y => by rw [z] at y; cases y.1)) _ rfl) (fun z => ?_)
    have bm := (I2.2.2.2.2.2.2.1 z).2
    show (nI t < N 82 23 → _) ∧ (¬ nI t < N 82 23 → _)
    rw [k5 z]
    refine b_gt rfl rfl (by omega) (by omega) (fun y => g_to (stay (fun y2 => by omega)) _ rfl) (fun y => ?_)
    refine m_goesOn (by omega) v v2 (f.fr fm) ht I2 c20 z y (fun N' e1 e2 e3 => ?_)
    exact g_to (R174 N' (fm.tr ⟨fun c c1 _ => e1 c c1, fun j hj => e2 j (by omega)⟩) ((ms_go c1).fr e1 (e2 17 (by decide)) (e2 18 (by decide))) e3 u2 u3 u4) _ rfl
  -- they come home
  have R67 : ∀ g, g = (!(lookA a t s0).wk && decide ((lookA a t s0).sp = 0)) → ∀ N0, Fm M N0 → MK N0 (lookA a t s0) → ∀ m i s N u4, i + m = a 2 → RI a t s → MS N s → Fm N0 N → (∀ j, 19 ≤ j → N 82 j = N0 82 j) → g_it (homeH a t g) m i s = homeA a t (lookA a t s0) → g_Run (g_cal e) (g_mt S0 k_X10_second) Q 67 [.ref 82, .int (nI t), .int (bI g), .int (nI i), u4] [] N := by
    intro g hg N0 fm0 mk0 m
    induction m with
    | zero =>
      intro i s N u4 hi Is hS fm k9 hh
      have hh' : s = homeA a t (lookA a t s0) := hh
      subst hh'
      refine g_go_ 20 ⟨2, rfl, by decide, ?_⟩
      rw [((f.fr fm0).fr fm).b2]
      exact b_ge rfl rfl (by omega) (by omega) (fun _ => g_to (R154 N (fm0.tr fm) hS ((mk0.eq hk).fr (fun j h1 h2 => k9 j (by omega))) _ _ _) _ rfl) (fun z => by omega)
    | succ m ih =>
      intro i s N u4 hi Is hS fm k9 hh
      have fN := (f.fr fm0).fr fm
      have I' := ri_homeH (a := a) (t := t) (u := t) (h := i) (g := g) Is (by omega) ht
      have nxt : ∀ N', MS N' (homeH a t g i s) → Fm N N' → (∀ j, 19 ≤ j → N' 82 j = N 82 j) → g_Run (g_cal e) (g_mt S0 k_X10_second) Q 148 [.ref 82, .int (nI t), .int (bI g), .int (nI i), u4] [] N' := by
        intro N' c1 c2 c3
        have hR := ih (i + 1) (homeH a t g i s) N' u4 (by omega) I' c1 (fm.tr c2) (fun j hj => (c3 j hj).trans (k9 j hj)) hh
        rw [nI_succ] at hR
        exact g_go_ 5 (g_to hR _ rfl)
      clear ih hh I'
      have hS0 := hS
      obtain ⟨a1, a2', a3, a4, a5⟩ := hS
      obtain ⟨q1, q2, q3, q4⟩ := a3 i (by omega)
      obtain ⟨j1, j2, j3, j4, j5⟩ := Is.1 i (by omega)
      have no : ¬ (s.ho i = 4 ∧ s.cm i = t) → g_Run (g_cal e) (g_mt S0 k_X10_second) Q 148 [.ref 82, .int (nI t), .int (bI g), .int (nI i), u4] [] N := by
        intro z
        exact nxt N (by unfold homeH; rw [if_neg z]; exact hS0) (Fm.rf N) (fun _ _ => rfl)
      refine g_go_ 60 ⟨2, rfl, by decide, ?_⟩
      rw [fN.b2]
      refine b_ge rfl rfl (by omega) (by omega) (fun y => by omega) (fun _ => ⟨i, rfl, by omega, ?_⟩)
      rw [q2]
      refine b_ne rfl (show (4 : Int32) = nI 4 from rfl) (by omega) (by decide) (fun z => g_to (no (fun y => z y.1)) _ rfl) (fun z1 => ⟨i, rfl, by omega, ?_⟩)
      rw [q4 z1]
      have bcm := j5 z1
      refine b_eq rfl rfl (by omega) (by omega) (fun z2 => ?_) (fun z2 => g_to (no (fun y => z2 y.2)) _ rfl)
      have hh : homeH a t g i s = if g = true then ctc i t s else if a 13 = 1 ∧ outB a (s.sHoWn (aup s.ho i 1) (aup s.wn i t)) = true then free a t (s.sHoWn (aup s.ho i 1) (aup s.wn i t)) else (s.sHoWn (aup s.ho i 1) (aup s.wn i t)) := by unfold homeH; rw [if_pos ⟨z1, z2⟩]
      rw [hh] at nxt
      refine b_z (fun zg => ?_) (fun zg => ?_)
      · rw [if_neg (by rw [zg]; decide)] at nxt
        obtain ⟨N2, hN2⟩ : ∃ N2, N2 = g_ms N 92 (upd (N 92) i 1) := ⟨_, rfl⟩
        obtain ⟨N3, hN3⟩ : ∃ N3, N3 = g_ms N2 93 (upd (N2 93) i (nI t)) := ⟨_, rfl⟩
        have o : ∀ c, c ≠ 92 → c ≠ 93 → N3 c = N c := fun c c1 c2 => by rw [hN3, g_ms_n c2, hN2, g_ms_n c1]
        have fx3 : Fm N N3 := ⟨fun c c1 c2 => o c (by omega) (by omega), fun j _ => by rw [o 82 (by decide) (by decide)]⟩
        have f3 := fN.fr fx3
        have c3 : MS N3 (s.sHoWn (aup s.ho i 1) (aup s.wn i t)) := by
          unfold MS
          rw [o 82 (by decide) (by decide), o 91 (by decide) (by decide), o 94 (by decide) (by decide), o 95 (by decide) (by decide), o 96 (by decide) (by decide)]
          refine ⟨a1, a2', fun k hk => ?_, a4, a5⟩
          show _ ∧ N3 92 k = nI (aup s.ho i 1 k) ∧ N3 93 k = nI (aup s.wn i t k) ∧ (aup s.ho i 1 k = 4 → _)
          rw [hN3, g_ms_n (by decide), g_ms_s, hN2, g_ms_s, g_ms_n (by decide)]
          unfold upd
          by_cases ek : k = i
          · subst ek
            rw [if_pos rfl, if_pos rfl, aup_s, aup_s]
            exact ⟨q1, rfl, rfl, fun y => by omega⟩
          · rw [if_neg ek, if_neg ek, aup_n ek, aup_n ek]
            exact a3 k hk
        have I4 := ri_home1 (a := a) (t := t) (u := t) (h := i) Is (by omega) ht (by omega)
        have stay : ¬ (a 13 = 1 ∧ outB a (s.sHoWn (aup s.ho i 1) (aup s.wn i t)) = true) → g_Run (g_cal e) (g_mt S0 k_X10_second) Q 148 [.ref 82, .int (nI t), .int (bI g), .int (nI i), u4] [] N3 := by
          intro z
          rw [if_neg z] at nxt
          exact nxt N3 c3 fx3 (fun j _ => by rw [o 82 (by decide) (by decide)])
        have R127 : g_Run (g_cal e) (g_mt S0 k_X10_second) Q 127 [.ref 82, .int (nI t), .int (bI g), .int (nI i), u4] [] N3 := by
          refine g_go_ 20 (m_setOf (by omega) 4 rfl (by decide) ?_)
          rw [f3.1 _ (by decide), show 9 + 4 = 13 from rfl]
          refine b_ne rfl (show (1 : Int32) = nI 1 from rfl) (by omega) (by decide) (fun z => g_to (stay (fun y => z y.1)) _ rfl) (fun z => ?_)
          refine m_isOut (s := s.sHoWn (aup s.ho i 1) (aup s.wn i t)) (by omega) b2 f3 (fun k hk => (I4.1 k hk).2.1) (fun k hk => (c3.2.2.1 k hk).2.1) (b_z (fun z3 => g_to (stay (fun y => by rw [z3] at y; exact absurd y.2 (by decide))) _ rfl) (fun z3 => ?_))
          refine m_frees (t := t) (by omega) b2 f3 (fun k hk => (I4.1 k hk).2.1) c3 (fun N4 g1 g2 => ?_)
          rw [if_pos ⟨z, z3⟩] at nxt
          exact g_to (nxt N4 g2 (fx3.tr ⟨fun c c1 c2 => g1 c (by omega) (by omega), fun j _ => by rw [g1 82 (by decide) (by decide)]⟩) (fun j _ => by rw [g1 82 (by decide) (by decide), o 82 (by decide) (by decide)])) _ rfl
        rw [hN3, hN2] at R127
        exact ⟨i, rfl, by omega, i, rfl, by omega, g_to R127 _ rfl⟩
      · rw [if_pos zg] at nxt
        have cn8 : s.cn < a 2 := Is.cn (h := i) (by omega) (by omega)
        refine m_catches (c := s.cn) (by omega) (by omega) (by omega) a2' (fun N2 f1 f2 f3 f4 f5 => ?_)
        exact g_to (nxt N2 (ms_ctc (by omega) hS0 f1 f2 f3 f4 f5) ⟨fun c c1 c2 => f1 c c1 (by omega) (by omega) (by omega), fun j hj => by rw [f5]; unfold upd; rw [if_neg (by omega)]⟩ (fun j hj => by rw [f5]; unfold upd; rw [if_neg (by omega)])) _ rfl
  -- she looked
  have R45 : ∀ N, Fm M N → MS N (lookA a t s0) → MK N (lookA a t s0) → g_Run (g_cal e) (g_mt S0 k_X10_second) Q 45 [.ref 82, .int (nI t), .null, .null, .null] [] N := by
    intro N fm c1 c2
    have r := R67 _ rfl N fm c2 (a 2) 0 (lookA a t s0) N .null (by omega) I1.1 c1 (Fm.rf N) (fun _ _ => rfl) rfl
    obtain ⟨k1, k2, k3, k4, k5⟩ := c2
    have hsp := I1.1.2.2.2.1.1
    refine g_go_ 20 ?_
    show (¬ N 82 25 = 0 → _) ∧ (N 82 25 = 0 → _)
    rw [k3]
    refine b_nz (fun z => ?_) (fun z => ?_)
    · rw [z] at r; exact g_to r _ rfl
    · show (¬ N 82 20 = 0 → _) ∧ (N 82 20 = 0 → _)
      rw [k1]
      refine b_ne (b := 0) rfl rfl (by omega) (by decide) (fun z2 => ?_) (fun z2 => ?_)
      · rw [z, decide_eq_false z2] at r; exact g_to r _ rfl
      · rw [z, decide_eq_true z2] at r; exact g_to r _ rfl
  have hK0 := hK
  obtain ⟨k1, k2, k3, k4, k5⟩ := hK
  have nolook : ¬ (s0.wk = true ∧ s0.mo = t) → g_Run (g_cal e) (g_mt S0 k_X10_second) Q 45 [.ref 82, .int (nI t), .null, .null, .null] [] M := by
    intro z
    have : lookA a t s0 = s0 := by unfold lookA; rw [if_neg z]
    exact R45 M (Fm.rf M) (by rw [this]; exact hS) (by rw [this]; exact hK0)
  show (M 82 25 = 0 → _) ∧ (¬ M 82 25 = 0 → _)
  rw [k3]
  refine b_z (fun z => g_to (nolook (fun y => by rw [z] at y; cases y.1)) _ rfl) (fun z => ?_)
  have bm := (I.2.2.2.2.2.1 z).2.2.2
  show (¬ M 82 22 = nI t → _) ∧ (M 82 22 = nI t → _)
  rw [(k4 z).2]
  refine b_ne rfl rfl (by omega) (by omega) (fun y => g_to (nolook (fun y2 => y y2.2)) _ rfl) (fun y => ⟨Or.inl rfl, ?_⟩)
  have b15 := v2.2.2.2.2.2.2.2.2.1
  have hl : lookA a t s0 = g_it (lookH a t) (a 2) 0 (s0.sSk s0.to s0.to (t + a 15) s0.pa false) := by unfold lookA; rw [if_pos ⟨z, y⟩]
  refine m_setOf (by omega) 6 rfl (by decide) ?_
  show g_cal e k_X10_looks [.ref 82, .int (nI t)] (g_ms (g_ms (g_ms M 82 (upd (M 82) 25 0)) 82 (upd (g_ms M 82 (upd (M 82) 25 0) 82) 20 (M 82 21))) 82 (upd (g_ms (g_ms M 82 (upd (M 82) 25 0)) 82 (upd (g_ms M 82 (upd (M 82) 25 0) 82) 20 (M 82 21)) 82) 23 (nI t + M 84 (9 + 6)))) _
  generalize hN : g_ms (g_ms (g_ms M 82 (upd (M 82) 25 0)) 82 (upd (g_ms M 82 (upd (M 82) 25 0) 82) 20 (M 82 21))) 82 (upd (g_ms (g_ms M 82 (upd (M 82) 25 0)) 82 (upd (g_ms M 82 (upd (M 82) 25 0) 82) 20 (M 82 21)) 82) 23 (nI t + M 84 (9 + 6))) = N
  have o : ∀ c, c ≠ 82 → N c = M c := fun c hc => by rw [← hN, g_ms_n hc, g_ms_n hc, g_ms_n hc]
  have o82 : ∀ j, j ≠ 25 → j ≠ 20 → j ≠ 23 → N 82 j = M 82 j := fun j j1 j2 j3 => by
    rw [← hN, g_ms_s, g_ms_s, g_ms_s]
    unfold upd
    rw [if_neg j3, if_neg j2, if_neg j1]
  have fm : Fm M N := ⟨fun c c1 _ => o c c1, fun j hj => o82 j (by omega) (by omega) (by omega)⟩
  have mk1 : MK N (s0.sSk s0.to s0.to (t + a 15) s0.pa false) := by
    refine ⟨?_, ?_, ?_, (fun q => by cases q), fun _ => ?_⟩
    · rw [← hN]; exact (k4 z).1
    · rw [o82 24 (by decide) (by decide) (by decide)]; exact k2
    · rw [← hN]; rfl
    · rw [← hN]; show nI t + M 84 15 = nI (t + a 15); rw [f.1 15 (by decide), nI_add]
  refine m_looks (by omega) v v2 (f.fr fm) ht (ri_come v2 ht I z) (MS.sk (hS.fr o (o82 17 (by decide) (by decide) (by decide)) (o82 18 (by decide) (by decide) (by decide)))) mk1.1 (fun N2 g1 g2 g3 => ?_)
  have lk5 : ∀ m i s, (g_it (lookH a t) m i s).wk = s.wk ∧ (g_it (lookH a t) m i s).sp = s.sp ∧ (g_it (lookH a t) m i s).mo = s.mo ∧ (g_it (lookH a t) m i s).to = s.to ∧ (g_it (lookH a t) m i s).pa = s.pa := by
    intro m
    induction m with
    | zero => intro i s; exact ⟨rfl, rfl, rfl, rfl, rfl⟩
    | succ m ih =>
      intro i s
      obtain ⟨h1, h2, h3, h4, h5⟩ := ih (i + 1) (lookH a t i s)
      obtain ⟨l1, l2, l3, l4, l5⟩ := lookH_k a t i s
      exact ⟨h1.trans l1, h2.trans l2, h3.trans l3, h4.trans l4, h5.trans l5⟩
  exact g_to (R45 N2 (fm.tr g1) (by rw [hl]; exact g3) (by rw [hl]; exact (mk1.eq (lk5 _ _ _)).fr (fun j j1 j2 => g2 j (by omega)))) _ rfl
