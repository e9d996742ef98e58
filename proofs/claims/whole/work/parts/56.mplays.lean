/-! ===== the reference's round: all of it ===== -/
def Fp (M M' : g_M) : Prop := (∀ c, c ≠ 82 → c ≠ 89 → c ≠ 90 → (c < 91 ∨ 96 < c) → M' c = M c) ∧ (∀ j, (j < 17 ∨ 25 < j) → M' 82 j = M 82 j)
theorem m_plays {d : Nat} {M : g_M} {Q : g_R} {a : Nat → Nat} {z : Int32} (hd : 6 ≤ d) (v : V1 a) (v2 : V2 a) (hM : RM M 84 a)
    (h : ∀ M', Fp M M' → FA M' a → MS M' (ply a z) → M' 82 19 = nI (plt a z) → Q none M') : g_cal d k_X10_plays [.ref 82, .int z] M Q := by
  have b0 : a 0 ≤ 8 := v.2.1
  have b2 : a 2 ≤ 8 := v.2.2.2.1
  have b14 : a 14 ≤ 900 := v2.2.2.2.2.2.2.2.1
  refine g_m (by omega) 60 (fun e he => m_findFar (by omega) v hM (fun N0 hN0 => ?_))
  have f0 := hN0.fa hM
  -- the end
  have R182 : ∀ t s, RI a (t + 1) s → (t, s) = plyR a z → ∀ N1, Fm N0 N1 → MS N1 s → N1 82 19 = nI t → ∀ m i N, i + m = a 2 → (∀ k, k ≠ 92 → k ≠ 93 → N k = N1 k) → (∀ k, k < 8 → N 92 k = (if k < i ∧ 3 ≤ s.ho k then 2 else N1 92 k) ∧ N 93 k = (if k < i ∧ 3 ≤ s.ho k then nI t else N1 93 k)) → g_Run (g_cal e) (g_mt S0 k_X10_plays) Q 182 [.ref 82, .int z, .int (nI t), .int (nI i)] [] N := by
    intro t s Is hp N1 fm hS h19 m
    obtain ⟨a1, a2', a3, a4, a5⟩ := hS
    induction m with
    | zero =>
      intro i N hi e1 e2
      have hi' : i = a 2 := by omega
      subst hi'
      have fm2 : Fm N1 N := ⟨fun c c1 c2 => e1 c (by omega) (by omega), fun j _ => by rw [e1 82 (by decide) (by decide)]⟩
      have fm3 := fm.tr fm2
      have hply : ply a z = endA a t s := by unfold ply; rw [← hp]
      have hplt : plt a z = t := by unfold plt; rw [← hp]
      have fin := h N ⟨fun c c1 c2 c3 c4 => (fm3.1 c c1 c4).trans (hN0.1 c c2 c3), fun j hj => by rw [fm3.2 j hj, hN0.1 82 (by decide) (by decide)]⟩ (f0.fr fm3) (by
        rw [hply]
        unfold MS
        rw [e1 82 (by decide) (by decide), e1 91 (by decide) (by decide), e1 94 (by decide) (by decide), e1 95 (by decide) (by decide), e1 96 (by decide) (by decide)]
        refine ⟨a1, a2', fun k hk => ?_, a4, a5⟩
        obtain ⟨q1, q2, q3, q4⟩ := a3 k hk
        obtain ⟨f1, f2⟩ := e2 k hk
        rw [f1, f2]
        show _ ∧ _ = nI (if k < a 2 ∧ 3 ≤ s.ho k then 2 else s.ho k) ∧ _ = nI (if k < a 2 ∧ 3 ≤ s.ho k then t else s.wn k) ∧ ((if k < a 2 ∧ 3 ≤ s.ho k then 2 else s.ho k) = 4 → _)
        by_cases y : k < a 2 ∧ 3 ≤ s.ho k
        · rw [if_pos y, if_pos y, if_pos y, if_pos y]; exact ⟨q1, rfl, rfl, fun w => by omega⟩
        · rw [if_neg y, if_neg y, if_neg y, if_neg y]; exact ⟨q1, q2, q3, q4⟩) (by rw [e1 82 (by decide) (by decide), hplt]; exact h19)
      refine g_go_ 20 ⟨2, rfl, by decide, ?_⟩
      rw [(f0.fr fm3).b2]
      exact b_ge rfl rfl (by omega) (by omega) (fun _ => fin) (fun y => by omega)
    | succ m ih =>
      intro i N hi e1 e2
      have fN : FA N a := (f0.fr fm).fr ⟨fun c c1 c2 => e1 c (by omega) (by omega), fun j _ => by rw [e1 82 (by decide) (by decide)]⟩
      obtain ⟨f1, f2⟩ := e2 i (by omega)
      obtain ⟨q1, q2, q3, q4⟩ := a3 i (by omega)
      rw [if_neg (fun y => by omega), q2] at f1
      have bo := (Is.1 i (by omega)).2.1
      obtain ⟨N2, hN2⟩ : ∃ N2, N2 = g_ms N 92 (upd (N 92) i 2) := ⟨_, rfl⟩
      obtain ⟨N3, hN3⟩ : ∃ N3, N3 = g_ms N2 93 (upd (N2 93) i (nI t)) := ⟨_, rfl⟩
      have yes : 3 ≤ s.ho i → g_Run (g_cal e) (g_mt S0 k_X10_plays) Q 219 [.ref 82, .int z, .int (nI t), .int (nI i)] [] N3 := by
        intro y
        have hR := ih (i + 1) N3 (by omega) (fun k h1 h2 => by rw [hN3, g_ms_n h2, hN2, g_ms_n h1]; exact e1 k h1 h2) (fun k hk => by
          obtain ⟨g1, g2⟩ := e2 k hk
          rw [hN3, g_ms_n (by decide), g_ms_s, hN2, g_ms_s, g_ms_n (by decide)]
          unfold upd
          by_cases ek : k = i
          · subst ek
            rw [if_pos rfl, if_pos rfl, if_pos ⟨by omega, y⟩, if_pos ⟨by omega, y⟩]
            exact ⟨rfl, rfl⟩
          · rw [if_neg ek, if_neg ek, g1, g2]
            by_cases z2 : k < i ∧ 3 ≤ s.ho k
            · rw [if_pos z2, if_pos z2, if_pos ⟨by omega, z2.2⟩, if_pos ⟨by omega, z2.2⟩]; exact ⟨rfl, rfl⟩
            · rw [if_neg z2, if_neg z2, if_neg (fun y => z2 ⟨by omega, y.2⟩), if_neg (fun y => z2 ⟨by omega, y.2⟩)]; exact ⟨rfl, rfl⟩)
        rw [nI_succ] at hR
        exact g_go_ 5 (g_to hR _ rfl)
      have no : ¬ 3 ≤ s.ho i → g_Run (g_cal e) (g_mt S0 k_X10_plays) Q 219 [.ref 82, .int z, .int (nI t), .int (nI i)] [] N := by
        intro y
        have hR := ih (i + 1) N (by omega) e1 (fun k hk => by
          obtain ⟨g1, g2⟩ := e2 k hk
          rw [g1, g2]
          by_cases z2 : k < i ∧ 3 ≤ s.ho k
          · rw [if_pos z2, if_pos z2, if_pos ⟨by omega, z2.2⟩, if_pos ⟨by omega, z2.2⟩]; exact ⟨rfl, rfl⟩
          · have z3 : ¬ (k < i + 1 ∧ 3 ≤ s.ho k) := by
              intro w
              by_cases ek : k = i
              · subst ek; exact y w.2
              · exact z2 ⟨by omega, w.2⟩
            rw [if_neg z2, if_neg z2, if_neg z3, if_neg z3]; exact ⟨rfl, rfl⟩)
        rw [nI_succ] at hR
        exact g_go_ 5 (g_to hR _ rfl)
      rw [hN3, hN2] at yes
      refine g_go_ 40 ⟨2, rfl, by decide, ?_⟩
      rw [fN.b2]
      refine b_ge rfl rfl (by omega) (by omega) (fun y => by omega) (fun _ => ⟨i, rfl, by omega, ?_⟩)
      rw [f1]
      exact b_ge rfl (show (3 : Int32) = nI 3 from rfl) (by omega) (by decide) (fun y => ⟨i, rfl, by omega, i, rfl, by omega, g_to (yes y) _ rfl⟩) (fun y => g_to (no (by omega)) _ rfl)
  have R175 : ∀ t s, RI a (t + 1) s → (t, s) = plyR a z → ∀ N1, Fm N0 N1 → MS N1 s → ∀ u3, g_Run (g_cal e) (g_mt S0 k_X10_plays) Q 175 [.ref 82, .int z, .int (nI t), u3] [] N1 := by
    intro t s Is hp N1 fm hS u3
    obtain ⟨N2, hN2⟩ : ∃ N2, N2 = g_ms N1 82 (upd (N1 82) 19 (nI t)) := ⟨_, rfl⟩
    have o : ∀ c, c ≠ 82 → N2 c = N1 c := fun c hc => by rw [hN2, g_ms_n hc]
    have o82 : ∀ j, j ≠ 19 → N2 82 j = N1 82 j := fun j hj => by rw [hN2, g_ms_s]; unfold upd; rw [if_neg hj]
    have r := R182 t s Is hp N2 (fm.tr ⟨fun c c1 _ => o c c1, fun j hj => o82 j (by omega)⟩) (hS.fr o (o82 17 (by decide)) (o82 18 (by decide))) (by rw [hN2, g_ms_s]; rfl) (a 2) 0 N2 (by omega) (fun _ _ _ => rfl) (fun k hk => by rw [if_neg (fun y => by omega), if_neg (fun y => by omega)]; exact ⟨rfl, rfl⟩)
    rw [hN2] at r
    exact g_go_ 10 (g_to r _ rfl)
  -- second by second
  have R148 : ∀ k t s N u3, t + k = a 14 → RI a (t + 1) s → MS N s → MK N s → Fm N0 N → rnn a k t s = plyR a z → g_Run (g_cal e) (g_mt S0 k_X10_plays) Q 148 [.ref 82, .int z, .int (nI t), u3] [] N := by
    intro k
    induction k with
    | zero =>
      intro t s N u3 hk Is hS hK fm hr
      have fN := f0.fr fm
      have r := R175 t s Is hr N fm hS u3
      refine g_go_ 30 (m_isOut (by omega) b2 fN (fun k hk => (Is.1 k hk).2.1) (fun k hk => (hS.2.2.1 k hk).2.1) (b_nz (fun _ => g_to r _ rfl) (fun _ => m_setOf (by omega) 5 rfl (by decide) ?_)))
      rw [fN.1 _ (by decide), show 9 + 5 = 14 from rfl]
      exact b_ge rfl rfl (by omega) (by omega) (fun _ => g_to r _ rfl) (fun y => by omega)
    | succ k ih =>
      intro t s N u3 hk Is hS hK fm hr
      have fN := f0.fr fm
      rw [rnn] at hr
      refine g_go_ 30 (m_isOut (by omega) b2 fN (fun k hk => (Is.1 k hk).2.1) (fun k hk => (hS.2.2.1 k hk).2.1) (b_nz (fun y => ?_) (fun y => m_setOf (by omega) 5 rfl (by decide) ?_)))
      · rw [if_pos y] at hr
        exact g_to (R175 t s Is hr N fm hS u3) _ rfl
      · rw [if_neg (by rw [y]; decide)] at hr
        rw [fN.1 _ (by decide), show 9 + 5 = 14 from rfl]
        refine b_ge rfl rfl (by omega) (by omega) (fun y => by omega) (fun _ => ?_)
        have sc : ∀ Q' : g_R, (∀ M', Fm N M' → MS M' (sec a (t + 1) s) → MK M' (sec a (t + 1) s) → Q' none M') → g_cal e k_X10_second [.ref 82, .int (nI t + 1)] N Q' := fun Q' hq => by
          rw [← nI_succ]
          exact m_second (by omega) v v2 fN (by omega) Is hS hK hq
        refine sc _ (fun N' f1 f2 f3 => ?_)
        have r := ih (t + 1) (sec a (t + 1) s) N' u3 (by omega) (ri_sec v v2 (by omega) Is) f2 f3 (fm.tr f1) hr
        rw [nI_succ] at r
        exact g_to r _ rfl
  -- after all hid
  have HA := HI.all v z
  have R121 : ∀ N, Fm N0 N → MS N (hide a z) → ∀ x2 u3, g_Run (g_cal e) (g_mt S0 k_X10_plays) Q 121 [.ref 82, .int z, .int x2, u3] [] N := by
    intro N fm hS x2 u3
    obtain ⟨j1, j2, j3, j4, j5⟩ := HA.2.2.2.2.2.1
    obtain ⟨N2, hN2⟩ : ∃ N2, N2 = g_ms (g_ms (g_ms (g_ms N 82 (upd (N 82) 20 0)) 82 (upd (g_ms N 82 (upd (N 82) 20 0) 82) 25 0)) 82 (upd (g_ms (g_ms N 82 (upd (N 82) 20 0)) 82 (upd (g_ms N 82 (upd (N 82) 20 0) 82) 25 0) 82) 23 0)) 82 (upd (g_ms (g_ms (g_ms N 82 (upd (N 82) 20 0)) 82 (upd (g_ms N 82 (upd (N 82) 20 0) 82) 25 0)) 82 (upd (g_ms (g_ms N 82 (upd (N 82) 20 0)) 82 (upd (g_ms N 82 (upd (N 82) 20 0) 82) 25 0) 82) 23 0) 82) 24 0) := ⟨_, rfl⟩
    have o : ∀ c, c ≠ 82 → N2 c = N c := fun c hc => by rw [hN2, g_ms_n hc, g_ms_n hc, g_ms_n hc, g_ms_n hc]
    have o82 : ∀ j, j ≠ 20 → j ≠ 25 → j ≠ 23 → j ≠ 24 → N2 82 j = N 82 j := fun j h1 h2 h3 h4 => by
      rw [hN2, g_ms_s, g_ms_s, g_ms_s, g_ms_s]
      unfold upd
      rw [if_neg h4, if_neg h3, if_neg h2, if_neg h1]
    have fm2 : Fm N N2 := ⟨fun c c1 _ => o c c1, fun j hj => o82 j (by omega) (by omega) (by omega) (by omega)⟩
    have mk : MK N2 (hide a z) := by
      unfold MK
      rw [j1, j3, j4, j5]
      exact ⟨by rw [hN2]; rfl, by rw [hN2]; rfl, by rw [hN2]; rfl, (fun y => by cases y), fun _ => by rw [hN2]; rfl⟩
    have sc : ∀ Q' : g_R, (∀ M', Fm N2 M' → MS M' (sec a 0 (hide a z)) → MK M' (sec a 0 (hide a z)) → Q' none M') → g_cal e k_X10_second [.ref 82, .int 0] N2 Q' := fun Q' hq => m_second (t := 0) (by omega) v v2 ((f0.fr fm).fr fm2) (by omega) (HA.ri v) (hS.fr o (o82 17 (by decide) (by decide) (by decide) (by decide)) (o82 18 (by decide) (by decide) (by decide) (by decide))) mk hq
    have r : g_Run (g_cal e) (g_mt S0 k_X10_plays) Q 141 [.ref 82, .int z, .int x2, u3] [] N2 := by
      refine g_go_ 10 (sc _ (fun N' f1 f2 f3 => ?_))
      exact g_to (R148 (a 14) 0 (sec a 0 (hide a z)) N' u3 (by omega) (ri_sec v v2 (by omega) (HA.ri v)) f2 f3 ((fm.tr fm2).tr f1) rfl) _ rfl
    rw [hN2] at r
    exact g_go_ 30 ⟨Or.inl rfl, g_to r _ rfl⟩
  -- all hide
  have R72 : ∀ m i s N u3, i + m = a 2 → HI a i s → MS N s → Fm N0 N → g_it (hideH a) m i s = hide a z → g_Run (g_cal e) (g_mt S0 k_X10_plays) Q 72 [.ref 82, .int z, .int (nI i), u3] [] N := by
    intro m
    induction m with
    | zero =>
      intro i s N u3 hi I hS fm hh
      have hh' : s = hide a z := hh
      subst hh'
      refine g_go_ 20 ⟨2, rfl, by decide, ?_⟩
      rw [(f0.fr fm).b2]
      exact b_ge rfl rfl (by omega) (by omega) (fun _ => g_to (R121 N fm hS (nI i) u3) _ rfl) (fun y => by omega)
    | succ m ih =>
      intro i s N u3 hi I hS fm hh
      have fN := f0.fr fm
      have I' := I.st v (show i < a 2 by omega)
      have ck := chs_ok (a := a) (h := i) (r := s) v.1 I.hw
      have nxt : ∀ N' u3, MS N' (hideH a i s) → Fm N N' → g_Run (g_cal e) (g_mt S0 k_X10_plays) Q 115 [.ref 82, .int z, .int (nI i), u3] [] N' := by
        intro N' u3 c1 c2
        have hR := ih (i + 1) (hideH a i s) N' u3 (by omega) I' c1 (fm.tr c2) hh
        rw [nI_succ] at hR
        exact g_go_ 5 (g_to hR _ rfl)
      clear ih hh
      refine g_go_ 60 ⟨2, rfl, by decide, ?_⟩
      rw [fN.b2]
      refine b_ge rfl rfl (by omega) (by omega) (fun y => by omega) (fun _ => ?_)
      refine m_chosen (by omega) v v2 fN I hS (by omega) (fun N1 e1 e2 e3 => ?_)
      have hS1 : MS N1 (s.sSd (chd a i s)) := by
        unfold MS
        rw [e1 91 (by decide), e1 92 (by decide), e1 93 (by decide), e1 94 (by decide), e1 95 (by decide), e1 96 (by decide), e2 18 (by decide)]
        exact ⟨e3, hS.2⟩
      have fm1 : Fm N N1 := ⟨fun c c1 _ => e1 c c1, fun j hj => e2 j (by omega)⟩
      by_cases c0 : chs a i s = 0
      · have hs' : hideH a i s = ctc i 0 (s.sSd (chd a i s)) := by unfold hideH; rw [if_pos c0]
        rw [hs'] at nxt
        have cl : s.cn < 8 := by have := I.2.2.2.1; omega
        rw [c0]
        have hn : ¬ (0 : Int32) ≤ bv 0 := by decide
        refine b_f hn (m_catches (t := 0) (c := s.cn) (by omega) (by omega) cl hS1.2.1 (fun N2 f1 f2 f3 f4 f5 => ?_))
        exact g_to (nxt N2 _ (ms_ctc (by omega) hS1 f1 f2 f3 f4 f5) (fm1.tr ⟨fun c c1 c2 => f1 c c1 (by omega) (by omega) (by omega), fun j hj => by rw [f5]; unfold upd; rw [if_neg (by omega)]⟩)) _ rfl
      · have zm : mny a i s ≠ 0 := fun y => c0 (ck.1 y)
        obtain ⟨q1, q2, q3⟩ := ck.2 zm
        have hs' : hideH a i s = (s.sSd (chd a i s)).sWhHo (aup s.wh i (chs a i s)) (aup s.ho i 3) := by unfold hideH; rw [if_neg c0]
        rw [hs'] at nxt
        have hb : bv (chs a i s) = nI (chs a i s) := by unfold bv; rw [if_neg c0]
        rw [hb]
        generalize chs a i s = q at *
        obtain ⟨N2, hN2⟩ : ∃ N2, N2 = g_ms N1 91 (upd (N1 91) i (nI q)) := ⟨_, rfl⟩
        obtain ⟨N3, hN3⟩ : ∃ N3, N3 = g_ms N2 92 (upd (N2 92) i 3) := ⟨_, rfl⟩
        have o : ∀ c, c ≠ 91 → c ≠ 92 → N3 c = N1 c := fun c c1 c2 => by rw [hN3, g_ms_n c2, hN2, g_ms_n c1]
        obtain ⟨a1, a2', a3, a4, a5⟩ := hS1
        have lf : s.lk i = false := I.2.2.2.2.2.2.1 i
        have hR := nxt N3 (.int (nI q)) (by
          unfold MS
          rw [o 82 (by decide) (by decide), o 93 (by decide) (by decide), o 94 (by decide) (by decide), o 95 (by decide) (by decide), o 96 (by decide) (by decide)]
          refine ⟨a1, a2', fun k hk => ?_, a4, fun p hp => ?_⟩
          · show N3 91 k = nI (aup s.wh i q k) ∧ N3 92 k = nI (aup s.ho i 3 k) ∧ _ ∧ (aup s.ho i 3 k = 4 → _)
            rw [hN3, g_ms_n (by decide), g_ms_s, hN2, g_ms_s, g_ms_n (by decide)]
            unfold upd
            by_cases ek : k = i
            · subst ek
              rw [if_pos rfl, if_pos rfl, aup_s, aup_s]
              exact ⟨rfl, rfl, (a3 k hk).2.2.1, fun y => by omega⟩
            · rw [if_neg ek, if_neg ek, aup_n ek, aup_n ek]
              exact a3 k hk
          · have : lkc ((s.sSd (chd a i s)).sWhHo (aup s.wh i q) (aup s.ho i 3)) p = lkc s p := cnt_congr (fun k _ => by
              show (s.lk k && decide (aup s.wh i q k = p)) = (s.lk k && decide (s.wh k = p))
              by_cases ek : k = i
              · subst ek; rw [lf]; rfl
              · rw [aup_n ek])
            rw [this]; exact a5 p hp) (fm1.tr ⟨fun c c1 c2 => o c (by omega) (by omega), fun j _ => by rw [o 82 (by decide) (by decide)]⟩)
        rw [hN3, hN2] at hR
        exact b_ge (b := 0) rfl rfl (by omega) (by decide) (fun _ => ⟨i, rfl, by omega, i, rfl, by omega, g_to hR _ rfl⟩) (fun y => by omega)
  -- nobody hides yet
  have R37 : ∀ m i N, i + m = 8 → (∀ c, c ≠ 91 → c ≠ 92 → c ≠ 93 → c ≠ 96 → c ≠ 82 → N c = N0 c) → (∀ j, (j < 17 ∨ 25 < j) → N 82 j = N0 82 j) → N 82 17 = z → N 82 18 = 0 → (∀ p, p < 8 → N 96 p = 0) → (∀ k, k < i → N 91 k = 0 ∧ N 92 k = 0 ∧ N 93 k = 0) → g_Run (g_cal e) (g_mt S0 k_X10_plays) Q 37 [.ref 82, .int z, .int (nI i), .null] [] N := by
    intro m
    induction m with
    | zero =>
      intro i N hi e1 e2 e3 e4 e5 e6
      have fm : Fm N0 N := ⟨fun c c1 c2 => e1 c (by omega) (by omega) (by omega) (by omega) c1, e2⟩
      have hS : MS N (rs0 z) := by
        refine ⟨e3, e4, fun k hk => ⟨(e6 k (by omega)).1, (e6 k (by omega)).2.1, (e6 k (by omega)).2.2, fun y => ?_⟩, fun k hk => absurd hk (Nat.not_lt_zero _), fun p hp => ?_⟩
        · have y' : (0 : Nat) = 4 := y
          omega
        · have : lkc (rs0 z) p = 0 := cnt_no (fun _ _ => rfl)
          rw [this]; exact e5 p hp
      exact g_go_ 20 (b_ge rfl (show (8 : Int32) = nI 8 from rfl) (by omega) (by decide) (fun _ => g_to (R72 (a 2) 0 (rs0 z) N .null (by omega) (HI.z a z) hS fm rfl) _ rfl) (fun y => by omega))
    | succ m ih =>
      intro i N hi e1 e2 e3 e4 e5 e6
      obtain ⟨N2, hN2⟩ : ∃ N2, N2 = g_ms N 91 (upd (N 91) i 0) := ⟨_, rfl⟩
      obtain ⟨N3, hN3⟩ : ∃ N3, N3 = g_ms N2 92 (upd (N2 92) i 0) := ⟨_, rfl⟩
      obtain ⟨N4, hN4⟩ : ∃ N4, N4 = g_ms N3 93 (upd (N3 93) i 0) := ⟨_, rfl⟩
      have o : ∀ c, c ≠ 91 → c ≠ 92 → c ≠ 93 → N4 c = N c := fun c c1 c2 c3 => by rw [hN4, g_ms_n c3, hN3, g_ms_n c2, hN2, g_ms_n c1]
      have hR := ih (i + 1) N4 (by omega) (fun c c1 c2 c3 c4 c5 => by rw [o c c1 c2 c3]; exact e1 c c1 c2 c3 c4 c5) (fun j hj => by rw [o 82 (by decide) (by decide) (by decide)]; exact e2 j hj) (by rw [o 82 (by decide) (by decide) (by decide)]; exact e3) (by rw [o 82 (by decide) (by decide) (by decide)]; exact e4) (fun p hp => by rw [o 96 (by decide) (by decide) (by decide)]; exact e5 p hp) (fun k hk => by
        rw [hN4, g_ms_n (by decide), g_ms_n (by decide), g_ms_s, hN3, g_ms_n (by decide), g_ms_s, g_ms_n (by decide), hN2, g_ms_s, g_ms_n (by decide), g_ms_n (by decide)]
        unfold upd
        by_cases ek : k = i
        · rw [if_pos ek, if_pos ek, if_pos ek]; exact ⟨rfl, rfl, rfl⟩
        · rw [if_neg ek, if_neg ek, if_neg ek]; exact e6 k (by omega))
      rw [nI_succ, hN4, hN3, hN2] at hR
      exact g_go_ 30 (b_ge rfl (show (8 : Int32) = nI 8 from rfl) (by omega) (by decide) (fun y => by omega) (fun _ => ⟨i, rfl, by omega, i, rfl, by omega, i, rfl, by omega, g_to hR _ rfl⟩))
  have R16 : ∀ m i N, i + m = 8 → (∀ c, c ≠ 96 → c ≠ 82 → N c = N0 c) → (∀ j, (j < 17 ∨ 25 < j) → N 82 j = N0 82 j) → N 82 17 = z → N 82 18 = 0 → (∀ p, p < i → N 96 p = 0) → g_Run (g_cal e) (g_mt S0 k_X10_plays) Q 16 [.ref 82, .int z, .int (nI i), .null] [] N := by
    intro m
    induction m with
    | zero =>
      intro i N hi e1 e2 e3 e4 e5
      exact g_go_ 20 (b_ge rfl (show (8 : Int32) = nI 8 from rfl) (by omega) (by decide) (fun _ => g_to (R37 8 0 N (by omega) (fun c c1 c2 c3 c4 c5 => e1 c c4 c5) e2 e3 e4 (fun p hp => e5 p (by omega)) (fun k hk => by omega)) _ rfl) (fun y => by omega))
    | succ m ih =>
      intro i N hi e1 e2 e3 e4 e5
      obtain ⟨N2, hN2⟩ : ∃ N2, N2 = g_ms N 96 (upd (N 96) i 0) := ⟨_, rfl⟩
      have o : ∀ c, c ≠ 96 → N2 c = N c := fun c c1 => by rw [hN2, g_ms_n c1]
      have hR := ih (i + 1) N2 (by omega) (fun c c1 c2 => by rw [o c c1]; exact e1 c c1 c2) (fun j hj => by rw [o 82 (by decide)]; exact e2 j hj) (by rw [o 82 (by decide)]; exact e3) (by rw [o 82 (by decide)]; exact e4) (fun k hk => by
        rw [hN2, g_ms_s]
        unfold upd
        by_cases ek : k = i
        · rw [if_pos ek]
        · rw [if_neg ek]; exact e5 k (by omega))
      rw [nI_succ, hN2] at hR
      exact g_go_ 30 (b_ge rfl (show (8 : Int32) = nI 8 from rfl) (by omega) (by decide) (fun y => by omega) (fun _ => ⟨i, rfl, by omega, g_to hR _ rfl⟩))
  obtain ⟨N1, hN1⟩ : ∃ N1, N1 = g_ms (g_ms N0 82 (upd (N0 82) 17 z)) 82 (upd (g_ms N0 82 (upd (N0 82) 17 z) 82) 18 0) := ⟨_, rfl⟩
  have r := R16 8 0 N1 (by omega) (fun c c1 c2 => by rw [hN1, g_ms_n c2, g_ms_n c2]) (fun j hj => by rw [hN1, g_ms_s, g_ms_s]; unfold upd; rw [if_neg (by omega), if_neg (by omega)]) (by rw [hN1]; rfl) (by rw [hN1]; rfl) (fun p hp => by omega)
  rw [hN1] at r
  exact g_to r _ rfl
