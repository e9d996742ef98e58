/-! ===== the component's round: all of it ===== -/
theorem x_startRuns {d r t b : Nat} {M : g_M} {Q : g_R} {a : Nat → Nat} {s : RS} {u : Nat} (hd : 3 ≤ d) (hr : r = 17 ∨ r = 60) (v : V1 a) (v2 : V2 a) (g1 : GX1 M 2 a) (g2 : GX2 M 2 a) (ht : t ≤ 900) (hb : b < 2 ^ 31) (I : RI a u s) (cs : CS M r a (a 2) s)
    (h : ∀ M', (∀ k, k ≠ r + 2 → k ≠ r + 3 → M' k = M k) → CS M' r a (a 2) (runA a t b s) → Q none M') : g_cal d k_X4_startRuns [.ref r, .ref 2, .int (nI t), .int (nI (a 11)), .int (nI b)] M Q := by
  have b2 : a 2 ≤ 8 := v.2.2.2.1
  have b11 : a 11 ≤ 60 := v2.2.2.2.1
  obtain ⟨s5, s6, s9, s8, sr, sc⟩ := cs
  refine g_m (by omega) 4 (fun e he => ?_)
  have loop : ∀ m i N, i + m = a 2 → (∀ k, k ≠ r + 2 → k ≠ r + 3 → N k = M k) → (∀ k, k < a 2 → N (r + 2) k = (if k < i ∧ runB a b s k = true then 4 else M (r + 2) k) ∧ N (r + 3) k = (if k < i ∧ runB a b s k = true then nI (t + rno a k (s.wh k)) else M (r + 3) k)) → g_Run (g_cal e) (g_mt S0 k_X4_startRuns) Q 3 [.ref r, .ref 2, .int (nI t), .int (nI (a 11)), .int (nI b), .int (nI i)] [] N := by
    intro m
    induction m with
    | zero =>
      intro i N hi e1 e2
      have hi' : i = a 2 := by omega
      subst hi'
      have fin := h N e1 ⟨by rw [e1 r (by omega) (by omega)]; exact s5, by rw [e1 r (by omega) (by omega)]; exact s6, by rw [e1 r (by omega) (by omega)]; exact s9, by rw [e1 r (by omega) (by omega)]; exact s8, fun k hk => by
        obtain ⟨q1, q2, q3, q4⟩ := sr k hk
        obtain ⟨f1, f2⟩ := e2 k hk
        rw [e1 (r + 1) (by omega) (by omega), f1, f2]
        show _ ∧ _ = nI (if runB a b s k = true then 4 else s.ho k) ∧ ((if runB a b s k = true then 4 else s.ho k) = 4 → _ = nI (if runB a b s k = true then t + rno a k (s.wh k) else s.cm k)) ∧ ((if runB a b s k = true then 4 else s.ho k) < 3 → _)
        by_cases z : runB a b s k = true
        · rw [if_pos ⟨hk, z⟩, if_pos z, if_pos ⟨hk, z⟩, if_pos z]
          exact ⟨q1, rfl, fun _ => rfl, fun y => by omega⟩
        · rw [if_neg (fun y => z y.2), if_neg z, if_neg (fun y => z y.2), if_neg z]
          exact ⟨q1, q2, q3, q4⟩, fun k hk => by rw [e1 (r + 4) (by omega) (by omega)]; exact sc k hk⟩
      have n5 : N r 5 = nI (a 2) := by rw [e1 r (by omega) (by omega)]; exact s5
      rcases hr with rfl | rfl
      all_goals exact g_go_ 20 (b_ge rfl n5 (by omega) (by omega) (fun _ => fin) (fun y => by omega))
    | succ m ih =>
      intro i N hi e1 e2
      have n5 : N r 5 = nI (a 2) := by rw [e1 r (by omega) (by omega)]; exact s5
      obtain ⟨f1, f2⟩ := e2 i (by omega)
      obtain ⟨q1, q2, q3, q4⟩ := sr i (by omega)
      rw [if_neg (fun y => by omega), q2] at f1
      obtain ⟨j1, j2, j3, j4, j5⟩ := I.1 i (by omega)
      have n1 : N (r + 1) i = nI (s.wh i) := by rw [e1 (r + 1) (by omega) (by omega)]; exact q1
      have w1 : GX1 N 2 a := g1.fr (fun c h1 h2 => e1 c (by omega) (by omega))
      have w2 : GX2 N 2 a := g2.fr (fun c h1 h2 => e1 c (by omega) (by omega))
      have brn := rno_le v i (s.wh i)
      obtain ⟨N2, hN2⟩ : ∃ N2, N2 = g_ms N (r + 2) (upd (N (r + 2)) i 4) := ⟨_, rfl⟩
      obtain ⟨N3, hN3⟩ : ∃ N3, N3 = g_ms N2 (r + 3) (upd (N2 (r + 3)) i (nI t + nI (rno a i (s.wh i)))) := ⟨_, rfl⟩
      have yes : runB a b s i = true → g_Run (g_cal e) (g_mt S0 k_X4_startRuns) Q 3 [.ref r, .ref 2, .int (nI t), .int (nI (a 11)), .int (nI b), .int (nI i + 1)] [] N3 := by
        intro z
        rw [← nI_succ]
        refine ih (i + 1) N3 (by omega) (fun k h1 h2 => by rw [hN3, g_ms_n h2, hN2, g_ms_n h1]; exact e1 k h1 h2) (fun k hk => ?_)
        obtain ⟨g1, g2⟩ := e2 k hk
        rw [hN3, g_ms_n (by omega), g_ms_s, hN2, g_ms_s, g_ms_n (by omega)]
        unfold upd
        by_cases ek : k = i
        · subst ek
          rw [if_pos rfl, if_pos rfl, if_pos ⟨by omega, z⟩, if_pos ⟨by omega, z⟩, nI_add]
          exact ⟨rfl, rfl⟩
        · rw [if_neg ek, if_neg ek, g1, g2]
          by_cases z2 : k < i ∧ runB a b s k = true
          · rw [if_pos z2, if_pos z2, if_pos ⟨by omega, z2.2⟩, if_pos ⟨by omega, z2.2⟩]; exact ⟨rfl, rfl⟩
          · rw [if_neg z2, if_neg z2, if_neg (fun y => z2 ⟨by omega, y.2⟩), if_neg (fun y => z2 ⟨by omega, y.2⟩)]; exact ⟨rfl, rfl⟩
      have no : ¬ runB a b s i = true → g_Run (g_cal e) (g_mt S0 k_X4_startRuns) Q 72 [.ref r, .ref 2, .int (nI t), .int (nI (a 11)), .int (nI b), .int (nI i)] [] N := by
        intro z
        have hR := ih (i + 1) N (by omega) e1 (fun k hk => by
          obtain ⟨g1, g2⟩ := e2 k hk
          rw [g1, g2]
          by_cases z2 : k < i ∧ runB a b s k = true
          · rw [if_pos z2, if_pos z2, if_pos ⟨by omega, z2.2⟩, if_pos ⟨by omega, z2.2⟩]; exact ⟨rfl, rfl⟩
          · have z3 : ¬ (k < i + 1 ∧ runB a b s k = true) := by
              intro y
              by_cases ek : k = i
              · subst ek; exact z y.2
              · exact z2 ⟨by omega, y.2⟩
            rw [if_neg z2, if_neg z2, if_neg z3, if_neg z3]; exact ⟨rfl, rfl⟩)
        rw [nI_succ] at hR
        exact g_go_ 5 (g_to hR _ rfl)
      rw [hN3] at yes
      have n21 : N2 (r + 1) i = nI (s.wh i) := by rw [hN2, g_ms_n (by omega)]; exact n1
      have w21 : GX1 N2 2 a := w1.fr (fun c h1 h2 => by rw [hN2, g_ms_n (by omega)])
      have w22 : GX2 N2 2 a := w2.fr (fun c h1 h2 => by rw [hN2, g_ms_n (by omega)])
      have sec' : s.ho i = 3 → ∀ Q' : g_R, Q' (some (.int (nI (rno a i (s.wh i))))) N2 → g_cal e k_X1_secondsToRun [.ref 2, .int (nI i), .int (nI (s.wh i))] N2 Q' := fun z Q' hq => x_secRun (by omega) v w21 w22 i (s.wh i) (by omega) j1 (by rw [if_pos (j3 (by omega)).2]; exact hq)
      have go42 : s.ho i = 3 → runB a b s i = true → g_Run (g_cal e) (g_mt S0 k_X4_startRuns) Q 50 [.ref r, .ref 2, .int (nI t), .int (nI (a 11)), .int (nI b), .int (nI i)] [] N2 := by
        intro z1 z2
        have hR := yes z2
        rcases hr with rfl | rfl
        all_goals
          refine g_go_ 30 ⟨i, rfl, by omega, ?_⟩
          rw [n21]
          refine sec' z1 _ ?_
          exact ⟨i, rfl, by omega, g_to hR _ rfl⟩
      rw [hN2] at go42
      rcases hr with rfl | rfl
      all_goals
        refine g_go_ 40 (b_ge rfl n5 (by omega) (by omega) (fun y => by omega) (fun _ => ⟨i, rfl, by omega, ?_⟩))
        rw [f1]
        refine b_ne rfl (show (3 : Int32) = nI 3 from rfl) (by omega) (by decide) (fun z => g_to (no (fun y => z (of_decide_eq_true y).2.1)) _ rfl) (fun z => ⟨i, rfl, by omega, ?_⟩)
        rw [n1]
        refine x_wouldRun (by omega) v w1 w2 i (s.wh i) (a 11) b (by omega) j1 (by omega) hb (b_z (fun z2 => ?_) (fun z2 => ?_))
        · exact g_to (no (fun y => of_decide_eq_false z2 ⟨(j3 (by omega)).2, (of_decide_eq_true y).2.2⟩)) _ rfl
        · exact ⟨i, rfl, by omega, g_to (go42 z (decide_eq_true ⟨by omega, z, (of_decide_eq_true z2).2⟩)) _ rfl⟩
  exact g_to (loop (a 2) 0 M (by omega) (fun _ _ _ => rfl) (fun k hk => by rw [if_neg (fun y => by omega), if_neg (fun y => by omega)]; exact ⟨rfl, rfl⟩)) _ rfl
def mo' (s : RS) : Nat := if s.wk = false ∧ s.mo = 100000 then 2147483647 else s.mo
def nxm (a : Nat → Nat) (s : RS) : Nat := g_it (fun h n => if s.ho h = 4 then min n (s.cm h) else n) (a 2) 0 (mo' s)
theorem nxm_J (a : Nat → Nat) (s : RS) : nxm a s ≤ mo' s ∧ ∀ h, h < a 2 → s.ho h = 4 → nxm a s ≤ s.cm h := by
  unfold nxm
  exact g_it_J (fun i n => n ≤ mo' s ∧ ∀ h, h < i → s.ho h = 4 → n ≤ s.cm h) _ (a 2) (fun i n hi hn => by
    show (if s.ho i = 4 then min n (s.cm i) else n) ≤ _ ∧ _
    by_cases z : s.ho i = 4
    · rw [if_pos z]
      refine ⟨by omega, fun h hh h4 => ?_⟩
      by_cases e : h = i
      · subst e; omega
      · have := hn.2 h (by omega) h4; omega
    · rw [if_neg z]
      refine ⟨hn.1, fun h hh h4 => ?_⟩
      by_cases e : h = i
      · subst e; exact absurd h4 z
      · exact hn.2 h (by omega) h4) (a 2) 0 (mo' s) (by omega) ⟨Nat.le_refl _, fun h hh => by omega⟩
theorem x_nextMoment {d r t : Nat} {M : g_M} {Q : g_R} {a : Nat → Nat} {s : RS} {u : Nat} (hd : 1 ≤ d) (hr : r = 17 ∨ r = 60) (b2 : a 2 ≤ 8) (ht : t ≤ 900) (I : RI a u s) (cs : CS M r a (a 2) s) (ck : CK M s) (h : Q (some (.int (nI (max (t + 1) (nxm a s))))) M) : g_cal d k_X4_nextMoment [.ref r, .ref 66, .int (nI t)] M Q := by
  obtain ⟨s5, s6, s9, s8, sr, sc⟩ := cs
  obtain ⟨k1, k2, k3, k4, k5⟩ := ck
  obtain ⟨i1, i2, i3, i4, i5, i6, i7, i8, i9⟩ := I
  have hm : M 66 3 = nI (mo' s) ∧ mo' s < 2 ^ 31 := by
    unfold mo'
    by_cases z : s.wk = true
    · rw [if_neg (fun y => by rw [z] at y; cases y.1)]
      exact ⟨(k4 z).2, by have := (i6 z).2.2.2; omega⟩
    · have z' : s.wk = false := Bool.not_eq_true _ ▸ z
      rcases k5 z' with y | y
      · rw [if_neg (fun w => by omega)]; exact ⟨y.2, by omega⟩
      · rw [if_pos ⟨z', y.1⟩]; exact ⟨y.2, by decide⟩
  have loop : ∀ e m i n, i + m = a 2 → n < 2 ^ 31 → g_it (fun h n => if s.ho h = 4 then min n (s.cm h) else n) m i n = nxm a s → g_Run (g_cal e) (g_mt S0 k_X4_nextMoment) Q 8 [.ref r, .ref 66, .int (nI t), .int (nI n), .int (nI i)] [] M := by
    intro e m
    induction m with
    | zero =>
      intro i n hi hn hk
      have hk' : n = nxm a s := hk
      rw [← hk', ← n_max (show t + 1 < 2 ^ 31 by omega) hn, nI_succ] at h
      rcases hr with rfl | rfl
      all_goals exact g_go_ 20 (b_ge rfl s5 (by omega) (by omega) (fun _ => h) (fun y => by omega))
    | succ m ih =>
      intro i n hi hn hk
      obtain ⟨q1, q2, q3, q4⟩ := sr i (by omega)
      obtain ⟨j1, j2, j3, j4, j5⟩ := i1 i (by omega)
      have hR := ih (i + 1) (if s.ho i = 4 then min n (s.cm i) else n) (by omega) (by split <;> omega) hk
      rw [nI_succ] at hR
      rcases hr with rfl | rfl
      all_goals
        refine g_go_ 30 (b_ge rfl s5 (by omega) (by omega) (fun y => by omega) (fun _ => ⟨i, rfl, by omega, ?_⟩))
        rw [q2]
        refine b_ne rfl (show (4 : Int32) = nI 4 from rfl) (by omega) (by decide) (fun z => ?_) (fun z => ⟨i, rfl, by omega, ?_⟩)
        · rw [if_neg z] at hR
          exact g_to hR _ rfl
        · rw [q3 z]
          have := j5 z
          rw [if_pos z, ← n_min hn (show s.cm i < 2 ^ 31 by omega)] at hR
          exact g_to hR _ rfl
  refine g_m hd 8 (fun e he => ?_)
  have := loop e (a 2) 0 (mo' s) (by omega) hm.2 rfl
  rw [← hm.1] at this
  exact g_to this _ rfl
theorem x_end {d r t : Nat} {M : g_M} {Q : g_R} {a : Nat → Nat} {s : RS} {u : Nat} (hd : 1 ≤ d) (hr : r = 17 ∨ r = 60) (b2 : a 2 ≤ 8) (I : RI a u s) (cs : CS M r a (a 2) s)
    (h : ∀ M', Fx r M M' → CS M' r a (a 2) (endA a t s) → M' r 7 = nI t → Q none M') : g_cal d k_X4_end [.ref r, .int (nI t)] M Q := by
  obtain ⟨s5, s6, s9, s8, sr, sc⟩ := cs
  refine g_m hd 8 (fun e he => ?_)
  obtain ⟨M1, hM1⟩ : ∃ M1, M1 = g_ms M r (upd (M r) 7 (nI t)) := ⟨_, rfl⟩
  have o : ∀ c, c ≠ r → M1 c = M c := fun c hc => by rw [hM1, g_ms_n hc]
  have or' : ∀ j, j ≠ 7 → M1 r j = M r j := fun j hj => by rw [hM1, g_ms_s]; unfold upd; rw [if_neg hj]
  have o7 : M1 r 7 = nI t := by rw [hM1, g_ms_s]; rfl
  have loop : ∀ m i N, i + m = a 2 → (∀ k, k ≠ r + 2 → k ≠ r + 3 → N k = M1 k) → (∀ k, k < a 2 → N (r + 2) k = (if k < i ∧ 3 ≤ s.ho k then 2 else M (r + 2) k) ∧ N (r + 3) k = (if k < i ∧ 3 ≤ s.ho k then nI t else M (r + 3) k)) → g_Run (g_cal e) (g_mt S0 k_X4_end) Q 7 [.ref r, .int (nI t), .int (nI i)] [] N := by
    intro m
    induction m with
    | zero =>
      intro i N hi e1 e2
      have hi' : i = a 2 := by omega
      subst hi'
      have nr := e1 r (by omega) (by omega)
      have fin := h N (fun c c1 c2 => by rw [e1 c (by omega) (by omega)]; exact o c (by omega)) ⟨by rw [nr, or' 5 (by decide)]; exact s5, by rw [nr, or' 6 (by decide)]; exact s6, by rw [nr, or' 9 (by decide)]; exact s9, by rw [nr, or' 8 (by decide)]; exact s8, fun k hk => by
        obtain ⟨q1, q2, q3, q4⟩ := sr k hk
        obtain ⟨f1, f2⟩ := e2 k hk
        have bo := (I.1 k hk).2.1
        rw [e1 (r + 1) (by omega) (by omega), o (r + 1) (by omega), f1, f2]
        show _ ∧ _ = nI (if k < a 2 ∧ 3 ≤ s.ho k then 2 else s.ho k) ∧ ((if k < a 2 ∧ 3 ≤ s.ho k then 2 else s.ho k) = 4 → _) ∧ ((if k < a 2 ∧ 3 ≤ s.ho k then 2 else s.ho k) < 3 → _ = nI (if k < a 2 ∧ 3 ≤ s.ho k then t else s.wn k))
        by_cases z : 3 ≤ s.ho k
        · rw [if_pos ⟨hk, z⟩, if_pos ⟨hk, z⟩, if_pos ⟨hk, z⟩, if_pos ⟨hk, z⟩]
          exact ⟨q1, rfl, fun y => by omega, fun _ => rfl⟩
        · rw [if_neg (fun y => z y.2), if_neg (fun y => z y.2), if_neg (fun y => z y.2), if_neg (fun y => z y.2)]
          exact ⟨q1, q2, q3, q4⟩, fun k hk => by rw [e1 (r + 4) (by omega) (by omega), o (r + 4) (by omega)]; exact sc k hk⟩ (by rw [nr]; exact o7)
      have n5 : N r 5 = nI (a 2) := by rw [nr, or' 5 (by decide)]; exact s5
      rcases hr with rfl | rfl
      all_goals exact g_go_ 20 (b_ge rfl n5 (by omega) (by omega) (fun _ => fin) (fun y => by omega))
    | succ m ih =>
      intro i N hi e1 e2
      have n5 : N r 5 = nI (a 2) := by rw [e1 r (by omega) (by omega), or' 5 (by decide)]; exact s5
      obtain ⟨f1, f2⟩ := e2 i (by omega)
      obtain ⟨q1, q2, q3, q4⟩ := sr i (by omega)
      have bo := (I.1 i (by omega)).2.1
      rw [if_neg (fun y => by omega), q2] at f1
      obtain ⟨N2, hN2⟩ : ∃ N2, N2 = g_ms N (r + 2) (upd (N (r + 2)) i 2) := ⟨_, rfl⟩
      obtain ⟨N3, hN3⟩ : ∃ N3, N3 = g_ms N2 (r + 3) (upd (N2 (r + 3)) i (nI t)) := ⟨_, rfl⟩
      have yes : 3 ≤ s.ho i → g_Run (g_cal e) (g_mt S0 k_X4_end) Q 7 [.ref r, .int (nI t), .int (nI i + 1)] [] N3 := by
        intro z
        rw [← nI_succ]
        refine ih (i + 1) N3 (by omega) (fun k h1 h2 => by rw [hN3, g_ms_n h2, hN2, g_ms_n h1]; exact e1 k h1 h2) (fun k hk => ?_)
        obtain ⟨g1, g2⟩ := e2 k hk
        rw [hN3, g_ms_n (by omega), g_ms_s, hN2, g_ms_s, g_ms_n (by omega)]
        unfold upd
        by_cases ek : k = i
        · subst ek
          rw [if_pos rfl, if_pos rfl, if_pos ⟨by omega, z⟩, if_pos ⟨by omega, z⟩]
          exact ⟨rfl, rfl⟩
        · rw [if_neg ek, if_neg ek, g1, g2]
          by_cases z2 : k < i ∧ 3 ≤ s.ho k
          · rw [if_pos z2, if_pos z2, if_pos ⟨by omega, z2.2⟩, if_pos ⟨by omega, z2.2⟩]; exact ⟨rfl, rfl⟩
          · rw [if_neg z2, if_neg z2, if_neg (fun y => z2 ⟨by omega, y.2⟩), if_neg (fun y => z2 ⟨by omega, y.2⟩)]; exact ⟨rfl, rfl⟩
      have no : ¬ 3 ≤ s.ho i → g_Run (g_cal e) (g_mt S0 k_X4_end) Q 49 [.ref r, .int (nI t), .int (nI i)] [] N := by
        intro z
        have hR := ih (i + 1) N (by omega) e1 (fun k hk => by
          obtain ⟨g1, g2⟩ := e2 k hk
          rw [g1, g2]
          by_cases z2 : k < i ∧ 3 ≤ s.ho k
          · rw [if_pos z2, if_pos z2, if_pos ⟨by omega, z2.2⟩, if_pos ⟨by omega, z2.2⟩]; exact ⟨rfl, rfl⟩
          · have z3 : ¬ (k < i + 1 ∧ 3 ≤ s.ho k) := by
              intro y
              by_cases ek : k = i
              · subst ek; exact z y.2
              · exact z2 ⟨by omega, y.2⟩
            rw [if_neg z2, if_neg z2, if_neg z3, if_neg z3]; exact ⟨rfl, rfl⟩)
        rw [nI_succ] at hR
        exact g_go_ 5 (g_to hR _ rfl)
      rw [hN3, hN2] at yes
      rcases hr with rfl | rfl
      all_goals
        refine g_go_ 40 (b_ge rfl n5 (by omega) (by omega) (fun y => by omega) (fun _ => ⟨i, rfl, by omega, ?_⟩))
        rw [f1]
        refine b_eq rfl (show (3 : Int32) = nI 3 from rfl) (by omega) (by decide) (fun z => ⟨i, rfl, by omega, i, rfl, by omega, g_to (yes (by omega)) _ rfl⟩) (fun z => ⟨i, rfl, by omega, ?_⟩)
        rw [f1]
        exact b_ne rfl (show (4 : Int32) = nI 4 from rfl) (by omega) (by decide) (fun z2 => g_to (no (by omega)) _ rfl) (fun z2 => ⟨i, rfl, by omega, i, rfl, by omega, g_to (yes (by omega)) _ rfl⟩)
  have := loop (a 2) 0 M1 (by omega) (fun _ _ _ => rfl) (fun k hk => by rw [if_neg (fun y => by omega), if_neg (fun y => by omega), o _ (by omega), o _ (by omega)]; exact ⟨rfl, rfl⟩)
  rw [hM1] at this
  rcases hr with rfl | rfl
  all_goals exact g_to this _ rfl
