/-! ===== the component's round: all hide ===== -/
theorem cnt_put {f g : Nat → Bool} {k : Nat} : ∀ {n : Nat}, k < n → f k = false → g k = true → (∀ i, i < n → i ≠ k → g i = f i) → cnt g n = cnt f n + 1
  | 0, h, _, _, _ => by omega
  | n + 1, h, h1, h2, h3 => by
    unfold cnt
    by_cases e : k = n
    · subst e
      rw [cnt_congr (f := g) (g := f) (n := k) (fun i hi => h3 i (by omega) (by omega)), if_pos h2, if_neg (by rw [h1]; decide)]
    · rw [cnt_put (n := n) (by omega) h1 h2 (fun i hi => h3 i (by omega)), h3 n (by omega) (fun w => e w.symm)]
      omega
theorem hidN_put {a : Nat → Nat} {s : RS} {h q p : Nat} {x : Int32} (hh : h < a 2) (ho : s.ho h = 0) : hidN a ((s.sSd x).sWhHo (aup s.wh h q) (aup s.ho h 3)) p = if p = q then hidN a s p + 1 else hidN a s p := by
  rw [hidN_cnt, hidN_cnt]
  show cnt (fun i => decide (aup s.ho h 3 i = 3 ∧ aup s.wh h q i = p)) (a 2) = _
  by_cases e : p = q
  · rw [if_pos e]
    refine cnt_put (k := h) hh (decide_eq_false (fun w => by rw [ho] at w; omega)) (decide_eq_true (by rw [aup_s, aup_s]; exact ⟨rfl, e.symm⟩)) (fun i hi hn => by rw [aup_n hn, aup_n hn])
  · rw [if_neg e]
    refine cnt_congr (fun i hi => ?_)
    by_cases hn : i = h
    · subst hn
      rw [aup_s, aup_s, ho, decide_eq_false (fun w => e w.2.symm), decide_eq_false (fun w => by omega)]
    · rw [aup_n hn, aup_n hn]
theorem hidN_no {a : Nat → Nat} {s : RS} {h p : Nat} {x : Int32} (ho : s.ho h = 0) : hidN a (ctc h 0 (s.sSd x)) p = hidN a s p := by
  rw [hidN_cnt, hidN_cnt]
  refine cnt_congr (fun i hi => ?_)
  show decide (aup s.ho h 0 i = 3 ∧ s.wh i = p) = _
  by_cases hn : i = h
  · subst hn; rw [aup_s, ho]
  · rw [aup_n hn]
theorem x_choose {d r tt i : Nat} {M : g_M} {Q : g_R} {a : Nat → Nat} {s : RS} (hd : 4 ≤ d) (hr : r = 17 ∨ r = 60) (ht : tt = 14 ∨ tt = 57) (v : V1 a) (v2 : V2 a) (w : CW M tt a) (I : HI a i s) (hl : RL M r a s) (hi : i < a 2) (h9 : M r 9 = s.sd) (hw : ∀ k, k < i → M (r + 1) k = nI (s.wh k))
    (h : ∀ M', (∀ k, k ≠ r → M' k = M k) → (∀ j, j ≠ 9 → M' r j = M r j) → M' r 9 = chd a i s → Q (some (.int (nI (chs a i s)))) M') : g_cal d k_X4_choose [.ref r, .ref 2, .ref tt, .int (nI i)] M Q := by
  have b0 : a 0 ≤ 8 := v.2.1
  have b1 : 1 ≤ a 0 := v.1
  have b2 : a 2 ≤ 8 := v.2.2.2.1
  have b12 : a 12 ≤ 4 := v2.2.2.2.2.1
  obtain ⟨J1, J2⟩ := ob_J (mayB a i s) (a 0) b1 b0
  have hm := mny_eq a i s
  have tk := w.2.2.1
  have t0 : M (tt + 1) 0 = nI (a 9) := tk 0 (by decide)
  have t3 : M (tt + 1) 3 = nI (a 12) := tk 3 (by decide)
  have hz : obF (mayB a i s) (a 0) = 0 ↔ mny a i s = 0 := by
    have hc := ob_cnt (mayB a i s) (a 0) b1 b0
    rw [← hm] at hc
    constructor
    · intro z
      rw [z] at hc
      rw [← hc]
      exact cntF_z _ 8 0 (fun q _ => Nat.zero_testBit q)
    · intro z
      rw [z] at hc
      apply Nat.eq_of_testBit_eq
      intro q
      rw [Nat.zero_testBit]
      by_cases hq : Nat.testBit (obF (mayB a i s) (a 0)) q = true
      · exfalso
        have h2 := J1 q
        rw [hq] at h2
        have h3 := h2.symm
        rw [Bool.and_eq_true, decide_eq_true_iff] at h3
        have := nthF_ok (Nat.testBit (obF (mayB a i s) (a 0))) 8 0
        have cpos : ∀ k p, p ≤ q → q < p + k → 1 ≤ cntF (Nat.testBit (obF (mayB a i s) (a 0))) k p := by
          intro k
          induction k with
          | zero => intro p h1 h2; omega
          | succ k ih =>
            intro p h1 h2
            unfold cntF
            by_cases e : p = q
            · subst e; rw [if_pos hq]; omega
            · have := ih (p + 1) (by omega) (by omega); omega
        have := cpos 8 0 (by omega) (by omega)
        omega
      · exact Bool.not_eq_true _ ▸ hq
  have sme : mny a i s = 0 ∨ a 12 ≠ 3 → chd a i s = M r 9 := by
    intro z
    unfold chd
    rw [h9]
    by_cases z2 : mny a i s = 0
    · rw [if_pos z2]
    · rw [if_neg z2, if_neg (by rcases z with z | z; exact absurd z z2; exact z)]
  have fin : mny a i s = 0 ∨ a 12 ≠ 3 → Q (some (.int (nI (chs a i s)))) M := fun z => h M (fun _ _ => rfl) (fun _ _ => rfl) (sme z).symm
  refine g_m (by omega) 60 (fun e he => ?_)
  have go : ∀ k, k = obF (mayB a i s) (a 0) → g_Run (g_cal e) (g_mt S0 k_X4_choose) Q 14 [.ref r, .ref 2, .ref tt, .int (nI i), .int (nI k), .null] [] M → True := fun _ _ _ => trivial
  have first : ∀ (Q' : g_R), a 12 ≠ 1 → a 12 ≠ 2 → Q' (some (.int (nI (bst a i s)))) M → g_cal e k_X4_bitAt [.int (nI (obF (mayB a i s) (a 0))), .int (nI 0)] M Q' := by
    intro Q' n1 n2 hq
    refine x_bitAt (by omega) (by omega) (by decide) ?_
    rw [ob_nth _ _ _ b1 b0]
    have := bst_nth a i s n1 n2 (a 0 - 1) 1 0 (by omega)
    rw [if_pos rfl] at this
    rw [← this]
    exact hq
  have main : g_Run (g_cal e) (g_mt S0 k_X4_choose) Q 14 [.ref r, .ref 2, .ref tt, .int (nI i), .int (nI (obF (mayB a i s) (a 0))), .null] [] M := by
    refine g_go_ 60 (b_ne (b := 0) rfl rfl (by omega) (by decide) (fun z => ?_) (fun z => ?_))
    · have zm : mny a i s ≠ 0 := fun y => z (hz.mpr y)
      have c12 : a 12 = 0 ∨ a 12 = 1 ∨ a 12 = 2 ∨ a 12 = 3 ∨ a 12 = 4 := by omega
      have hc : chs a i s = if a 12 = 4 ∧ 0 < i ∧ s.ho (i - 1) = 3 ∧ mayB a i s (s.wh (i - 1)) = true then s.wh (i - 1) else if a 12 = 3 then nthF (mayB a i s) (a 0 - 1) 1 (drw (nsd s.sd) (mny a i s)) else bst a i s := by unfold chs; rw [if_neg zm]
      have idx : M (tt + 1) 3 = nI (a 12) := t3
      rcases c12 with c | c | c | c | c
      · have fc := fin (Or.inr (by omega))
        rw [hc, if_neg (by omega), if_neg (by omega)] at fc
        rcases ht with rfl | rfl
        all_goals
          refine ⟨3, rfl, by decide, ?_⟩
          rw [t3, c]
          exact g_sw_of 135 (by decide) (first _ (by omega) (by omega) fc)
      · have fc := fin (Or.inr (by omega))
        rw [hc, if_neg (by omega), if_neg (by omega)] at fc
        rcases ht with rfl | rfl
        all_goals
          refine ⟨3, rfl, by decide, ?_⟩
          rw [t3, c]
          exact g_sw_of 56 (by decide) (x_deepest (by omega) v w.1 c rfl fc)
      · have fc := fin (Or.inr (by omega))
        rw [hc, if_neg (by omega), if_neg (by omega)] at fc
        rcases ht with rfl | rfl
        all_goals
          refine ⟨3, rfl, by decide, ?_⟩
          rw [t3, c]
          exact g_sw_of 63 (by decide) (x_outermost (by omega) v w.1 w.2.1 c rfl fc)
      · rw [if_neg (by omega), if_pos c] at hc
        rw [hc] at h
        have h' := h (g_ms M r (upd (M r) 9 (nsd (M r 9)))) (fun k hk => g_ms_n hk) (fun j hj => by rw [g_ms_s]; unfold upd; rw [if_neg hj]) (by rw [g_ms_s]; unfold chd; rw [if_neg zm, if_pos c, h9]; unfold upd; rw [if_pos rfl])
        rw [← h9] at h'
        generalize hk : g_ms M r (upd (M r) 9 (nsd (M r 9))) = M' at h'
        generalize hsd : drw (nsd (M r 9)) (mny a i s) = dd at h'
        have ddl : dd < mny a i s := by rw [← hsd]; exact Nat.mod_lt _ (by omega)
        have ml := cntF_le (mayB a i s) (a 0 - 1) 1
        have lst : ∀ Q' : g_R, Q' (some (.int (nI (nthF (mayB a i s) (a 0 - 1) 1 dd)))) M' → g_cal e k_X4_bitAt [.int (nI (obF (mayB a i s) (a 0))), .int (nI dd)] M' Q' := by
          intro Q' hq
          refine x_bitAt (by omega) (by omega) (by omega) ?_
          rw [ob_nth _ _ _ b1 b0]
          exact hq
        have drw' : ∀ Q' : g_R, Q' (some (.int (nI dd))) M' → g_cal e k_X4_drawBelow [.ref r, .int (nI (mny a i s))] M Q' := by
          intro Q' hq
          refine x_draw (by omega) hr (by omega) (by omega) ?_
          rw [hk, hsd]
          exact hq
        have cnt' : ∀ Q' : g_R, Q' (some (.int (nI (mny a i s)))) M → g_cal e k_J6_bitCount [.int (nI (obF (mayB a i s) (a 0)))] M Q' := by
          intro Q' hq
          refine x_bitCount (by omega) (by omega) ?_
          rw [ob_cnt _ _ b1 b0, ← hm]
          exact hq
        rcases ht with rfl | rfl <;> rcases hr with rfl | rfl
        all_goals
          refine ⟨3, rfl, by decide, ?_⟩
          rw [t3, c]
          refine g_sw_of 70 (by decide) (cnt' _ ?_)
          refine drw' _ ?_
          exact lst _ h'
      · have fc := fin (Or.inr (by omega))
        rw [hc] at fc
        have nofol : ¬ (0 < i ∧ s.ho (i - 1) = 3 ∧ mayB a i s (s.wh (i - 1)) = true) → g_Run (g_cal e) (g_mt S0 k_X4_choose) Q 109 [.ref r, .ref 2, .ref tt, .int (nI i), .int (nI (obF (mayB a i s) (a 0))), .null] [] M := by
          intro y
          rw [if_neg (fun y2 => y y2.2), if_neg (by omega)] at fc
          exact g_go_ 20 (b_t rfl (first _ (by omega) (by omega) fc))
        rcases ht with rfl | rfl
        all_goals
          refine ⟨3, rfl, by decide, ?_⟩
          rw [t3, c]
          refine g_sw_of 85 (by decide) (b_le (b := 0) rfl rfl (by omega) (by decide) (fun y => g_to (nofol (fun y2 => by omega)) _ rfl) (fun y => ?_))
          have hwk := hw (i - 1) (by omega)
          have hidx : nI i - 1 = nI (i - 1) := is (by omega) rfl rfl
          have hhi := I.1 (i - 1) (by omega)
          have wl : s.wh (i - 1) < 8 := by rcases hhi with y | y <;> omega
          rcases hr with rfl | rfl
          all_goals
            refine ⟨i - 1, hidx, by omega, ?_⟩
            rw [hwk]
            refine x_hasBit (by omega) (obF (mayB a i s) (a 0)) (s.wh (i - 1)) rfl rfl (by omega) (by omega) ?_
            rw [J1]
            rcases hhi with y2 | y2
            · rw [y2.2.2, decide_eq_false (by omega), Bool.false_and]
              exact b_t rfl (g_to (nofol (fun y3 => by omega)) _ rfl)
            · rw [decide_eq_true ⟨y2.2.1, y2.2.2.1⟩, Bool.true_and]
              refine b_z (fun z3 => g_to (nofol (fun y3 => by rw [z3] at y3; exact absurd y3.2.2 (by decide))) _ rfl) (fun z3 => ?_)
              rw [if_pos ⟨c, y, y2.1, z3⟩] at fc
              refine b_f (by decide) ⟨i - 1, hidx, by omega, ?_⟩
              rw [hwk]
              exact fc
    · have zm := hz.mp z
      have fc := fin (Or.inl zm)
      have : chs a i s = 0 := by unfold chs; rw [if_pos zm]
      rw [this] at fc
      exact fc
  have op : ∀ Q' : g_R, Q' (some (.int (nI (obF (mayB a i s) (a 0))))) M → g_cal e k_X4_openPlaces [.ref r, .ref 2, .int (nI (a 9)), .int (nI i)] M Q' := fun Q' hq => x_openPlaces (by omega) hr v v2 w hl hi hq
  rcases ht with rfl | rfl <;> rcases hr with rfl | rfl
  all_goals
    refine ⟨0, rfl, by decide, ?_⟩
    rw [t0]
    refine op _ ?_
    exact g_to main _ rfl
theorem x_hideAll {d r tt : Nat} {M : g_M} {Q : g_R} {a : Nat → Nat} {z : Int32} (hd : 5 ≤ d) (hr : r = 17 ∨ r = 60) (ht : tt = 14 ∨ tt = 57) (v : V1 a) (v2 : V2 a) (w : CW M tt a) (hS : CS M r a 0 (rs0 z)) (hl : RL M r a (rs0 z))
    (h : ∀ M', Fx r M M' → M' 66 = M 66 → CS M' r a (a 2) (hide a z) → Q none M') : g_cal d k_X4_hideAll [.ref r, .ref 2, .ref tt] M Q := by
  have b0 : a 0 ≤ 8 := v.2.1
  have b2 : a 2 ≤ 8 := v.2.2.2.1
  refine g_m (by omega) 4 (fun e he => ?_)
  have loop : ∀ m i s N u, i + m = a 2 → HI a i s → CS N r a i s → RL N r a s → Fx r M N → N 66 = M 66 → g_it (hideH a) m i s = hide a z → g_Run (g_cal e) (g_mt S0 k_X4_hideAll) Q 2 [.ref r, .ref 2, .ref tt, .int (nI i), u] [] N := by
    intro m
    induction m with
    | zero =>
      intro i s N u hi I cs rl fx k66 hh
      have hi' : i = a 2 := by omega
      subst hi'
      have hh' : s = hide a z := hh
      subst hh'
      have := h N fx k66 cs
      rcases hr with rfl | rfl
      all_goals exact g_go_ 20 (b_ge rfl cs.1 (by omega) (by omega) (fun _ => this) (fun y => by omega))
    | succ m ih =>
      intro i s N u hi I cs rl fx k66 hh
      have wN := w.fr hr ht fx
      have cs0 := cs
      obtain ⟨s5, s6, s9, ⟨lb, lb1, lb2, lb3⟩, sr, sc⟩ := cs
      have I' := I.st v (show i < a 2 by omega)
      have cl : s.cn < 8 := by have := I.2.2.2.1; omega
      have ho0 := (I.2.1 i (Nat.le_refl _)).1
      have wh0 := (I.2.1 i (Nat.le_refl _)).2
      have nxt : ∀ N' u', CS N' r a (i + 1) (hideH a i s) → RL N' r a (hideH a i s) → Fx r N N' → N' 66 = N 66 → g_Run (g_cal e) (g_mt S0 k_X4_hideAll) Q 2 [.ref r, .ref 2, .ref tt, .int (nI i + 1), u'] [] N' := by
        intro N' u' c1 c2 c3 c4
        rw [← nI_succ]
        exact ih (i + 1) (hideH a i s) N' u' (by omega) I' c1 c2 (fx.tr c3) (c4.trans k66) hh
      have ch : ∀ Q' : g_R, (∀ M', (∀ k, k ≠ r → M' k = N k) → (∀ j, j ≠ 9 → M' r j = N r j) → M' r 9 = chd a i s → Q' (some (.int (nI (chs a i s)))) M') → g_cal e k_X4_choose [.ref r, .ref 2, .ref tt, .int (nI i)] N Q' := fun Q' hq => x_choose (by omega) hr ht v v2 wN I rl (by omega) s9 (fun k hk => (sr k hk).1) hq
      have ck := chs_ok (a := a) (h := i) (r := s) v.1 I.hw
      clear ih
      have done : ∀ N1, (∀ k, k ≠ r → N1 k = N k) → (∀ j, j ≠ 9 → N1 r j = N r j) → N1 r 9 = chd a i s → g_Run (g_cal e) (g_mt S0 k_X4_hideAll) Q 17 [.ref r, .ref 2, .ref tt, .int (nI i), u] [.int (nI (chs a i s))] N1 := by
        intro N1 e1 e2 e3
        by_cases c0 : chs a i s = 0
        · rw [c0]
          have hs' : hideH a i s = ctc i 0 (s.sSd (chd a i s)) := by unfold hideH; rw [if_pos c0]
          rw [hs'] at nxt
          rcases hr with rfl | rfl
          all_goals
            refine g_go_ 40 ⟨i, rfl, by omega, b_nf rfl (x_find (by omega) (by decide) (by omega) cl (show N1 _ 6 = _ from (e2 6 (by decide)).trans s6) (fun N2 f1 f2 f3 f4 f5 => g_to (nxt N2 (.int (nI 0)) ?_ ?_ ?_ ?_) _ rfl))⟩
            · refine ⟨?_, ?_, ?_, ⟨lb, lb1, ?_, lb3⟩, fun k hk => ?_, fun k hk => ?_⟩
              · rw [f5]; exact (e2 5 (by decide)).trans s5
              · rw [f5]; rfl
              · rw [f5]; exact e3
              · rw [f5]; exact (e2 8 (by decide)).trans lb2
              · show N2 _ k = nI (s.wh k) ∧ N2 _ k = nI (aup s.ho i 0 k) ∧ (aup s.ho i 0 k = 4 → _) ∧ (aup s.ho i 0 k < 3 → N2 _ k = nI (aup s.wn i 0 k))
                rw [f1 _ (by decide) (by decide) (by decide) (by decide), f2, f3, g_ms_s, g_ms_n (by decide), g_ms_n (by decide), e1 _ (by decide), e1 _ (by decide), e1 _ (by decide)]
                unfold upd
                by_cases ek : k = i
                · subst ek
                  rw [if_pos rfl, if_pos rfl, if_pos rfl, aup_s, aup_s, wh0]
                  exact ⟨rfl, rfl, fun y => by omega, fun _ => rfl⟩
                · rw [if_neg ek, if_neg ek, if_neg ek, aup_n ek, aup_n ek]
                  exact sr k (by omega)
              · show N2 _ k = nI (aup s.ca s.cn i k)
                rw [f4, g_ms_n (by decide), e1 _ (by decide)]
                unfold upd
                by_cases ek : k = s.cn
                · rw [if_pos ek, ek, aup_s]
                · rw [if_neg ek, aup_n ek]
                  exact sc k (by have : k < s.cn + 1 := hk; omega)
            · intro p hp
              rw [hidN_no ho0, f1 _ (by decide) (by decide) (by decide) (by decide), g_ms_n (by decide), e1 _ (by decide)]
              exact rl p hp
            · intro c hc1 hc2
              rw [f1 c (by omega) (by omega) (by omega) (by omega), g_ms_n (by omega), e1 c (by omega)]
            · rw [f1 66 (by decide) (by decide) (by decide) (by decide), g_ms_n (by decide), e1 66 (by decide)]
        · have zm : mny a i s ≠ 0 := fun y => c0 (ck.1 y)
          obtain ⟨q1, q2, q3⟩ := ck.2 zm
          have hs' : hideH a i s = (s.sSd (chd a i s)).sWhHo (aup s.wh i (chs a i s)) (aup s.ho i 3) := by unfold hideH; rw [if_neg c0]
          rw [hs'] at nxt
          have q4 := (of_decide_eq_true q3).1
          generalize chs a i s = q at *
          have br : a (17 + 5 * q) < 65536 := v.2.2.2.2.1 _
          have hrl := rl q q2
          obtain ⟨N2, hN2⟩ : ∃ N2, N2 = g_ms N1 (r + 1) (upd (N1 (r + 1)) i (nI q)) := ⟨_, rfl⟩
          obtain ⟨N3, hN3⟩ : ∃ N3, N3 = g_ms N2 (r + 2) (upd (N2 (r + 2)) i 3) := ⟨_, rfl⟩
          obtain ⟨N4, hN4⟩ : ∃ N4, N4 = g_ms N3 (r + 5) (upd (N3 (r + 5)) q (N3 (r + 5) q - 1)) := ⟨_, rfl⟩
          have o : ∀ c, c ≠ r + 1 → c ≠ r + 2 → c ≠ r + 5 → N4 c = N1 c := fun c c1 c2 c5 => by rw [hN4, g_ms_n c5, hN3, g_ms_n c2, hN2, g_ms_n c1]
          have o1 : N4 (r + 1) = upd (N (r + 1)) i (nI q) := by rw [hN4, g_ms_n (by omega), hN3, g_ms_n (by omega), hN2, g_ms_s, e1 _ (by omega)]
          have o2 : N4 (r + 2) = upd (N (r + 2)) i 3 := by rw [hN4, g_ms_n (by omega), hN3, g_ms_s, hN2, g_ms_n (by omega), e1 _ (by omega)]
          have o5' : N3 (r + 5) = N (r + 5) := by rw [hN3, g_ms_n (by omega), hN2, g_ms_n (by omega), e1 _ (by omega)]
          have o5 : N4 (r + 5) = upd (N (r + 5)) q (nI (a (17 + 5 * q) - hidN a s q - 1)) := by
            rw [hN4, g_ms_s, o5', hrl]
            congr 1
            exact is (by omega) rfl rfl
          have hR := nxt N4 (.int (nI q)) ⟨?_, ?_, ?_, ⟨lb, lb1, ?_, lb3⟩, ?_, ?_⟩ ?_ ?_ ?_
          · rw [hN4, hN3, hN2] at hR
            rcases hr with rfl | rfl
            all_goals
              exact g_go_ 40 ⟨i, rfl, by omega, b_ne (b := 0) rfl rfl (by omega) (by decide) (fun _ => ⟨i, rfl, by omega, q, rfl, by omega, q, rfl, by omega, g_to hR _ rfl⟩) (fun y => absurd y c0)⟩
          · rw [o r (by omega) (by omega) (by omega)]; exact (e2 5 (by decide)).trans s5
          · rw [o r (by omega) (by omega) (by omega)]; exact (e2 6 (by decide)).trans s6
          · rw [o r (by omega) (by omega) (by omega)]; exact e3
          · rw [o r (by omega) (by omega) (by omega)]; exact (e2 8 (by decide)).trans lb2
          · intro k hk
            show N4 (r + 1) k = nI (aup s.wh i q k) ∧ N4 (r + 2) k = nI (aup s.ho i 3 k) ∧ (aup s.ho i 3 k = 4 → N4 (r + 3) k = nI (s.cm k)) ∧ (aup s.ho i 3 k < 3 → N4 (r + 3) k = nI (s.wn k))
            rw [o1, o2, o (r + 3) (by omega) (by omega) (by omega), e1 _ (by omega)]
            unfold upd
            by_cases ek : k = i
            · subst ek
              rw [if_pos rfl, if_pos rfl, aup_s, aup_s]
              exact ⟨rfl, rfl, fun y => by omega, fun y => by omega⟩
            · rw [if_neg ek, if_neg ek, aup_n ek, aup_n ek]
              exact sr k (by omega)
          · intro k hk
            show N4 (r + 4) k = nI (s.ca k)
            rw [o (r + 4) (by omega) (by omega) (by omega), e1 _ (by omega)]
            exact sc k hk
          · intro p hp
            rw [hidN_put (by omega) ho0, o5]
            unfold upd
            by_cases ep : p = q
            · rw [if_pos ep, if_pos ep, ep]
              congr 1
            · rw [if_neg ep, if_neg ep]
              exact rl p hp
          · intro c hc1 hc2
            rw [o c (by omega) (by omega) (by omega), e1 c (by omega)]
          · rw [o 66 (by omega) (by omega) (by omega), e1 66 (by omega)]
      rcases hr with rfl | rfl <;> rcases ht with rfl | rfl
      all_goals
        refine g_go_ 40 (b_ge rfl s5 (by omega) (by omega) (fun y => by omega) (fun _ => ?_))
        refine ch _ (fun N1 e1 e2 e3 => ?_)
        exact g_to (done N1 e1 e2 e3) _ rfl
  exact g_to (loop (a 2) 0 (rs0 z) M .null (by omega) (HI.z a z) hS hl (Fx.rf r M) rfl rfl) _ rfl
