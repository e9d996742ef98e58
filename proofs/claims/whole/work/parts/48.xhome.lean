/-! ===== the component's round: they come home; she goes on; they run ===== -/
theorem x_stands {d : Nat} {M : g_M} {Q : g_R} {s : RS} (hd : 1 ≤ d) (k : CK M s) (hs : s.sp < 2 ^ 31) (h : Q (some (.int (bI (!s.wk && decide (s.sp = 0))))) M) : g_cal d k_X5_standsAtBase [.ref 66] M Q := by
  obtain ⟨k1, k2, k3, k4, k5⟩ := k
  refine g_m hd 30 (fun e he => ?_)
  show (¬ M 66 4 = 0 → _) ∧ (M 66 4 = 0 → _)
  rw [k3]
  refine b_nz (fun z => ⟨rfl, ?_⟩) (fun z => ?_)
  · rw [z] at h; exact h
  · show (¬ M 66 0 = 0 → _) ∧ (M 66 0 = 0 → _)
    rw [k1]
    refine b_ne (b := 0) rfl rfl hs (by decide) (fun z2 => ⟨rfl, ?_⟩) (fun z2 => ⟨rfl, ?_⟩)
    · rw [z, decide_eq_false z2] at h; exact h
    · rw [z, decide_eq_true z2] at h; exact h
theorem x_isOpen {d r : Nat} {M : g_M} {Q : g_R} {a : Nat → Nat} {s : RS} (hd : 1 ≤ d) (hr : r = 17 ∨ r = 60) (b2 : a 2 ≤ 8) (bo : ∀ h, h < a 2 → s.ho h ≤ 4) (s5 : M r 5 = nI (a 2)) (sr : ∀ h, h < a 2 → M (r + 2) h = nI (s.ho h)) (h : Q (some (.int (bI (!outB a s)))) M) : g_cal d k_X4_isOpen [.ref r] M Q := by
  refine g_m hd 4 (fun e he => ?_)
  have loop : ∀ m i, i + m = a 2 → (∀ k, k < i → s.ho k < 3) → g_Run (g_cal e) (g_mt S0 k_X4_isOpen) Q 2 [.ref r, .int (nI i)] [] M := by
    intro m
    induction m with
    | zero =>
      intro i hi hk
      have : outB a s = true := (outB_iff a s).mpr (fun k h1 => hk k (by omega))
      rw [this] at h
      rcases hr with rfl | rfl
      all_goals exact g_go_ 20 (b_ge rfl s5 (by omega) (by omega) (fun _ => ⟨rfl, h⟩) (fun y => by omega))
    | succ m ih =>
      intro i hi hk
      have hR := fun (y : s.ho i < 3) => ih (i + 1) (by omega) (fun k h1 => by
        by_cases e : k = i
        · subst e; exact y
        · exact hk k (by omega))
      rw [nI_succ] at hR
      have q := sr i (by omega)
      have qb := bo i (by omega)
      have op : ¬ s.ho i < 3 → Q (some (.int 1)) M := by
        intro y
        have : outB a s = false := by
          by_cases z : outB a s = true
          · exact absurd ((outB_iff a s).mp z i (by omega)) y
          · exact Bool.not_eq_true _ ▸ z
        rw [this] at h; exact h
      rcases hr with rfl | rfl
      all_goals
        refine g_go_ 30 (b_ge rfl s5 (by omega) (by omega) (fun y => by omega) (fun _ => ⟨i, rfl, by omega, ?_⟩))
        rw [q]
        refine b_eq rfl (show (3 : Int32) = nI 3 from rfl) (by omega) (by decide) (fun z => ⟨rfl, op (by omega)⟩) (fun z => ⟨i, rfl, by omega, ?_⟩)
        rw [q]
        exact b_ne rfl (show (4 : Int32) = nI 4 from rfl) (by omega) (by decide) (fun z2 => g_to (hR (by omega)) _ rfl) (fun z2 => ⟨rfl, op (by omega)⟩)
  exact g_to (loop (a 2) 0 (by omega) (fun k hk => by omega)) _ rfl
theorem x_freeAll {d r t : Nat} {M : g_M} {Q : g_R} {a : Nat → Nat} {s : RS} (hd : 1 ≤ d) (hr : r = 17 ∨ r = 60) (b2 : a 2 ≤ 8) (bo : ∀ h, h < a 2 → s.ho h ≤ 4) (cs : CS M r a (a 2) s)
    (h : ∀ M', (∀ k, k ≠ r + 2 → k ≠ r + 3 → M' k = M k) → CS M' r a (a 2) (free a t s) → Q none M') : g_cal d k_X4_freeAll [.ref r, .int (nI t)] M Q := by
  obtain ⟨s5, s6, s9, s8, sr, sc⟩ := cs
  refine g_m hd 4 (fun e he => ?_)
  have loop : ∀ m i N, i + m = a 2 → (∀ k, k ≠ r + 2 → k ≠ r + 3 → N k = M k) → (∀ k, k < a 2 → N (r + 2) k = (if k < i ∧ s.ho k = 0 then 1 else M (r + 2) k) ∧ N (r + 3) k = (if k < i ∧ s.ho k = 0 then nI t else M (r + 3) k)) → g_Run (g_cal e) (g_mt S0 k_X4_freeAll) Q 2 [.ref r, .int (nI t), .int (nI i)] [] N := by
    intro m
    induction m with
    | zero =>
      intro i N hi e1 e2
      have hi' : i = a 2 := by omega
      subst hi'
      have fin := h N e1 ⟨by rw [e1 r (by omega) (by omega)]; exact s5, by rw [e1 r (by omega) (by omega)]; exact s6, by rw [e1 r (by omega) (by omega)]; exact s9, by rw [e1 r (by omega) (by omega)]; exact s8, fun k hk => by
        obtain ⟨q1, q2, q3, q4⟩ := sr k hk
        obtain ⟨f1, f2⟩ := e2 k hk
        rw [e1 (r + 1) (by omega) (by omega), f1, f2]
        show _ ∧ _ = nI (if k < a 2 ∧ s.ho k = 0 then 1 else s.ho k) ∧ ((if k < a 2 ∧ s.ho k = 0 then 1 else s.ho k) = 4 → _) ∧ ((if k < a 2 ∧ s.ho k = 0 then 1 else s.ho k) < 3 → _ = nI (if k < a 2 ∧ s.ho k = 0 then t else s.wn k))
        by_cases z : s.ho k = 0
        · rw [if_pos ⟨hk, z⟩, if_pos ⟨hk, z⟩, if_pos ⟨hk, z⟩, if_pos ⟨hk, z⟩]
          exact ⟨q1, rfl, fun y => by omega, fun _ => rfl⟩
        · rw [if_neg (fun y => z y.2), if_neg (fun y => z y.2), if_neg (fun y => z y.2), if_neg (fun y => z y.2)]
          exact ⟨q1, q2, q3, q4⟩, fun k hk => by rw [e1 (r + 4) (by omega) (by omega)]; exact sc k hk⟩
      have n5 : N r 5 = nI (a 2) := by rw [e1 r (by omega) (by omega)]; exact s5
      rcases hr with rfl | rfl
      all_goals exact g_go_ 20 (b_ge rfl n5 (by omega) (by omega) (fun _ => fin) (fun y => by omega))
    | succ m ih =>
      intro i N hi e1 e2
      have n5 : N r 5 = nI (a 2) := by rw [e1 r (by omega) (by omega)]; exact s5
      obtain ⟨f1, f2⟩ := e2 i (by omega)
      rw [if_neg (fun y => by omega)] at f1
      rw [(sr i (by omega)).2.1] at f1
      have bi := bo i (by omega)
      obtain ⟨N2, hN2⟩ : ∃ N2, N2 = g_ms N (r + 2) (upd (N (r + 2)) i 1) := ⟨_, rfl⟩
      obtain ⟨N3, hN3⟩ : ∃ N3, N3 = g_ms N2 (r + 3) (upd (N2 (r + 3)) i (nI t)) := ⟨_, rfl⟩
      have yes : s.ho i = 0 → g_Run (g_cal e) (g_mt S0 k_X4_freeAll) Q 2 [.ref r, .int (nI t), .int (nI i + 1)] [] N3 := by
        intro z
        rw [← nI_succ]
        refine ih (i + 1) N3 (by omega) (fun k h1 h2 => by rw [hN3, g_ms_n h2, hN2, g_ms_n h1]; exact e1 k h1 h2) (fun k hk => ?_)
        obtain ⟨g1, g2⟩ := e2 k hk
        rw [hN3, g_ms_n (by omega), g_ms_s, hN2, g_ms_s, g_ms_n (by omega)]
        unfold upd
        by_cases ek : k = i
        · subst ek
          rw [if_pos rfl, if_pos rfl, if_pos ⟨by omega, z⟩, if_pos ⟨by omega, z⟩]
          exact ⟨rfl, rfl⟩
        · rw [if_neg ek, if_neg ek, g1, g2]
          by_cases z2 : k < i ∧ s.ho k = 0
          · rw [if_pos z2, if_pos z2, if_pos ⟨by omega, z2.2⟩, if_pos ⟨by omega, z2.2⟩]; exact ⟨rfl, rfl⟩
          · rw [if_neg z2, if_neg z2, if_neg (fun y => z2 ⟨by omega, y.2⟩), if_neg (fun y => z2 ⟨by omega, y.2⟩)]; exact ⟨rfl, rfl⟩
      have no : s.ho i ≠ 0 → g_Run (g_cal e) (g_mt S0 k_X4_freeAll) Q 2 [.ref r, .int (nI t), .int (nI i + 1)] [] N := by
        intro z
        rw [← nI_succ]
        refine ih (i + 1) N (by omega) e1 (fun k hk => ?_)
        obtain ⟨g1, g2⟩ := e2 k hk
        rw [g1, g2]
        by_cases z2 : k < i ∧ s.ho k = 0
        · rw [if_pos z2, if_pos z2, if_pos ⟨by omega, z2.2⟩, if_pos ⟨by omega, z2.2⟩]; exact ⟨rfl, rfl⟩
        · have z3 : ¬ (k < i + 1 ∧ s.ho k = 0) := by
            intro y
            by_cases ek : k = i
            · subst ek; exact z y.2
            · exact z2 ⟨by omega, y.2⟩
          rw [if_neg z2, if_neg z2, if_neg z3, if_neg z3]; exact ⟨rfl, rfl⟩
      rw [hN3, hN2] at yes
      rcases hr with rfl | rfl
      all_goals
        refine g_go_ 30 (b_ge rfl n5 (by omega) (by omega) (fun y => by omega) (fun _ => ⟨i, rfl, by omega, ?_⟩))
        rw [f1]
        exact b_ne (b := 0) rfl rfl (by omega) (by decide) (fun z => g_to (no z) _ rfl) (fun z => ⟨i, rfl, by omega, i, rfl, by omega, g_to (yes z) _ rfl⟩)
  exact g_to (loop (a 2) 0 M (by omega) (fun _ _ _ => rfl) (fun k hk => by rw [if_neg (fun y => by omega), if_neg (fun y => by omega)]; exact ⟨rfl, rfl⟩)) _ rfl
theorem x_bringHome {d r t : Nat} {M : g_M} {Q : g_R} {a : Nat → Nat} {s0 : RS} {g : Bool} (hd : 3 ≤ d) (hr : r = 17 ∨ r = 60) (v : V1 a) (v2 : V2 a) (ht : t ≤ 900) (hg : g = (!s0.wk && decide (s0.sp = 0))) (I : RI a t s0) (cs : CS M r a (a 2) s0)
    (h : ∀ M', Fx r M M' → M' 66 = M 66 → CS M' r a (a 2) (homeA a t s0) → Q none M') : g_cal d k_X4_bringHome [.ref r, .int (nI t), .int (bI g), .int (bI (decide (a 13 = 1)))] M Q := by
  have b2 : a 2 ≤ 8 := v.2.2.2.1
  have b13 : a 13 ≤ 1 := v2.2.2.2.2.2.1
  unfold homeA at h
  rw [← hg] at h
  refine g_m (by omega) 4 (fun e he => ?_)
  have loop : ∀ m i s N, i + m = a 2 → RI a t s → CS N r a (a 2) s → Fx r M N → N 66 = M 66 → g_it (homeH a t g) m i s = g_it (homeH a t g) (a 2) 0 s0 → g_Run (g_cal e) (g_mt S0 k_X4_bringHome) Q 3 [.ref r, .int (nI t), .int (bI g), .int (bI (decide (a 13 = 1))), .int (nI i)] [] N := by
    intro m
    induction m with
    | zero =>
      intro i s N hi I cs fx k66 hh
      have fin := h N fx k66 (by rw [← hh]; exact cs)
      rcases hr with rfl | rfl
      all_goals exact g_go_ 20 (b_ge rfl cs.1 (by omega) (by omega) (fun _ => fin) (fun y => by omega))
    | succ m ih =>
      intro i s N hi I cs fx k66 hh
      have I' := ri_homeH (a := a) (t := t) (u := t) (h := i) (g := g) I (by omega) ht
      have nxt : ∀ N', CS N' r a (a 2) (homeH a t g i s) → Fx r N N' → N' 66 = N 66 → g_Run (g_cal e) (g_mt S0 k_X4_bringHome) Q 3 [.ref r, .int (nI t), .int (bI g), .int (bI (decide (a 13 = 1))), .int (nI i + 1)] [] N' := by
        intro N' c1 c2 c3
        rw [← nI_succ]
        exact ih (i + 1) (homeH a t g i s) N' (by omega) I' c1 (fx.tr c2) (c3.trans k66) hh
      clear ih hh I'
      have cs0 := cs
      obtain ⟨s5, s6, s9, s8, sr, sc⟩ := cs
      obtain ⟨q1, q2, q3, q4⟩ := sr i (by omega)
      obtain ⟨j1, j2, j3, j4, j5⟩ := I.1 i (by omega)
      have no : ¬ (s.ho i = 4 ∧ s.cm i = t) → g_Run (g_cal e) (g_mt S0 k_X4_bringHome) Q 75 [.ref r, .int (nI t), .int (bI g), .int (bI (decide (a 13 = 1))), .int (nI i)] [] N := by
        intro z
        have := nxt N (by unfold homeH; rw [if_neg z]; exact cs0) (Fx.rf r N) rfl
        exact g_go_ 5 (g_to this _ rfl)
      -- it comes
      have cm : s.ho i = 4 → s.cm i = t → g_Run (g_cal e) (g_mt S0 k_X4_bringHome) Q 37 [.ref r, .int (nI t), .int (bI g), .int (bI (decide (a 13 = 1))), .int (nI i)] [] N := by
        intro z1 z2
        have hh : homeH a t g i s = if g = true then ctc i t s else if a 13 = 1 ∧ outB a (s.sHoWn (aup s.ho i 1) (aup s.wn i t)) = true then free a t (s.sHoWn (aup s.ho i 1) (aup s.wn i t)) else (s.sHoWn (aup s.ho i 1) (aup s.wn i t)) := by unfold homeH; rw [if_pos ⟨z1, z2⟩]
        rw [hh] at nxt
        have cn8 : s.cn < a 2 := I.cn (h := i) (by omega) (by omega)
        have fnd : ∀ Q' : g_R, (∀ M', (∀ k, k ≠ r → k ≠ r + 2 → k ≠ r + 3 → k ≠ r + 4 → M' k = N k) → M' (r + 2) = upd (N (r + 2)) i 0 → M' (r + 3) = upd (N (r + 3)) i (nI t) → M' (r + 4) = upd (N (r + 4)) s.cn (nI i) → M' r = upd (N r) 6 (nI (s.cn + 1)) → Q' none M') → g_cal e k_X4_find [.ref r, .int (nI i), .int (nI t)] N Q' := fun Q' hq => x_find (by omega) hr (by omega) (by omega) s6 hq
        refine g_go_ 40 (b_z (fun zg => ?_) (fun zg => ?_))
        · rw [if_neg (by rw [zg]; decide)] at nxt
          obtain ⟨N2, hN2⟩ : ∃ N2, N2 = g_ms N (r + 2) (upd (N (r + 2)) i 1) := ⟨_, rfl⟩
          have e2 : ∀ k, k ≠ r + 2 → N2 k = N k := fun k hk => by rw [hN2, g_ms_n hk]
          have c2 : CS N2 r a (a 2) (s.sHoWn (aup s.ho i 1) (aup s.wn i t)) := by
            refine ⟨by rw [e2 r (by omega)]; exact s5, by rw [e2 r (by omega)]; exact s6, by rw [e2 r (by omega)]; exact s9, by rw [e2 r (by omega)]; exact s8, fun k hk => ?_, fun k hk => by rw [e2 _ (by omega)]; exact sc k hk⟩
            show N2 (r + 1) k = nI (s.wh k) ∧ N2 (r + 2) k = nI (aup s.ho i 1 k) ∧ (aup s.ho i 1 k = 4 → N2 (r + 3) k = nI (s.cm k)) ∧ (aup s.ho i 1 k < 3 → N2 (r + 3) k = nI (aup s.wn i t k))
            rw [e2 (r + 1) (by omega), e2 (r + 3) (by omega), hN2, g_ms_s]
            unfold upd
            by_cases ek : k = i
            · subst ek
              rw [if_pos rfl, aup_s, aup_s]
              exact ⟨q1, rfl, fun y => by omega, fun _ => by rw [← z2]; exact q3 z1⟩
            · rw [if_neg ek, aup_n ek, aup_n ek]
              exact sr k hk
          have fx2 : Fx r N N2 := fun c c1 c2 => e2 c (by omega)
          have I2 := ri_home1 (a := a) (t := t) (u := t) (h := i) I (by omega) ht (by omega)
          have isO : ∀ Q' : g_R, Q' (some (.int (bI (!outB a (s.sHoWn (aup s.ho i 1) (aup s.wn i t)))))) N2 → g_cal e k_X4_isOpen [.ref r] N2 Q' := fun Q' hq => x_isOpen (by omega) hr b2 (fun k hk => (I2.1 k hk).2.1) c2.1 (fun k hk => (c2.2.2.2.2.1 k hk).2.1) hq
          have frA : ∀ Q' : g_R, (∀ M', (∀ k, k ≠ r + 2 → k ≠ r + 3 → M' k = N2 k) → CS M' r a (a 2) (free a t (s.sHoWn (aup s.ho i 1) (aup s.wn i t))) → Q' none M') → g_cal e k_X4_freeAll [.ref r, .int (nI t)] N2 Q' := fun Q' hq => x_freeAll (by omega) hr b2 (fun k hk => (I2.1 k hk).2.1) c2 hq
          have stay : ¬ (a 13 = 1 ∧ outB a (s.sHoWn (aup s.ho i 1) (aup s.wn i t)) = true) → g_Run (g_cal e) (g_mt S0 k_X4_bringHome) Q 75 [.ref r, .int (nI t), .int (bI g), .int (bI (decide (a 13 = 1))), .int (nI i)] [] N2 := by
            intro z
            rw [if_neg z] at nxt
            exact g_go_ 5 (g_to (nxt N2 c2 fx2 (e2 66 (by omega))) _ rfl)
          have go59 : g_Run (g_cal e) (g_mt S0 k_X4_bringHome) Q 59 [.ref r, .int (nI t), .int (bI g), .int (bI (decide (a 13 = 1))), .int (nI i)] [] N2 := by
            refine g_go_ 20 (b_z (fun z => g_to (stay (fun y => of_decide_eq_false z y.1)) _ rfl) (fun z => ?_))
            rcases hr with rfl | rfl
            all_goals
              refine isO _ ?_
              refine b_nz (fun z3 => g_to (stay (fun y => by rw [y.2] at z3; cases z3)) _ rfl) (fun z3 => ?_)
              refine frA _ (fun N3 f1 f2 => ?_)
              rw [if_pos ⟨of_decide_eq_true z, by simpa using z3⟩] at nxt
              exact g_to (nxt N3 f2 (fx2.tr (fun c c1 c2 => f1 c (by omega) (by omega))) ((f1 66 (by omega) (by omega)).trans (e2 66 (by omega)))) _ rfl
          rw [hN2] at go59
          rcases hr with rfl | rfl
          all_goals exact ⟨i, rfl, by omega, g_to go59 _ rfl⟩
        · rw [if_pos zg] at nxt
          have last : ∀ N2, (∀ k, k ≠ r → k ≠ r + 2 → k ≠ r + 3 → k ≠ r + 4 → N2 k = N k) → N2 (r + 2) = upd (N (r + 2)) i 0 → N2 (r + 3) = upd (N (r + 3)) i (nI t) → N2 (r + 4) = upd (N (r + 4)) s.cn (nI i) → N2 r = upd (N r) 6 (nI (s.cn + 1)) → g_Run (g_cal e) (g_mt S0 k_X4_bringHome) Q 3 [.ref r, .int (nI t), .int (bI g), .int (bI (decide (a 13 = 1))), .int (nI i + 1)] [] N2 := by
            intro N2 f1 f2 f3 f4 f5
            refine nxt _ ⟨?_, ?_, ?_, ?_, fun k hk => ?_, fun k hk => ?_⟩ (fun c c1 c2 => ?_) ?_
            · rw [f5]; exact s5
            · rw [f5]; rfl
            · rw [f5]; exact s9
            · rw [f5]; exact s8
            · show N2 (r + 1) k = nI (s.wh k) ∧ N2 (r + 2) k = nI (aup s.ho i 0 k) ∧ (aup s.ho i 0 k = 4 → N2 (r + 3) k = nI (s.cm k)) ∧ (aup s.ho i 0 k < 3 → N2 (r + 3) k = nI (aup s.wn i t k))
              rw [f1 _ (by omega) (by omega) (by omega) (by omega), f2, f3]
              unfold upd
              by_cases ek : k = i
              · subst ek
                rw [if_pos rfl, if_pos rfl, aup_s, aup_s]
                exact ⟨q1, rfl, fun y => by omega, fun _ => rfl⟩
              · rw [if_neg ek, if_neg ek, aup_n ek, aup_n ek]
                exact sr k hk
            · show N2 (r + 4) k = nI (aup s.ca s.cn i k)
              rw [f4]
              unfold upd
              by_cases ek : k = s.cn
              · rw [if_pos ek, ek, aup_s]
              · rw [if_neg ek, aup_n ek]
                exact sc k (by have : k < s.cn + 1 := hk; omega)
            · rw [f1 c (by omega) (by omega) (by omega) (by omega)]
            · rw [f1 66 (by omega) (by omega) (by omega) (by omega)]
          rcases hr with rfl | rfl
          all_goals
            refine fnd _ (fun N2 f1 f2 f3 f4 f5 => ?_)
            exact g_to (last N2 f1 f2 f3 f4 f5) _ rfl
      rcases hr with rfl | rfl
      all_goals
        refine g_go_ 40 (b_ge rfl s5 (by omega) (by omega) (fun y => by omega) (fun _ => ⟨i, rfl, by omega, ?_⟩))
        rw [q2]
        refine b_ne rfl (show (4 : Int32) = nI 4 from rfl) (by omega) (by decide) (fun z => g_to (no (fun y => z y.1)) _ rfl) (fun z => ⟨i, rfl, by omega, ?_⟩)
        rw [q3 z]
        have := j5 z
        exact b_eq rfl rfl (by omega) (by omega) (fun z2 => g_to (cm z z2) _ rfl) (fun z2 => g_to (no (fun y => z2 y.2)) _ rfl)
  exact g_to (loop (a 2) 0 s0 M (by omega) I cs (Fx.rf r M) rfl rfl) _ rfl
