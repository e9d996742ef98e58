/-! ===== the reference's round: out, frees, goes on, back ===== -/
theorem m_isOut {d : Nat} {M : g_M} {Q : g_R} {a : Nat → Nat} {s : RS} (hd : 1 ≤ d) (b2 : a 2 ≤ 8) (f : FA M a) (bo : ∀ h, h < a 2 → s.ho h ≤ 4) (hS : ∀ h, h < 8 → M 92 h = nI (s.ho h)) (h : Q (some (.int (bI (outB a s)))) M) : g_cal d k_X10_isOut [.ref 82] M Q := by
  refine g_m hd 5 (fun e he => ?_)
  have key : g_Run (g_cal e) (g_mt S0 k_X10_isOut) Q 4 [.ref 82, .int (bI true), .int (nI 0)] [] M := by
    refine g_loop (fun i b => g_Run (g_cal e) (g_mt S0 k_X10_isOut) Q 4 [.ref 82, .int (bI b), .int (nI i)] [] M) (fun _ _ => True) (fun h b => b && decide (s.ho h < 3)) (a 2) ?_ (fun _ _ _ _ => trivial) (a 2) 0 true (by omega) trivial (fun _ => ?_)
    · intro i b hi _ hR
      have bi := bo i hi
      rw [nI_succ] at hR
      refine g_go_ 40 ⟨2, rfl, by decide, ?_⟩
      rw [f.b2]
      refine b_ge rfl rfl (by omega) (by omega) (fun z => by omega) (fun _ => b_z (fun z => ?_) (fun z => ⟨i, rfl, by omega, ?_⟩))
      · rw [z, Bool.false_and] at hR; exact g_to hR _ rfl
      · rw [hS i (by omega)]
        rw [z, Bool.true_and] at hR
        refine b_ge rfl (show (3 : Int32) = nI 3 from rfl) (by omega) (by decide) (fun z2 => ?_) (fun z2 => ?_)
        · rw [decide_eq_false (by omega)] at hR; exact g_to hR _ rfl
        · rw [decide_eq_true z2] at hR; exact g_to hR _ rfl
    · refine g_go_ 40 ⟨2, rfl, by decide, ?_⟩
      rw [f.b2]
      exact b_ge rfl rfl (by omega) (by omega) (fun _ => ⟨bI_nar _, h⟩) (fun z => by omega)
  exact g_to key _ rfl
theorem m_frees {d t : Nat} {M : g_M} {Q : g_R} {a : Nat → Nat} {s : RS} (hd : 1 ≤ d) (b2 : a 2 ≤ 8) (f : FA M a) (bo : ∀ h, h < a 2 → s.ho h ≤ 4) (hS : MS M s)
    (h : ∀ M', (∀ k, k ≠ 92 → k ≠ 93 → M' k = M k) → MS M' (free a t s) → Q none M') : g_cal d k_X10_frees [.ref 82, .int (nI t)] M Q := by
  obtain ⟨a1, a2', a3, a4, a5⟩ := hS
  refine g_m hd 4 (fun e he => ?_)
  have loop : ∀ m i N, i + m = a 2 → (∀ k, k ≠ 92 → k ≠ 93 → N k = M k) → (∀ k, k < 8 → N 92 k = (if k < i ∧ s.ho k = 0 then 1 else M 92 k) ∧ N 93 k = (if k < i ∧ s.ho k = 0 then nI t else M 93 k)) → g_Run (g_cal e) (g_mt S0 k_X10_frees) Q 2 [.ref 82, .int (nI t), .int (nI i)] [] N := by
    intro m
    induction m with
    | zero =>
      intro i N hi e1 e2
      have hi' : i = a 2 := by omega
      subst hi'
      have fin := h N e1 (by
        unfold MS
        rw [e1 82 (by decide) (by decide), e1 91 (by decide) (by decide), e1 94 (by decide) (by decide), e1 95 (by decide) (by decide), e1 96 (by decide) (by decide)]
        refine ⟨a1, a2', fun k hk => ?_, a4, a5⟩
        obtain ⟨q1, q2, q3, q4⟩ := a3 k hk
        obtain ⟨f1, f2⟩ := e2 k hk
        rw [f1, f2]
        show _ ∧ _ = nI (if k < a 2 ∧ s.ho k = 0 then 1 else s.ho k) ∧ _ = nI (if k < a 2 ∧ s.ho k = 0 then t else s.wn k) ∧ ((if k < a 2 ∧ s.ho k = 0 then 1 else s.ho k) = 4 → _)
        by_cases z : k < a 2 ∧ s.ho k = 0
        · rw [if_pos z, if_pos z, if_pos z, if_pos z]; exact ⟨q1, rfl, rfl, fun y => by omega⟩
        · rw [if_neg z, if_neg z, if_neg z, if_neg z]; exact ⟨q1, q2, q3, q4⟩)
      refine g_go_ 20 ⟨2, rfl, by decide, ?_⟩
      rw [e1 84 (by decide) (by decide), f.b2]
      exact b_ge rfl rfl (by omega) (by omega) (fun _ => fin) (fun z => by omega)
    | succ m ih =>
      intro i N hi e1 e2
      obtain ⟨f1, f2⟩ := e2 i (by omega)
      rw [if_neg (fun y => by omega), (a3 i (by omega)).2.1] at f1
      have bi := bo i (by omega)
      obtain ⟨N2, hN2⟩ : ∃ N2, N2 = g_ms N 92 (upd (N 92) i 1) := ⟨_, rfl⟩
      obtain ⟨N3, hN3⟩ : ∃ N3, N3 = g_ms N2 93 (upd (N2 93) i (nI t)) := ⟨_, rfl⟩
      have yes : s.ho i = 0 → g_Run (g_cal e) (g_mt S0 k_X10_frees) Q 2 [.ref 82, .int (nI t), .int (nI i + 1)] [] N3 := by
        intro z
        rw [← nI_succ]
        refine ih (i + 1) N3 (by omega) (fun k h1 h2 => by rw [hN3, g_ms_n h2, hN2, g_ms_n h1]; exact e1 k h1 h2) (fun k hk => ?_)
        obtain ⟨g1, g2⟩ := e2 k hk
        rw [hN3, g_ms_n (by decide), g_ms_s, hN2, g_ms_s, g_ms_n (by decide)]
        unfold upd
        by_cases ek : k = i
        · subst ek
          rw [if_pos rfl, if_pos rfl, if_pos ⟨by omega, z⟩, if_pos ⟨by omega, z⟩]
          exact ⟨rfl, rfl⟩
        · rw [if_neg ek, if_neg ek, g1, g2]
          by_cases z2 : k < i ∧ s.ho k = 0
          · rw [if_pos z2, if_pos z2, if_pos ⟨by omega, z2.2⟩, if_pos ⟨by omega, z2.2⟩]; exact ⟨rfl, rfl⟩
          · rw [if_neg z2, if_neg z2, if_neg (fun y => z2 ⟨by omega, y.2⟩), if_neg (fun y => z2 ⟨by omega, y.2⟩)]; exact ⟨rfl, rfl⟩
      have no : s.ho i ≠ 0 → g_Run (g_cal e) (g_mt S0 k_X10_frees) Q 2 [.ref 82, .int (nI t), .int (nI i + 1)] [] N := by
        intro z
        rw [← nI_succ]
        refine ih (i + 1) N (by omega) e1 (fun k hk => ?_)
        obtain ⟨g1, g2⟩ := e2 k hk
        rw [g1, g2]
        by_cases z2 : k < i ∧ s.ho k = 0
        · rw [if_pos z2, if_pos z2, if_pos ⟨by omega, z2.2⟩, if_pos ⟨by omega, z2.2⟩]; exact ⟨rfl, rfl⟩
        · have z3 : ¬ (k < i + 1 ∧ s.ho k = 0) := by
            intro y
            by_cases ek : k = i
            · subst ek; exact z y.2
            · exact z2 ⟨by omega, y.2⟩
          rw [if_neg z2, if_neg z2, if_neg z3, if_neg z3]; exact ⟨rfl, rfl⟩
      rw [hN3, hN2] at yes
      refine g_go_ 30 ⟨2, rfl, by decide, ?_⟩
      rw [e1 84 (by decide) (by decide), f.b2]
      refine b_ge rfl rfl (by omega) (by omega) (fun y => by omega) (fun _ => ⟨i, rfl, by omega, ?_⟩)
      rw [f1]
      exact b_eq (b := 0) rfl rfl (by omega) (by decide) (fun z => ⟨i, rfl, by omega, i, rfl, by omega, g_to (yes z) _ rfl⟩) (fun z => g_to (no z) _ rfl)
  exact g_to (loop (a 2) 0 M (by omega) (fun _ _ _ => rfl) (fun k hk => by rw [if_neg (fun y => by omega), if_neg (fun y => by omega)]; exact ⟨rfl, rfl⟩)) _ rfl
theorem m_goalNow {d : Nat} {M : g_M} {Q : g_R} {a : Nat → Nat} {s : RS} (hd : 3 ≤ d) (v : V1 a) (v2 : V2 a) (f : FA M a) (hs : s.sp < a 0) (hp : s.pa ≤ 8) (k20 : M 82 20 = nI s.sp) (k24 : M 82 24 = nI s.pa)
    (h : ∀ M', (∀ c, c ≠ 82 → M' c = M c) → (∀ j, j ≠ 24 → M' 82 j = M 82 j) → M' 82 24 = nI (skp a s.sp 8 s.pa) → Q (some (.int (nI (gol a (skp a s.sp 8 s.pa))))) M') : g_cal d k_X10_goalNow [.ref 82] M Q := by
  have b0 : a 0 ≤ 8 := v.2.1
  have b3 : a 3 ≤ 8 := v2.2.2.2.2.2.2.2.2.2.1
  have bo := v2.2.2.2.2.2.2.2.2.2.2
  refine g_m (by omega) 0 (fun e he => ?_)
  have R68 : ∀ N, (∀ c, c ≠ 82 → N c = M c) → (∀ j, j ≠ 24 → N 82 j = M 82 j) → N 82 24 = nI (skp a s.sp 8 s.pa) → skp a s.sp 8 s.pa ≤ 8 → g_Run (g_cal e) (g_mt S0 k_X10_goalNow) Q 68 [.ref 82] [] N := by
    intro N e1 e2 e3 h8
    have fin := h N e1 e2 e3
    have n84 : ∀ k, k < 154 → N 84 k = nI (a k) := fun k hk => by rw [e1 84 (by decide)]; exact f.1 k hk
    unfold gol at fin
    refine g_go_ 30 ⟨3, rfl, by decide, ?_⟩
    show (N 84 3 ≤ N 82 24 → _) ∧ (¬ N 84 3 ≤ N 82 24 → _)
    rw [n84 3 (by decide)]
    refine b_ge e3 rfl (by omega) (by omega) (fun z => ?_) (fun z => ⟨114 + skp a s.sp 8 s.pa, ia rfl e3, by omega, ?_⟩)
    · rw [if_neg (by omega)] at fin; exact fin
    · rw [if_pos z] at fin
      rw [n84 _ (by omega)]
      exact fin
  have loop : ∀ m i N, i ≤ 8 → a 3 ≤ i + m → skp a s.sp m i = skp a s.sp 8 s.pa → (∀ c, c ≠ 82 → N c = M c) → (∀ j, j ≠ 24 → N 82 j = M 82 j) → N 82 24 = nI i → g_Run (g_cal e) (g_mt S0 k_X10_goalNow) Q 0 [.ref 82] [] N := by
    intro m
    induction m with
    | zero =>
      intro i N hi hm hk e1 e2 e3
      have hk' : i = skp a s.sp 8 s.pa := hk
      have n3 : N 84 3 = nI (a 3) := by rw [e1 84 (by decide)]; exact f.1 3 (by decide)
      refine g_go_ 20 ⟨3, rfl, by decide, ?_⟩
      show (N 84 3 ≤ N 82 24 → _) ∧ (¬ N 84 3 ≤ N 82 24 → _)
      rw [n3]
      exact b_ge e3 rfl (by omega) (by omega) (fun _ => g_to (R68 N e1 e2 (by rw [← hk']; exact e3) (by omega)) _ rfl) (fun z => by omega)
    | succ m ih =>
      intro i N hi hm hk e1 e2 e3
      have n84 : ∀ k, k < 154 → N 84 k = nI (a k) := fun k hk => by rw [e1 84 (by decide)]; exact f.1 k hk
      refine g_go_ 40 ⟨3, rfl, by decide, ?_⟩
      show (N 84 3 ≤ N 82 24 → _) ∧ (¬ N 84 3 ≤ N 82 24 → _)
      rw [n84 3 (by decide)]
      have hst : skp a s.sp (m + 1) i = if i < a 3 ∧ (a (114 + i) = s.sp ∨ ¬ ds a s.sp (a (114 + i)) < 100000) then skp a s.sp m (i + 1) else i := rfl
      rw [hst] at hk
      refine b_ge e3 rfl (by omega) (by omega) (fun z => ?_) (fun c => ⟨114 + i, ia rfl e3, by omega, ?_⟩)
      · rw [if_neg (fun y => by omega)] at hk
        exact g_to (R68 N e1 e2 (by rw [← hk]; exact e3) (by omega)) _ rfl
      · have bi := bo i c
        have fN : FA N a := by
          unfold FA RM at f ⊢
          rw [e1 84 (by decide), e1 89 (by decide), e1 90 (by decide)]
          exact f
        have n20 : N 82 20 = nI s.sp := (e2 20 (by decide)).trans k20
        obtain ⟨N2, hN2⟩ : ∃ N2, N2 = g_ms N 82 (upd (N 82) 24 (N 82 24 + 1)) := ⟨_, rfl⟩
        have skip : (a (114 + i) = s.sp ∨ ¬ ds a s.sp (a (114 + i)) < 100000) → g_Run (g_cal e) (g_mt S0 k_X10_goalNow) Q 55 [.ref 82] [] N := by
          intro z
          rw [if_pos ⟨c, z⟩] at hk
          have hR := ih (i + 1) N2 (by omega) (by omega) hk (fun c hc => by rw [hN2, g_ms_n hc]; exact e1 c hc) (fun j hj => by rw [hN2, g_ms_s]; unfold upd; rw [if_neg hj]; exact e2 j hj) (by rw [hN2, g_ms_s]; show N 82 24 + 1 = _; rw [e3, nI_succ])
          rw [hN2] at hR
          exact g_go_ 10 (g_to hR _ rfl)
        rw [n84 _ (by omega)]
        show (nI (a (114 + i)) = N 82 20 → _) ∧ (¬ nI (a (114 + i)) = N 82 20 → _)
        rw [n20]
        refine b_eq rfl rfl (by omega) (by omega) (fun z => g_to (skip (Or.inl z)) _ rfl) (fun z => ⟨114 + i, ia rfl e3, by omega, ?_⟩)
        rw [n84 _ (by omega)]
        refine m_isFar (by omega) v fN _ _ s.sp (a (114 + i)) n20 rfl (by omega) (by omega) (b_nz (fun z2 => ?_) (fun z2 => g_to (skip (Or.inr (of_decide_eq_false z2))) _ rfl))
        rw [if_neg (fun y => by rcases y.2 with y | y; exact z y; exact y (of_decide_eq_true z2))] at hk
        exact g_to (R68 N e1 e2 (by rw [← hk]; exact e3) (by omega)) _ rfl
  exact g_to (loop 8 s.pa M hp (by omega) rfl (fun _ _ => rfl) (fun _ _ => rfl) k24) _ rfl
theorem m_nextTo {d : Nat} {M : g_M} {Q : g_R} {a : Nat → Nat} (hd : 2 ≤ d) (v : V1 a) (f : FA M a) (x g : Nat) (hx : x < a 0) (hg : g < a 0) (hn : g ≠ x) (hf : ds a x g < 100000) (h : Q (some (.int (nI (nx a x g)))) M) : g_cal d k_X10_nextTo [.ref 82, .int (nI x), .int (nI g)] M Q := by
  have b0 : a 0 ≤ 8 := v.2.1
  have ok := nx_ok v (fun w => hn w.symm) hf
  have lt := (wy_dr v ok.1).2.2.1
  have ge : ∀ k p, p ≤ nxF a x g k p := by
    intro k
    induction k with
    | zero => intro p; exact Nat.le_refl _
    | succ k ih => intro p; unfold nxF; split; exact Nat.le_refl _; have := ih (p + 1); omega
  refine g_m (by omega) 4 (fun e he => ?_)
  have loop : ∀ m p, p + m = 8 → nx a x g = nxF a x g (8 - p) p → g_Run (g_cal e) (g_mt S0 k_X10_nextTo) Q 2 [.ref 82, .int (nI x), .int (nI g), .int (nI p)] [] M := by
    intro m
    induction m with
    | zero =>
      intro p hp hk
      have := ge (8 - p) p
      omega
    | succ m ih =>
      intro p hp hk
      have d1 := dr_le v x p
      have d2 := ds_le v p g
      have hw := wy_le v x p
      have hst : nxF a x g (8 - p) p = if wy a x p ≠ 0 ∧ wy a x p + ds a p g = ds a x g then p else nxF a x g (8 - (p + 1)) (p + 1) := by
        rw [show 8 - p = (8 - (p + 1)) + 1 by omega]; rfl
      have no : ¬ (wy a x p ≠ 0 ∧ wy a x p + ds a p g = ds a x g) → g_Run (g_cal e) (g_mt S0 k_X10_nextTo) Q 50 [.ref 82, .int (nI x), .int (nI g), .int (nI p)] [] M := by
        intro z
        rw [hst, if_neg z] at hk
        have hR := ih (p + 1) (by omega) hk
        rw [nI_succ] at hR
        exact g_go_ 5 (g_to hR _ rfl)
      refine g_go_ 40 (b_eq rfl rfl (by omega) (by omega) (fun z => g_to (no (fun y => y.1 (by rw [z]; exact wy_xx v x))) _ rfl) (fun z => ⟨8 * x + p, ia (im rfl rfl) rfl, by omega, ?_⟩))
      rw [f.2.1 x p (by omega) (by omega)]
      refine m_farOf (by omega) f _ _ p g rfl rfl (by omega) (by omega) (m_farOf (by omega) f _ _ x g rfl rfl (by omega) (by omega) ?_)
      have hdr : dr a x p = if wy a x p = 0 then 100000 else wy a x p := by unfold dr; rw [if_neg (fun y => z y.symm)]
      refine b_ne (ia rfl rfl) rfl (by omega) (by omega) (fun z2 => ?_) (fun z2 => ⟨8 * x + p, ia (im rfl rfl) rfl, by omega, ?_⟩)
      · refine g_to (no (fun y => ?_)) _ rfl
        rw [hdr, if_neg y.1] at z2
        exact z2 y.2
      · rw [f.2.1 x p (by omega) (by omega)]
        by_cases hw0 : wy a x p = 0
        · rw [if_pos hw0] at hdr; omega
        · rw [if_neg hw0] at hdr
          refine b_lt rfl (show (100000 : Int32) = nI 100000 from rfl) (by omega) (by decide) (fun _ => ?_) (fun z3 => by omega)
          rw [hk, hst, if_pos ⟨hw0, by omega⟩] at h
          exact h
  exact g_to (loop 8 0 (by omega) rfl) _ rfl
theorem m_goesOn {d t : Nat} {M : g_M} {Q : g_R} {a : Nat → Nat} {s : RS} (hd : 4 ≤ d) (v : V1 a) (v2 : V2 a) (f : FA M a) (ht : t ≤ 900) (I : RI a t s) (mk : MK M s) (hw : s.wk = false) (hm : s.mo ≤ t)
    (h : ∀ M', (∀ c, c ≠ 82 → M' c = M c) → (∀ j, (j < 20 ∨ 25 < j) → M' 82 j = M 82 j) → MK M' (goA a t s) → Q none M') : g_cal d k_X10_goesOn [.ref 82, .int (nI t)] M Q := by
  obtain ⟨k1, k2, k3, k4, k5⟩ := mk
  obtain ⟨i1, i2, i3, i4, i5, i6, i7, i8, i9⟩ := I
  have b0 : a 0 ≤ 8 := v.2.1
  have hgo : goA a t s = if gol a (skp a s.sp 8 s.pa) = s.sp then s.sSk s.sp s.to 100000 (skp a s.sp 8 s.pa) s.wk else s.sSk s.sp (nx a s.sp (gol a (skp a s.sp 8 s.pa))) (t + wy a s.sp (nx a s.sp (gol a (skp a s.sp 8 s.pa)))) (skp a s.sp 8 s.pa) true := by unfold goA; rw [if_pos ⟨hw, hm⟩]
  rw [hgo] at h
  have gl := gol_lt v v2 (skp a s.sp 8 s.pa)
  have gf : gol a (skp a s.sp 8 s.pa) ≠ s.sp → ds a s.sp (gol a (skp a s.sp 8 s.pa)) < 100000 := fun y => gol_ok v2 i4.2 i5 y
  refine g_m (by omega) 60 (fun e he => m_goalNow (s := s) (by omega) v v2 f i4.1 i5 k1 k2 (fun N e1 e2 e3 => ?_))
  generalize gol a (skp a s.sp 8 s.pa) = g at *
  generalize skp a s.sp 8 s.pa = pa' at *
  have n20 : N 82 20 = nI s.sp := (e2 20 (by decide)).trans k1
  have fN : FA N a := by
    unfold FA RM at f ⊢
    rw [e1 84 (by decide), e1 89 (by decide), e1 90 (by decide)]
    exact f
  show (¬ nI g = N 82 20 → _) ∧ (nI g = N 82 20 → _)
  rw [n20]
  refine b_ne rfl rfl (by omega) (by omega) (fun z => ?_) (fun z => ?_)
  · rw [if_neg z] at h
    obtain ⟨o1, o2⟩ := nx_ok v (fun w => z w.symm) (gf z)
    obtain ⟨o3, o4, o5, o6⟩ := wy_dr v o1
    have o7 := wy_le v s.sp (nx a s.sp g)
    show g_cal e k_X10_nextTo [.ref 82, .int (N 82 20), .int (nI g)] N _
    rw [n20]
    refine m_nextTo (by omega) v fN s.sp g i4.1 gl z (gf z) ⟨Or.inr rfl, ?_⟩
    generalize nx a s.sp g = t' at *
    refine ⟨8 * s.sp + t', ia (im rfl n20) rfl, by omega, h _ (fun c hc => by rw [g_ms_n hc, g_ms_n hc, g_ms_n hc]; exact e1 c hc) (fun j hj => ?_) ⟨?_, ?_, ?_, fun _ => ⟨?_, ?_⟩, (fun y => by cases y)⟩⟩
    · rw [g_ms_s, g_ms_s, g_ms_s]
      unfold upd
      rw [if_neg (by omega), if_neg (by omega), if_neg (by omega)]
      exact e2 j (by omega)
    · show N 82 20 = _; exact n20
    · show N 82 24 = _; exact e3
    · rfl
    · rfl
    · show nI t + N 90 (8 * s.sp + t') = _
      rw [fN.2.1 s.sp t' (by omega) (by omega), o3, nI_add]; rfl
  · rw [if_pos z] at h
    refine h _ (fun c hc => by rw [g_ms_n hc]; exact e1 c hc) (fun j hj => ?_) ⟨?_, ?_, ?_, fun y => ?_, fun _ => rfl⟩
    · rw [g_ms_s]; unfold upd; rw [if_neg (by omega)]; exact e2 j (by omega)
    · show N 82 20 = _; exact n20
    · show N 82 24 = _; exact e3
    · show N 82 25 = _; rw [e2 25 (by decide)]; exact k3
    · have y' : s.wk = true := y
      rw [hw] at y'; cases y'
theorem m_back {d t : Nat} {M : g_M} {Q : g_R} {a : Nat → Nat} {s : RS} {u : Nat} (hd : 2 ≤ d) (v : V1 a) (f : FA M a) (I : RI a u s) (hu : t ≤ u) (mk : MK M s) (h : Q (some (.int (nI (bck a t s)))) M) : g_cal d k_X10_back [.ref 82, .int (nI t)] M Q := by
  obtain ⟨k1, k2, k3, k4, k5⟩ := mk
  obtain ⟨i1, i2, i3, i4, i5, i6, i7, i8, i9⟩ := I
  have b0 : a 0 ≤ 8 := v.2.1
  refine g_m (by omega) 60 (fun e he => ?_)
  unfold bck at h
  show (M 82 25 = 0 → _) ∧ (¬ M 82 25 = 0 → _)
  rw [k3]
  refine b_z (fun z => ?_) (fun z => ?_)
  · rw [if_neg (by rw [z]; decide)] at h
    exact m_farOf (by omega) f _ _ s.sp 0 k1 rfl (by omega) (by decide) h
  · rw [if_pos z] at h
    obtain ⟨j1, j2, j3, j4⟩ := i6 z
    refine m_farOf (by omega) f _ _ s.to 0 (k4 z).1 rfl (by omega) (by decide) ?_
    show Q (some (.int (M 82 22 - nI t + nI (ds a s.to 0)))) M
    rw [(k4 z).2, ia (is (show t ≤ s.mo by omega) rfl rfl) rfl]
    exact h
