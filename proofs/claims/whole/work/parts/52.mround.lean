/-! ===== the reference's round ===== -/
def lkc (s : RS) (p : Nat) : Nat := cnt (fun h => s.lk h && decide (s.wh h = p)) 8
def MS (M : g_M) (s : RS) : Prop := M 82 17 = s.sd ∧ M 82 18 = nI s.cn ∧ (∀ h, h < 8 → M 91 h = nI (s.wh h) ∧ M 92 h = nI (s.ho h) ∧ M 93 h = nI (s.wn h) ∧ (s.ho h = 4 → M 94 h = nI (s.cm h))) ∧ (∀ i, i < s.cn → M 95 i = nI (s.ca i)) ∧ (∀ p, p < 8 → M 96 p = nI (lkc s p))
def MK (M : g_M) (s : RS) : Prop := M 82 20 = nI s.sp ∧ M 82 24 = nI s.pa ∧ M 82 25 = bI s.wk ∧ (s.wk = true → M 82 21 = nI s.to ∧ M 82 22 = nI s.mo) ∧ (s.wk = false → M 82 23 = nI s.mo)
def Fm (M M' : g_M) : Prop := (∀ c, c ≠ 82 → (c < 91 ∨ 96 < c) → M' c = M c) ∧ (∀ j, (j < 17 ∨ 25 < j) → M' 82 j = M 82 j)
theorem Fm.rf (M : g_M) : Fm M M := ⟨fun _ _ _ => rfl, fun _ _ => rfl⟩
theorem Fm.tr {M M' M'' : g_M} (h : Fm M M') (h2 : Fm M' M'') : Fm M M'' := ⟨fun c h1 h3 => (h2.1 c h1 h3).trans (h.1 c h1 h3), fun j hj => (h2.2 j hj).trans (h.2 j hj)⟩
theorem FA.fr {M M' : g_M} {a : Nat → Nat} (h : FA M a) (f : Fm M M') : FA M' a := by
  unfold FA RM at h ⊢
  rw [f.1 84 (by decide) (by decide), f.1 89 (by decide) (by decide), f.1 90 (by decide) (by decide)]
  exact h
theorem FA.b2 {M : g_M} {a : Nat → Nat} (h : FA M a) : M 84 2 = nI (a 2) := h.1 2 (by decide)
theorem MK.eq {M : g_M} {s s' : RS} (h : MK M s) (e : s'.wk = s.wk ∧ s'.sp = s.sp ∧ s'.mo = s.mo ∧ s'.to = s.to ∧ s'.pa = s.pa) : MK M s' := by
  obtain ⟨e1, e2, e3, e4, e5⟩ := e
  unfold MK at h ⊢
  rw [e1, e2, e3, e4, e5]
  exact h
theorem MK.fr {M M' : g_M} {s : RS} (h : MK M s) (e : ∀ j, 20 ≤ j → j ≤ 25 → M' 82 j = M 82 j) : MK M' s := by
  unfold MK at h ⊢
  rw [e 20 (by decide) (by decide), e 21 (by decide) (by decide), e 22 (by decide) (by decide), e 23 (by decide) (by decide), e 24 (by decide) (by decide), e 25 (by decide) (by decide)]
  exact h
theorem m_hidingIn {d : Nat} {M : g_M} {Q : g_R} {a : Nat → Nat} {s : RS} (hd : 1 ≤ d) (b2 : a 2 ≤ 8) (f : FA M a) (bw : ∀ h, h < a 2 → s.wh h < 65536 ∧ s.ho h ≤ 4) (hS : MS M s) (p : Nat) (hp : p < 65536) (h : Q (some (.int (nI (hidN a s p)))) M) : g_cal d k_X10_hidingIn [.ref 82, .int (nI p)] M Q := by
  have sr := hS.2.2.1
  refine g_m hd 4 (fun e he => ?_)
  refine g_to (k := k_X10_hidingIn) (L := [.ref 82, .int (nI p), .int (nI 0), .int (nI 0)]) (pc := 4) ?_ _ rfl
  refine g_loop (fun i n => g_Run (g_cal e) (g_mt S0 k_X10_hidingIn) Q 4 [.ref 82, .int (nI p), .int (nI n), .int (nI i)] [] M) (fun _ _ => True) (fun h n => n + if s.ho h = 3 ∧ s.wh h = p then 1 else 0) (a 2) ?_ (fun _ _ _ _ => trivial) (a 2) 0 0 (by omega) trivial (fun _ => ?_)
  · intro i n hi _ hR
    obtain ⟨w1, w2, -, -⟩ := sr i (by omega)
    obtain ⟨v1, v2⟩ := bw i hi
    rw [nI_succ, ← nI_add] at hR
    refine g_go_ 40 ⟨2, rfl, by decide, ?_⟩
    rw [f.b2]
    refine b_ge rfl rfl (by omega) (by omega) (fun z => by omega) (fun _ => ⟨i, rfl, by omega, ?_⟩)
    rw [w2]
    refine b_ne rfl (show (3 : Int32) = nI 3 from rfl) (by omega) (by decide) (fun z => ?_) (fun z => ⟨i, rfl, by omega, ?_⟩)
    · rw [if_neg (fun w => z w.1)] at hR
      exact g_to hR _ rfl
    · rw [w1]
      refine b_ne rfl rfl (by omega) (by omega) (fun z2 => ?_) (fun z2 => ?_)
      · rw [if_neg (fun w => z2 w.2)] at hR
        exact g_to hR _ rfl
      · rw [if_pos ⟨z, z2⟩] at hR
        exact g_to hR _ rfl
  · refine g_go_ 40 ⟨2, rfl, by decide, ?_⟩
    rw [f.b2]
    exact b_ge rfl rfl (by omega) (by omega) (fun _ => h) (fun z => by omega)
theorem m_may {d : Nat} {M : g_M} {Q : g_R} {a : Nat → Nat} {s : RS} (hd : 3 ≤ d) (v : V1 a) (v2 : V2 a) (f : FA M a) (bw : ∀ h, h < a 2 → s.wh h < 65536 ∧ s.ho h ≤ 4) (hS : MS M s) (i p : Nat) (hi : i < a 2) (hp : p < a 0) (h : Q (some (.int (bI (mayB a i s p)))) M) : g_cal d k_X10_may [.ref 82, .int (nI i), .int (nI p)] M Q := by
  have b0 : a 0 ≤ 8 := v.2.1
  have b2 : a 2 ≤ 8 := v.2.2.2.1
  have b9 : a 9 ≤ 99 := v2.2.1
  have br : a (17 + 5 * p) < 65536 := v.2.2.2.2.1 _
  have hl := hidN_le a s p
  have bp := pcd_le v i p
  refine g_m (by omega) 60 (fun e he => m_hidingIn (by omega) b2 f bw hS p (by omega) (m_get (by omega) p 1 rfl rfl (by omega) (by decide) ?_))
  rw [f.1 _ (by omega), show 16 + 5 * p + 1 = 17 + 5 * p by omega]
  unfold mayB at h
  refine b_ge rfl rfl (by omega) (by omega) (fun z => ⟨rfl, ?_⟩) (fun z => ?_)
  · rw [decide_eq_false (fun y => by omega)] at h; exact h
  · refine m_isFar (by omega) v f _ _ 0 p rfl rfl (by decide) (by omega) ?_
    rw [ds_comm a 0 p]
    refine b_z (fun z2 => ⟨rfl, ?_⟩) (fun z2 => ?_)
    · rw [decide_eq_false (fun y => of_decide_eq_false z2 y.2.1)] at h; exact h
    · refine m_paced (by omega) v f i p hi (by omega) (m_setOf (by omega) 0 rfl (by decide) ?_)
      rw [f.1 _ (by decide), show 9 + 0 = 9 from rfl]
      refine b_gt rfl rfl (by omega) (by omega) (fun z3 => ⟨rfl, ?_⟩) (fun z3 => ⟨rfl, ?_⟩)
      · rw [decide_eq_false (fun y => by omega)] at h; exact h
      · rw [decide_eq_true ⟨z, of_decide_eq_true z2, z3⟩] at h; exact h
theorem m_draw {d n : Nat} {M : g_M} {Q : g_R} (hd : 1 ≤ d) (h0 : 0 < n) (hn : n < 2 ^ 31) (h : ∀ M' s', s' = nsd (M 82 17) → (∀ k, k ≠ 82 → M' k = M k) → (∀ j, j ≠ 17 → M' 82 j = M 82 j) → M' 82 17 = s' → Q (some (.int (nI (drw s' n)))) M') : g_cal d k_X10_draw [.ref 82, .int (nI n)] M Q := by
  have h' := h (g_ms M 82 (upd (M 82) 17 (nsd (M 82 17)))) (nsd (M 82 17)) rfl (fun k hk => g_ms_n hk) (fun j hj => by rw [g_ms_s]; unfold upd; rw [if_neg hj]) (by rw [g_ms_s]; unfold upd; rw [if_pos rfl])
  have hl := lw_lt (nsd (M 82 17))
  have q : ((nsd (M 82 17) &&& 2147483647) / 256 - (nsd (M 82 17) &&& 2147483647) / 256 / nI n * nI n) = nI (drw (nsd (M 82 17)) n) := by
    rw [lw_nI, idv (x := nI (lw (nsd (M 82 17)))) (y := 256) (b := 256) hl (by decide) (by decide) rfl rfl]
    exact irm (by have := Nat.div_le_self (lw (nsd (M 82 17))) 256; omega) h0 hn rfl rfl
  rw [← q] at h'
  refine g_m hd 40 (fun e he => ⟨by decide, ?_, h'⟩)
  intro z
  have := (nI_eq (b := 0) hn (by decide)).mp z
  omega
def bv (b : Nat) : Int32 := if b = 0 then -9 else nI b
theorem m_chosen {d i : Nat} {M : g_M} {Q : g_R} {a : Nat → Nat} {s : RS} (hd : 4 ≤ d) (v : V1 a) (v2 : V2 a) (f : FA M a) (I : HI a i s) (hS : MS M s) (hi : i < a 2)
    (h : ∀ M', (∀ k, k ≠ 82 → M' k = M k) → (∀ j, j ≠ 17 → M' 82 j = M 82 j) → M' 82 17 = chd a i s → Q (some (.int (bv (chs a i s)))) M') : g_cal d k_X10_chosen [.ref 82, .int (nI i)] M Q := by
  have b0 : a 0 ≤ 8 := v.2.1
  have b1 : 1 ≤ a 0 := v.1
  have b2 : a 2 ≤ 8 := v.2.2.2.1
  have b12 : a 12 ≤ 4 := v2.2.2.2.2.1
  have h17 := hS.1
  have sr := hS.2.2.1
  have bw : ∀ h, h < a 2 → s.wh h < 65536 ∧ s.ho h ≤ 4 := by
    intro k hk
    by_cases c : k < i
    · rcases I.1 k c with y | y <;> omega
    · have := I.2.1 k (by omega); omega
  have may : ∀ e, 3 ≤ e → ∀ (Q' : g_R) (p : Nat), p < a 0 → Q' (some (.int (bI (mayB a i s p)))) M → g_cal e k_X10_may [.ref 82, .int (nI i), .int (nI p)] M Q' := fun e he Q' p hp hq => m_may he v v2 f bw hS i p hi hp hq
  have rule : ∀ e, 1 ≤ e → ∀ Q' : g_R, Q' (some (.int (nI (a 12)))) M → g_cal e k_X10_setOf [.ref 82, .int 3] M Q' := fun e he Q' hq => m_setOf he 3 rfl (by decide) (by rw [f.1 _ (by decide)]; exact hq)
  have hm := mny_eq a i s
  have hml : mny a i s ≤ 8 := by have := cntF_le (mayB a i s) (a 0 - 1) 1; omega
  have ck := chs_ok (a := a) (h := i) (r := s) v.1 I.hw
  have sme : mny a i s = 0 ∨ a 12 ≠ 3 → chd a i s = M 82 17 := by
    intro z
    unfold chd
    rw [h17]
    by_cases z2 : mny a i s = 0
    · rw [if_pos z2]
    · rw [if_neg z2, if_neg (by rcases z with z | z; exact absurd z z2; exact z)]
  have fin : mny a i s = 0 ∨ a 12 ≠ 3 → Q (some (.int (bv (chs a i s)))) M := fun z => h M (fun _ _ => rfl) (fun _ _ => rfl) (sme z).symm
  refine g_m (by omega) 8 (fun e he => ?_)
  -- 171: no friend
  have R171 : mny a i s ≠ 0 → ¬ (a 12 = 4 ∧ 0 < i ∧ s.ho (i - 1) = 3 ∧ mayB a i s (s.wh (i - 1)) = true) → ∀ u4 u5, g_Run (g_cal e) (g_mt S0 k_X10_chosen) Q 171 [.ref 82, .int (nI i), .int (bv (bst a i s)), .int (nI (mny a i s)), u4, u5] [] M := by
    intro zm nf u4 u5
    have hc : chs a i s = if a 12 = 3 then nthF (mayB a i s) (a 0 - 1) 1 (drw (nsd s.sd) (mny a i s)) else bst a i s := by unfold chs; rw [if_neg zm, if_neg nf]
    refine g_go_ 30 (rule e (by omega) _ (b_eq rfl (show (3 : Int32) = nI 3 from rfl) (by omega) (by decide) (fun z => ?_) (fun z => ?_)))
    · rw [if_pos z] at hc
      refine m_draw (by omega) (by omega) (by omega) (fun M' s' e1 e2 e3 e4 => ?_)
      have h' := h M' e2 e3 (by rw [e4, e1]; unfold chd; rw [if_neg zm, if_pos z, h17])
      rw [hc, ← h17, ← e1] at h'
      have dl : drw s' (mny a i s) < cntF (mayB a i s) (a 0 - 1) 1 := by rw [← hm]; exact Nat.mod_lt _ (by omega)
      have f' : FA M' a := by
        unfold FA RM at f ⊢
        rw [e2 84 (by decide), e2 89 (by decide), e2 90 (by decide)]
        exact f
      have hS' : MS M' (s.sSd s') := by
        unfold MS
        rw [e2 91 (by decide), e2 92 (by decide), e2 93 (by decide), e2 94 (by decide), e2 95 (by decide), e2 96 (by decide), e3 18 (by decide)]
        exact ⟨e4, hS.2⟩
      have may' : ∀ e, 3 ≤ e → ∀ (Q' : g_R) (p : Nat), p < a 0 → Q' (some (.int (bI (mayB a i s p)))) M' → g_cal e k_X10_may [.ref 82, .int (nI i), .int (nI p)] M' Q' := fun e he Q' p hp hq => m_may (s := s.sSd s') he v v2 f' bw hS' i p hi hp hq
      have loop : ∀ m p l, p + m = a 0 → 1 ≤ p → l < cntF (mayB a i s) m p → Q (some (.int (bv (nthF (mayB a i s) m p l)))) M' → g_Run (g_cal e) (g_mt S0 k_X10_chosen) Q 192 [.ref 82, .int (nI i), .int (bv (bst a i s)), .int (nI (mny a i s)), .int (nI l), .int (nI p)] [] M' := by
        intro m
        induction m with
        | zero => intro p l hp h1 hl; exact absurd hl (Nat.not_lt_zero _)
        | succ m ih =>
          intro p l hp h1 hl hq
          have cl := cntF_le (mayB a i s) (m + 1) p
          have hl9 : l < 9 := by omega
          rw [nthF_s] at hq
          unfold cntF at hl
          have nx : ∀ l', l' < cntF (mayB a i s) m (p + 1) → Q (some (.int (bv (nthF (mayB a i s) m (p + 1) l')))) M' → ∀ x, x = nI l' → g_Run (g_cal e) (g_mt S0 k_X10_chosen) Q 225 [.ref 82, .int (nI i), .int (bv (bst a i s)), .int (nI (mny a i s)), .int (nI l), .int (nI p)] [.int x] M' := by
            intro l' hl' hq' x hx
            have hR := ih (p + 1) l' (by omega) (by omega) hl' hq'
            rw [nI_succ] at hR
            rw [hx]
            exact g_go_ 10 (g_to hR _ rfl)
          have R207 : ∀ b, mayB a i s p = b → (b = true → l ≠ 0) → g_Run (g_cal e) (g_mt S0 k_X10_chosen) Q 207 [.ref 82, .int (nI i), .int (bv (bst a i s)), .int (nI (mny a i s)), .int (nI l), .int (nI p)] [] M' := by
            intro b hb hl0
            refine g_go_ 10 (may' e (by omega) _ p (by omega) ?_)
            rw [hb]
            cases b with
            | true =>
              rw [if_pos hb, if_neg (hl0 rfl)] at hq
              rw [if_pos hb] at hl
              have r225 := nx (l - 1) (by have := hl0 rfl; omega) hq (nI l - 1) (is (by have := hl0 rfl; omega) rfl rfl)
              have r224 : g_Run (g_cal e) (g_mt S0 k_X10_chosen) Q 224 [.ref 82, .int (nI i), .int (bv (bst a i s)), .int (nI (mny a i s)), .int (nI l), .int (nI p)] [.int 1, .int (nI l)] M' := g_go_ 1 r225
              exact b_f (by decide) (g_to r224 _ rfl)
            | false =>
              rw [if_neg (by rw [hb]; decide)] at hq hl
              have r225 := nx l (by omega) hq (nI l - 0) (by rw [Int32.sub_zero])
              have r224 : g_Run (g_cal e) (g_mt S0 k_X10_chosen) Q 224 [.ref 82, .int (nI i), .int (bv (bst a i s)), .int (nI (mny a i s)), .int (nI l), .int (nI p)] [.int 0, .int (nI l)] M' := g_go_ 1 r225
              exact b_t rfl (g_to r224 _ rfl)
          refine g_go_ 20 (may' e (by omega) _ p (by omega) (b_z (fun y => g_to (R207 false y (fun y2 => by cases y2)) _ rfl) (fun y => ?_)))
          refine b_le (b := 0) rfl rfl (by omega) (by decide) (fun y2 => ?_) (fun y2 => g_to (R207 true y (fun _ => by omega)) _ rfl)
          rw [if_pos y, if_pos (by omega), show bv p = nI p from by unfold bv; rw [if_neg (by omega)]] at hq
          exact hq
      exact g_to (loop (a 0 - 1) 1 (drw s' (mny a i s)) (by omega) (by omega) dl h') _ rfl
    · have fc := fin (Or.inr z)
      rw [hc, if_neg z] at fc
      exact fc
  have R114 : ∀ u4 u5, g_Run (g_cal e) (g_mt S0 k_X10_chosen) Q 114 [.ref 82, .int (nI i), .int (bv (bst a i s)), .int (nI (mny a i s)), u4, u5] [] M := by
    intro u4 u5
    refine g_go_ 40 (b_ne (b := 0) rfl rfl (by omega) (by decide) (fun zm => ?_) (fun zm => ?_))
    · refine rule e (by omega) _ (b_ne rfl (show (4 : Int32) = nI 4 from rfl) (by omega) (by decide) (fun z => g_to (R171 zm (fun y => z y.1) u4 u5) _ rfl) (fun z4 => ?_))
      refine b_le (b := 0) rfl rfl (by omega) (by decide) (fun z => g_to (R171 zm (fun y => by omega) u4 u5) _ rfl) (fun z => ?_)
      have hidx : nI i - 1 = nI (i - 1) := is (by omega) rfl rfl
      obtain ⟨w1, w2, -, -⟩ := sr (i - 1) (by omega)
      have b3 := bw (i - 1) (by omega)
      refine ⟨i - 1, hidx, by omega, ?_⟩
      rw [w2]
      refine b_ne rfl (show (3 : Int32) = nI 3 from rfl) (by omega) (by decide) (fun z3 => g_to (R171 zm (fun y => z3 y.2.2.1) u4 u5) _ rfl) (fun z3 => ⟨i - 1, hidx, by omega, ?_⟩)
      rw [w1]
      have hw := I.hw z z3
      refine may e (by omega) _ (s.wh (i - 1)) hw.2 (b_z (fun y => g_to (R171 zm (fun y2 => by rw [y] at y2; exact absurd y2.2.2.2 (by decide)) u4 u5) _ rfl) (fun y => ⟨i - 1, hidx, by omega, ?_⟩))
      rw [w1]
      have fc := fin (Or.inr (by omega))
      have hc : chs a i s = s.wh (i - 1) := by unfold chs; rw [if_neg zm, if_pos ⟨z4, z, z3, y⟩]
      rw [hc, show bv (s.wh (i - 1)) = nI (s.wh (i - 1)) from by unfold bv; rw [if_neg (by omega)]] at fc
      exact fc
    · have fc := fin (Or.inl zm)
      rw [ck.1 zm] at fc
      exact fc
  have loop : ∀ m p b n u4, p + m = a 0 → 1 ≤ p → b < a 0 → n ≤ p → g_it (bstF a i s) m p b = bst a i s → n + cntF (mayB a i s) m p = mny a i s → g_Run (g_cal e) (g_mt S0 k_X10_chosen) Q 8 [.ref 82, .int (nI i), .int (bv b), .int (nI n), .int (nI p), u4] [] M := by
    intro m
    induction m with
    | zero =>
      intro p b n u4 hp h1 hb hnp hk hn
      have hk' : b = bst a i s := hk
      have hn' : n = mny a i s := hn
      subst hk' hn'
      refine g_go_ 20 ⟨0, rfl, by decide, ?_⟩
      rw [f.1 0 (by decide)]
      exact b_ge rfl rfl (by omega) (by omega) (fun _ => g_to (R114 _ u4) _ rfl) (fun z => by omega)
    | succ m ih =>
      intro p b n u4 hp h1 hb hnp hk hn
      unfold cntF at hn
      have bp : a (18 + 5 * p) < 65536 := v.2.2.2.2.1 _
      have bb : a (18 + 5 * b) < 65536 := v.2.2.2.2.1 _
      have d1 := ds_le v 0 p
      have d2 := ds_le v 0 b
      refine g_go_ 60 ⟨0, rfl, by decide, ?_⟩
      rw [f.1 0 (by decide)]
      refine b_ge rfl rfl (by omega) (by omega) (fun z => by omega) (fun _ => ?_)
      refine may e (by omega) _ p (by omega) (b_nz (fun z => ?_) (fun z => ?_))
      · rw [if_pos z] at hn
        have hbs : bstF a i s p b = if (b = 0 ∨ (a 12 = 1 ∧ a (18 + 5 * b) < a (18 + 5 * p)) ∨ (a 12 = 2 ∧ ds a 0 b < ds a 0 p)) then p else b := by
          unfold bstF
          by_cases c : (b = 0 ∨ (a 12 = 1 ∧ a (18 + 5 * b) < a (18 + 5 * p)) ∨ (a 12 = 2 ∧ ds a 0 b < ds a 0 p))
          · rw [if_pos ⟨z, c⟩, if_pos c]
          · rw [if_neg (fun y => c y.2), if_neg c]
        have nxt : ∀ u, g_Run (g_cal e) (g_mt S0 k_X10_chosen) Q 8 [.ref 82, .int (nI i), .int (bv (bstF a i s p b)), .int (nI n + 1), .int (nI p + 1), u] [] M := by
          intro u
          rw [← nI_succ, ← nI_succ]
          exact ih (p + 1) (bstF a i s p b) (n + 1) u (by omega) (by omega) (by unfold bstF; split <;> omega) (by omega) hk (by omega)
        have R89 : (b = 0 ∨ (a 12 = 1 ∧ a (18 + 5 * b) < a (18 + 5 * p)) ∨ (a 12 = 2 ∧ ds a 0 b < ds a 0 p)) → g_Run (g_cal e) (g_mt S0 k_X10_chosen) Q 89 [.ref 82, .int (nI i), .int (bv b), .int (nI n + 1), .int (nI p), u4] [] M := by
          intro c
          rw [hbs, if_pos c, show bv p = nI p from by unfold bv; rw [if_neg (by omega)]] at nxt
          exact g_go_ 20 (b_f (by decide) (g_to (nxt _) _ rfl))
        have R93 : ¬ (b = 0 ∨ (a 12 = 1 ∧ a (18 + 5 * b) < a (18 + 5 * p)) ∨ (a 12 = 2 ∧ ds a 0 b < ds a 0 p)) → g_Run (g_cal e) (g_mt S0 k_X10_chosen) Q 93 [.ref 82, .int (nI i), .int (bv b), .int (nI n + 1), .int (nI p), u4] [] M := by
          intro c
          rw [hbs, if_neg c] at nxt
          exact g_go_ 20 (b_t rfl (g_to (nxt _) _ rfl))
        by_cases c0 : b = 0
        · have r := R89 (Or.inl c0)
          have hb9 : bv b < 0 := by unfold bv; rw [if_pos c0]; decide
          exact b_t hb9 (g_to r _ rfl)
        · have hbv : bv b = nI b := by unfold bv; rw [if_neg c0]
          have R64 : ¬ (a 12 = 1 ∧ a (18 + 5 * b) < a (18 + 5 * p)) → g_Run (g_cal e) (g_mt S0 k_X10_chosen) Q 64 [.ref 82, .int (nI i), .int (bv b), .int (nI n + 1), .int (nI p), u4] [] M := by
            intro c1
            refine g_go_ 30 (rule e (by omega) _ (b_ne rfl (show (2 : Int32) = nI 2 from rfl) (by omega) (by decide) (fun y => g_to (R93 (fun c => by rcases c with c | c | c; exact c0 c; exact c1 c; exact y c.1)) _ rfl) (fun y => ?_)))
            refine m_farOf (by omega) f _ _ 0 p rfl rfl (by decide) (by omega) (m_farOf (by omega) f _ _ 0 b rfl hbv (by decide) (by omega) ?_)
            refine b_le rfl rfl (by omega) (by omega) (fun y2 => g_to (R93 (fun c => by rcases c with c | c | c; exact c0 c; exact c1 c; omega)) _ rfl) (fun y2 => g_to (R89 (Or.inr (Or.inr ⟨y, y2⟩))) _ rfl)
          refine b_lt (b := 0) hbv rfl (by omega) (by decide) (fun y => by omega) (fun _ => ?_)
          refine rule e (by omega) _ (b_ne rfl (show (1 : Int32) = nI 1 from rfl) (by omega) (by decide) (fun y => g_to (R64 (fun c => y c.1)) _ rfl) (fun y => ?_))
          refine m_get (by omega) p 2 rfl rfl (by omega) (by decide) (m_get (by omega) b 2 hbv rfl (by omega) (by decide) ?_)
          rw [f.1 _ (by omega), f.1 _ (by omega), show 16 + 5 * p + 2 = 18 + 5 * p by omega, show 16 + 5 * b + 2 = 18 + 5 * b by omega]
          exact b_gt rfl rfl (by omega) (by omega) (fun y2 => g_to (R89 (Or.inr (Or.inl ⟨y, y2⟩))) _ rfl) (fun y2 => g_to (R64 (fun c => by omega)) _ rfl)
      · rw [if_neg (by rw [z]; decide)] at hn
        have hbs : bstF a i s p b = b := by unfold bstF; rw [if_neg (fun y => by rw [z] at y; exact absurd y.1 (by decide))]
        have hR := ih (p + 1) (bstF a i s p b) n u4 (by omega) (by omega) (by rw [hbs]; exact hb) (by omega) hk (by omega)
        rw [hbs, nI_succ] at hR
        exact g_to hR _ rfl
  exact g_to (loop (a 0 - 1) 1 0 0 .null (by omega) (by omega) (by omega) (by omega) rfl (by omega)) _ rfl
