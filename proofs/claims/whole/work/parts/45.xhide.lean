/-! ===== the component's round: where they hide ===== -/
def ush (x k : Int32) : Int32 := (x.toUInt32 >>> (k.toUInt32 &&& Int32.toUInt32 31)).toInt32
def bc1 (x : Int32) : Int32 := x - (ush x 1 &&& 1431655765)
def bc2 (x : Int32) : Int32 := (x &&& 858993459) + (ush x 2 &&& 858993459)
def bc3 (x : Int32) : Int32 := (x + ush x 4) &&& 252645135
def bc4 (x : Int32) : Int32 := x + ush x 8
def bc5 (x : Int32) : Int32 := (x + ush x 16) &&& 63
theorem bc_ok : ∀ b, b < 256 → bc5 (bc4 (bc3 (bc2 (bc1 (nI b))))) = nI (cntF (Nat.testBit b) 8 0) := by decide +kernel
theorem x_bitCount {d b : Nat} {M : g_M} {Q : g_R} (hd : 1 ≤ d) (hb : b < 256) (h : Q (some (.int (nI (cntF (Nat.testBit b) 8 0)))) M) : g_cal d k_J6_bitCount [.int (nI b)] M Q := by
  refine g_m hd 60 (fun e he => ?_)
  rw [← bc_ok b hb] at h
  exact h
/-- bits of places -/
def obF (f : Nat → Bool) (n : Nat) : Nat := g_it (fun q s => if f q = true then s ||| 2 ^ q else s) (n - 1) 1 0
theorem ob_J (f : Nat → Bool) (n : Nat) (h1 : 1 ≤ n) (h8 : n ≤ 8) : (∀ q, (obF f n).testBit q = (decide (1 ≤ q ∧ q < n) && f q)) ∧ obF f n < 2 ^ 8 := by
  unfold obF
  refine (g_it_J (fun m s => 1 ≤ m ∧ (∀ q, s.testBit q = (decide (1 ≤ q ∧ q < m) && f q)) ∧ s < 2 ^ 8) _ n ?_ (n - 1) 1 0 (by omega) ⟨by omega, fun q => ?_, by decide⟩).2
  · intro m s hm ⟨hm1, hs⟩
    refine ⟨by omega, fun q => ?_, ?_⟩
    · by_cases z : f m = true
      · rw [if_pos z, Nat.testBit_or, hs.1 q, Nat.testBit_two_pow]
        by_cases zq : q = m
        · subst zq
          simp [z, hm1]
        · have : (decide (1 ≤ q ∧ q < m)) = decide (1 ≤ q ∧ q < m + 1) := decide_eq_decide.mpr (by omega)
          rw [this]
          have : ¬ m = q := fun w => zq w.symm
          simp [this]
      · rw [if_neg z, hs.1 q]
        by_cases zq : q = m
        · subst zq
          simp [z]
        · have : (decide (1 ≤ q ∧ q < m)) = decide (1 ≤ q ∧ q < m + 1) := decide_eq_decide.mpr (by omega)
          rw [this]
    · split
      · exact Nat.or_lt_two_pow hs.2 (Nat.pow_lt_pow_right (by decide) (by omega))
      · exact hs.2
  · rw [Nat.zero_testBit, decide_eq_false (by omega)]; rfl
theorem nthF_z (f : Nat → Bool) : ∀ k p l, (∀ q, p ≤ q → f q = false) → nthF f k p l = 0
  | 0, _, _, _ => rfl
  | k + 1, p, l, h => by
    unfold nthF
    rw [h p (Nat.le_refl _), if_neg (by decide)]
    exact nthF_z f k (p + 1) l (fun q hq => h q (by omega))
theorem nthF_tl (f g : Nat → Bool) : ∀ k m p l, (∀ q, p ≤ q → q < p + k → g q = f q) → (∀ q, p + k ≤ q → g q = false) → nthF g (k + m) p l = nthF f k p l
  | 0, m, p, l, _, h2 => by rw [Nat.zero_add]; exact nthF_z g m p l (fun q hq => h2 q (by omega))
  | k + 1, m, p, l, h1, h2 => by
    have ih := fun l => nthF_tl f g k m (p + 1) l (fun q a b => h1 q (by omega) (by omega)) (fun q a => h2 q (by omega))
    rw [show k + 1 + m = (k + m) + 1 by omega]
    unfold nthF
    rw [h1 p (Nat.le_refl _) (by omega), ih, ih]
theorem cntF_z (f : Nat → Bool) : ∀ k p, (∀ q, p ≤ q → f q = false) → cntF f k p = 0
  | 0, _, _ => rfl
  | k + 1, p, h => by
    unfold cntF
    rw [h p (Nat.le_refl _), if_neg (by decide), cntF_z f k (p + 1) (fun q hq => h q (by omega))]
theorem cntF_tl (f g : Nat → Bool) : ∀ k m p, (∀ q, p ≤ q → q < p + k → g q = f q) → (∀ q, p + k ≤ q → g q = false) → cntF g (k + m) p = cntF f k p
  | 0, m, p, _, h2 => by rw [Nat.zero_add]; exact cntF_z g m p (fun q hq => h2 q (by omega))
  | k + 1, m, p, h1, h2 => by
    have ih := cntF_tl f g k m (p + 1) (fun q a b => h1 q (by omega) (by omega)) (fun q a => h2 q (by omega))
    rw [show k + 1 + m = (k + m) + 1 by omega]
    unfold cntF
    rw [h1 p (Nat.le_refl _) (by omega), ih]
theorem ob_nth (f : Nat → Bool) (n l : Nat) (h1 : 1 ≤ n) (h8 : n ≤ 8) : nthF (Nat.testBit (obF f n)) 8 0 l = nthF f (n - 1) 1 l := by
  have J := (ob_J f n h1 h8).1
  show (if Nat.testBit (obF f n) 0 = true then _ else nthF (Nat.testBit (obF f n)) 7 1 l) = _
  rw [J 0, decide_eq_false (by omega), Bool.false_and, if_neg (by decide)]
  have := nthF_tl f (Nat.testBit (obF f n)) (n - 1) (8 - n) 1 l (fun q a b => by rw [J q, decide_eq_true (by omega), Bool.true_and]) (fun q a => by rw [J q, decide_eq_false (by omega), Bool.false_and])
  rw [show n - 1 + (8 - n) = 7 by omega] at this
  exact this
theorem ob_cnt (f : Nat → Bool) (n : Nat) (h1 : 1 ≤ n) (h8 : n ≤ 8) : cntF (Nat.testBit (obF f n)) 8 0 = cntF f (n - 1) 1 := by
  have J := (ob_J f n h1 h8).1
  show (if Nat.testBit (obF f n) 0 = true then 1 else 0) + cntF (Nat.testBit (obF f n)) 7 1 = _
  rw [J 0, decide_eq_false (by omega), Bool.false_and, if_neg (by decide), Nat.zero_add]
  have := cntF_tl f (Nat.testBit (obF f n)) (n - 1) (8 - n) 1 (fun q a b => by rw [J q, decide_eq_true (by omega), Bool.true_and]) (fun q a => by rw [J q, decide_eq_false (by omega), Bool.false_and])
  rw [show n - 1 + (8 - n) = 7 by omega] at this
  exact this
theorem bst_one {a : Nat → Nat} {h : Nat} {r : RS} (h1 : a 12 ≠ 1) (h2 : a 12 ≠ 2) (p b : Nat) : bstF a h r p b = if b = 0 then (if mayB a h r p = true then p else 0) else b := by
  unfold bstF
  by_cases b0 : b = 0
  · subst b0
    rw [if_pos rfl]
    by_cases z : mayB a h r p = true
    · rw [if_pos z, if_pos ⟨z, Or.inl rfl⟩]
    · rw [if_neg z, if_neg (fun w => z w.1)]
  · have : ¬ (mayB a h r p = true ∧ (b = 0 ∨ (a 12 = 1 ∧ a (18 + 5 * b) < a (18 + 5 * p)) ∨ (a 12 = 2 ∧ ds a 0 b < ds a 0 p))) := by
      intro w
      rcases w.2 with w | w | w
      · exact b0 w
      · exact h1 w.1
      · exact h2 w.1
    rw [if_neg this, if_neg b0]
theorem bst_nth (a : Nat → Nat) (h : Nat) (r : RS) (h1 : a 12 ≠ 1) (h2 : a 12 ≠ 2) : ∀ k p b, 1 ≤ p → g_it (bstF a h r) k p b = if b = 0 then nthF (mayB a h r) k p 0 else b
  | 0, p, b, _ => by
    show b = _
    by_cases z : b = 0
    · rw [if_pos z, z]; rfl
    · rw [if_neg z]
  | k + 1, p, b, hp => by
    show g_it (bstF a h r) k (p + 1) (bstF a h r p b) = _
    rw [bst_nth a h r h1 h2 k (p + 1) _ (by omega), bst_one h1 h2]
    rw [show nthF (mayB a h r) (k + 1) p 0 = if mayB a h r p = true then p else nthF (mayB a h r) k (p + 1) 0 from rfl]
    by_cases b0 : b = 0
    · subst b0
      by_cases z : mayB a h r p = true
      · simp only [z, if_true]; rw [if_neg (by omega)]
      · simp only [z]; rfl
    · simp only [b0, if_false]
theorem n_dec {l : Nat} (h : l ≠ 0) : nI l + (-1) = nI (l - 1) := by
  obtain ⟨j, rfl⟩ : ∃ j, l = j + 1 := ⟨l - 1, by omega⟩
  rw [nI_succ, Int32.add_assoc, show (1 : Int32) + (-1) = 0 from by decide, Int32.add_zero, Nat.add_sub_cancel]
theorem nthF_0 (f : Nat → Bool) (p l : Nat) : nthF f 0 p l = 0 := rfl
theorem nthF_s (f : Nat → Bool) (k p l : Nat) : nthF f (k + 1) p l = if f p = true then (if l = 0 then p else nthF f k (p + 1) (l - 1)) else nthF f k (p + 1) l := rfl
theorem x_bitAt {d b l : Nat} {M : g_M} {Q : g_R} (hd : 2 ≤ d) (hb : b < 2 ^ 31) (hl : l < 2 ^ 31) (h : Q (some (.int (nI (nthF (Nat.testBit b) 8 0 l)))) M) : g_cal d k_X4_bitAt [.int (nI b), .int (nI l)] M Q := by
  refine g_m (by omega) 6 (fun e he => ?_)
  generalize hf : Nat.testBit b = f at h
  have loop : ∀ m p l2, p + m = 8 → l2 < 2 ^ 31 → Q (some (.int (nI (nthF f m p l2)))) M → g_Run (g_cal e) (g_mt S0 k_X4_bitAt) Q 4 [.int (nI b), .int (nI l), .int (nI l2), .int (nI p)] [] M := by
    intro m
    induction m with
    | zero =>
      intro p l2 hp hl2 hq
      rw [nthF_0] at hq
      exact g_go_ 30 (b_ge rfl (show (8 : Int32) = nI 8 from rfl) (by omega) (by decide) (fun _ => hq) (fun z => by omega))
    | succ m ih =>
      intro p l2 hp hl2 hq
      rw [nthF_s] at hq
      refine g_go_ 30 (b_ge rfl (show (8 : Int32) = nI 8 from rfl) (by omega) (by decide) (fun z => by omega) (fun _ => ?_))
      refine x_hasBit (by omega) b p rfl rfl hb (by omega) ?_
      rw [show b.testBit p = f p from congrFun hf p]
      refine b_z (fun z => ?_) (fun z => ?_)
      · rw [if_neg (by rw [z]; decide)] at hq
        have hR := ih (p + 1) l2 (by omega) hl2 hq
        rw [nI_succ] at hR
        exact g_to hR _ rfl
      · rw [if_pos z] at hq
        refine b_ne (b := 0) rfl rfl hl2 (by decide) (fun z2 => ?_) (fun z2 => ?_)
        · rw [if_neg z2] at hq
          have hR := ih (p + 1) (l2 - 1) (by omega) (by omega) hq
          rw [nI_succ] at hR
          have hR2 : g_Run (g_cal e) (g_mt S0 k_X4_bitAt) Q 27 [.int (nI b), .int (nI l), .int (nI (l2 - 1)), .int (nI p)] [] M := g_go_ 10 (g_to hR _ rfl)
          rw [← n_dec z2] at hR2
          exact g_stop_ (g_go_ 1 hR2)
        · rw [if_pos z2] at hq
          exact hq
  exact g_to (loop 8 0 l (by omega) hl h) _ rfl
def RL (M : g_M) (r : Nat) (a : Nat → Nat) (s : RS) : Prop := ∀ p, p < a 0 → M (r + 5) p = nI (a (17 + 5 * p) - hidN a s p)
theorem x_openPlaces {d r tt i : Nat} {M : g_M} {Q : g_R} {a : Nat → Nat} {s : RS} (hd : 2 ≤ d) (hr : r = 17 ∨ r = 60) (v : V1 a) (v2 : V2 a) (w : CW M tt a) (hl : RL M r a s) (hi : i < a 2) (h : Q (some (.int (nI (obF (mayB a i s) (a 0))))) M) : g_cal d k_X4_openPlaces [.ref r, .ref 2, .int (nI (a 9)), .int (nI i)] M Q := by
  have b0 : a 0 ≤ 8 := v.2.1
  have b1 : 1 ≤ a 0 := v.1
  have b9 : a 9 ≤ 99 := v2.2.1
  have x1 := w.1.1
  refine g_m (by omega) 6 (fun e he => ?_)
  have loop : ∀ m p n u, p + m = a 0 → 1 ≤ p → g_it (fun q s' => if mayB a i s q = true then s' ||| 2 ^ q else s') m p n = obF (mayB a i s) (a 0) → g_Run (g_cal e) (g_mt S0 k_X4_openPlaces) Q 6 [.ref r, .ref 2, .int (nI (a 9)), .int (nI i), .int (nI n), .int (nI p), u] [] M := by
    intro m
    induction m with
    | zero =>
      intro p n u hp h1 hn
      rw [← hn] at h
      exact g_go_ 30 (b_ge rfl x1 (by omega) (by omega) (fun _ => h) (fun z => by omega))
    | succ m ih =>
      intro p n u hp h1 hn
      have hR := fun u => ih (p + 1) (if mayB a i s p = true then n ||| 2 ^ p else n) u (by omega) (by omega) hn
      have br : a (17 + 5 * p) < 65536 := v.2.2.2.2.1 _
      have bp := pcd_le v i p
      rw [nI_succ] at hR
      have no : ∀ u, ¬ mayB a i s p = true → g_Run (g_cal e) (g_mt S0 k_X4_openPlaces) Q 6 [.ref r, .ref 2, .int (nI (a 9)), .int (nI i), .int (nI n), .int (nI p + 1), u] [] M := by
        intro u z
        have hR := hR u
        rw [if_neg z] at hR
        exact hR
      have yes : ∀ u, mayB a i s p = true → g_Run (g_cal e) (g_mt S0 k_X4_openPlaces) Q 6 [.ref r, .ref 2, .int (nI (a 9)), .int (nI i), .int (nI n ||| 1 <<< (nI p &&& 31)), .int (nI p + 1), u] [] M := by
        intro u z
        have hR := hR u
        rw [if_pos z, ← n_or, ← n_shl (show p < 32 by omega)] at hR
        exact hR
      clear hR ih
      refine g_go_ 40 (b_ge rfl x1 (by omega) (by omega) (fun z => by omega) (fun _ => ?_))
      refine x_secWalk (by omega) v w.1 w.2.1 i p hi (by omega) ?_
      rcases hr with rfl | rfl
      all_goals
        refine ⟨p, rfl, by omega, ?_⟩
        rw [hl p (by omega)]
        refine b_le (b := 0) rfl rfl (by omega) (by decide) (fun z => g_to (no _ (fun y => by have := (of_decide_eq_true y).1; omega)) _ rfl) (fun z => ?_)
        by_cases zd : ds a p 0 < 100000
        · rw [if_pos zd]
          refine b_f (n_ne9 (by omega)) ?_
          refine b_gt rfl rfl (by omega) (by omega) (fun z2 => g_to (no _ (fun y => by have := (of_decide_eq_true y).2.2; omega)) _ rfl) (fun z2 => ?_)
          exact g_to (yes _ (decide_eq_true ⟨by omega, zd, z2⟩)) _ rfl
        · rw [if_neg zd]
          exact b_t rfl (g_to (no _ (fun y => zd (of_decide_eq_true y).2.1)) _ rfl)
  exact g_to (loop (a 0 - 1) 1 0 .null (by omega) (by omega) rfl) _ rfl
theorem x_deepest {d i b : Nat} {M : g_M} {Q : g_R} {a : Nat → Nat} {s : RS} (hd : 2 ≤ d) (v : V1 a) (g1 : GX1 M 2 a) (h12 : a 12 = 1) (hb : b = obF (mayB a i s) (a 0)) (h : Q (some (.int (nI (bst a i s)))) M) : g_cal d k_X4_deepest [.ref 2, .int (nI b)] M Q := by
  have b0 : a 0 ≤ 8 := v.2.1
  have b1 : 1 ≤ a 0 := v.1
  have x1 := g1.1
  obtain ⟨J1, J2⟩ := ob_J (mayB a i s) (a 0) b1 b0
  rw [← hb] at J1 J2
  refine g_m (by omega) 4 (fun e he => ?_)
  have loop : ∀ m p c, p + m = a 0 → 1 ≤ p → c < a 0 → Q (some (.int (nI (g_it (bstF a i s) m p c)))) M → g_Run (g_cal e) (g_mt S0 k_X4_deepest) Q 4 [.ref 2, .int (nI b), .int (nI c), .int (nI p)] [] M := by
    intro m
    induction m with
    | zero =>
      intro p c hp h1 hc hq
      exact g_go_ 30 (b_ge rfl x1 (by omega) (by omega) (fun _ => hq) (fun z => by omega))
    | succ m ih =>
      intro p c hp h1 hc hq
      have hR := ih (p + 1) (bstF a i s p c) (by omega) (by omega) (by unfold bstF; split <;> omega) hq
      have bp : a (18 + 5 * p) < 65536 := v.2.2.2.2.1 _
      have bc : a (18 + 5 * c) < 65536 := v.2.2.2.2.1 _
      rw [nI_succ] at hR
      have Jp := J1 p
      rw [decide_eq_true (show 1 ≤ p ∧ p < a 0 from ⟨h1, by omega⟩), Bool.true_and] at Jp
      unfold bstF at hR
      refine g_go_ 40 (b_ge rfl x1 (by omega) (by omega) (fun z => by omega) (fun _ => ?_))
      refine x_hasBit (by omega) b p rfl rfl (by omega) (by omega) (b_z (fun z => ?_) (fun z => ?_))
      · rw [if_neg (fun y => by rw [← Jp, z] at y; exact absurd y.1 (by decide))] at hR
        exact g_to hR _ rfl
      · rw [Jp] at z
        refine b_eq (b := 0) rfl rfl (by omega) (by decide) (fun z2 => ?_) (fun z2 => ⟨p, rfl, by omega, c, rfl, by omega, ?_⟩)
        · rw [if_pos ⟨z, Or.inl z2⟩] at hR
          exact g_to hR _ rfl
        · rw [(g1.2.2.2.1 p (by omega)).2.2.1, (g1.2.2.2.1 c hc).2.2.1]
          refine b_le rfl rfl (by omega) (by omega) (fun z3 => ?_) (fun z3 => ?_)
          · rw [if_neg (fun y => by omega)] at hR
            exact g_to hR _ rfl
          · rw [if_pos ⟨z, Or.inr (Or.inl ⟨h12, z3⟩)⟩] at hR
            exact g_to hR _ rfl
  exact g_to (loop (a 0 - 1) 1 0 (by omega) (by omega) (by omega) h) _ rfl
theorem x_outermost {d i b : Nat} {M : g_M} {Q : g_R} {a : Nat → Nat} {s : RS} (hd : 2 ≤ d) (v : V1 a) (g1 : GX1 M 2 a) (g2 : GX2 M 2 a) (h12 : a 12 = 2) (hb : b = obF (mayB a i s) (a 0)) (h : Q (some (.int (nI (bst a i s)))) M) : g_cal d k_X4_outermost [.ref 2, .int (nI b)] M Q := by
  have b0 : a 0 ≤ 8 := v.2.1
  have b1 : 1 ≤ a 0 := v.1
  have x1 := g1.1
  obtain ⟨J1, J2⟩ := ob_J (mayB a i s) (a 0) b1 b0
  rw [← hb] at J1 J2
  refine g_m (by omega) 4 (fun e he => ?_)
  have loop : ∀ m p c, p + m = a 0 → 1 ≤ p → (c < a 0 ∧ ds a c 0 < 100000) → Q (some (.int (nI (g_it (bstF a i s) m p c)))) M → g_Run (g_cal e) (g_mt S0 k_X4_outermost) Q 4 [.ref 2, .int (nI b), .int (nI c), .int (nI p)] [] M := by
    intro m
    induction m with
    | zero =>
      intro p c hp h1 hc hq
      exact g_go_ 30 (b_ge rfl x1 (by omega) (by omega) (fun _ => hq) (fun z => by omega))
    | succ m ih =>
      intro p c hp h1 hc hq
      have hR := ih (p + 1) (bstF a i s p c) (by omega) (by omega) (by
        unfold bstF
        split
        · rename_i y; exact ⟨by omega, (of_decide_eq_true y.1).2.1⟩
        · exact hc) hq
      rw [nI_succ] at hR
      have Jp := J1 p
      rw [decide_eq_true (show 1 ≤ p ∧ p < a 0 from ⟨h1, by omega⟩), Bool.true_and] at Jp
      unfold bstF at hR
      refine g_go_ 40 (b_ge rfl x1 (by omega) (by omega) (fun z => by omega) (fun _ => ?_))
      refine x_hasBit (by omega) b p rfl rfl (by omega) (by omega) (b_z (fun z => ?_) (fun z => ?_))
      · rw [if_neg (fun y => by rw [← Jp, z] at y; exact absurd y.1 (by decide))] at hR
        exact g_to hR _ rfl
      · rw [Jp] at z
        have zd := (of_decide_eq_true z).2.1
        refine x_distance (by omega) v g1 g2 p 0 (by omega) (by omega) (x_distance (by omega) v g1 g2 c 0 hc.1 (by omega) ?_)
        rw [cD_in zd, cD_in hc.2]
        refine b_le rfl rfl (by omega) (by omega) (fun z3 => ?_) (fun z3 => ?_)
        · rw [if_neg (fun y => by
            rcases y.2 with y | y | y
            · subst y
              have := ds_pos a (show p ≠ 0 by omega)
              rw [ds_xx] at z3
              omega
            · omega
            · rw [ds_comm a 0 c, ds_comm a 0 p] at y; omega)] at hR
          exact g_to hR _ rfl
        · rw [if_pos ⟨z, Or.inr (Or.inr ⟨h12, by rw [ds_comm a 0 c, ds_comm a 0 p]; exact z3⟩)⟩] at hR
          exact g_to hR _ rfl
  exact g_to (loop (a 0 - 1) 1 0 (by omega) (by omega) ⟨by omega, by rw [ds_xx]; decide⟩ h) _ rfl
