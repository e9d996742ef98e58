/-! ===== orders of places: the component goes to the next one ===== -/
def riseF (row : Nat → Nat) : Nat → Nat
  | 0 => 0
  | r + 1 => if row (r + 1) < row r then riseF row r else r + 1
def aboveF (row : Nat → Nat) (rise : Nat) : Nat → Nat
  | 0 => 0
  | x + 1 => if rise < x + 1 ∧ row (x + 1) < row rise then aboveF row rise x else x + 1
def swp (row : Nat → Nat) (i j : Nat) : Nat → Nat := aup (aup row i (row j)) j (row i)
def revF : Nat → (Nat → Nat) → Nat → Nat → Nat → Nat
  | 0, row, _, _ => row
  | f + 1, row, lo, hi => if lo < hi then revF f (swp row lo hi) (lo + 1) (hi - 1) else row
def ri : Nat → Int32
  | 0 => -1
  | r + 1 => nI r
theorem ri_dec (r : Nat) (hr : r < 10) : ri (r + 1) + (-1) = ri r := by
  cases r with
  | zero => decide
  | succ r => exact n_dec (by omega)
def RW (N : g_M) (len : Nat) (row : Nat → Nat) : Prop := ∀ i, i < len → N 78 i = nI (row i)
theorem x_swap {d i j len : Nat} {N : g_M} {Q : g_R} {row : Nat → Nat} (hd : 1 ≤ d) (hl : len ≤ 4) (hi : i < len) (hj : j < len) (hr : RW N len row) (h : ∀ N', (∀ c, c ≠ 78 → N' c = N c) → RW N' len (swp row i j) → Q none N') : g_cal d k_X2_swap [.ref 77, .int (nI i), .int (nI j)] N Q := by
  refine g_m hd 40 (fun e he => ⟨i, rfl, by omega, j, rfl, by omega, i, rfl, by omega, j, rfl, by omega, h _ (fun c hc => ?_) (fun t ht => ?_)⟩)
  · rw [g_ms_n hc, g_ms_n hc]
  · rw [g_ms_s, g_ms_s]
    unfold upd swp aup
    by_cases c : t = j
    · rw [if_pos c, if_pos c]; exact hr i hi
    · rw [if_neg c, if_neg c]
      by_cases c2 : t = i
      · rw [if_pos c2, if_pos c2]; exact hr j hj
      · rw [if_neg c2, if_neg c2]; exact hr t ht
theorem revF_congr {len : Nat} : ∀ f (r1 r2 : Nat → Nat) lo hi, (∀ i, i < len → r1 i = r2 i) → (lo < hi → hi < len) → ∀ i, i < len → revF f r1 lo hi i = revF f r2 lo hi i
  | 0, r1, r2, lo, hi, h, _, i, hi' => h i hi'
  | f + 1, r1, r2, lo, hi, h, hh, i, hi' => by
    unfold revF
    by_cases c : lo < hi
    · rw [if_pos c, if_pos c]
      have := hh c
      refine revF_congr f _ _ _ _ (fun t ht => ?_) (fun _ => by omega) i hi'
      unfold swp aup
      rw [h lo (by omega), h hi (by omega), h t ht]
    · rw [if_neg c, if_neg c]; exact h i hi'
theorem x_advance {d len : Nat} {N : g_M} {Q : g_R} {row : Nat → Nat} (hd : 2 ≤ d) (hl : len ≤ 4) (h1 : 1 ≤ len) (hL : N 77 1 = nI len) (hr : RW N len row) (hb : ∀ i, i < len → row i < 100)
    (hno : riseF row (len - 1) = 0 → Q (some (.int 0)) N)
    (hyes : riseF row (len - 1) ≠ 0 → ∀ N', (∀ c, c ≠ 78 → N' c = N c) → RW N' len (revF 4 (swp row (riseF row (len - 1) - 1) (aboveF row (riseF row (len - 1) - 1) (len - 1))) (riseF row (len - 1)) (len - 1)) → Q (some (.int 1)) N') : g_cal d k_X2_advance [.ref 77] N Q := by
  refine g_m (by omega) 10 (fun e he => ?_)
  -- the turn
  have R91 : ∀ f N' lo hi rw' u1 u2, lo ≤ 10 → hi < len → hi - lo ≤ 2 * f → (∀ c, c ≠ 78 → N' c = N c) → RW N' len rw' → (∀ N', (∀ c, c ≠ 78 → N' c = N c) → RW N' len (revF f rw' lo hi) → Q (some (.int 1)) N') → g_Run (g_cal e) (g_mt S0 k_X2_advance) Q 91 [.ref 77, .int u1, .int u2, .int (nI lo), .int (nI hi)] [] N' := by
    intro f
    induction f with
    | zero =>
      intro N' lo hi rw' u1 u2 hlo hh hf e1 e2 hq
      by_cases c : lo < hi
      · omega
      · exact g_go_ 20 (b_ge rfl rfl (by omega) (by omega) (fun _ => ⟨rfl, hq N' e1 e2⟩) (fun y => by omega))
    | succ f ih =>
      intro N' lo hi rw' u1 u2 hlo hh hf e1 e2 hq
      by_cases c : lo < hi
      · have hst : revF (f + 1) rw' lo hi = revF f (swp rw' lo hi) (lo + 1) (hi - 1) := by rw [revF, if_pos c]
        rw [hst] at hq
        refine g_go_ 7 (b_ge rfl rfl (by omega) (by omega) (fun y => by omega) (fun _ => ?_))
        refine x_swap (by omega) hl (by omega) (by omega) e2 (fun N2 f1 f2 => ?_)
        have hR := ih N2 (lo + 1) (hi - 1) (swp rw' lo hi) u1 u2 (by omega) (by omega) (by omega) (fun c hc => (f1 c hc).trans (e1 c hc)) f2 hq
        rw [nI_succ] at hR
        have r110 : g_Run (g_cal e) (g_mt S0 k_X2_advance) Q 110 [.ref 77, .int u1, .int u2, .int (nI lo + 1), .int (nI (hi - 1))] [] N2 := g_go_ 2 (g_to hR _ rfl)
        rw [← n_dec (show hi ≠ 0 by omega)] at r110
        have r107 : g_Run (g_cal e) (g_mt S0 k_X2_advance) Q 107 [.ref 77, .int u1, .int u2, .int (nI lo + 1), .int (nI hi)] [] N2 := g_go_ 1 r110
        exact g_stop_ (g_go_ 1 r107)
      · have hst : revF (f + 1) rw' lo hi = rw' := by rw [revF, if_neg c]
        rw [hst] at hq
        exact g_go_ 20 (b_ge rfl rfl (by omega) (by omega) (fun _ => ⟨rfl, hq N' e1 e2⟩) (fun y => by omega))
  generalize hG : riseF row (len - 1) = G at hno hyes
  have aLe : ∀ rise x, aboveF row rise x ≤ x := by
    intro rise x
    induction x with
    | zero => exact Nat.le_refl _
    | succ x ih => unfold aboveF; split <;> omega
  -- the one above
  have R47 : ∀ x rise, rise + 1 = G → rise < len → x < len → aboveF row rise x = aboveF row rise (len - 1) → g_Run (g_cal e) (g_mt S0 k_X2_advance) Q 47 [.ref 77, .int (nI rise), .int (nI x), .null, .null] [] N := by
    intro x rise hrG hrl hx hA
    have R73 : ∀ y, y = aboveF row rise (len - 1) → g_Run (g_cal e) (g_mt S0 k_X2_advance) Q 73 [.ref 77, .int (nI rise), .int (nI y), .null, .null] [] N := by
      intro y hy
      have hyl : y < len := by have := aLe rise (len - 1); omega
      refine g_go_ 4 (x_swap (by omega) hl hrl hyl hr (fun N2 f1 f2 => ?_))
      have hR := R91 4 N2 (rise + 1) (len - 1) (swp row rise y) (nI rise) (nI y) (by omega) (by omega) (by omega) f1 f2 (fun N' g1 g2 => hyes (by omega) N' g1 (by
        rw [hy, hrG, show rise = G - 1 by omega] at g2; exact g2))
      rw [nI_succ] at hR
      have hl1 : N2 77 1 - 1 = nI (len - 1) := by rw [f1 77 (by decide), hL]; exact is (by omega) rfl rfl
      rw [← hl1] at hR
      have r79 : g_Run (g_cal e) (g_mt S0 k_X2_advance) Q 79 [.ref 77, .int (nI rise), .int (nI y), .null, .null] [] N2 := g_go_ 12 (g_to hR _ rfl)
      exact g_to r79 _ rfl
    induction x with
    | zero => exact g_go_ 3 (b_le rfl rfl (by omega) (by omega) (fun _ => g_stop_ (R73 0 hA)) (fun y => by omega))
    | succ x ih =>
      refine g_go_ 3 (b_le rfl rfl (by omega) (by omega) (fun y => g_stop_ (R73 (x + 1) ?_)) (fun y => g_stop_ (g_go_ 9 ?_)))
      · rw [aboveF, if_neg (by omega)] at hA; exact hA
      · refine ⟨x + 1, rfl, by omega, rise, rfl, by omega, ?_⟩
        show (N 78 rise ≤ N 78 (x + 1) → _) ∧ (¬ N 78 rise ≤ N 78 (x + 1) → _)
        rw [hr _ hrl, hr _ hx]
        have q1 := hb _ hrl
        have q2 := hb _ hx
        refine b_ge rfl rfl (by omega) (by omega) (fun z => g_stop_ (R73 (x + 1) ?_)) (fun z => ?_)
        · rw [aboveF, if_neg (by omega)] at hA; exact hA
        · have hR := ih (by omega) (by rw [aboveF, if_pos ⟨y, z⟩] at hA; exact hA)
          have r70 : g_Run (g_cal e) (g_mt S0 k_X2_advance) Q 70 [.ref 77, .int (nI rise), .int (nI x), .null, .null] [] N := g_go_ 1 (g_to hR _ rfl)
          rw [show nI x = nI (x + 1) + (-1) from (n_dec (l := x + 1) (by omega)).symm] at r70
          exact g_stop_ (g_go_ 1 r70)
  have R34 : ∀ rise, rise + 1 = G → rise < len → g_Run (g_cal e) (g_mt S0 k_X2_advance) Q 34 [.ref 77, .int (nI rise), .null, .null, .null] [] N := by
    intro rise hrG hrl
    have hR := R47 (len - 1) rise hrG hrl (by omega) rfl
    have hl1 : N 77 1 - 1 = nI (len - 1) := by rw [hL]; exact is (by omega) rfl rfl
    rw [← hl1] at hR
    exact g_go_ 12 (b_ge (a := rise) (b := 0) rfl rfl (by omega) (by omega) (fun _ => g_to hR _ rfl) (fun y => by omega))
  have R7 : ∀ r, r < len → riseF row r = G → g_Run (g_cal e) (g_mt S0 k_X2_advance) Q 7 [.ref 77, .int (ri r), .null, .null, .null] [] N := by
    intro r hrl hrG
    induction r with
    | zero =>
      refine g_go_ 12 (b_t (by decide) (b_f (by decide) ⟨rfl, hno hrG.symm⟩))
    | succ r ih =>
      refine g_go_ 16 (b_lt (a := r) (b := 0) rfl rfl (by omega) (by omega) (fun y => by omega) (fun _ => ⟨r, rfl, by omega, r + 1, (nI_succ r).symm, by omega, ?_⟩))
      show (N 78 r ≤ N 78 (r + 1) → _) ∧ (¬ N 78 r ≤ N 78 (r + 1) → _)
      rw [hr _ hrl, hr r (by omega)]
      have q1 := hb _ hrl
      have q2 := hb r (by omega)
      refine b_le rfl rfl (by omega) (by omega) (fun z => ?_) (fun z => ?_)
      · rw [riseF, if_neg (by omega)] at hrG
        exact g_to (R34 r hrG (by omega)) _ rfl
      · have hR := ih (by omega) (by rw [riseF, if_pos z] at hrG; exact hrG)
        have r31 : g_Run (g_cal e) (g_mt S0 k_X2_advance) Q 31 [.ref 77, .int (ri r), .null, .null, .null] [] N := g_go_ 1 (g_to hR _ rfl)
        rw [← ri_dec r (by omega)] at r31
        have r28 : g_Run (g_cal e) (g_mt S0 k_X2_advance) Q 28 [.ref 77, .int (nI r), .null, .null, .null] [] N := g_go_ 1 r31
        exact g_to r28 _ rfl
  have hR := R7 (len - 1) (by omega) hG
  have hl2 : N 77 1 - 2 = ri (len - 1) := by
    rw [hL]
    rcases (by omega : len = 1 ∨ len = 2 ∨ len = 3 ∨ len = 4) with h | h | h | h <;> subst h <;> decide
  rw [← hl2] at hR
  exact g_to hR _ rfl
