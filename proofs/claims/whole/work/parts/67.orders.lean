/-! ===== orders of places: the component goes to the next one ===== -/
def riseF (row : Nat → Nat) : Nat → Nat
  | 0 => 0
  | r + 1 => if row (r + 1) < row r then riseF row r else r + 1
def aboveF (row : Nat → Nat) (rise : Nat) : Nat → Nat
  | 0 => 0
  | x + 1 => if rise < x + 1 ∧ row (x + 1) < row rise then aboveF row rise x else x + 1
def swp (row : Nat → Nat) (i j : Nat) : Nat → Nat := aup (aup row i (row j)) j (row i)
def revF : Nat → (Nat → Nat) → Nat → Nat → Nat → Nat
  | 0, row, _, _ => row
  | f + 1, row, lo, hi => if lo < hi then revF f (swp row lo hi) (lo + 1) (hi - 1) else row
def ri : Nat → Int32
  | 0 => -1
  | r + 1 => nI r
theorem ri_dec (r : Nat) (hr : r < 10) : ri (r + 1) + (-1) = ri r := by
  cases r with
  | zero => decide
  | succ r => exact n_dec (by omega)
def RW (N : g_M) (len : Nat) (row : Nat → Nat) : Prop := ∀ i, i < len → N 78 i = nI (row i)
theorem x_swap {d i j len : Nat} {N : g_M} {Q : g_R} {row : Nat → Nat} (hd : 1 ≤ d) (hl : len ≤ 4) (hi : i < len) (hj : j < len) (hr : RW N len row) (h : ∀ N', (∀ c, c ≠ 78 → N' c = N c) → RW N' len (swp row i j) → Q none N') : g_cal d k_X2_swap [.ref 77, .int (nI i), .int (nI j)] N Q := by
  refine g_m hd 40 (fun e he => ⟨i, rfl, by omega, j, rfl, by omega, i, rfl, by omega, j, rfl, by omega, h _ (fun c hc => ?_) (fun t ht => ?_)⟩)
  · rw [g_ms_n hc, g_ms_n hc]
  · rw [g_ms_s, g_ms_s]
    unfold upd swp aup
    by_cases c : t = j
    · rw [if_pos c, if_pos c]; exact hr i hi
    · rw [if_neg c, if_neg c]
      by_cases c2 : t = i
      · rw [if_pos c2, if_pos c2]; exact hr j hj
      · rw [if_neg c2, if_neg c2]; exact hr t ht
