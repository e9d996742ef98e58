/-! ===== round ===== -/
theorem cnt_t {f : Nat → Bool} {n : Nat} (h : f n = true) : cnt f (n + 1) = cnt f n + 1 := by rw [cnt, if_pos h]
theorem cnt_f {f : Nat → Bool} {n : Nat} (h : f n = false) : cnt f (n + 1) = cnt f n := by rw [cnt, if_neg (by rw [h]; decide)]; rfl
theorem x_growTimes {d : Nat} {M : g_M} {Q : g_R} {a : Nat → Nat} {s : RS} (hd : 2 ≤ d) (v : V1 a) (g1 : GX1 M 2 a) (cs : CS M 17 a (a 2) s) (bw : ∀ h, h < a 2 → s.wh h < a 0)
    (h : ∀ M', (∀ c, c ≠ 6 → M' c = M c) → (∀ p, p < a 0 → M' 6 p = nI (min 99 (a (19 + 5 * p) + cnt (fun h => s.lk h && decide (s.wh h = p)) (a 2)))) → Q none M') : g_cal d k_X4_growTimes [.ref 17, .ref 2] M Q := by
  have b0 : a 0 ≤ 8 := v.2.1
  have b2 : a 2 ≤ 8 := v.2.2.2.1
  obtain ⟨s5, s6, s9, ⟨lb, lb1, lb2, lb3⟩, sr, sc⟩ := cs
  refine g_m (by omega) 4 (fun e he => ?_)
  have loop : ∀ m i N u, i + m = a 2 → (∀ c, c ≠ 6 → N c = M c) → (∀ p, p < a 0 → N 6 p = nI (min 99 (a (19 + 5 * p) + cnt (fun h => s.lk h && decide (s.wh h = p)) i))) → g_Run (g_cal e) (g_mt S0 k_X4_growTimes) Q 2 [.ref 17, .ref 2, .int (nI i), u] [] N := by
    intro m
    induction m with
    | zero =>
      intro i N u hi e1 e2
      have hi' : i = a 2 := by omega
      subst hi'
      have n5 : N 17 5 = nI (a 2) := by rw [e1 17 (by decide)]; exact s5
      exact g_go_ 20 (b_ge rfl n5 (by omega) (by omega) (fun _ => h N e1 e2) (fun y => by omega))
    | succ m ih =>
      intro i N u hi e1 e2
      have n5 : N 17 5 = nI (a 2) := by rw [e1 17 (by decide)]; exact s5
      have n8 : N 17 8 = nI lb := by rw [e1 17 (by decide)]; exact lb2
      have n18 : N 18 i = nI (s.wh i) := by rw [e1 18 (by decide)]; exact (sr i (by omega)).1
      have hw := bw i (by omega)
      refine g_go_ 40 (b_ge rfl n5 (by omega) (by omega) (fun y => by omega) (fun _ => ?_))
      refine x_hasBit (by omega) lb i n8 rfl (by omega) (by omega) ?_
      rw [lb3]
      refine b_z (fun y => ?_) (fun y => ⟨i, rfl, by omega, ?_⟩)
      · have hR := ih (i + 1) N u (by omega) e1 (fun p hp => by
          have c1 : cnt (fun h => s.lk h && decide (s.wh h = p)) (i + 1) = cnt (fun h => s.lk h && decide (s.wh h = p)) i := cnt_f (show (s.lk i && decide (s.wh i = p)) = false by rw [y, Bool.false_and])
          rw [c1]; exact e2 p hp)
        rw [nI_succ] at hR
        exact g_to hR _ rfl
      · rw [n18]
        have hT := e2 (s.wh i) hw
        have bT := (v.2.2.2.2.2.1 (s.wh i) hw).2.2.2.1
        obtain ⟨N2, hN2⟩ : ∃ N2, N2 = g_ms N 6 (upd (N 6) (s.wh i) (if N 6 (s.wh i) + 1 < 99 then N 6 (s.wh i) + 1 else 99)) := ⟨_, rfl⟩
        have hR := ih (i + 1) N2 (.int (nI (s.wh i))) (by omega) (fun c hc => by rw [hN2, g_ms_n hc]; exact e1 c hc) (fun p hp => by
          rw [hN2, g_ms_s]
          unfold upd
          by_cases ep : p = s.wh i
          · subst ep
            have c1 : cnt (fun h => s.lk h && decide (s.wh h = s.wh i)) (i + 1) = cnt (fun h => s.lk h && decide (s.wh h = s.wh i)) i + 1 := cnt_t (show (s.lk i && decide (s.wh i = s.wh i)) = true by rw [y, decide_eq_true rfl]; rfl)
            rw [if_pos rfl, c1, hT]
            generalize cnt (fun h => s.lk h && decide (s.wh h = s.wh i)) i = q
            have := n_min (a := 99) (b := min 99 (a (19 + 5 * s.wh i) + q) + 1) (by decide) (by omega)
            rw [show min 99 (min 99 (a (19 + 5 * s.wh i) + q) + 1) = min 99 (a (19 + 5 * s.wh i) + (q + 1)) by omega, nI_succ] at this
            exact this
          · have c1 : cnt (fun h => s.lk h && decide (s.wh h = p)) (i + 1) = cnt (fun h => s.lk h && decide (s.wh h = p)) i := cnt_f (show (s.lk i && decide (s.wh i = p)) = false by rw [decide_eq_false (fun q => ep q.symm), Bool.and_false])
            rw [if_neg ep, c1]
            exact e2 p hp)
        rw [nI_succ, hN2] at hR
        exact ⟨s.wh i, rfl, by omega, s.wh i, rfl, by omega, g_to hR _ rfl⟩
  exact g_to (loop (a 2) 0 M .null (by omega) (fun _ _ => rfl) (fun p hp => by
    rw [(g1.2.2.2.1 p hp).2.2.2.1]
    have := (v.2.2.2.2.2.1 p hp).2.2.2.1
    unfold cnt
    rw [show min 99 (a (19 + 5 * p) + 0) = a (19 + 5 * p) by omega])) _ rfl
/-- the state after a round -/
def aft (a : Nat → Nat) (z : Int32) (k : Nat) : Nat :=
  if k = 4 then 1 else if k = 5 then a 2 else if k = 6 then (ply a z).cn else if k = 7 then plt a z else if k = 8 then a 8 + 1
  else if 122 ≤ k ∧ k < 146 then (if (k - 122) % 3 = 0 then (ply a z).wh ((k - 122) / 3) else if (k - 122) % 3 = 1 then (ply a z).ho ((k - 122) / 3) else (ply a z).wn ((k - 122) / 3))
  else if 146 ≤ k ∧ k < 154 then (if k - 146 < (ply a z).cn then (ply a z).ca (k - 146) else 0)
  else if 21 ≤ k ∧ k < 56 ∧ (k - 16) % 5 = 3 ∧ (k - 16) / 5 < a 0 then min 99 (a k + lkc (ply a z) ((k - 16) / 5)) else a k
theorem aft_lo {a : Nat → Nat} {z : Int32} {k : Nat} (h : k < 4 ∨ (9 ≤ k ∧ k < 21) ∨ (56 ≤ k ∧ k < 122)) : aft a z k = a k := by
  unfold aft
  rw [if_neg (by omega), if_neg (by omega), if_neg (by omega), if_neg (by omega), if_neg (by omega), if_neg (by omega), if_neg (by omega), if_neg (by omega)]
theorem aft_pl {a : Nat → Nat} {z : Int32} {p j : Nat} (hp : p < 8) (hj : j < 5) (h3 : j ≠ 3) : aft a z (16 + 5 * p + j) = a (16 + 5 * p + j) := by
  unfold aft
  rw [if_neg (by omega), if_neg (by omega), if_neg (by omega), if_neg (by omega), if_neg (by omega), if_neg (by omega), if_neg (by omega), if_neg (by omega)]
theorem aft_tm {a : Nat → Nat} {z : Int32} {p : Nat} (hp : p < a 0) (h8 : p < 8) (h1 : 1 ≤ p) : aft a z (19 + 5 * p) = min 99 (a (19 + 5 * p) + lkc (ply a z) p) := by
  unfold aft
  rw [if_neg (by omega), if_neg (by omega), if_neg (by omega), if_neg (by omega), if_neg (by omega), if_neg (by omega), if_neg (by omega), if_pos ⟨by omega, by omega, by omega, by omega⟩, show (19 + 5 * p - 16) / 5 = p by omega]
theorem aft_wh {a : Nat → Nat} {z : Int32} {h : Nat} (hh : h < 8) : aft a z (122 + 3 * h) = (ply a z).wh h ∧ aft a z (123 + 3 * h) = (ply a z).ho h ∧ aft a z (124 + 3 * h) = (ply a z).wn h := by
  refine ⟨?_, ?_, ?_⟩
  · unfold aft
    rw [if_neg (by omega), if_neg (by omega), if_neg (by omega), if_neg (by omega), if_neg (by omega), if_pos (by omega), if_pos (by omega), show (122 + 3 * h - 122) / 3 = h by omega]
  · unfold aft
    rw [if_neg (by omega), if_neg (by omega), if_neg (by omega), if_neg (by omega), if_neg (by omega), if_pos (by omega), if_neg (by omega), if_pos (by omega), show (123 + 3 * h - 122) / 3 = h by omega]
  · unfold aft
    rw [if_neg (by omega), if_neg (by omega), if_neg (by omega), if_neg (by omega), if_neg (by omega), if_pos (by omega), if_neg (by omega), if_neg (by omega), show (124 + 3 * h - 122) / 3 = h by omega]
theorem aft_ca {a : Nat → Nat} {z : Int32} {i : Nat} (hi : i < 8) : aft a z (146 + i) = if i < (ply a z).cn then (ply a z).ca i else 0 := by
  unfold aft
  rw [if_neg (by omega), if_neg (by omega), if_neg (by omega), if_neg (by omega), if_neg (by omega), if_neg (by omega), if_pos (by omega), show 146 + i - 146 = i by omega]
