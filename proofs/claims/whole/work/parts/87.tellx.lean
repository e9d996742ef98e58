/-! ===== garden: the component is told ===== -/
theorem tP_n {b : Nat → Nat} {x0 x1 x2 k : Nat} (h : k ≠ 0) (h2 : k < 16 + 5 * b 0 ∨ 20 + 5 * b 0 < k) : tP b x0 x1 x2 k = b k := by
  unfold tP; rw [if_neg h, if_neg (by omega), if_neg (by omega), if_neg (by omega), if_neg (by omega), if_neg (by omega)]
theorem tP_s (b : Nat → Nat) (x0 x1 x2 : Nat) : tP b x0 x1 x2 0 = b 0 + 1 ∧ tP b x0 x1 x2 (16 + 5 * b 0) = x0 ∧ tP b x0 x1 x2 (17 + 5 * b 0) = x1 ∧ tP b x0 x1 x2 (18 + 5 * b 0) = x2 ∧ tP b x0 x1 x2 (19 + 5 * b 0) = 0 ∧ tP b x0 x1 x2 (20 + 5 * b 0) = 2 ^ b 0 := by
  unfold tP
  refine ⟨by rw [if_pos rfl], by rw [if_neg (by omega), if_pos rfl], by rw [if_neg (by omega), if_neg (by omega), if_pos rfl], by rw [if_neg (by omega), if_neg (by omega), if_neg (by omega), if_pos rfl], by rw [if_neg (by omega), if_neg (by omega), if_neg (by omega), if_neg (by omega), if_pos rfl], by rw [if_neg (by omega), if_neg (by omega), if_neg (by omega), if_neg (by omega), if_neg (by omega), if_pos rfl]⟩
/-- all but the draft stays -/
def FD (M N : g_M) : Prop := ∀ c, (c < 45 ∨ 56 < c) → N c = M c
theorem x_isPlD {d j : Nat} {M : g_M} {Q : g_R} {b : Nat → Nat} (hd : 1 ≤ d) (v : V1 b) (hj : j < 2 ^ 31) (h0 : M 45 0 = nI (b 0)) (h : Q (some (.int (bI (decide (j < b 0))))) M) : g_cal d k_X1_isPlace [.ref 45, .int (nI j)] M Q := by
  have b0 : b 0 ≤ 8 := v.2.1
  refine g_m hd 20 (fun e he => ?_)
  refine b_lt (b := 0) rfl rfl (by omega) (by decide) (fun y => by omega) (fun _ => b_ge rfl h0 (by omega) (by omega) (fun y => ⟨rfl, ?_⟩) (fun y => ⟨rfl, ?_⟩))
  · rw [decide_eq_false (by omega)] at h; exact h
  · rw [decide_eq_true y] at h; exact h
theorem x_addPlace {d x0 x1 x2 : Nat} {N : g_M} {Q : g_R} {b : Nat → Nat} (hd : 1 ≤ d) (v : V1 b) (g1 : GX1 N 45 b) (hno : b 0 = 8 → Q (some (.int 0)) N) (hyes : b 0 ≠ 8 → ∀ N', FD N N' → GX1 N' 45 (tP b x0 x1 x2) → Q (some (.int 1)) N') : g_cal d k_X1_addPlace [.ref 45, .int (nI x0), .int (nI x1), .int (nI x2)] N Q := by
  have b0 : b 0 ≤ 8 := v.2.1
  have v3 : b 1 ≤ 14 := v.2.2.1
  have v4 : b 2 ≤ 8 := v.2.2.2.1
  obtain ⟨y1, y2, y3, y4, y5, y6⟩ := g1
  refine g_m hd 70 (fun e he => ?_)
  refine b_lt (b := 8) y1 rfl (by omega) (by decide) (fun z => ?_) (fun z => ⟨rfl, hno (by omega)⟩)
  have hq : ∀ w y : Int32, w = nI (2 ^ b 0) → y = nI (b 0 + 1) → Q (some (.int 1)) (g_ms (g_ms (g_ms (g_ms (g_ms (g_ms N 46 (upd (N 46) (b 0) (nI x0))) 47 (upd (N 47) (b 0) (nI x1))) 48 (upd (N 48) (b 0) (nI x2))) 49 (upd (N 49) (b 0) 0)) 50 (upd (N 50) (b 0) w)) 45 (upd (N 45) 0 y)) := by
    intro w y hw hy
    obtain ⟨s0, s1, s2, s3, s4, s5⟩ := tP_s b x0 x1 x2
    refine hyes (by omega) _ (fun c hc => by rw [g_ms_n (by omega), g_ms_n (by omega), g_ms_n (by omega), g_ms_n (by omega), g_ms_n (by omega), g_ms_n (by omega)]) ⟨?_, ?_, ?_, fun p hp => ?_, fun h hh => ?_, fun x y hx hy => ?_⟩
    · rw [g_ms_s, s0, ← hy]; rfl
    · rw [g_ms_s, tP_n (by decide) (by omega)]; exact y2
    · rw [g_ms_s, tP_n (by decide) (by omega)]; exact y3
    · rw [s0] at hp
      show (upd (N 46) (b 0) (nI x0)) p = _ ∧ (upd (N 47) (b 0) (nI x1)) p = _ ∧ (upd (N 48) (b 0) (nI x2)) p = _ ∧ (upd (N 49) (b 0) 0) p = _ ∧ (upd (N 50) (b 0) w) p = _
      unfold upd
      by_cases c : p = b 0
      · subst c
        rw [s1, s2, s3, s4, s5, if_pos rfl, if_pos rfl, if_pos rfl, if_pos rfl, if_pos rfl]
        exact ⟨rfl, rfl, rfl, rfl, hw⟩
      · rw [if_neg c, if_neg c, if_neg c, if_neg c, if_neg c, tP_n (by omega) (by omega), tP_n (by omega) (by omega), tP_n (by omega) (by omega), tP_n (by omega) (by omega), tP_n (by omega) (by omega)]
        exact y4 p (by omega)
    · rw [tP_n (by decide) (by omega)] at hh
      rw [tP_n (by omega) (by omega), tP_n (by omega) (by omega)]
      exact y5 h hh
    · rw [wy_congr (tP_n (by decide) (by omega)) v3 (fun k k1 k2 => tP_n (by omega) (by omega))]
      exact y6 x y hx hy
  have hshl : (1 : Int32) <<< (N 45 0 &&& 31) = nI (2 ^ b 0) := by
    rw [y1]; exact n_shl (by omega)
  have hpl : N 45 0 + 1 = nI (b 0 + 1) := by rw [y1]; exact (nI_succ _).symm
  exact ⟨b 0, y1, by omega, b 0, y1, by omega, b 0, y1, by omega, b 0, y1, by omega, b 0, y1, by omega, rfl, hq _ _ hshl hpl⟩
theorem x_wayBt {d x y : Nat} {M : g_M} {Q : g_R} {b : Nat → Nat} (hd : 1 ≤ d) (v : V1 b) (g1 : GX1 M 45 b) (hx : x < b 0) (hy : y < b 0) (h : Q (some (.int (nI (wy b x y)))) M) : g_cal d k_X1_wayBetween [.ref 45, .int (nI x), .int (nI y)] M Q := by
  have b0 : b 0 ≤ 8 := v.2.1
  rw [← g1.2.2.2.2.2 x y (by omega) (by omega)] at h
  refine g_m hd 60 (fun e he => ?_)
  refine b_lt (b := 0) rfl rfl (by omega) (by decide) (fun z => by omega) (fun _ => b_ge rfl g1.1 (by omega) (by omega) (fun z => by omega) (fun _ => ?_))
  refine b_lt (b := 0) rfl rfl (by omega) (by decide) (fun z => by omega) (fun _ => b_ge rfl g1.1 (by omega) (by omega) (fun z => by omega) (fun _ => ?_))
  exact ⟨x * 8 + y, ia (im rfl rfl) rfl, by omega, h⟩
theorem tW_n {b : Nat → Nat} {x0 x1 x2 k : Nat} (h : k ≠ 1) (h2 : k < 56 + 3 * b 1 ∨ 58 + 3 * b 1 < k) : tW b x0 x1 x2 k = b k := by
  unfold tW; rw [if_neg h, if_neg (by omega), if_neg (by omega), if_neg (by omega)]
theorem tW_s (b : Nat → Nat) (x0 x1 x2 : Nat) : tW b x0 x1 x2 1 = b 1 + 1 ∧ tW b x0 x1 x2 (56 + 3 * b 1) = x0 ∧ tW b x0 x1 x2 (57 + 3 * b 1) = x1 ∧ tW b x0 x1 x2 (58 + 3 * b 1) = x2 := by
  unfold tW
  refine ⟨by rw [if_pos rfl], by rw [if_neg (by omega), if_pos rfl], by rw [if_neg (by omega), if_neg (by omega), if_pos rfl], by rw [if_neg (by omega), if_neg (by omega), if_neg (by omega), if_pos rfl]⟩
theorem tW_wy (b : Nat → Nat) (x0 x1 x2 x y : Nat) : wy (tW b x0 x1 x2) x y = if (x0 = x ∧ x1 = y) ∨ (x0 = y ∧ x1 = x) then x2 else wy b x y := by
  obtain ⟨s0, s1, s2, s3⟩ := tW_s b x0 x1 x2
  unfold wy
  rw [s0, wyF, s1, s2, s3, wyF_congr (b 1) (fun k k1 k2 => tW_n (by omega) (by omega))]
theorem x_addWay {d x0 x1 x2 : Nat} {N : g_M} {Q : g_R} {b : Nat → Nat} (hd : 2 ≤ d) (v : V1 b) (g1 : GX1 N 45 b) (r0 : x0 ≤ 99) (r1 : x1 ≤ 99) (r2 : x2 ≤ 99) (hno : ¬ okW b x0 x1 x2 → Q (some (.int 0)) N) (hyes : okW b x0 x1 x2 → ∀ N', FD N N' → GX1 N' 45 (tW b x0 x1 x2) → Q (some (.int 1)) N') : g_cal d k_X1_addWay [.ref 45, .int (nI x0), .int (nI x1), .int (nI x2)] N Q := by
  have b0 : b 0 ≤ 8 := v.2.1
  have v3 : b 1 ≤ 14 := v.2.2.1
  have v4 : b 2 ≤ 8 := v.2.2.2.1
  have g0 := g1
  obtain ⟨y1, y2, y3, y4, y5, y6⟩ := g1
  refine g_m (by omega) 90 (fun e he => ?_)
  refine b_ge (b := 14) y2 rfl (by omega) (by decide) (fun z => ⟨rfl, hno (fun w => by have := w.2.2.2.2.2.2; omega)⟩) (fun z1 => ?_)
  refine x_isPlD (by omega) v (by omega) y1 ?_
  by_cases c0 : x0 < b 0
  · rw [decide_eq_true c0]
    refine b_f (by decide) (x_isPlD (by omega) v (by omega) y1 ?_)
    by_cases c1 : x1 < b 0
    · rw [decide_eq_true c1]
      refine b_f (by decide) (b_ne rfl rfl (by omega) (by omega) (fun c2 => ?_) (fun c2 => ⟨rfl, hno (fun w => w.2.2.1 c2)⟩))
      refine b_lt (b := 1) rfl rfl (by omega) (by decide) (fun c3 => ⟨rfl, hno (fun w => by have := w.2.2.2.1; omega)⟩) (fun c3 => ?_)
      refine b_gt (b := 60) rfl rfl (by omega) (by decide) (fun c4 => ⟨rfl, hno (fun w => by have := w.2.2.2.2.1; omega)⟩) (fun c4 => ?_)
      refine x_wayBt (by omega) v g0 c0 c1 ?_
      have wl := wy_le v x0 x1
      refine b_eq (b := 0) rfl rfl (by omega) (by decide) (fun c5 => ?_) (fun c5 => ⟨rfl, hno (fun w => c5 w.2.2.2.2.2.1)⟩)
      have hok : okW b x0 x1 x2 := ⟨c0, c1, c2, c3, c4, c5, by omega⟩
      have hq : ∀ y : Int32, y = nI (b 1 + 1) → Q (some (.int 1)) (g_ms (g_ms (g_ms N 53 (upd (N 53) (x0 * 8 + x1) (nI x2))) 53 (upd (upd (N 53) (x0 * 8 + x1) (nI x2)) (x1 * 8 + x0) (nI x2))) 45 (upd (N 45) 1 y)) := by
        intro w hy
        obtain ⟨s0, s1, s2, s3⟩ := tW_s b x0 x1 x2
        refine hyes hok _ (fun c hc => by rw [g_ms_n (by omega), g_ms_n (by omega), g_ms_n (by omega)]) ⟨?_, ?_, ?_, fun p hp => ?_, fun h hh => ?_, fun x y hx hy => ?_⟩
        · rw [g_ms_s, tW_n (by decide) (by omega)]; exact y1
        · rw [g_ms_s, s0, ← hy]; rfl
        · rw [g_ms_s, tW_n (by decide) (by omega)]; exact y3
        · rw [tW_n (by decide) (by omega)] at hp
          rw [tW_n (by omega) (by omega), tW_n (by omega) (by omega), tW_n (by omega) (by omega), tW_n (by omega) (by omega), tW_n (by omega) (by omega)]
          exact y4 p hp
        · rw [tW_n (by decide) (by omega)] at hh
          rw [tW_n (by omega) (by omega), tW_n (by omega) (by omega)]
          exact y5 h hh
        · rw [tW_wy]
          show upd (upd (N 53) (x0 * 8 + x1) (nI x2)) (x1 * 8 + x0) (nI x2) (x * 8 + y) = _
          unfold upd
          by_cases e1 : x * 8 + y = x1 * 8 + x0
          · rw [if_pos e1, if_pos (by omega)]
          · rw [if_neg e1]
            by_cases e2 : x * 8 + y = x0 * 8 + x1
            · rw [if_pos e2, if_pos (by omega)]
            · rw [if_neg e2, if_neg (by omega)]; exact y6 x y hx hy
      have hpl : N 45 1 + 1 = nI (b 1 + 1) := by rw [y2]; exact (nI_succ _).symm
      exact ⟨x0 * 8 + x1, ia (im rfl rfl) rfl, by omega, x1 * 8 + x0, ia (im rfl rfl) rfl, by omega, rfl, hq _ hpl⟩
    · rw [decide_eq_false c1]
      exact b_t rfl ⟨rfl, hno (fun w => c1 w.2.1)⟩
  · rw [decide_eq_false c0]
    exact b_t rfl ⟨rfl, hno (fun w => c0 w.1)⟩
theorem x_addView {d x0 x1 : Nat} {N : g_M} {Q : g_R} {b : Nat → Nat} (hd : 2 ≤ d) (v : V1 b) (g1 : GX1 N 45 b) (r0 : x0 ≤ 99) (r1 : x1 ≤ 99) (hno : ¬ okV b x0 x1 → Q (some (.int 0)) N) (hyes : okV b x0 x1 → ∀ N', FD N N' → GX1 N' 45 (tV b x0 x1) → Q (some (.int 1)) N') : g_cal d k_X1_addView [.ref 45, .int (nI x0), .int (nI x1)] N Q := by
  have b0 : b 0 ≤ 8 := v.2.1
  have v3 : b 1 ≤ 14 := v.2.2.1
  have v4 : b 2 ≤ 8 := v.2.2.2.1
  have bl := v.2.2.2.2.1
  obtain ⟨y1, y2, y3, y4, y5, y6⟩ := g1
  refine g_m (by omega) 60 (fun e he => x_isPlD (by omega) v (by omega) y1 ?_)
  by_cases c0 : x0 < b 0
  · rw [decide_eq_true c0]
    refine b_f (by decide) (x_isPlD (by omega) v (by omega) y1 ?_)
    by_cases c1 : x1 < b 0
    · rw [decide_eq_true c1]
      refine b_f (by decide) ⟨x0, rfl, by omega, ?_⟩
      have hv := (y4 x0 c0).2.2.2.2
      have vb := v.2.2.2.2.2.1 x0 c0
      have hb := bl (20 + 5 * x0)
      refine x_hasBit (by omega) (b (20 + 5 * x0)) x1 hv rfl (by omega) (by omega) ?_
      refine b_z (fun c2 => ?_) (fun c2 => ⟨rfl, hno (fun w => by rw [w.2.2.2] at c2; exact absurd c2 (by decide))⟩)
      have c3 : x0 ≠ x1 := fun w => by rw [← w, vb.2.2.2.2.2] at c2; exact absurd c2 (by decide)
      have hok : okV b x0 x1 := ⟨c0, c1, c3, c2⟩
      have hq : ∀ w : Int32, w = nI (b (20 + 5 * x0) ||| 2 ^ x1) → Q (some (.int 1)) (g_ms N 50 (upd (N 50) x0 w)) := by
        intro w hw
        have gn : ∀ k, k ≠ 20 + 5 * x0 → tV b x0 x1 k = b k := fun k h => by unfold tV; rw [if_neg h]
        have gs : tV b x0 x1 (20 + 5 * x0) = b (20 + 5 * x0) ||| 2 ^ x1 := by unfold tV; rw [if_pos rfl]
        refine hyes hok _ (fun c hc => by rw [g_ms_n (by omega)]) ⟨?_, ?_, ?_, fun p hp => ?_, fun h hh => ?_, fun x y hx hy => ?_⟩
        · rw [gn 0 (by omega)]; exact y1
        · rw [gn 1 (by omega)]; exact y2
        · rw [gn 2 (by omega)]; exact y3
        · rw [gn 0 (by omega)] at hp
          obtain ⟨u1, u2, u3, u4, u5⟩ := y4 p hp
          rw [gn (16 + 5 * p) (by omega), gn (17 + 5 * p) (by omega), gn (18 + 5 * p) (by omega), gn (19 + 5 * p) (by omega)]
          refine ⟨u1, u2, u3, u4, ?_⟩
          show upd (N 50) x0 w p = _
          unfold upd
          by_cases c : p = x0
          · subst c; rw [if_pos rfl, gs]; exact hw
          · rw [if_neg c, gn (20 + 5 * p) (by omega)]; exact u5
        · rw [gn 2 (by omega)] at hh
          rw [gn (98 + 2 * h) (by omega), gn (99 + 2 * h) (by omega)]
          exact y5 h hh
        · rw [wy_congr (gn 1 (by omega)) v3 (fun k k1 k2 => gn k (by omega))]
          exact y6 x y hx hy
      have hor : N 50 x0 ||| ((1 : Int32) <<< (nI x1 &&& 31)) = nI (b (20 + 5 * x0) ||| 2 ^ x1) := by
        rw [show N 50 x0 = nI (b (20 + 5 * x0)) from hv, show (1 : Int32) <<< (nI x1 &&& 31) = nI (2 ^ x1) from n_shl (by omega), n_or]
      exact ⟨x0, rfl, by omega, x0, rfl, by omega, rfl, hq _ hor⟩
    · rw [decide_eq_false c1]
      exact b_t rfl ⟨rfl, hno (fun w => c1 w.2.1)⟩
  · rw [decide_eq_false c0]
    exact b_t rfl ⟨rfl, hno (fun w => c0 w.1)⟩
theorem tH_n {b : Nat → Nat} {x0 x1 k : Nat} (h : k ≠ 2) (h2 : k < 98 + 2 * b 2 ∨ 99 + 2 * b 2 < k) : tH b x0 x1 k = b k := by
  unfold tH; rw [if_neg h, if_neg (by omega), if_neg (by omega)]
theorem tH_s (b : Nat → Nat) (x0 x1 : Nat) : tH b x0 x1 2 = b 2 + 1 ∧ tH b x0 x1 (98 + 2 * b 2) = x0 ∧ tH b x0 x1 (99 + 2 * b 2) = x1 := by
  unfold tH
  refine ⟨by rw [if_pos rfl], by rw [if_neg (by omega), if_pos rfl], by rw [if_neg (by omega), if_neg (by omega), if_pos rfl]⟩
theorem x_addHider {d x0 x1 : Nat} {N : g_M} {Q : g_R} {b : Nat → Nat} (hd : 1 ≤ d) (v : V1 b) (g1 : GX1 N 45 b) (r0 : x0 ≤ 99) (r1 : x1 ≤ 9) (hno : ¬ okH b x0 x1 → Q (some (.int 0)) N) (hyes : okH b x0 x1 → ∀ N', FD N N' → GX1 N' 45 (tH b x0 x1) → Q (some (.int 1)) N') : g_cal d k_X1_addHider [.ref 45, .int (nI x0), .int (nI x1)] N Q := by
  have b0 : b 0 ≤ 8 := v.2.1
  have v3 : b 1 ≤ 14 := v.2.2.1
  have v4 : b 2 ≤ 8 := v.2.2.2.1
  obtain ⟨y1, y2, y3, y4, y5, y6⟩ := g1
  refine g_m (by omega) 60 (fun e he => ?_)
  refine b_ge (b := 8) y3 rfl (by omega) (by decide) (fun z => ⟨rfl, hno (fun w => by have := w.2.2.2; omega)⟩) (fun z1 => ?_)
  refine b_lt (b := 2) rfl rfl (by omega) (by decide) (fun z => ⟨rfl, hno (fun w => by have := w.1; omega)⟩) (fun z2 => ?_)
  refine b_le (b := 15) rfl rfl (by omega) (by decide) (fun z3 => ?_) (fun z => ⟨rfl, hno (fun w => by have := w.2.1; omega)⟩)
  refine b_lt (b := 1) rfl rfl (by omega) (by decide) (fun z => ⟨rfl, hno (fun w => by have := w.2.2.1; omega)⟩) (fun z4 => ?_)
  refine b_le (b := 9) rfl rfl (by omega) (by decide) (fun z5 => ?_) (fun z => by omega)
  have hok : okH b x0 x1 := ⟨z2, z3, z4, by omega⟩
  have hq : ∀ y : Int32, y = nI (b 2 + 1) → Q (some (.int 1)) (g_ms (g_ms (g_ms N 51 (upd (N 51) (b 2) (nI x0))) 52 (upd (N 52) (b 2) (nI x1))) 45 (upd (N 45) 2 y)) := by
    intro w hy
    obtain ⟨s0, s1, s2⟩ := tH_s b x0 x1
    refine hyes hok _ (fun c hc => by rw [g_ms_n (by omega), g_ms_n (by omega), g_ms_n (by omega)]) ⟨?_, ?_, ?_, fun p hp => ?_, fun h hh => ?_, fun x y hx hy => ?_⟩
    · rw [g_ms_s, tH_n (by decide) (by omega)]; exact y1
    · rw [g_ms_s, tH_n (by decide) (by omega)]; exact y2
    · rw [g_ms_s, s0, ← hy]; rfl
    · rw [tH_n (by decide) (by omega)] at hp
      rw [tH_n (by omega) (by omega), tH_n (by omega) (by omega), tH_n (by omega) (by omega), tH_n (by omega) (by omega), tH_n (by omega) (by omega)]
      exact y4 p hp
    · rw [s0] at hh
      show upd (N 51) (b 2) (nI x0) h = _ ∧ upd (N 52) (b 2) (nI x1) h = _
      unfold upd
      by_cases c : h = b 2
      · subst c; rw [if_pos rfl, if_pos rfl, s1, s2]; exact ⟨rfl, rfl⟩
      · rw [if_neg c, if_neg c, tH_n (by omega) (by omega), tH_n (by omega) (by omega)]
        exact y5 h (by omega)
    · rw [wy_congr (tH_n (by decide) (by omega)) v3 (fun k k1 k2 => tH_n (by omega) (by omega))]
      exact y6 x y hx hy
  have hpl : N 45 2 + 1 = nI (b 2 + 1) := by rw [y3]; exact (nI_succ _).symm
  exact ⟨b 2, y3, by omega, b 2, y3, by omega, rfl, hq _ hpl⟩
theorem x_tell {d c : Nat} {N : g_M} {Q : g_R} {b : Nat → Nat} {R : RES} (hd : 3 ≤ d) (v : V1 b) (g1 : GX1 N 45 b) (r : rng c R) (hc : c = 112 ∨ c = 119 ∨ c = 118 ∨ c = 104) (vx : VX N R (nval c)) (hno : bad b c R → Q (some (.int 0)) N) (hyes : ∀ b' N', tel b c R b' → FD N N' → GX1 N' 45 b' → Q (some (.int 1)) N') : g_cal d k_X3_tell [.ref 67, .int (nI c), .ref 45] N Q := by
  obtain ⟨r0, r1, r2, r3⟩ := r
  rcases hc with rfl | rfl | rfl | rfl
  · have e0 := vx.1 (by decide)
    have e1 := vx.2.1 (by decide)
    have e2 := vx.2.2 (by decide)
    refine g_m (by omega) 40 (fun e he => g_sw_of 36 (by decide) ⟨0, rfl, by decide, 1, rfl, by decide, 2, rfl, by decide, ?_⟩)
    have f : ∀ Q' : g_R, (b 0 = 8 → Q' (some (.int 0)) N) → (b 0 ≠ 8 → ∀ N', FD N N' → GX1 N' 45 (tP b R.2.2.1 R.2.2.2.1 R.2.2.2.2) → Q' (some (.int 1)) N') → g_cal e k_X1_addPlace [.ref 45, .int (N 69 0), .int (N 69 1), .int (N 69 2)] N Q' := fun Q' h1 h2 => by
      rw [e0, e1, e2]; exact x_addPlace (by omega) v g1 h1 h2
    exact f _ (fun z => ⟨rfl, hno (Or.inl ⟨rfl, z⟩)⟩) (fun z N' f1 f2 => ⟨rfl, hyes _ N' (Or.inl ⟨rfl, z, rfl⟩) f1 f2⟩)
  · have e0 := vx.1 (by decide)
    have e1 := vx.2.1 (by decide)
    have e2 := vx.2.2 (by decide)
    refine g_m (by omega) 40 (fun e he => g_sw_of 59 (by decide) ⟨0, rfl, by decide, 1, rfl, by decide, 2, rfl, by decide, ?_⟩)
    have f : ∀ Q' : g_R, (¬ okW b R.2.2.1 R.2.2.2.1 R.2.2.2.2 → Q' (some (.int 0)) N) → (okW b R.2.2.1 R.2.2.2.1 R.2.2.2.2 → ∀ N', FD N N' → GX1 N' 45 (tW b R.2.2.1 R.2.2.2.1 R.2.2.2.2) → Q' (some (.int 1)) N') → g_cal e k_X1_addWay [.ref 45, .int (N 69 0), .int (N 69 1), .int (N 69 2)] N Q' := fun Q' h1 h2 => by
      rw [e0, e1, e2]; exact x_addWay (by omega) v g1 r0 (by omega) r3 h1 h2
    exact f _ (fun z => ⟨rfl, hno (Or.inr (Or.inl ⟨rfl, z⟩))⟩) (fun z N' f1 f2 => ⟨rfl, hyes _ N' (Or.inr (Or.inl ⟨rfl, z, rfl⟩)) f1 f2⟩)
  · have e0 := vx.1 (by decide)
    have e1 := vx.2.1 (by decide)
    refine g_m (by omega) 40 (fun e he => g_sw_of 82 (by decide) ⟨0, rfl, by decide, 1, rfl, by decide, ?_⟩)
    have f : ∀ Q' : g_R, (¬ okV b R.2.2.1 R.2.2.2.1 → Q' (some (.int 0)) N) → (okV b R.2.2.1 R.2.2.2.1 → ∀ N', FD N N' → GX1 N' 45 (tV b R.2.2.1 R.2.2.2.1) → Q' (some (.int 1)) N') → g_cal e k_X1_addView [.ref 45, .int (N 69 0), .int (N 69 1)] N Q' := fun Q' h1 h2 => by
      rw [e0, e1]; exact x_addView (by omega) v g1 r0 (by omega) h1 h2
    exact f _ (fun z => ⟨rfl, hno (Or.inr (Or.inr (Or.inl ⟨rfl, z⟩)))⟩) (fun z N' f1 f2 => ⟨rfl, hyes _ N' (Or.inr (Or.inr (Or.inl ⟨rfl, z, rfl⟩))) f1 f2⟩)
  · have e0 := vx.1 (by decide)
    have e1 := vx.2.1 (by decide)
    refine g_m (by omega) 40 (fun e he => g_sw_of 99 (by decide) ⟨0, rfl, by decide, 1, rfl, by decide, ?_⟩)
    have f : ∀ Q' : g_R, (¬ okH b R.2.2.1 R.2.2.2.1 → Q' (some (.int 0)) N) → (okH b R.2.2.1 R.2.2.2.1 → ∀ N', FD N N' → GX1 N' 45 (tH b R.2.2.1 R.2.2.2.1) → Q' (some (.int 1)) N') → g_cal e k_X1_addHider [.ref 45, .int (N 69 0), .int (N 69 1)] N Q' := fun Q' h1 h2 => by
      rw [e0, e1]; exact x_addHider (by omega) v g1 r0 r2 h1 h2
    exact f _ (fun z => ⟨rfl, hno (Or.inr (Or.inr (Or.inr ⟨rfl, z⟩)))⟩) (fun z N' f1 f2 => ⟨rfl, hyes _ N' (Or.inr (Or.inr (Or.inr ⟨rfl, z, rfl⟩))) f1 f2⟩)
