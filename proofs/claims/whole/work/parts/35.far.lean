/-! ===== how far: the reference finds it, the component has it ===== -/
theorem wyF_le {a : Nat → Nat} (v : V1 a) (x y : Nat) : ∀ i, i ≤ a 1 → wyF a x y i ≤ 60
  | 0, _ => by unfold wyF; omega
  | i + 1, h => by
    unfold wyF
    have := wyF_le v x y i (by omega)
    have := (v.2.2.2.2.2.2.2.2.2.2.2 i (by omega)).2.2.2.2
    split <;> omega
theorem wyF_comm (a : Nat → Nat) (x y : Nat) : ∀ i, wyF a x y i = wyF a y x i
  | 0 => rfl
  | i + 1 => by
    unfold wyF
    rw [wyF_comm a x y i]
    simp only [Or.comm]
theorem wyF_xx {a : Nat → Nat} (v : V1 a) (x : Nat) : ∀ i, i ≤ a 1 → wyF a x x i = 0
  | 0, _ => rfl
  | i + 1, h => by
    unfold wyF
    have := (v.2.2.2.2.2.2.2.2.2.2.2 i (by omega)).2.2.1
    rw [if_neg (by omega)]
    exact wyF_xx v x i (by omega)
theorem wyF_out {a : Nat → Nat} (v : V1 a) {x y : Nat} (hx : a 0 ≤ x ∨ a 0 ≤ y) : ∀ i, i ≤ a 1 → wyF a x y i = 0
  | 0, _ => rfl
  | i + 1, h => by
    unfold wyF
    have := (v.2.2.2.2.2.2.2.2.2.2.2 i (by omega))
    rw [if_neg (by omega)]
    exact wyF_out v hx i (by omega)
theorem wy_le {a : Nat → Nat} (v : V1 a) (x y : Nat) : wy a x y ≤ 60 := wyF_le v x y _ (Nat.le_refl _)
theorem wy_comm (a : Nat → Nat) (x y : Nat) : wy a x y = wy a y x := wyF_comm a x y _
theorem wy_xx {a : Nat → Nat} (v : V1 a) (x : Nat) : wy a x x = 0 := wyF_xx v x _ (Nat.le_refl _)
theorem wy_out {a : Nat → Nat} (v : V1 a) {x y : Nat} (h : a 0 ≤ x ∨ a 0 ≤ y) : wy a x y = 0 := wyF_out v h _ (Nat.le_refl _)
theorem dr_le {a : Nat → Nat} (v : V1 a) (x y : Nat) : dr a x y ≤ 100000 := by have := wy_le v x y; unfold dr; split <;> (try split) <;> omega
theorem dr_comm (a : Nat → Nat) (x y : Nat) : dr a x y = dr a y x := by
  unfold dr
  rw [wy_comm]
  by_cases h : x = y
  · subst h; rfl
  · have h2 : ¬ y = x := fun z => h z.symm
    simp only [h, h2, if_false]
theorem fw_le {a : Nat → Nat} (v : V1 a) (x y : Nat) : ∀ k, fw a k x y ≤ 100000
  | 0 => dr_le v x y
  | k + 1 => by have := fw_le v x y k; show fwS (fw a k) k x y ≤ _; unfold fwS; split <;> omega
theorem fw_comm (a : Nat → Nat) : ∀ k x y, fw a k x y = fw a k y x
  | 0, x, y => dr_comm a x y
  | k + 1, x, y => by show fwS (fw a k) k x y = fwS (fw a k) k y x; unfold fwS; rw [fw_comm a k x y, fw_comm a k x k, fw_comm a k k y, Nat.add_comm]
theorem fw_xx (a : Nat → Nat) (x : Nat) : ∀ k, fw a k x x = 0
  | 0 => by show dr a x x = 0; unfold dr; rw [if_pos rfl]
  | k + 1 => by show fwS (fw a k) k x x = 0; unfold fwS; rw [fw_xx a x k]; split <;> omega
theorem ds_le {a : Nat → Nat} (v : V1 a) (x y : Nat) : ds a x y ≤ 100000 := fw_le v x y 8
theorem ds_comm (a : Nat → Nat) (x y : Nat) : ds a x y = ds a y x := fw_comm a 8 x y
theorem ds_xx (a : Nat → Nat) (x : Nat) : ds a x x = 0 := fw_xx a x 8
def drF (a : Nat → Nat) (i x y : Nat) : Nat := if x = y then 0 else if wyF a x y i = 0 then 100000 else wyF a x y i
def FN (M N : g_M) (a : Nat → Nat) : Prop := (∀ c, c ≠ 89 → c ≠ 90 → N c = M c) ∧ (∀ x y, x < 8 → y < 8 → N 90 (8 * x + y) = nI (dr a x y)) ∧ (∀ x y, x < 8 → y < 8 → N 89 (8 * x + y) = nI (ds a x y))
theorem FN.sm {M N : g_M} {a : Nat → Nat} (h : FN M N a) : Sm M N := by
  have e := h.1
  refine ⟨fun c hc => e c (fun z => by rw [z] at hc; exact absurd hc (by decide)) (fun z => by rw [z] at hc; exact absurd hc (by decide)), ?_, ?_, ?_, ?_⟩ <;> rw [e _ (by decide) (by decide)]
theorem m_findFar {d : Nat} {M : g_M} {Q : g_R} {a : Nat → Nat} (hd : 1 ≤ d) (v : V1 a) (hM : RM M 84 a) (h : ∀ N, FN M N a → Q none N) : g_cal d k_X10_findFar [.ref 82] M Q := by
  refine g_m hd 4 (fun e he => ?_)
  -- the last: three loops in one
  have l4 : ∀ m k, k + m = 8 → ∀ N u2 u3 u4, (∀ c, c ≠ 89 → c ≠ 90 → N c = M c) → (∀ x y, x < 8 → y < 8 → N 90 (8 * x + y) = nI (dr a x y)) → (∀ x y, x < 8 → y < 8 → N 89 (8 * x + y) = nI (fw a k x y)) → g_Run (g_cal e) (g_mt S0 k_X10_findFar) Q 170 [.ref 82, .int (nI k), u2, u3, u4] [] N := by
    intro m
    induction m with
    | zero =>
      intro k hk N u2 u3 u4 h1 h2 h3
      have : k = 8 := by omega
      subst this
      exact g_go_ 20 (b_ge rfl (show (8 : Int32) = nI 8 from rfl) (by omega) (by decide) (fun _ => h N ⟨h1, h2, h3⟩) (fun z => by omega))
    | succ m ih =>
      intro k hk
      have lx : ∀ m2 x, x + m2 = 8 → ∀ N u3 u4, (∀ c, c ≠ 89 → c ≠ 90 → N c = M c) → (∀ x y, x < 8 → y < 8 → N 90 (8 * x + y) = nI (dr a x y)) → (∀ x' y, x' < 8 → y < 8 → N 89 (8 * x' + y) = nI (if x' < x then fw a (k + 1) x' y else fw a k x' y)) → g_Run (g_cal e) (g_mt S0 k_X10_findFar) Q 178 [.ref 82, .int (nI k), .int (nI x), u3, u4] [] N := by
        intro m2
        induction m2 with
        | zero =>
          intro x hx N u3 u4 h1 h2 h3
          have : x = 8 := by omega
          subst this
          have hR := ih (k + 1) (by omega) N (.int (nI 8)) u3 u4 h1 h2 (fun x' y hx' hy => by rw [h3 x' y hx' hy, if_pos hx'])
          rw [nI_succ] at hR
          exact g_go_ 20 (b_ge rfl (show (8 : Int32) = nI 8 from rfl) (by omega) (by decide) (fun _ => g_to hR _ rfl) (fun z => by omega))
        | succ m2 ih2 =>
          intro x hx
          have ly : ∀ m3 y, y + m3 = 8 → ∀ N u4, (∀ c, c ≠ 89 → c ≠ 90 → N c = M c) → (∀ x y, x < 8 → y < 8 → N 90 (8 * x + y) = nI (dr a x y)) → (∀ x' y', x' < 8 → y' < 8 → N 89 (8 * x' + y') = nI (if x' < x ∨ (x' = x ∧ y' < y) then fw a (k + 1) x' y' else fw a k x' y')) → g_Run (g_cal e) (g_mt S0 k_X10_findFar) Q 186 [.ref 82, .int (nI k), .int (nI x), .int (nI y), u4] [] N := by
            intro m3
            induction m3 with
            | zero =>
              intro y hy N u4 h1 h2 h3
              have : y = 8 := by omega
              subst this
              have hR := ih2 (x + 1) (by omega) N (.int (nI 8)) u4 h1 h2 (fun x' y' hx' hy' => by
                rw [h3 x' y' hx' hy']
                by_cases z : x' < x + 1
                · rw [if_pos z, if_pos (by omega)]
                · rw [if_neg z, if_neg (by omega)])
              rw [nI_succ] at hR
              exact g_go_ 20 (b_ge rfl (show (8 : Int32) = nI 8 from rfl) (by omega) (by decide) (fun _ => g_to hR _ rfl) (fun z => by omega))
            | succ m3 ih3 =>
              intro y hy N u4 h1 h2 h3
              have f1 := fw_le v x k k
              have f2 := fw_le v k y k
              have f3 := fw_le v x y k
              have r1 : N 89 (8 * x + k) = nI (fw a k x k) := by
                rw [h3 x k (by omega) (by omega)]
                have : fw a (k + 1) x k = fw a k x k := by show fwS (fw a k) k x k = _; unfold fwS; rw [fw_xx a k k, if_neg (by omega)]
                split <;> simp [this]
              have r2 : N 89 (8 * k + y) = nI (fw a k k y) := by
                rw [h3 k y (by omega) (by omega)]
                have : fw a (k + 1) k y = fw a k k y := by show fwS (fw a k) k k y = _; unfold fwS; rw [fw_xx a k k, if_neg (by omega)]
                split <;> simp [this]
              have r3 : N 89 (8 * x + y) = nI (fw a k x y) := by
                rw [h3 x y (by omega) (by omega), if_neg (by omega)]
              have hv : fw a (k + 1) x y = if fw a k x k + fw a k k y < fw a k x y then fw a k x k + fw a k k y else fw a k x y := rfl
              have hR : ∀ w, w = nI (fw a (k + 1) x y) → g_Run (g_cal e) (g_mt S0 k_X10_findFar) Q 186 [.ref 82, .int (nI k), .int (nI x), .int (nI y + 1), .int (nI (fw a k x k) + nI (fw a k k y))] [] (g_ms N 89 (upd (N 89) (8 * x + y) w)) := by
                intro w hw
                rw [← nI_succ]
                refine ih3 (y + 1) (by omega) _ _ (fun c c1 c2 => by rw [g_ms_n c1]; exact h1 c c1 c2) (fun x y hx hy => by rw [g_ms_n (by decide)]; exact h2 x y hx hy) (fun x' y' hx' hy' => ?_)
                rw [g_ms_s]
                unfold upd
                by_cases z : 8 * x' + y' = 8 * x + y
                · have z1 : x' = x := by omega
                  have z2 : y' = y := by omega
                  subst z1; subst z2
                  rw [if_pos rfl, hw, if_pos (Or.inr ⟨rfl, by omega⟩)]
                · rw [if_neg z, h3 x' y' hx' hy']
                  by_cases z1 : x' < x ∨ (x' = x ∧ y' < y)
                  · rw [if_pos z1, if_pos (by omega)]
                  · rw [if_neg z1, if_neg (by omega)]
              refine g_go_ 60 (b_ge rfl (show (8 : Int32) = nI 8 from rfl) (by omega) (by decide) (fun z => by omega) (fun _ => ⟨8 * x + k, ia (im rfl rfl) rfl, by omega, 8 * k + y, ia (im rfl rfl) rfl, by omega, 8 * x + y, ia (im rfl rfl) rfl, by omega, ?_⟩))
              rw [r1, r2, r3]
              refine b_ge (ia rfl rfl) rfl (by omega) (by omega) (fun z => ⟨8 * x + y, ia (im rfl rfl) rfl, by omega, 8 * x + y, ia (im rfl rfl) rfl, by omega, ?_⟩) (fun z => ⟨8 * x + y, ia (im rfl rfl) rfl, by omega, ?_⟩)
              · exact g_to (hR (N 89 (8 * x + y)) (by rw [r3, hv, if_neg (by omega)])) _ rfl
              · exact g_to (hR (nI (fw a k x k) + nI (fw a k k y)) (by rw [hv, if_pos z, nI_add])) _ rfl
          intro N u3 u4 h1 h2 h3
          have hR := ly 8 0 (by omega) N u4 h1 h2 (fun x' y' hx' hy' => by
            rw [h3 x' y' hx' hy']
            by_cases z : x' < x
            · rw [if_pos z, if_pos (Or.inl z)]
            · rw [if_neg z, if_neg (by omega)])
          exact g_go_ 20 (b_ge rfl (show (8 : Int32) = nI 8 from rfl) (by omega) (by decide) (fun z => by omega) (fun _ => g_to hR _ rfl))
      intro N u2 u3 u4 h1 h2 h3
      have hR := lx 8 0 (by omega) N u3 u4 h1 h2 (fun x' y hx' hy => by rw [h3 x' y hx' hy, if_neg (by omega)])
      exact g_go_ 20 (b_ge rfl (show (8 : Int32) = nI 8 from rfl) (by omega) (by decide) (fun z => by omega) (fun _ => g_to hR _ rfl))
  -- the copy
  have l3 : ∀ m i, i + m = 64 → ∀ N u2 u3 u4, (∀ c, c ≠ 89 → c ≠ 90 → N c = M c) → (∀ x y, x < 8 → y < 8 → N 90 (8 * x + y) = nI (dr a x y)) → (∀ j, j < i → N 89 j = N 90 j) → g_Run (g_cal e) (g_mt S0 k_X10_findFar) Q 144 [.ref 82, .int (nI i), u2, u3, u4] [] N := by
    intro m
    induction m with
    | zero =>
      intro i hi N u2 u3 u4 h1 h2 h3
      have hR := l4 8 0 (by omega) N u2 u3 u4 h1 h2 (fun x y hx hy => by rw [h3 _ (by omega)]; exact h2 x y hx hy)
      exact g_go_ 20 (b_ge rfl (show (64 : Int32) = nI 64 from rfl) (by omega) (by decide) (fun _ => g_to hR _ rfl) (fun z => by omega))
    | succ m ih =>
      intro i hi N u2 u3 u4 h1 h2 h3
      have hR := ih (i + 1) (by omega) (g_ms N 89 (upd (N 89) i (N 90 i))) u2 u3 u4 (fun c c1 c2 => by rw [g_ms_n c1]; exact h1 c c1 c2) (fun x y hx hy => by rw [g_ms_n (by decide)]; exact h2 x y hx hy) (fun j hj => by
        rw [g_ms_s, g_ms_n (by decide)]
        unfold upd
        by_cases z : j = i
        · rw [if_pos z, z]
        · rw [if_neg z]; exact h3 j (by omega))
      rw [nI_succ] at hR
      exact g_go_ 30 (b_ge rfl (show (64 : Int32) = nI 64 from rfl) (by omega) (by decide) (fun z => by omega) (fun _ => ⟨i, rfl, by omega, i, rfl, by omega, g_to hR _ rfl⟩))
  -- the ways
  have l2 : ∀ m i, i + m = a 1 → ∀ N u2 u3 u4, (∀ c, c ≠ 89 → c ≠ 90 → N c = M c) → (∀ x y, x < 8 → y < 8 → N 90 (8 * x + y) = nI (drF a i x y)) → g_Run (g_cal e) (g_mt S0 k_X10_findFar) Q 52 [.ref 82, .int (nI i), u2, u3, u4] [] N := by
    have b1 : a 1 ≤ 14 := v.2.2.1
    have b0 : a 0 ≤ 8 := v.2.1
    intro m
    induction m with
    | zero =>
      intro i hi N u2 u3 u4 h1 h2
      have : i = a 1 := by omega
      subst this
      have hR := l3 64 0 (by omega) N u2 u3 u4 h1 h2 (fun j hj => by omega)
      refine g_go_ 30 ⟨1, rfl, by decide, ?_⟩
      rw [h1 84 (by decide) (by decide), hM 1 (by decide)]
      exact b_ge rfl rfl (by omega) (by omega) (fun _ => g_to hR _ rfl) (fun z => by omega)
    | succ m ih =>
      intro i hi N u2 u3 u4 h1 h2
      obtain ⟨w1, w2, w3, w4, w5⟩ := v.2.2.2.2.2.2.2.2.2.2.2 i (by omega)
      have n84 : ∀ k, k < 154 → N 84 k = nI (a k) := fun k hk => by rw [h1 84 (by decide) (by decide)]; exact hM k hk
      have hR := ih (i + 1) (by omega) (g_ms (g_ms N 90 (upd (N 90) (8 * a (56 + 3 * i) + a (57 + 3 * i)) (nI (a (58 + 3 * i))))) 90 (upd ((g_ms N 90 (upd (N 90) (8 * a (56 + 3 * i) + a (57 + 3 * i)) (nI (a (58 + 3 * i))))) 90) (8 * a (57 + 3 * i) + a (56 + 3 * i)) (nI (a (58 + 3 * i))))) (.int (nI (a (56 + 3 * i)))) (.int (nI (a (57 + 3 * i)))) u4 (fun c c1 c2 => by rw [g_ms_n c2, g_ms_n c2]; exact h1 c c1 c2) (fun x y hx hy => by
        rw [g_ms_s, g_ms_s]
        unfold upd
        have hd : drF a (i + 1) x y = if x = y then 0 else if (a (56 + 3 * i) = x ∧ a (57 + 3 * i) = y) ∨ (a (56 + 3 * i) = y ∧ a (57 + 3 * i) = x) then a (58 + 3 * i) else drF a i x y := by
          unfold drF
          rw [wyF]
          by_cases z1 : x = y
          · rw [if_pos z1, if_pos z1]
          · rw [if_neg z1, if_neg z1, if_neg z1]
            split
            · rw [if_neg (by omega)]
            · rfl
        rw [hd]
        by_cases z : 8 * x + y = 8 * a (57 + 3 * i) + a (56 + 3 * i)
        · rw [if_pos z, if_neg (by omega), if_pos (by omega)]
        · rw [if_neg z]
          by_cases z2 : 8 * x + y = 8 * a (56 + 3 * i) + a (57 + 3 * i)
          · rw [if_pos z2, if_neg (by omega), if_pos (by omega)]
          · rw [if_neg z2, h2 x y hx hy]
            by_cases z1 : x = y
            · rw [if_pos z1]; unfold drF; rw [if_pos z1]
            · rw [if_neg z1, if_neg (by omega)])
      rw [nI_succ] at hR
      refine g_go_ 100 ⟨1, rfl, by decide, ?_⟩
      rw [n84 1 (by decide)]
      refine b_ge rfl rfl (by omega) (by omega) (fun z => by omega) (fun _ => ⟨56 + 3 * i, ia rfl (im rfl rfl), by omega, 57 + 3 * i, by rw [show 57 + 3 * i = 56 + 3 * i + 1 by omega]; exact ia (ia rfl (im rfl rfl)) rfl, by omega, ?_⟩)
      rw [n84 _ (by omega), n84 _ (by omega)]
      refine ⟨58 + 3 * i, by rw [show 58 + 3 * i = 56 + 3 * i + 2 by omega]; exact ia (ia rfl (im rfl rfl)) rfl, by omega, ?_⟩
      rw [n84 _ (by omega)]
      refine ⟨8 * a (56 + 3 * i) + a (57 + 3 * i), ia (im rfl rfl) rfl, by omega, 58 + 3 * i, by rw [show 58 + 3 * i = 56 + 3 * i + 2 by omega]; exact ia (ia rfl (im rfl rfl)) rfl, by omega, ?_⟩
      rw [g_ms_n (by decide : (84 : Nat) ≠ 90), n84 _ (by omega)]
      exact ⟨8 * a (57 + 3 * i) + a (56 + 3 * i), ia (im rfl rfl) rfl, by omega, g_to hR _ rfl⟩
  -- none, and 0 from a place to itself
  have l1 : ∀ m x, x + m = 8 → ∀ N u2, (∀ c, c ≠ 90 → N c = M c) → (∀ x' y, x' < x → y < 8 → N 90 (8 * x' + y) = nI (drF a 0 x' y)) → g_Run (g_cal e) (g_mt S0 k_X10_findFar) Q 2 [.ref 82, .int (nI x), u2, .null, .null] [] N := by
    intro m
    induction m with
    | zero =>
      intro x hx N u2 h1 h2
      have hR := l2 (a 1) 0 (by omega) N u2 .null .null (fun c _ c2 => h1 c c2) (fun x' y hx' hy => h2 x' y (by omega) hy)
      exact g_go_ 20 (b_ge rfl (show (8 : Int32) = nI 8 from rfl) (by omega) (by decide) (fun _ => g_to hR _ rfl) (fun z => by omega))
    | succ m ih =>
      intro x hx
      have ly : ∀ m3 y, y + m3 = 8 → ∀ N, (∀ c, c ≠ 90 → N c = M c) → (∀ x' y', x' < 8 → y' < 8 → (x' < x ∨ (x' = x ∧ y' < y)) → N 90 (8 * x' + y') = nI (drF a 0 x' y')) → g_Run (g_cal e) (g_mt S0 k_X10_findFar) Q 10 [.ref 82, .int (nI x), .int (nI y), .null, .null] [] N := by
        intro m3
        induction m3 with
        | zero =>
          intro y hy N h1 h2
          have hR := ih (x + 1) (by omega) N (.int (nI y)) h1 (fun x' y' hx' hy' => h2 x' y' (by omega) hy' (by omega))
          rw [nI_succ] at hR
          exact g_go_ 20 (b_ge rfl (show (8 : Int32) = nI 8 from rfl) (by omega) (by decide) (fun _ => g_to hR _ rfl) (fun z => by omega))
        | succ m3 ih3 =>
          intro y hy N h1 h2
          have hR : ∀ w, w = nI (drF a 0 x y) → g_Run (g_cal e) (g_mt S0 k_X10_findFar) Q 10 [.ref 82, .int (nI x), .int (nI y + 1), .null, .null] [] (g_ms N 90 (upd (N 90) (8 * x + y) w)) := by
            intro w hw
            rw [← nI_succ]
            refine ih3 (y + 1) (by omega) _ (fun c c1 => by rw [g_ms_n c1]; exact h1 c c1) (fun x' y' hx' hy' hxy => ?_)
            rw [g_ms_s]
            unfold upd
            by_cases z : 8 * x' + y' = 8 * x + y
            · have z1 : x' = x := by omega
              have z2 : y' = y := by omega
              subst z1; subst z2
              rw [if_pos rfl, hw]
            · rw [if_neg z]; exact h2 x' y' hx' hy' (by omega)
          refine g_go_ 40 (b_ge rfl (show (8 : Int32) = nI 8 from rfl) (by omega) (by decide) (fun z => by omega) (fun _ => ?_))
          refine b_ne rfl rfl (by omega) (by omega) (fun z => ⟨8 * x + y, ia (im rfl rfl) rfl, by omega, ?_⟩) (fun z => ⟨8 * x + y, ia (im rfl rfl) rfl, by omega, ?_⟩)
          · exact g_to (hR 100000 (by unfold drF; rw [if_neg z]; rfl)) _ rfl
          · exact g_to (hR 0 (by unfold drF; rw [if_pos z]; rfl)) _ rfl
      intro N u2 h1 h2
      have hR := ly 8 0 (by omega) N h1 (fun x' y' hx' hy' hxy => h2 x' y' (by omega) hy')
      exact g_go_ 20 (b_ge rfl (show (8 : Int32) = nI 8 from rfl) (by omega) (by decide) (fun z => by omega) (fun _ => g_to hR _ rfl))
  exact g_to (l1 8 0 (by omega) M .null (fun _ _ => rfl) (fun x' y hx' _ => by omega)) _ rfl
