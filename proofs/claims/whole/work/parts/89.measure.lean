/-! ===== garden: the component measures ===== -/
theorem n_mx {a b : Nat} (ha : a < 2 ^ 31) (hb : b < 2 ^ 31) : (if nI a < nI b then nI b else nI a) = nI (max a b) := by
  by_cases h : a < b
  · rw [if_pos ((nI_ltI ha hb).mpr h), Nat.max_eq_right (by omega)]
  · rw [if_neg (fun z => h ((nI_ltI ha hb).mp z)), Nat.max_eq_left (by omega)]
def FWx (N : g_M) (b : Nat → Nat) (k x y : Nat) : Prop := ∀ x' y', x' < 8 → y' < 8 → N 54 (x' * 8 + y') = cD (if x' < x ∨ (x' = x ∧ y' < y) then fw b (k + 1) x' y' else fw b k x' y')
theorem fw_k1 (b : Nat → Nat) (k x : Nat) : fw b (k + 1) x k = fw b k x k := by show fwS (fw b k) k x k = _; unfold fwS; rw [fw_xx b k k, if_neg (by omega)]
theorem fw_k2 (b : Nat → Nat) (k y : Nat) : fw b (k + 1) k y = fw b k k y := by show fwS (fw b k) k k y = _; unfold fwS; rw [fw_xx b k k, if_neg (by omega)]
def F54 (M N : g_M) : Prop := ∀ c, c ≠ 54 → N c = M c
theorem x_shorten {d k x : Nat} {M : g_M} {Q : g_R} {b : Nat → Nat} (hd : 1 ≤ d) (v : V1 b) (hk : k < 8) (hx : x < 8) (hf : FWx M b k x 0) (h : ∀ N, F54 M N → FWx N b k (x + 1) 0 → Q none N) : g_cal d k_X1_shortenFrom [.ref 45, .int (nI x), .int (nI k)] M Q := by
  have r1 : ∀ N y, FWx N b k x y → N 54 (x * 8 + k) = cD (fw b k x k) := fun N y hN => by
    rw [hN x k hx hk]
    split
    · rw [fw_k1]
    · rfl
  have r2 : ∀ N y', FWx N b k x y' → ∀ y, y < 8 → N 54 (k * 8 + y) = cD (fw b k k y) := fun N y' hN y hy => by
    rw [hN k y hk hy]
    split
    · rw [fw_k2]
    · rfl
  have hv : ∀ y, fw b (k + 1) x y = if fw b k x k + fw b k k y < fw b k x y then fw b k x k + fw b k k y else fw b k x y := fun _ => rfl
  have l1 := fw_le v x k k
  have hp : 2 ^ k ≤ 2 ^ 7 := Nat.pow_le_pow_right (by decide) (by omega)
  have p7 : (2 : Nat) ^ 7 = 128 := by decide
  refine g_m hd 12 (fun e he => ⟨x * 8 + k, ia (im rfl rfl) rfl, by omega, ?_⟩)
  rw [r1 M 0 hf]
  by_cases c : fw b k x k < 100000
  · rw [cD_in c]
    have q1 := fw_fin v k x k c
    refine b_nt (n_ne9 (by omega)) ?_
    have loop : ∀ m y N u5 u6, y + m = 8 → F54 M N → FWx N b k x y → g_Run (g_cal e) (g_mt S0 k_X1_shortenFrom) Q 22 [.ref 45, .int (nI x), .int (nI k), .int (nI (fw b k x k)), .int (nI y), u5, u6] [] N := by
      intro m
      induction m with
      | zero =>
        intro y N u5 u6 hy f1 f2
        exact g_go_ 20 (b_ge (b := 8) rfl rfl (by omega) (by decide) (fun _ => h N f1 (fun x' y' h1 h2 => by
          rw [f2 x' y' h1 h2]
          by_cases z : x' < x + 1
          · rw [if_pos (by omega), if_pos (by omega)]
          · rw [if_neg (by omega), if_neg (by omega)])) (fun z => by omega))
      | succ m ih =>
        intro y N u5 u6 hy f1 f2
        have hy8 : y < 8 := by omega
        have l2 := fw_le v k y k
        have l3 := fw_le v x y k
        have e2 := r2 N y f2 y hy8
        have e3 : N 54 (x * 8 + y) = cD (fw b k x y) := by rw [f2 x y hx hy8, if_neg (by omega)]
        have keep : fw b (k + 1) x y = fw b k x y → ∀ x5 x6, g_Run (g_cal e) (g_mt S0 k_X1_shortenFrom) Q 96 [.ref 45, .int (nI x), .int (nI k), .int (nI (fw b k x k)), .int (nI y), .int x5, .int x6] [] N := by
          intro hw x5 x6
          have hR := ih (y + 1) N (.int x5) (.int x6) (by omega) f1 (fun x' y' h1 h2 => by
            rw [f2 x' y' h1 h2]
            by_cases z : x' = x ∧ y' = y
            · obtain ⟨rfl, rfl⟩ := z
              rw [if_neg (by omega), if_pos (by omega), hw]
            · by_cases z2 : x' < x ∨ (x' = x ∧ y' < y)
              · rw [if_pos z2, if_pos (by omega)]
              · rw [if_neg z2, if_neg (by omega)])
          rw [nI_succ] at hR
          exact g_go_ 3 (g_to hR _ rfl)
        refine g_go_ 60 (b_ge (b := 8) rfl rfl (by omega) (by decide) (fun z => by omega) (fun _ => ⟨k * 8 + y, ia (im rfl rfl) rfl, by omega, x * 8 + y, ia (im rfl rfl) rfl, by omega, ?_⟩))
        rw [e2, e3]
        by_cases c2 : fw b k k y < 100000
        · rw [cD_in c2]
          have q2 := fw_fin v k k y c2
          refine b_f (n_ne9 (by omega)) ?_
          have put : fw b k x k + fw b k k y < fw b k x y → ∀ x6, g_Run (g_cal e) (g_mt S0 k_X1_shortenFrom) Q 80 [.ref 45, .int (nI x), .int (nI k), .int (nI (fw b k x k)), .int (nI y), .int (nI (fw b k k y)), .int x6] [] N := by
            intro hlt x6
            obtain ⟨N2, hN2⟩ : ∃ N2, N2 = g_ms N 54 (upd (N 54) (x * 8 + y) (nI (fw b k x k) + nI (fw b k k y))) := ⟨_, rfl⟩
            have hR := ih (y + 1) N2 (.int (nI (fw b k k y))) (.int x6) (by omega) (fun c hc => by rw [hN2, g_ms_n hc]; exact f1 c hc) (fun x' y' h1 h2 => by
              rw [hN2, g_ms_s, upd]
              by_cases z : x' * 8 + y' = x * 8 + y
              · have z1 : x' = x := by omega
                have z2 : y' = y := by omega
                subst z1; subst z2
                rw [if_pos rfl, if_pos (by omega), hv, if_pos hlt, cD_in (by omega), nI_add]
              · rw [if_neg z, f2 x' y' h1 h2]
                by_cases z2 : x' < x ∨ (x' = x ∧ y' < y)
                · rw [if_pos z2, if_pos (by omega)]
                · rw [if_neg z2, if_neg (by omega)])
            rw [hN2, nI_succ] at hR
            exact g_go_ 20 ⟨x * 8 + y, ia (im rfl rfl) rfl, by omega, g_to hR _ rfl⟩
          by_cases c3 : fw b k x y < 100000
          · rw [cD_in c3]
            refine b_f (n_ne9 (by omega)) (b_ge (ia rfl rfl) rfl (by omega) (by omega) (fun z => g_to (keep (by rw [hv, if_neg (by omega)]) _ _) _ rfl) (fun z => g_to (put z _) _ rfl))
          · rw [cD_no c3]
            exact b_t rfl (g_to (put (by omega) _) _ rfl)
        · rw [cD_no c2]
          exact b_t rfl (g_to (keep (by rw [hv, if_neg (by omega)]) _ _) _ rfl)
    have hR := loop 8 0 M .null .null (by omega) (fun _ _ => rfl) hf
    have r19 : g_Run (g_cal e) (g_mt S0 k_X1_shortenFrom) Q 19 [.ref 45, .int (nI x), .int (nI k), .int (nI (fw b k x k)), .null, .null, .null] [] M := g_go_ 3 (g_to hR _ rfl)
    exact g_to r19 _ rfl
  · rw [cD_no c]
    refine b_nf rfl (g_stop_ (g_go_ 2 (h M (fun _ _ => rfl) (fun x' y' h1 h2 => ?_))))
    rw [hf x' y' h1 h2]
    have l3 := fw_le v x' y' k
    by_cases z : x' = x
    · subst z
      rw [if_neg (by omega), if_pos (by omega), hv, if_neg (by omega)]
    · by_cases z2 : x' < x
      · rw [if_pos (by omega), if_pos (by omega)]
      · rw [if_neg (by omega), if_neg (by omega)]
theorem x_measWays {d : Nat} {M : g_M} {Q : g_R} {b : Nat → Nat} (hd : 2 ≤ d) (v : V1 b) (hw : ∀ x y, x < 8 → y < 8 → M 53 (x * 8 + y) = nI (wy b x y)) (h : ∀ N, F54 M N → (∀ x y, x < 8 → y < 8 → N 54 (x * 8 + y) = cD (ds b x y)) → Q none N) : g_cal d k_X1_measureWays [.ref 45] M Q := by
  refine g_m (by omega) 3 (fun e he => ?_)
  have R72 : ∀ m k N u2 u3, k + m = 8 → F54 M N → (∀ x y, x < 8 → y < 8 → N 54 (x * 8 + y) = cD (fw b k x y)) → g_Run (g_cal e) (g_mt S0 k_X1_measureWays) Q 72 [.ref 45, .int (nI k), .int u2, .int u3] [] N := by
    intro m
    induction m with
    | zero =>
      intro k N u2 u3 hk f1 f2
      have ek : k = 8 := by omega
      subst ek
      exact g_go_ 20 (b_ge (b := 8) rfl rfl (by omega) (by decide) (fun _ => h N f1 f2) (fun z => by omega))
    | succ m ih =>
      intro k N u2 u3 hk f1 f2
      have R80 : ∀ q x N, x + q = 8 → F54 M N → FWx N b k x 0 → g_Run (g_cal e) (g_mt S0 k_X1_measureWays) Q 80 [.ref 45, .int (nI k), .int (nI x), .int u3] [] N := by
        intro q
        induction q with
        | zero =>
          intro x N hx g1 g2
          have ex : x = 8 := by omega
          subst ex
          have hR := ih (k + 1) N (nI 8) u3 (by omega) g1 (fun x y h1 h2 => by rw [g2 x y h1 h2, if_pos (by omega)])
          rw [nI_succ] at hR
          exact g_go_ 20 (b_ge (b := 8) rfl rfl (by omega) (by decide) (fun _ => g_to hR _ rfl) (fun z => by omega))
        | succ q ih2 =>
          intro x N hx g1 g2
          refine g_go_ 20 (b_ge (b := 8) rfl rfl (by omega) (by decide) (fun z => by omega) (fun _ => x_shorten (by omega) v (by omega) (by omega) g2 (fun N2 k1 k2 => ?_)))
          have hR := ih2 (x + 1) N2 (by omega) (fun c hc => (k1 c hc).trans (g1 c hc)) k2
          rw [nI_succ] at hR
          exact g_to hR _ rfl
      have hR := R80 8 0 N (by omega) f1 (fun x y h1 h2 => by rw [f2 x y h1 h2, if_neg (by omega)])
      exact g_go_ 20 (b_ge (b := 8) rfl rfl (by omega) (by decide) (fun z => by omega) (fun _ => g_to hR _ rfl))
  have R2 : ∀ m x N u2 u3, x + m = 8 → F54 M N → (∀ x' y', x' < x → y' < 8 → N 54 (x' * 8 + y') = cD (dr b x' y')) → (u2 = .null ∨ ∃ w, u2 = .int w) → (u3 = .null ∨ ∃ w, u3 = .int w) → (x = 8 → ∃ w1 w2, u2 = .int w1 ∧ u3 = .int w2) → g_Run (g_cal e) (g_mt S0 k_X1_measureWays) Q 2 [.ref 45, .int (nI x), u2, u3] [] N := by
    intro m
    induction m with
    | zero =>
      intro x N u2 u3 hx f1 f2 w2 w3 w8
      have ex : x = 8 := by omega
      subst ex
      obtain ⟨z1, z2, rfl, rfl⟩ := w8 rfl
      have hR := R72 8 0 N z1 z2 (by omega) f1 (fun x y h1 h2 => f2 x y h1 h2)
      exact g_go_ 20 (b_ge (b := 8) rfl rfl (by omega) (by decide) (fun _ => g_to hR _ rfl) (fun z => by omega))
    | succ m ih =>
      intro x N u2 u3 hx f1 f2 w2 w3 w8
      have R10 : ∀ q y N u3, y + q = 8 → F54 M N → (∀ x' y', x' < 8 → y' < 8 → (x' < x ∨ (x' = x ∧ y' < y)) → N 54 (x' * 8 + y') = cD (dr b x' y')) → (y = 8 → ∃ w, u3 = .int w) → g_Run (g_cal e) (g_mt S0 k_X1_measureWays) Q 10 [.ref 45, .int (nI x), .int (nI y), u3] [] N := by
        intro q
        induction q with
        | zero =>
          intro y N u3 hy g1 g2 w8
          have ey : y = 8 := by omega
          subst ey
          obtain ⟨w, rfl⟩ := w8 rfl
          have hR := ih (x + 1) N (.int (nI 8)) (.int w) (by omega) g1 (fun x' y' h1 h2 => g2 x' y' (by omega) h2 (by omega)) (Or.inr ⟨_, rfl⟩) (Or.inr ⟨_, rfl⟩) (fun _ => ⟨_, _, rfl, rfl⟩)
          rw [nI_succ] at hR
          exact g_go_ 20 (b_ge (b := 8) rfl rfl (by omega) (by decide) (fun _ => g_to hR _ rfl) (fun z => by omega))
        | succ q ih2 =>
          intro y N u3 hy g1 g2 w8
          have wl := wy_le v x y
          have e53 : N 53 (x * 8 + y) = nI (wy b x y) := by rw [g1 53 (by decide)]; exact hw x y (by omega) (by omega)
          have put : ∀ w : Int32, w = cD (dr b x y) → g_Run (g_cal e) (g_mt S0 k_X1_measureWays) Q 58 [.ref 45, .int (nI x), .int (nI y), .int (nI (wy b x y))] [] (g_ms N 54 (upd (N 54) (x * 8 + y) w)) := by
            intro w hw2
            have hR := ih2 (y + 1) (g_ms N 54 (upd (N 54) (x * 8 + y) w)) (.int (nI (wy b x y))) (by omega) (fun c hc => by rw [g_ms_n hc]; exact g1 c hc) (fun x' y' h1 h2 h3 => by
              rw [g_ms_s, upd]
              by_cases z : x' * 8 + y' = x * 8 + y
              · have z1 : x' = x := by omega
                have z2 : y' = y := by omega
                subst z1; subst z2
                rw [if_pos rfl, hw2]
              · rw [if_neg z]; exact g2 x' y' h1 h2 (by omega)) (fun _ => ⟨_, rfl⟩)
            rw [nI_succ] at hR
            exact g_go_ 3 (g_to hR _ rfl)
          refine g_go_ 60 (b_ge (b := 8) rfl rfl (by omega) (by decide) (fun z => by omega) (fun _ => ⟨x * 8 + y, ia (im rfl rfl) rfl, by omega, ?_⟩))
          rw [e53]
          refine b_ne rfl rfl (by omega) (by omega) (fun z => ?_) (fun z => ⟨x * 8 + y, ia (im rfl rfl) rfl, by omega, ?_⟩)
          · refine b_le (b := 0) rfl rfl (by omega) (by decide) (fun z2 => ⟨x * 8 + y, ia (im rfl rfl) rfl, by omega, ?_⟩) (fun z2 => ⟨x * 8 + y, ia (im rfl rfl) rfl, by omega, ?_⟩)
            · exact g_to (put (-9) (by unfold dr; rw [if_neg z, if_pos (by omega)]; decide)) _ rfl
            · exact g_to (put (nI (wy b x y)) (by unfold dr; rw [if_neg z, if_neg (by omega), cD_in (by omega)])) _ rfl
          · exact g_to (put 0 (by unfold dr; rw [if_pos z]; decide)) _ rfl
      have hR := R10 8 0 N u3 (by omega) f1 (fun x' y' h1 h2 h3 => f2 x' y' (by omega) h2) (fun z => by omega)
      exact g_go_ 20 (b_ge (b := 8) rfl rfl (by omega) (by decide) (fun z => by omega) (fun _ => g_to hR _ rfl))
  exact g_to (R2 8 0 M .null .null (by omega) (fun _ _ => rfl) (fun x' y' h1 => by omega) (Or.inl rfl) (Or.inl rfl) (fun z => by omega)) _ rfl
def F556 (M N : g_M) : Prop := ∀ c, c ≠ 55 → c ≠ 56 → N c = M c
def RR (N : g_M) (b : Nat → Nat) (h p : Nat) : Prop := N 55 (h * 8 + p) = (if ds b p 0 < 100000 then nI (pcd b h p) else -9) ∧ N 56 (h * 8 + p) = (if ds b p 0 < 100000 then nI (rno b h p) else -9)
theorem x_measRuns {d i : Nat} {M : g_M} {Q : g_R} {b : Nat → Nat} (hd : 1 ≤ d) (v : V1 b) (hi : i < b 2) (g1 : GX1 M 45 b) (hf : ∀ x y, x < 8 → y < 8 → M 54 (x * 8 + y) = cD (ds b x y)) (h : ∀ N, F556 M N → (∀ h' p, h' < 8 → p < 8 → h' ≠ i → N 55 (h' * 8 + p) = M 55 (h' * 8 + p) ∧ N 56 (h' * 8 + p) = M 56 (h' * 8 + p)) → (∀ p, p < b 0 → RR N b i p) → Q none N) : g_cal d k_X1_measureRuns [.ref 45, .int (nI i)] M Q := by
  have b0 : b 0 ≤ 8 := v.2.1
  have v4 : b 2 ≤ 8 := v.2.2.2.1
  have vh := v.2.2.2.2.2.2.2.2.2.2.1 i hi
  have ep := (g1.2.2.2.2.1 i hi).2
  refine g_m hd 3 (fun e he => ?_)
  have loop : ∀ m p N u3 u4 u5, p + m = b 0 → F556 M N → (∀ h' p, h' < 8 → p < 8 → h' ≠ i → N 55 (h' * 8 + p) = M 55 (h' * 8 + p) ∧ N 56 (h' * 8 + p) = M 56 (h' * 8 + p)) → (∀ p', p' < p → RR N b i p') → (u3 = .null ∨ ∃ w, u3 = .int w) → (u4 = .null ∨ ∃ w, u4 = .int w) → g_Run (g_cal e) (g_mt S0 k_X1_measureRuns) Q 2 [.ref 45, .int (nI i), .int (nI p), u3, u4, u5] [] N := by
    intro m
    induction m with
    | zero =>
      intro p N u3 u4 u5 hp f1 f2 f3 w3 w4
      have e : p = b 0 := by omega
      subst e
      exact g_go_ 20 (b_ge rfl (by rw [f1 45 (by decide) (by decide)]; exact g1.1) (by omega) (by omega) (fun _ => h N f1 f2 f3) (fun z => by omega))
    | succ m ih =>
      intro p N u3 u4 u5 hp f1 f2 f3 w3 w4
      have pb : p < b 0 := by omega
      have ek := (g1.2.2.2.1 p pb).1
      have bk := (v.2.2.2.2.2.1 p pb).1
      have e54 : N 54 (p * 8 + 0) = cD (ds b p 0) := by rw [f1 54 (by decide) (by decide)]; exact hf p 0 (by omega) (by decide)
      have e46 : N 46 p = nI (b (16 + 5 * p)) := by rw [f1 46 (by decide) (by decide)]; exact ek
      have e52 : N 52 i = nI (b (99 + 2 * i)) := by rw [f1 52 (by decide) (by decide)]; exact ep
      have put : ∀ x3 x4 x5 w1 w2 : Int32, w1 = (if ds b p 0 < 100000 then nI (pcd b i p) else -9) → w2 = (if ds b p 0 < 100000 then nI (rno b i p) else -9) → g_Run (g_cal e) (g_mt S0 k_X1_measureRuns) Q 110 [.ref 45, .int (nI i), .int (nI p), .int x3, .int x4, .int x5] [] (g_ms (g_ms N 55 (upd (N 55) (i * 8 + p) w1)) 56 (upd (N 56) (i * 8 + p) w2)) := by
        intro x3 x4 x5 w1 w2 hw1 hw2
        obtain ⟨N2, hN2⟩ : ∃ N2, N2 = g_ms (g_ms N 55 (upd (N 55) (i * 8 + p) w1)) 56 (upd (N 56) (i * 8 + p) w2) := ⟨_, rfl⟩
        have s5 : N2 55 = upd (N 55) (i * 8 + p) w1 := by rw [hN2, g_ms_n (by decide), g_ms_s]
        have s6 : N2 56 = upd (N 56) (i * 8 + p) w2 := by rw [hN2, g_ms_s]
        have hR := ih (p + 1) N2 (.int x3) (.int x4) (.int x5) (by omega) (fun c c1 c2 => by rw [hN2, g_ms_n c2, g_ms_n c1]; exact f1 c c1 c2) (fun h' p' h1 h2 h3 => by
          obtain ⟨t1, t2⟩ := f2 h' p' h1 h2 h3
          have hne : ¬ (h' * 8 + p' = i * 8 + p) := by omega
          exact ⟨by rw [s5, upd, if_neg hne]; exact t1, by rw [s6, upd, if_neg hne]; exact t2⟩) (fun p' hp' => by
          by_cases c : p' = p
          · subst c
            exact ⟨by rw [s5, upd, if_pos rfl]; exact hw1, by rw [s6, upd, if_pos rfl]; exact hw2⟩
          · obtain ⟨t1, t2⟩ := f3 p' (by omega)
            have hne : ¬ (i * 8 + p' = i * 8 + p) := by omega
            exact ⟨by rw [s5, upd, if_neg hne]; exact t1, by rw [s6, upd, if_neg hne]; exact t2⟩) (Or.inr ⟨_, rfl⟩) (Or.inr ⟨_, rfl⟩)
        rw [nI_succ] at hR
        rw [← hN2]
        exact g_go_ 3 (g_to hR _ rfl)
      have body : ∀ x3 x4 x5 : Int32, x3 = cD (ds b p 0) → x4 = (if ds b p 0 < 100000 then nI (pcd b i p) else -9) → x5 = nI (if b (16 + 5 * p) = 6 then 5 else 0) → g_Run (g_cal e) (g_mt S0 k_X1_measureRuns) Q 66 [.ref 45, .int (nI i), .int (nI p), .int x3, .int x4, .int x5] [] N := by
        intro x3 x4 x5 h3 h4 h5
        refine g_go_ 40 ⟨i * 8 + p, ia (im rfl rfl) rfl, by omega, ?_⟩
        by_cases c : ds b p 0 < 100000
        · have dl := ds_b v c
          have pc : pcd b i p ≤ 4800 := by
            unfold pcd
            exact Nat.le_trans (Nat.div_le_self _ _) (by omega)
          rw [cD_in c] at h3
          rw [if_pos c] at h4
          subst h3; subst h4; subst h5
          refine b_nt (n_ne9 (by omega)) ⟨i * 8 + p, ia (im rfl rfl) rfl, by omega, ?_⟩
          have hm : (if (1 : Int32) < nI (if b (16 + 5 * p) = 6 then 5 else 0) + nI (pcd b i p) then nI (if b (16 + 5 * p) = 6 then 5 else 0) + nI (pcd b i p) else 1) = nI (rno b i p) := by
            rw [nI_add]
            exact n_mx (a := 1) (by decide) (by split <;> omega)
          exact g_to (put _ _ _ _ _ (by rw [if_pos c]) (by rw [if_pos c]; exact hm)) _ rfl
        · rw [cD_no c] at h3
          rw [if_neg c] at h4
          subst h3; subst h4; subst h5
          refine b_nf rfl ⟨i * 8 + p, ia (im rfl rfl) rfl, by omega, ?_⟩
          exact g_to (put _ _ _ _ _ (by rw [if_neg c]) (by rw [if_neg c])) _ rfl
      have r48 : ∀ x3 x4 : Int32, x3 = cD (ds b p 0) → x4 = (if ds b p 0 < 100000 then nI (pcd b i p) else -9) → ∀ u5, g_Run (g_cal e) (g_mt S0 k_X1_measureRuns) Q 48 [.ref 45, .int (nI i), .int (nI p), .int x3, .int x4, u5] [] N := by
        intro x3 x4 h3 h4 u5
        refine g_go_ 20 ⟨p, rfl, by omega, ?_⟩
        refine b_ne (b := 6) e46 rfl (by omega) (by decide) (fun z => ?_) (fun z => ?_)
        · exact g_to (body x3 x4 0 h3 h4 (by rw [if_neg z]; rfl)) _ rfl
        · exact g_to (body x3 x4 5 h3 h4 (by rw [if_pos z]; rfl)) _ rfl
      have hend : ∀ Q2 : Prop, ((g_Run (g_cal e) (g_mt S0 k_X1_measureRuns) Q 22 [.ref 45, .int (nI i), .int (nI p), .int (cD (ds b p 0)), u4, u5] [] N) → Q2) → Q2 := fun Q2 hq2 => hq2 (by
        by_cases c : ds b p 0 < 100000
        · have dl := ds_b v c
          rw [cD_in c]
          have hdv : nI (ds b p 0) * 10 / (N 52 i + 5) = nI (pcd b i p) := by
            rw [e52]
            exact idv (a := ds b p 0 * 10) (b := b (99 + 2 * i) + 5) (by omega) (by omega) (by omega) (im rfl rfl) (ia rfl rfl)
          have hR := r48 (nI (ds b p 0)) (nI (ds b p 0) * 10 / (N 52 i + 5)) (by rw [cD_in c]) (by rw [if_pos c]; exact hdv) u5
          have nz : ¬ N 52 i + 5 = 0 := fun z => by
            rw [e52] at z
            have z2 : nI (b (99 + 2 * i) + 5) = nI 0 := (ia (a := b (99 + 2 * i)) (b := 5) rfl rfl).symm.trans z
            have := (nI_eq (by omega) (by decide)).mp z2
            omega
          rcases w4 with rfl | ⟨y4, rfl⟩
          all_goals exact g_go_ 30 (b_nt (n_ne9 (by omega)) ⟨i, rfl, by omega, nz, g_to hR _ rfl⟩)
        · rw [cD_no c]
          have hR := r48 (-9) (-9) (by rw [cD_no c]) (by rw [if_neg c]) u5
          rcases w4 with rfl | ⟨y4, rfl⟩
          all_goals exact g_go_ 30 (b_nf rfl (g_to hR _ rfl)))
      refine hend _ (fun r22 => ?_)
      rw [← e54] at r22
      rcases w3 with rfl | ⟨y3, rfl⟩
      all_goals exact g_go_ 30 (b_ge rfl (by rw [f1 45 (by decide) (by decide)]; exact g1.1) (by omega) (by omega) (fun z => by omega) (fun _ => ⟨p * 8 + 0, ia (im rfl rfl) rfl, by omega, g_to r22 _ rfl⟩))
  exact g_to (loop (b 0) 0 M .null .null .null (by omega) (fun _ _ _ => rfl) (fun h' p' _ _ _ => ⟨rfl, rfl⟩) (fun p' hp' => by omega) (Or.inl rfl) (Or.inl rfl)) _ rfl
theorem x_measure {d : Nat} {M : g_M} {Q : g_R} {b : Nat → Nat} (hd : 3 ≤ d) (v : V1 b) (g1 : GX1 M 45 b) (h : ∀ N, FD M N → GX1 N 45 b → GX2 N 45 b → Q none N) : g_cal d k_X1_measure [.ref 45] M Q := by
  have b0 : b 0 ≤ 8 := v.2.1
  have v4 : b 2 ≤ 8 := v.2.2.2.1
  refine g_m (by omega) 3 (fun e he => x_measWays (by omega) v g1.2.2.2.2.2 (fun N0 f1 f2 => ?_))
  have gN : ∀ N : g_M, (∀ c, c ≠ 54 → c ≠ 55 → c ≠ 56 → N c = M c) → GX1 N 45 b := fun N hN => by
    obtain ⟨y1, y2, y3, y4, y5, y6⟩ := g1
    have k : ∀ c, 45 ≤ c → c < 54 → N c = M c := fun c c1 c2 => hN c (by omega) (by omega) (by omega)
    refine ⟨by rw [k 45 (by omega) (by omega)]; exact y1, by rw [k 45 (by omega) (by omega)]; exact y2, by rw [k 45 (by omega) (by omega)]; exact y3, fun p hp => ?_, fun h hh => ?_, fun x y hx hy => ?_⟩
    · rw [k (45 + 1) (by omega) (by omega), k (45 + 2) (by omega) (by omega), k (45 + 3) (by omega) (by omega), k (45 + 4) (by omega) (by omega), k (45 + 5) (by omega) (by omega)]; exact y4 p hp
    · rw [k (45 + 6) (by omega) (by omega), k (45 + 7) (by omega) (by omega)]; exact y5 h hh
    · rw [k (45 + 8) (by omega) (by omega)]; exact y6 x y hx hy
  have loop : ∀ m i N, i + m = b 2 → (∀ c, c ≠ 54 → c ≠ 55 → c ≠ 56 → N c = M c) → (∀ x y, x < 8 → y < 8 → N 54 (x * 8 + y) = cD (ds b x y)) → (∀ h p, h < i → p < b 0 → RR N b h p) → g_Run (g_cal e) (g_mt S0 k_X1_measure) Q 6 [.ref 45, .int (nI i)] [] N := by
    intro m
    induction m with
    | zero =>
      intro i N hi k1 k2 k3
      have ei : i = b 2 := by omega
      subst ei
      exact g_go_ 20 (b_ge rfl (gN N k1).2.2.1 (by omega) (by omega) (fun _ => h N (fun c hc => k1 c (by omega) (by omega) (by omega)) (gN N k1) ⟨k2, k3⟩) (fun z => by omega))
    | succ m ih =>
      intro i N hi k1 k2 k3
      refine g_go_ 20 (b_ge rfl (gN N k1).2.2.1 (by omega) (by omega) (fun z => by omega) (fun _ => x_measRuns (by omega) v (by omega) (gN N k1) k2 (fun N2 q1 q2 q3 => ?_)))
      have hR := ih (i + 1) N2 (by omega) (fun c c1 c2 c3 => by rw [q1 c c2 c3]; exact k1 c c1 c2 c3) (fun x y hx hy => by rw [q1 54 (by decide) (by decide)]; exact k2 x y hx hy) (fun h p hh hp => by
        by_cases c : h = i
        · rw [c]; exact q3 p hp
        · unfold RR
          obtain ⟨e1, e2⟩ := q2 h p (by omega) (by omega) c
          rw [e1, e2]; exact k3 h p (by omega) hp)
      rw [nI_succ] at hR
      exact g_to hR _ rfl
  have hR := loop (b 2) 0 N0 (by omega) (fun c c1 c2 c3 => f1 c c1) f2 (fun h p hh => by omega)
  have r4 : g_Run (g_cal e) (g_mt S0 k_X1_measure) Q 4 [.ref 45, .null] [] N0 := g_go_ 3 (g_to hR _ rfl)
  exact g_to r4 _ rfl
