/-! ===== a garden by itself ===== -/
def SG : g_Sh := (12, fun a => match a with
  | 0 => .inr (1, [none, none, none, some 1, some 2, some 3, some 4, some 5, some 6, some 7, some 8, some 9, some 10, some 11])
  | 1 => .inl (0, 8)
  | 2 => .inl (0, 8)
  | 3 => .inl (0, 8)
  | 4 => .inl (0, 8)
  | 5 => .inl (0, 8)
  | 6 => .inl (0, 8)
  | 7 => .inl (0, 8)
  | _ => .inl (0, 64))
abbrev g_calG (d : Nat) : g_C := g_Cal (g_mt SG) g_nl d
theorem g_stopG {d k n pc : Nat} {Q : g_R} {L st : List Value} {M : g_M} (h : g_Run (g_calG d) (g_mt SG k) Q pc L st M) : g_wp (g_calG d) (g_mt SG k) Q n pc L st M := (g_wp_iff (g_Cal_mono (g_prg SG).mono d) ((g_prg SG).mono k) n pc L st M).mpr h
theorem g_goG {d k pc : Nat} {Q : g_R} {L st : List Value} {M : g_M} (n : Nat) (h : g_wp (g_calG d) (g_mt SG k) Q n pc L st M) : g_Run (g_calG d) (g_mt SG k) Q pc L st M := (g_wp_iff (g_Cal_mono (g_prg SG).mono d) ((g_prg SG).mono k) n pc L st M).mp h
theorem g_mG {d k : Nat} {as : List Value} {M : g_M} {Q : g_R} (hd : 1 ≤ d) (n : Nat) (h : ∀ e, d = e + 1 → g_ent as (g_nl k) (fun L => g_wp (g_calG e) (g_mt SG k) Q n 0 L [] M)) : g_calG d k as M Q := by
  obtain ⟨e, rfl⟩ : ∃ e, d = e + 1 := ⟨d - 1, by omega⟩
  exact g_enter (g_prg SG).mono n rfl rfl (h e rfl)
theorem g_toG {d k pc : Nat} {Q : g_R} {L st : List Value} {M : g_M} {G : Prop} (h : g_Run (g_calG d) (g_mt SG k) Q pc L st M) (n : Nat) (e : g_wp (g_calG d) (g_mt SG k) Q n pc L st M = G) : G := e ▸ g_stopG h
def FWxG (N : g_M) (b : Nat → Nat) (k x y : Nat) : Prop := ∀ x' y', x' < 8 → y' < 8 → N 9 (x' * 8 + y') = cD (if x' < x ∨ (x' = x ∧ y' < y) then fw b (k + 1) x' y' else fw b k x' y')
def F9G (M N : g_M) : Prop := ∀ c, c ≠ 9 → N c = M c
theorem x_shortenG {d k x : Nat} {M : g_M} {Q : g_R} {b : Nat → Nat} (hd : 1 ≤ d) (v : V1 b) (hk : k < 8) (hx : x < 8) (hf : FWxG M b k x 0) (h : ∀ N, F9G M N → FWxG N b k (x + 1) 0 → Q none N) : g_calG d k_X1_shortenFrom [.ref 0, .int (nI x), .int (nI k)] M Q := by
  have r1 : ∀ N y, FWxG N b k x y → N 9 (x * 8 + k) = cD (fw b k x k) := fun N y hN => by
    rw [hN x k hx hk]
    split
    · rw [fw_k1]
    · rfl
  have r2 : ∀ N y', FWxG N b k x y' → ∀ y, y < 8 → N 9 (k * 8 + y) = cD (fw b k k y) := fun N y' hN y hy => by
    rw [hN k y hk hy]
    split
    · rw [fw_k2]
    · rfl
  have hv : ∀ y, fw b (k + 1) x y = if fw b k x k + fw b k k y < fw b k x y then fw b k x k + fw b k k y else fw b k x y := fun _ => rfl
  have l1 := fw_le v x k k
  have hp : 2 ^ k ≤ 2 ^ 7 := Nat.pow_le_pow_right (by decide) (by omega)
  have p7 : (2 : Nat) ^ 7 = 128 := by decide
  refine g_mG hd 12 (fun e he => ⟨x * 8 + k, ia (im rfl rfl) rfl, by omega, ?_⟩)
  rw [r1 M 0 hf]
  by_cases c : fw b k x k < 100000
  · rw [cD_in c]
    have q1 := fw_fin v k x k c
    refine b_nt (n_ne9 (by omega)) ?_
    have loop : ∀ m y N u5 u6, y + m = 8 → F9G M N → FWxG N b k x y → g_Run (g_calG e) (g_mt SG k_X1_shortenFrom) Q 22 [.ref 0, .int (nI x), .int (nI k), .int (nI (fw b k x k)), .int (nI y), u5, u6] [] N := by
      intro m
      induction m with
      | zero =>
        intro y N u5 u6 hy f1 f2
        exact g_goG 20 (b_ge (b := 8) rfl rfl (by omega) (by decide) (fun _ => h N f1 (fun x' y' h1 h2 => by
          rw [f2 x' y' h1 h2]
          by_cases z : x' < x + 1
          · rw [if_pos (by omega), if_pos (by omega)]
          · rw [if_neg (by omega), if_neg (by omega)])) (fun z => by omega))
      | succ m ih =>
        intro y N u5 u6 hy f1 f2
        have hy8 : y < 8 := by omega
        have l2 := fw_le v k y k
        have l3 := fw_le v x y k
        have e2 := r2 N y f2 y hy8
        have e3 : N 9 (x * 8 + y) = cD (fw b k x y) := by rw [f2 x y hx hy8, if_neg (by omega)]
        have keep : fw b (k + 1) x y = fw b k x y → ∀ x5 x6, g_Run (g_calG e) (g_mt SG k_X1_shortenFrom) Q 96 [.ref 0, .int (nI x), .int (nI k), .int (nI (fw b k x k)), .int (nI y), .int x5, .int x6] [] N := by
          intro hw x5 x6
          have hR := ih (y + 1) N (.int x5) (.int x6) (by omega) f1 (fun x' y' h1 h2 => by
            rw [f2 x' y' h1 h2]
            by_cases z : x' = x ∧ y' = y
            · obtain ⟨rfl, rfl⟩ := z
              rw [if_neg (by omega), if_pos (by omega), hw]
            · by_cases z2 : x' < x ∨ (x' = x ∧ y' < y)
              · rw [if_pos z2, if_pos (by omega)]
              · rw [if_neg z2, if_neg (by omega)])
          rw [nI_succ] at hR
          exact g_goG 3 (g_toG hR _ rfl)
        refine g_goG 60 (b_ge (b := 8) rfl rfl (by omega) (by decide) (fun z => by omega) (fun _ => ⟨k * 8 + y, ia (im rfl rfl) rfl, by omega, x * 8 + y, ia (im rfl rfl) rfl, by omega, ?_⟩))
        rw [e2, e3]
        by_cases c2 : fw b k k y < 100000
        · rw [cD_in c2]
          have q2 := fw_fin v k k y c2
          refine b_f (n_ne9 (by omega)) ?_
          have put : fw b k x k + fw b k k y < fw b k x y → ∀ x6, g_Run (g_calG e) (g_mt SG k_X1_shortenFrom) Q 80 [.ref 0, .int (nI x), .int (nI k), .int (nI (fw b k x k)), .int (nI y), .int (nI (fw b k k y)), .int x6] [] N := by
            intro hlt x6
            obtain ⟨N2, hN2⟩ : ∃ N2, N2 = g_ms N 9 (upd (N 9) (x * 8 + y) (nI (fw b k x k) + nI (fw b k k y))) := ⟨_, rfl⟩
            have hR := ih (y + 1) N2 (.int (nI (fw b k k y))) (.int x6) (by omega) (fun c hc => by rw [hN2, g_ms_n hc]; exact f1 c hc) (fun x' y' h1 h2 => by
              rw [hN2, g_ms_s, upd]
              by_cases z : x' * 8 + y' = x * 8 + y
              · have z1 : x' = x := by omega
                have z2 : y' = y := by omega
                subst z1; subst z2
                rw [if_pos rfl, if_pos (by omega), hv, if_pos hlt, cD_in (by omega), nI_add]
              · rw [if_neg z, f2 x' y' h1 h2]
                by_cases z2 : x' < x ∨ (x' = x ∧ y' < y)
                · rw [if_pos z2, if_pos (by omega)]
                · rw [if_neg z2, if_neg (by omega)])
            rw [hN2, nI_succ] at hR
            exact g_goG 20 ⟨x * 8 + y, ia (im rfl rfl) rfl, by omega, g_toG hR _ rfl⟩
          by_cases c3 : fw b k x y < 100000
          · rw [cD_in c3]
            refine b_f (n_ne9 (by omega)) (b_ge (ia rfl rfl) rfl (by omega) (by omega) (fun z => g_toG (keep (by rw [hv, if_neg (by omega)]) _ _) _ rfl) (fun z => g_toG (put z _) _ rfl))
          · rw [cD_no c3]
            exact b_t rfl (g_toG (put (by omega) _) _ rfl)
        · rw [cD_no c2]
          exact b_t rfl (g_toG (keep (by rw [hv, if_neg (by omega)]) _ _) _ rfl)
    have hR := loop 8 0 M .null .null (by omega) (fun _ _ => rfl) hf
    have r19 : g_Run (g_calG e) (g_mt SG k_X1_shortenFrom) Q 19 [.ref 0, .int (nI x), .int (nI k), .int (nI (fw b k x k)), .null, .null, .null] [] M := g_goG 3 (g_toG hR _ rfl)
    exact g_toG r19 _ rfl
  · rw [cD_no c]
    refine b_nf rfl (g_stopG (g_goG 2 (h M (fun _ _ => rfl) (fun x' y' h1 h2 => ?_))))
    rw [hf x' y' h1 h2]
    have l3 := fw_le v x' y' k
    by_cases z : x' = x
    · subst z
      rw [if_neg (by omega), if_pos (by omega), hv, if_neg (by omega)]
    · by_cases z2 : x' < x
      · rw [if_pos (by omega), if_pos (by omega)]
      · rw [if_neg (by omega), if_neg (by omega)]
theorem x_measWaysG {d : Nat} {M : g_M} {Q : g_R} {b : Nat → Nat} (hd : 2 ≤ d) (v : V1 b) (hw : ∀ x y, x < 8 → y < 8 → M 8 (x * 8 + y) = nI (wy b x y)) (h : ∀ N, F9G M N → (∀ x y, x < 8 → y < 8 → N 9 (x * 8 + y) = cD (ds b x y)) → Q none N) : g_calG d k_X1_measureWays [.ref 0] M Q := by
  refine g_mG (by omega) 3 (fun e he => ?_)
  have R72 : ∀ m k N u2 u3, k + m = 8 → F9G M N → (∀ x y, x < 8 → y < 8 → N 9 (x * 8 + y) = cD (fw b k x y)) → g_Run (g_calG e) (g_mt SG k_X1_measureWays) Q 72 [.ref 0, .int (nI k), .int u2, .int u3] [] N := by
    intro m
    induction m with
    | zero =>
      intro k N u2 u3 hk f1 f2
      have ek : k = 8 := by omega
      subst ek
      exact g_goG 20 (b_ge (b := 8) rfl rfl (by omega) (by decide) (fun _ => h N f1 f2) (fun z => by omega))
    | succ m ih =>
      intro k N u2 u3 hk f1 f2
      have R80 : ∀ q x N, x + q = 8 → F9G M N → FWxG N b k x 0 → g_Run (g_calG e) (g_mt SG k_X1_measureWays) Q 80 [.ref 0, .int (nI k), .int (nI x), .int u3] [] N := by
        intro q
        induction q with
        | zero =>
          intro x N hx g1 g2
          have ex : x = 8 := by omega
          subst ex
          have hR := ih (k + 1) N (nI 8) u3 (by omega) g1 (fun x y h1 h2 => by rw [g2 x y h1 h2, if_pos (by omega)])
          rw [nI_succ] at hR
          exact g_goG 20 (b_ge (b := 8) rfl rfl (by omega) (by decide) (fun _ => g_toG hR _ rfl) (fun z => by omega))
        | succ q ih2 =>
          intro x N hx g1 g2
          refine g_goG 20 (b_ge (b := 8) rfl rfl (by omega) (by decide) (fun z => by omega) (fun _ => x_shortenG (by omega) v (by omega) (by omega) g2 (fun N2 k1 k2 => ?_)))
          have hR := ih2 (x + 1) N2 (by omega) (fun c hc => (k1 c hc).trans (g1 c hc)) k2
          rw [nI_succ] at hR
          exact g_toG hR _ rfl
      have hR := R80 8 0 N (by omega) f1 (fun x y h1 h2 => by rw [f2 x y h1 h2, if_neg (by omega)])
      exact g_goG 20 (b_ge (b := 8) rfl rfl (by omega) (by decide) (fun z => by omega) (fun _ => g_toG hR _ rfl))
  have R2 : ∀ m x N u2 u3, x + m = 8 → F9G M N → (∀ x' y', x' < x → y' < 8 → N 9 (x' * 8 + y') = cD (dr b x' y')) → (u2 = .null ∨ ∃ w, u2 = .int w) → (u3 = .null ∨ ∃ w, u3 = .int w) → (x = 8 → ∃ w1 w2, u2 = .int w1 ∧ u3 = .int w2) → g_Run (g_calG e) (g_mt SG k_X1_measureWays) Q 2 [.ref 0, .int (nI x), u2, u3] [] N := by
    intro m
    induction m with
    | zero =>
      intro x N u2 u3 hx f1 f2 w2 w3 w8
      have ex : x = 8 := by omega
      subst ex
      obtain ⟨z1, z2, rfl, rfl⟩ := w8 rfl
      have hR := R72 8 0 N z1 z2 (by omega) f1 (fun x y h1 h2 => f2 x y h1 h2)
      exact g_goG 20 (b_ge (b := 8) rfl rfl (by omega) (by decide) (fun _ => g_toG hR _ rfl) (fun z => by omega))
    | succ m ih =>
      intro x N u2 u3 hx f1 f2 w2 w3 w8
      have R10 : ∀ q y N u3, y + q = 8 → F9G M N → (∀ x' y', x' < 8 → y' < 8 → (x' < x ∨ (x' = x ∧ y' < y)) → N 9 (x' * 8 + y') = cD (dr b x' y')) → (y = 8 → ∃ w, u3 = .int w) → g_Run (g_calG e) (g_mt SG k_X1_measureWays) Q 10 [.ref 0, .int (nI x), .int (nI y), u3] [] N := by
        intro q
        induction q with
        | zero =>
          intro y N u3 hy g1 g2 w8
          have ey : y = 8 := by omega
          subst ey
          obtain ⟨w, rfl⟩ := w8 rfl
          have hR := ih (x + 1) N (.int (nI 8)) (.int w) (by omega) g1 (fun x' y' h1 h2 => g2 x' y' (by omega) h2 (by omega)) (Or.inr ⟨_, rfl⟩) (Or.inr ⟨_, rfl⟩) (fun _ => ⟨_, _, rfl, rfl⟩)
          rw [nI_succ] at hR
          exact g_goG 20 (b_ge (b := 8) rfl rfl (by omega) (by decide) (fun _ => g_toG hR _ rfl) (fun z => by omega))
        | succ q ih2 =>
          intro y N u3 hy g1 g2 w8
          have wl := wy_le v x y
          have e8 : N 8 (x * 8 + y) = nI (wy b x y) := by rw [g1 8 (by decide)]; exact hw x y (by omega) (by omega)
          have put : ∀ w : Int32, w = cD (dr b x y) → g_Run (g_calG e) (g_mt SG k_X1_measureWays) Q 58 [.ref 0, .int (nI x), .int (nI y), .int (nI (wy b x y))] [] (g_ms N 9 (upd (N 9) (x * 8 + y) w)) := by
            intro w hw2
            have hR := ih2 (y + 1) (g_ms N 9 (upd (N 9) (x * 8 + y) w)) (.int (nI (wy b x y))) (by omega) (fun c hc => by rw [g_ms_n hc]; exact g1 c hc) (fun x' y' h1 h2 h3 => by
              rw [g_ms_s, upd]
              by_cases z : x' * 8 + y' = x * 8 + y
              · have z1 : x' = x := by omega
                have z2 : y' = y := by omega
                subst z1; subst z2
                rw [if_pos rfl, hw2]
              · rw [if_neg z]; exact g2 x' y' h1 h2 (by omega)) (fun _ => ⟨_, rfl⟩)
            rw [nI_succ] at hR
            exact g_goG 3 (g_toG hR _ rfl)
          refine g_goG 60 (b_ge (b := 8) rfl rfl (by omega) (by decide) (fun z => by omega) (fun _ => ⟨x * 8 + y, ia (im rfl rfl) rfl, by omega, ?_⟩))
          rw [e8]
          refine b_ne rfl rfl (by omega) (by omega) (fun z => ?_) (fun z => ⟨x * 8 + y, ia (im rfl rfl) rfl, by omega, ?_⟩)
          · refine b_le (b := 0) rfl rfl (by omega) (by decide) (fun z2 => ⟨x * 8 + y, ia (im rfl rfl) rfl, by omega, ?_⟩) (fun z2 => ⟨x * 8 + y, ia (im rfl rfl) rfl, by omega, ?_⟩)
            · exact g_toG (put (-9) (by unfold dr; rw [if_neg z, if_pos (by omega)]; decide)) _ rfl
            · exact g_toG (put (nI (wy b x y)) (by unfold dr; rw [if_neg z, if_neg (by omega), cD_in (by omega)])) _ rfl
          · exact g_toG (put 0 (by unfold dr; rw [if_pos z]; decide)) _ rfl
      have hR := R10 8 0 N u3 (by omega) f1 (fun x' y' h1 h2 h3 => f2 x' y' (by omega) h2) (fun z => by omega)
      exact g_goG 20 (b_ge (b := 8) rfl rfl (by omega) (by decide) (fun z => by omega) (fun _ => g_toG hR _ rfl))
  exact g_toG (R2 8 0 M .null .null (by omega) (fun _ _ => rfl) (fun x' y' h1 => by omega) (Or.inl rfl) (Or.inl rfl) (fun z => by omega)) _ rfl
theorem x_measG {d : Nat} {M : g_M} {Q : g_R} {b : Nat → Nat} (hd : 3 ≤ d) (v : V1 b) (hh : M 0 2 = 0) (hw : ∀ x y, x < 8 → y < 8 → M 8 (x * 8 + y) = nI (wy b x y)) (h : ∀ N, F9G M N → (∀ x y, x < 8 → y < 8 → N 9 (x * 8 + y) = cD (ds b x y)) → Q none N) : g_calG d k_X1_measure [.ref 0] M Q := by
  refine g_mG (by omega) 3 (fun e he => x_measWaysG (by omega) v hw (fun N0 f1 f2 => ?_))
  have r4 : g_Run (g_calG e) (g_mt SG k_X1_measure) Q 4 [.ref 0, .null] [] N0 := g_goG 20 (b_ge (a := 0) (b := 0) rfl (by rw [f1 0 (by decide)]; exact hh) (by decide) (by decide) (fun _ => h N0 f1 f2) (fun z => by omega))
  exact g_toG r4 _ rfl
