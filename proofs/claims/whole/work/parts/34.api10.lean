/-! ===== summer, odds ===== -/
def smr (a : Nat → Nat) (p w : Nat) : Nat := g_it (fun i s => s + cvA a p 0 1 (min 99 (a (19 + 5 * p) + i))) w 0 0
theorem p_summer {d n : Nat} {M : g_M} {p w : Int32} (hd : 6 ≤ d) (I : Inv n M) : g_pair d k_X9_summer k_X10_summer [.int p, .int w] M (Inv (n + 1)) := by
  have I0 := I
  obtain ⟨a, ⟨v, v2, -⟩, ⟨g1, -, ⟨t1, t2, t3⟩, -⟩, hM, -⟩ := I
  have g0 := g1
  obtain ⟨x1, -, -, x4, -⟩ := g1
  have m0 := hM 0 (by decide)
  have b0 : a 0 ≤ 8 := v.2.1
  refine g_m (by omega) 60 (fun e he => ?_)
  refine x_isHid (by omega) ?_
  rw [x1]
  have bad : ∀ (c : Int32) (j : Nat), -c = nI j → j < 7 → c ≠ 0 → ((inP p (nI (a 0)) = false ∧ c = -1) ∨ (inP p (nI (a 0)) = true ∧ c = wth w 1 30)) → g_cal d k_X10_summer [.ref 82, .int p, .int w] (g_ms M 81 (upd (M 81) j (M 81 j + 1))) (fun v2 M2 => v2 = some (.int c) ∧ Inv (n + 1) M2) := by
    intro c j hc hj hc0 hcs
    refine g_m (by omega) 60 (fun e he => ?_)
    refine m_isRoom (by omega) ?_
    rw [g_ms_n (by decide : (84 : Nat) ≠ 81), m0]
    have fin : g_Run (g_cal e) (g_mt S0 k_X10_summer) (fun v2 M2 => v2 = some (.int c) ∧ Inv (n + 1) M2) 19 [.ref 82, .int p, .int w, .null, .null, .null] [.int c] (g_ms M 81 (upd (M 81) j (M 81 j + 1))) := g_go_ 20 (b_f hc0 (m_refuse (by omega) j hc hj (e_ref I0 hj)))
    rcases hcs with ⟨h1, rfl⟩ | ⟨h1, rfl⟩
    · rw [h1]
      exact b_t rfl (g_to fin _ rfl)
    · rw [h1]
      exact b_f (by decide) (m_within (by omega) (g_to fin _ rfl))
  rcases inP_cases p (show a 0 < 2 ^ 31 by omega) with hp | ⟨j, hj0, hj, rfl, hp⟩
  · rw [hp]
    exact b_nf rfl (x_refuse (by omega) 1 (by decide) (by decide) ⟨_, rfl, bad _ _ (by decide) (by decide) (by decide) (Or.inl ⟨hp, rfl⟩)⟩)
  · rw [hp]
    refine b_nt (by decide) ⟨fun hw => ⟨fun hw2 => ?_, fun hw2 => ?_⟩, fun hw => ?_⟩
    · obtain ⟨m, hm, rfl⟩ := nI_of2 (M := 30) (n := 30) (by decide) (x := w) (by
        intro z
        rw [Int32.lt_iff_toInt_lt] at z
        rw [Int32.le_iff_toInt_le] at hw
        have z1 : (1 : Int32).toInt = 1 := by decide
        have z2 : (0 : Int32).toInt = 0 := by decide
        omega) hw2
      have bT := (v.2.2.2.2.2.1 j hj).2.2.2.1
      have hc : ∀ i, cvA a j 0 1 (min 99 (a (19 + 5 * j) + i)) ≤ 99 := fun i => cv_le (v.2.2.2.2.2.1 j hj).2.2.1
      have md : g_cal d k_X10_summer [.ref 82, .int (nI j), .int (nI m)] M (fun v2 M2 => v2 = some (.int (nI (smr a j m))) ∧ Inv (n + 1) M2) := by
        refine g_m (by omega) 60 (fun e he => ?_)
        refine m_isRoom (by omega) ?_
        rw [m0, hp]
        refine b_f (by decide) (m_within (by omega) ?_)
        have hz : wth (nI m) 1 30 = 0 := by unfold wth; rw [if_neg (Int32.not_lt.mpr hw), if_neg (Int32.not_lt.mpr hw2)]
        rw [hz]
        refine b_t rfl ?_
        have key : g_Run (g_cal e) (g_mt S0 k_X10_summer) (fun v2 M2 => v2 = some (.int (nI (smr a j m))) ∧ Inv (n + 1) M2) 36 [.ref 82, .int (nI j), .int (nI m), .int 0, .int (nI 0), .int (nI 0)] [] M := by
          refine g_loop (fun i s => g_Run (g_cal e) (g_mt S0 k_X10_summer) (fun v2 M2 => v2 = some (.int (nI (smr a j m))) ∧ Inv (n + 1) M2) 36 [.ref 82, .int (nI j), .int (nI m), .int 0, .int (nI s), .int (nI i)] [] M) (fun _ _ => True) (fun i s => s + cvA a j 0 1 (min 99 (a (19 + 5 * j) + i))) m ?_ (fun _ _ _ _ => trivial) m 0 0 (by omega) trivial (fun _ => ?_)
          · intro i s hi _ hR
            have hR' : g_Run (g_cal e) (g_mt S0 k_X10_summer) (fun v2 M2 => v2 = some (.int (nI (smr a j m))) ∧ Inv (n + 1) M2) 36 [.ref 82, .int (nI j), .int (nI m), .int 0, .int (nI s + nI (cvA a j 0 1 (min 99 (a (19 + 5 * j) + i)))), .int (nI i + 1)] [] M := by
              rw [nI_add, ← nI_succ]; exact hR
            refine g_go_ 40 (b_ge rfl rfl (by omega) (by omega) (fun z => by omega) (fun _ => m_get (by omega) j 3 rfl rfl (by omega) (by decide) ?_))
            rw [hM _ (by omega), show 16 + 5 * j + 3 = 19 + 5 * j by omega]
            refine b_le (ia rfl rfl) (show (99 : Int32) = nI 99 from rfl) (by omega) (by decide) (fun z => m_get (by omega) j 3 rfl rfl (by omega) (by decide) ?_) (fun z => ?_)
            · rw [hM _ (by omega), show 16 + 5 * j + 3 = 19 + 5 * j by omega]
              show g_cal e k_X10_coverOf [.ref 82, .int (nI j), .int 0, .int 1, .int (nI (a (19 + 5 * j)) + nI i)] M _
              rw [nI_add]
              rw [Nat.min_eq_right z] at hR'
              exact mc_coverOf (by omega) v v2 hM j 0 1 (a (19 + 5 * j) + i) hj (by omega) (by omega) z (g_to hR' _ rfl)
            · rw [Nat.min_eq_left (by omega)] at hR'
              exact mc_coverOf (by omega) v v2 hM j 0 1 99 hj (by omega) (by omega) (by decide) (g_to hR' _ rfl)
          · exact g_go_ 20 (b_ge rfl rfl (by omega) (by omega) (fun _ => ⟨rfl, I0.up⟩) (fun z => by omega))
        exact g_to key _ rfl
      have key : g_Run (g_cal e) (g_mt S0 k_X9_summer) (fun v M1 => ∃ r, v = some (.int r) ∧ g_cal d k_X10_summer [.ref 82, .int (nI j), .int (nI m)] M1 (fun v2 M2 => v2 = some (.int r) ∧ Inv (n + 1) M2)) 53 [.ref 0, .int (nI j), .int (nI m), .ref 2, .int (nI 0), .int (nI 0), .null] [] M := by
        have loop : ∀ k i s x, i + k = m → g_it (fun i s => s + cvA a j 0 1 (min 99 (a (19 + 5 * j) + i))) k i s = smr a j m → g_Run (g_cal e) (g_mt S0 k_X9_summer) (fun v M1 => ∃ r, v = some (.int r) ∧ g_cal d k_X10_summer [.ref 82, .int (nI j), .int (nI m)] M1 (fun v2 M2 => v2 = some (.int r) ∧ Inv (n + 1) M2)) 53 [.ref 0, .int (nI j), .int (nI m), .ref 2, .int (nI s), .int (nI i), x] [] M := by
          intro k
          induction k with
          | zero =>
            intro i s x hi hk
            refine g_go_ 20 (b_ge rfl rfl (by omega) (by omega) (fun _ => ⟨_, rfl, ?_⟩) (fun z => by omega))
            rw [show s = smr a j m from hk]
            exact md
          | succ k ih =>
            intro i s x hi hk
            have hR := ih (i + 1) (s + cvA a j 0 1 (min 99 (a (19 + 5 * j) + i))) (.int (nI (min 99 (a (19 + 5 * j) + i)))) (by omega) hk
            have hR' : g_Run (g_cal e) (g_mt S0 k_X9_summer) (fun v M1 => ∃ r, v = some (.int r) ∧ g_cal d k_X10_summer [.ref 82, .int (nI j), .int (nI m)] M1 (fun v2 M2 => v2 = some (.int r) ∧ Inv (n + 1) M2)) 53 [.ref 0, .int (nI j), .int (nI m), .ref 2, .int (nI s + nI (cvA a j 0 1 (min 99 (a (19 + 5 * j) + i)))), .int (nI i + 1), .int (nI (min 99 (a (19 + 5 * j) + i)))] [] M := by
              rw [nI_add, ← nI_succ]; exact hR
            refine g_go_ 40 (b_ge rfl rfl (by omega) (by omega) (fun z => by omega) (fun _ => ⟨j, rfl, by omega, 1, rfl, by decide, ?_⟩))
            have hT : (if M 6 j + nI i < 99 then M 6 j + nI i else 99) = nI (min 99 (a (19 + 5 * j) + i)) := by
              rw [(x4 j hj).2.2.2.1, nI_add]; exact n_min (by decide) (by omega)
            rw [hT, t1 1 (by decide)]
            exact xc_coverAt (by omega) v v2 g0 j 0 1 (min 99 (a (19 + 5 * j) + i)) hj (by omega) (by omega) (by omega) (g_to hR' _ rfl)
        exact loop m 0 0 .null (by omega) rfl
      exact g_to key _ rfl
    · exact x_refuse (by omega) 6 (by decide) (by decide) ⟨_, rfl, bad _ _ (by decide) (by decide) (by decide) (Or.inr ⟨hp, by unfold wth; rw [if_neg (Int32.not_lt.mpr hw), if_pos (Int32.not_le.mp hw2)]⟩)⟩
    · exact x_refuse (by omega) 4 (by decide) (by decide) ⟨_, rfl, bad _ _ (by decide) (by decide) (by decide) (Or.inr ⟨hp, by unfold wth; rw [if_pos (Int32.not_le.mp hw)]⟩)⟩
/-! odds -/
theorem gcd_st (a b : Nat) : Nat.gcd a b = Nat.gcd b (a % b) := by rw [Nat.gcd_comm a b, Nat.gcd_rec b a, Nat.gcd_comm]
theorem md2 {a b k : Nat} (hb : b < 2 ^ (k + 1)) (h : a % b ≠ 0) : b % (a % b) < 2 ^ k := by
  by_cases hb0 : b = 0
  · subst hb0; rw [Nat.zero_mod]; exact Nat.pow_pos (by decide)
  · have h1 : a % b < b := Nat.mod_lt _ (by omega)
    generalize a % b = r at *
    have h2 : b % r < r := Nat.mod_lt _ (by omega)
    have h3 : b % r ≤ b - r := by rw [Nat.mod_eq_sub_mod (by omega)]; exact Nat.mod_le _ _
    rw [Nat.pow_succ] at hb
    omega
theorem x_gcd {d : Nat} {M : g_M} {Q : g_R} (hd : 1 ≤ d) (a0 b0 : Nat) (ha : a0 < 2 ^ 31) (hb : b0 < 2 ^ 27) (h : Q (some (.int (nI (Nat.gcd a0 b0)))) M) : g_cal d k_X9_greatestCommon [.int (nI a0), .int (nI b0)] M Q := by
  refine g_m hd 60 (fun e he => ?_)
  have step : ∀ i a b x, i < 64 → a < 2 ^ 31 → b < 2 ^ 31 → (b ≠ 0 → ∀ y, g_Run (g_cal e) (g_mt S0 k_X9_greatestCommon) Q 7 [.int (nI a0), .int (nI b0), .int (nI b), .int (nI (a % b)), .int (nI (i + 1)), y] [] M) → (b = 0 → Q (some (.int (nI a))) M) → g_Run (g_cal e) (g_mt S0 k_X9_greatestCommon) Q 7 [.int (nI a0), .int (nI b0), .int (nI a), .int (nI b), .int (nI i), x] [] M := by
    intro i a b x hi ha hb h1 h2
    refine g_go_ 40 (b_ge rfl (show (64 : Int32) = nI 64 from rfl) (by omega) (by decide) (fun z => by omega) (fun _ => ?_))
    refine b_eq (b := 0) rfl rfl hb (by decide) (fun z => h2 z) (fun z => ⟨fun y => z ((nI_eq (b := 0) hb (by decide)).mp y), ?_⟩)
    have hR := h1 z (.int (nI (a % b)))
    have hR' : g_Run (g_cal e) (g_mt S0 k_X9_greatestCommon) Q 7 [.int (nI a0), .int (nI b0), .int (nI b), .int (nI a - nI a / nI b * nI b), .int (nI i + 1), .int (nI a - nI a / nI b * nI b)] [] M := by
      rw [irm (x := nI a) (y := nI b) ha (by omega) hb rfl rfl, ← nI_succ]; exact hR
    exact g_to hR' _ rfl
  have loop : ∀ k i a b x, i + 2 * k ≤ 62 → a < 2 ^ 31 → b < 2 ^ 31 → b < 2 ^ k → Q (some (.int (nI (Nat.gcd a b)))) M → g_Run (g_cal e) (g_mt S0 k_X9_greatestCommon) Q 7 [.int (nI a0), .int (nI b0), .int (nI a), .int (nI b), .int (nI i), x] [] M := by
    intro k
    induction k with
    | zero =>
      intro i a b x hi ha hb hb2 hq
      have e : b = 0 := by have : (2 : Nat) ^ 0 = 1 := rfl; omega
      subst e
      rw [Nat.gcd_zero_right] at hq
      exact step i a 0 x (by omega) ha hb (fun z => absurd rfl z) (fun _ => hq)
    | succ k ih =>
      intro i a b x hi ha hb hb2 hq
      refine step i a b x (by omega) ha hb (fun z y => ?_) (fun z => by subst z; rw [Nat.gcd_zero_right] at hq; exact hq)
      have h1 : a % b < b := Nat.mod_lt _ (by omega)
      rw [gcd_st] at hq
      refine step (i + 1) b (a % b) y (by omega) hb (by omega) (fun z2 y2 => ?_) (fun z2 => by rw [z2, Nat.gcd_zero_right] at hq; exact hq)
      have h2 : b % (a % b) < a % b := Nat.mod_lt _ (by omega)
      rw [gcd_st] at hq
      exact ih (i + 1 + 1) (a % b) (b % (a % b)) y2 (by omega) (by omega) (by omega) (md2 hb2 z2) hq
  exact g_to (loop 27 0 a0 b0 .null (by omega) ha (by omega) hb h) _ rfl
theorem m_common {M : g_M} : ∀ (k d a b : Nat) (Q : g_R), 2 * k + 1 ≤ d → a < 2 ^ 31 → b < 2 ^ 31 → b < 2 ^ k → Q (some (.int (nI (Nat.gcd a b)))) M → g_cal d k_X10_common [.int (nI a), .int (nI b)] M Q := by
  have step : ∀ (d a b : Nat) (Q : g_R), 1 ≤ d → a < 2 ^ 31 → b < 2 ^ 31 → (b ≠ 0 → ∀ e, d = e + 1 → ∀ Q' : g_R, Q' (some (.int (nI (Nat.gcd a b)))) M → g_cal e k_X10_common [.int (nI b), .int (nI (a % b))] M Q') → Q (some (.int (nI (Nat.gcd a b)))) M → g_cal d k_X10_common [.int (nI a), .int (nI b)] M Q := by
    intro d a b Q hd ha hb h1 h2
    refine g_m hd 40 (fun e he => ?_)
    refine b_ne (b := 0) rfl rfl hb (by decide) (fun z => ⟨fun y => z ((nI_eq (b := 0) hb (by decide)).mp y), ?_⟩) (fun z => by subst z; rw [Nat.gcd_zero_right] at h2; exact h2)
    show g_cal e k_X10_common [.int (nI b), .int (nI a - nI a / nI b * nI b)] M _
    rw [irm (x := nI a) (y := nI b) ha (by omega) hb rfl rfl]
    exact h1 z e he _ h2
  intro k
  induction k with
  | zero =>
    intro d a b Q hd ha hb hb2 hq
    have e : b = 0 := by have : (2 : Nat) ^ 0 = 1 := rfl; omega
    exact step d a b Q (by omega) ha hb (fun z => absurd e z) hq
  | succ k ih =>
    intro d a b Q hd ha hb hb2 hq
    refine step d a b Q (by omega) ha hb (fun z e he Q' hq' => ?_) hq
    have h1 : a % b < b := Nat.mod_lt _ (by omega)
    rw [gcd_st] at hq'
    refine step e b (a % b) Q' (by omega) hb (by omega) (fun z2 e2 he2 Q2 hq2 => ?_) hq'
    have h2 : b % (a % b) < a % b := Nat.mod_lt _ (by omega)
    rw [gcd_st] at hq2
    exact ih e2 (a % b) (b % (a % b)) Q2 (by omega) (by omega) (by omega) (md2 hb2 z2) hq2
theorem pw_le {c w : Nat} (hc : c ≤ 99) (hw : w ≤ 4) : c ^ w ≤ 100000000 ∧ 100 ^ w ≤ 100000000 := by
  have h1 : c ^ w ≤ 100 ^ w := Nat.pow_le_pow_left (by omega) w
  have h2 : 100 ^ w ≤ 100 ^ 4 := Nat.pow_le_pow_right (by decide) hw
  have h3 : (100 : Nat) ^ 4 = 100000000 := rfl
  omega
theorem p_odds {d n : Nat} {M : g_M} {p w u : Int32} (hd : 60 ≤ d) (I : Inv n M) : g_pair d k_X9_odds k_X10_odds [.int p, .int w, .int u] M (Inv (n + 1)) := by
  have I0 := I
  obtain ⟨a, ⟨v, v2, -⟩, ⟨g1, -, ⟨t1, t2, t3⟩, -⟩, hM, -⟩ := I
  have g0 := g1
  obtain ⟨x1, -, -, x4, -⟩ := g1
  have m0 := hM 0 (by decide)
  have b0 : a 0 ≤ 8 := v.2.1
  refine g_m (by omega) 60 (fun e he => ?_)
  refine x_isHid (by omega) ?_
  rw [x1]
  have hu1 : inB u 2 = true ↔ ¬ u < 0 ∧ u ≤ 1 := by
    unfold inB
    rw [Bool.and_eq_true, Bool.not_eq_true', decide_eq_false_iff_not, decide_eq_true_iff, Int32.lt_iff_toInt_lt, Int32.lt_iff_toInt_lt, Int32.le_iff_toInt_le, show (2 : Int32).toInt = 2 from by decide, show (1 : Int32).toInt = 1 from by decide]
    omega
  have bad : ∀ (c : Int32) (j : Nat), -c = nI j → j < 7 → c ≠ 0 → ((inP p (nI (a 0)) = false ∧ c = -1) ∨ (inP p (nI (a 0)) = true ∧ inB u 2 = false ∧ c = -2) ∨ (inP p (nI (a 0)) = true ∧ inB u 2 = true ∧ c = wth w 0 4)) → g_cal d k_X10_odds [.ref 82, .int p, .int w, .int u] (g_ms M 81 (upd (M 81) j (M 81 j + 1))) (fun v2 M2 => v2 = some (.int c) ∧ Inv (n + 1) M2) := by
    intro c j hc hj hc0 hcs
    refine g_m (by omega) 60 (fun e he => ?_)
    refine m_isRoom (by omega) ?_
    rw [g_ms_n (by decide : (84 : Nat) ≠ 81), m0]
    rcases hcs with ⟨h1, rfl⟩ | ⟨h1, h2, rfl⟩ | ⟨h1, h2, rfl⟩
    · rw [h1]
      exact b_nf rfl (m_refuse (by omega) j hc hj (e_ref I0 hj))
    · rw [h1]
      refine b_nt (by decide) (m_isIn (by omega) ?_)
      rw [h2]
      exact b_nf rfl (m_refuse (by omega) j hc hj (e_ref I0 hj))
    · rw [h1]
      refine b_nt (by decide) (m_isIn (by omega) ?_)
      rw [h2]
      exact b_nt (by decide) (m_within (by omega) (b_f hc0 (m_refuse (by omega) j hc hj (e_ref I0 hj))))
  rcases inP_cases p (show a 0 < 2 ^ 31 by omega) with hp | ⟨j, hj0, hj, rfl, hp⟩
  · rw [hp]
    exact b_nf rfl (x_refuse (by omega) 1 (by decide) (by decide) ⟨_, rfl, bad _ _ (by decide) (by decide) (by decide) (Or.inl ⟨hp, rfl⟩)⟩)
  · rw [hp]
    have nou : (u < 0 ∨ ¬ u ≤ 1) → inB u 2 = false := by
      intro h
      by_cases hb : inB u 2 = true
      · obtain ⟨h1, h2⟩ := hu1.mp hb
        rcases h with h | h
        · exact absurd h h1
        · exact absurd h2 h
      · exact Bool.not_eq_true _ ▸ hb
    refine b_nt (by decide) ⟨fun h => ?_, fun hu => ⟨fun hu2 => ⟨fun hw => ⟨fun hw2 => ?_, fun hw2 => ?_⟩, fun hw => ?_⟩, fun hu2 => ?_⟩⟩
    · exact x_refuse (by omega) 2 (by decide) (by decide) ⟨_, rfl, bad _ _ (by decide) (by decide) (by decide) (Or.inr (Or.inl ⟨hp, nou (Or.inl h), rfl⟩))⟩
    · have hub : inB u 2 = true := hu1.mpr ⟨hu, hu2⟩
      obtain ⟨m, hm, rfl⟩ := nI_of2 (M := 4) (n := 4) (by decide) (x := w) (Int32.not_lt.mpr hw) hw2
      have bT := (v.2.2.2.2.2.1 j hj).2.2.2.1
      generalize hc : cvA a j 0 1 (a (19 + 5 * j)) = c
      have bc : c ≤ 99 := by rw [← hc]; exact cv_le (v.2.2.2.2.2.1 j hj).2.2.1
      have bp : ∀ i, i ≤ 4 → c ^ i ≤ 100000000 ∧ 100 ^ i ≤ 100000000 := fun i hi => pw_le bc hi
      obtain ⟨q1, q2⟩ := bp m hm
      have hg0 : 0 < Nat.gcd (c ^ m) (100 ^ m) := Nat.gcd_pos_of_pos_right _ (Nat.pow_pos (by decide))
      have hgl : Nat.gcd (c ^ m) (100 ^ m) ≤ 100 ^ m := Nat.gcd_le_right _ (Nat.pow_pos (by decide))
      have md : ∀ r, r = (if u = 0 then nI (c ^ m) / nI (Nat.gcd (c ^ m) (100 ^ m)) else nI (100 ^ m) / nI (Nat.gcd (c ^ m) (100 ^ m))) → g_cal d k_X10_odds [.ref 82, .int (nI j), .int (nI m), .int u] M (fun v2 M2 => v2 = some (.int r) ∧ Inv (n + 1) M2) := by
        intro r hr
        refine g_m (by omega) 60 (fun e he => ?_)
        refine m_isRoom (by omega) ?_
        rw [m0, hp]
        refine b_nt (by decide) (m_isIn (by omega) ?_)
        rw [hub]
        refine b_nt (by decide) (m_within (by omega) ?_)
        have hz : wth (nI m) 0 4 = 0 := by unfold wth; rw [if_neg (Int32.not_lt.mpr hw), if_neg (Int32.not_lt.mpr hw2)]
        rw [hz]
        refine b_t rfl ?_
        have key : g_Run (g_cal e) (g_mt S0 k_X10_odds) (fun v2 M2 => v2 = some (.int r) ∧ Inv (n + 1) M2) 58 [.ref 82, .int (nI j), .int (nI m), .int u, .int 0, .int (nI (c ^ 0)), .int (nI (100 ^ 0)), .int (nI 0)] [] M := by
          refine g_loop (fun i (_ : Unit) => g_Run (g_cal e) (g_mt S0 k_X10_odds) (fun v2 M2 => v2 = some (.int r) ∧ Inv (n + 1) M2) 58 [.ref 82, .int (nI j), .int (nI m), .int u, .int 0, .int (nI (c ^ i)), .int (nI (100 ^ i)), .int (nI i)] [] M) (fun _ _ => True) (fun i s => s) m ?_ (fun _ _ _ _ => trivial) m 0 () (by omega) trivial (fun _ => ?_)
          · intro i s hi _ hR
            have hR' : g_Run (g_cal e) (g_mt S0 k_X10_odds) (fun v2 M2 => v2 = some (.int r) ∧ Inv (n + 1) M2) 58 [.ref 82, .int (nI j), .int (nI m), .int u, .int 0, .int (nI (c ^ i) * nI c), .int (nI (100 ^ i) * 100), .int (nI i + 1)] [] M := by
              rw [pk_mul, show nI (100 ^ i) * 100 = nI (100 ^ i * 100) from im rfl rfl, ← nI_succ]; exact hR
            refine g_go_ 40 (b_ge rfl rfl (by omega) (by omega) (fun z => by omega) (fun _ => m_get (by omega) j 3 rfl rfl (by omega) (by decide) ?_))
            rw [hM _ (by omega), show 16 + 5 * j + 3 = 19 + 5 * j by omega]
            refine mc_coverOf (by omega) v v2 hM j 0 1 (a (19 + 5 * j)) hj (by omega) (by omega) bT ?_
            rw [hc]
            exact g_to hR' _ rfl
          · refine g_go_ 40 (b_ge rfl rfl (by omega) (by omega) (fun _ => ?_) (fun z => by omega))
            refine m_common 27 e (100 ^ m) (c ^ m) _ (by omega) (by omega) (by omega) (by omega) ?_
            rw [Nat.gcd_comm]
            have nz : ¬ nI (Nat.gcd (c ^ m) (100 ^ m)) = 0 := fun y => by have := (nI_eq (b := 0) (by omega) (by decide)).mp y; omega
            refine ⟨fun z => ⟨nz, ?_, I0.up⟩, fun z => ⟨nz, ?_, I0.up⟩⟩
            · rw [hr, if_neg z]
            · rw [hr, if_pos z]
        exact g_to key _ rfl
      refine ⟨j, rfl, by omega, 1, rfl, by decide, ?_⟩
      rw [(x4 j hj).2.2.2.1, t1 1 (by decide)]
      refine xc_coverAt (by omega) v v2 g0 j 0 1 (a (19 + 5 * j)) hj (by omega) (by omega) bT ?_
      rw [hc]
      have key : g_Run (g_cal e) (g_mt S0 k_X9_odds) (fun v M1 => ∃ r, v = some (.int r) ∧ g_cal d k_X10_odds [.ref 82, .int (nI j), .int (nI m), .int u] M1 (fun v2 M2 => v2 = some (.int r) ∧ Inv (n + 1) M2)) 101 [.ref 0, .int (nI j), .int (nI m), .int u, .ref 2, .int (nI c), .int (nI (c ^ 0)), .int (nI (100 ^ 0)), .int (nI 0)] [] M := by
        refine g_loop (fun i (_ : Unit) => g_Run (g_cal e) (g_mt S0 k_X9_odds) (fun v M1 => ∃ r, v = some (.int r) ∧ g_cal d k_X10_odds [.ref 82, .int (nI j), .int (nI m), .int u] M1 (fun v2 M2 => v2 = some (.int r) ∧ Inv (n + 1) M2)) 101 [.ref 0, .int (nI j), .int (nI m), .int u, .ref 2, .int (nI c), .int (nI (c ^ i)), .int (nI (100 ^ i)), .int (nI i)] [] M) (fun _ _ => True) (fun i s => s) m ?_ (fun _ _ _ _ => trivial) m 0 () (by omega) trivial (fun _ => ?_)
        · intro i s hi _ hR
          have hR' : g_Run (g_cal e) (g_mt S0 k_X9_odds) (fun v M1 => ∃ r, v = some (.int r) ∧ g_cal d k_X10_odds [.ref 82, .int (nI j), .int (nI m), .int u] M1 (fun v2 M2 => v2 = some (.int r) ∧ Inv (n + 1) M2)) 101 [.ref 0, .int (nI j), .int (nI m), .int u, .ref 2, .int (nI c), .int (nI (c ^ i) * nI c), .int (nI (100 ^ i) * 100), .int (nI i + 1)] [] M := by
            rw [pk_mul, show nI (100 ^ i) * 100 = nI (100 ^ i * 100) from im rfl rfl, ← nI_succ]; exact hR
          exact g_go_ 40 (b_ge rfl rfl (by omega) (by omega) (fun z => by omega) (fun _ => g_to hR' _ rfl))
        · refine g_go_ 40 (b_ge rfl rfl (by omega) (by omega) (fun _ => ?_) (fun z => by omega))
          refine g_m (by omega) 60 (fun e2 he2 => ?_)
          refine x_gcd (by omega) (c ^ m) (100 ^ m) (by omega) (by omega) ?_
          have nz : ¬ nI (Nat.gcd (c ^ m) (100 ^ m)) = 0 := fun y => by have := (nI_eq (b := 0) (by omega) (by decide)).mp y; omega
          refine b_nt nz ⟨fun z => ⟨nz, _, rfl, md _ ?_⟩, fun z => ⟨nz, _, rfl, md _ ?_⟩⟩
          · rw [if_neg z]
          · rw [if_pos z]
      exact g_to key _ rfl
    · exact x_refuse (by omega) 6 (by decide) (by decide) ⟨_, rfl, bad _ _ (by decide) (by decide) (by decide) (Or.inr (Or.inr ⟨hp, hu1.mpr ⟨hu, hu2⟩, by unfold wth; rw [if_neg (Int32.not_lt.mpr hw), if_pos (Int32.not_le.mp hw2)]⟩))⟩
    · exact x_refuse (by omega) 4 (by decide) (by decide) ⟨_, rfl, bad _ _ (by decide) (by decide) (by decide) (Or.inr (Or.inr ⟨hp, hu1.mpr ⟨hu, hu2⟩, by unfold wth; rw [if_pos (Int32.not_le.mp hw)]⟩))⟩
    · exact x_refuse (by omega) 2 (by decide) (by decide) ⟨_, rfl, bad _ _ (by decide) (by decide) (by decide) (Or.inr (Or.inl ⟨hp, nou (Or.inr hu2), rfl⟩))⟩
