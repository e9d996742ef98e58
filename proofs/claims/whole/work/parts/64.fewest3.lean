theorem m_fewest {d : Nat} {M : g_M} {Q : g_R} {a : Nat → Nat} (hd : 4 ≤ d) (v : V1 a) (hM : RM M 84 a) (h : ∀ b, fwok a (2 ^ a 0 - 1) b → Q (some (.int (nI b))) M) : g_cal d k_X10_fewest [.ref 82] M Q := by
  have b0 : a 0 ≤ 8 := v.2.1
  have b1 : 1 ≤ a 0 := v.1
  have pl : 2 ^ a 0 ≤ 256 := Nat.pow_le_pow_right (n := 2) (by decide) b0
  have pg : 2 ≤ 2 ^ a 0 := Nat.pow_le_pow_right (n := 2) (by decide) b1
  have hall : (1 : Int32) <<< (nI (a 0) &&& 31) - 1 = nI (2 ^ a 0 - 1) := is (by omega) (n_shl (by omega)) rfl
  have bl : ∀ k, cntF (Nat.testBit k) 8 0 ≤ 8 := fun k => cntF_le _ 8 0
  have snl : ∀ k, sn a k < 2 ^ 8 := fun k => (g_it_J (fun _ s => s < 2 ^ 8) (snF a k) (a 0) (fun p s hp hs => snF_lt v hp hs) (a 0) 0 0 (by omega) (by decide))
  have m0 := hM 0 (by decide)
  generalize hA : 2 ^ a 0 - 1 = all at *
  refine g_m (by omega) 20 (fun e he => ⟨0, rfl, by decide, ?_⟩)
  rw [m0]
  have seen : ∀ k b u5, k < 256 → (g_Run (g_cal e) (g_mt S0 k_X10_fewest) Q 68 [.ref 82, .int (nI all), .int (nI b), .int (nI k), .int (nI (sn a k)), .int (nI (a 0))] [] M) → g_Run (g_cal e) (g_mt S0 k_X10_fewest) Q 22 [.ref 82, .int (nI all), .int (nI b), .int (nI k), .int (nI 0), u5] [] M := by
    intro k b u5 hk hq
    have key : g_Run (g_cal e) (g_mt S0 k_X10_fewest) Q 25 [.ref 82, .int (nI all), .int (nI b), .int (nI k), .int (nI 0), .int (nI 0)] [] M := by
      refine g_loop (fun p s => g_Run (g_cal e) (g_mt S0 k_X10_fewest) Q 25 [.ref 82, .int (nI all), .int (nI b), .int (nI k), .int (nI s), .int (nI p)] [] M) (fun _ _ => True) (snF a k) (a 0) ?_ (fun _ _ _ _ => trivial) (a 0) 0 0 (by omega) trivial (fun _ => ?_)
      · intro p s hp _ hR
        unfold snF at hR
        rw [nI_succ, ← n_or] at hR
        refine g_go_ 30 ⟨0, rfl, by decide, ?_⟩
        rw [m0]
        refine b_ge rfl rfl (by omega) (by omega) (fun z => by omega) (fun _ => ?_)
        show (¬ ((nI k >>> (nI p &&& 31)) &&& 1) = 1 → _) ∧ (((nI k >>> (nI p &&& 31)) &&& 1) = 1 → _)
        rw [n_bit (by omega) (by omega)]
        refine b_b1 (fun z => ?_) (fun z => m_get (by omega) p 4 rfl rfl (by omega) (by decide) ?_)
        · rw [if_neg (by rw [z]; decide)] at hR
          exact g_to hR _ rfl
        · rw [hM _ (by omega), show 16 + 5 * p + 4 = 20 + 5 * p by omega]
          rw [if_pos z] at hR
          exact g_to hR _ rfl
      · refine g_go_ 20 ⟨0, rfl, by decide, ?_⟩
        rw [m0]
        exact b_ge rfl rfl (by omega) (by omega) (fun _ => g_to hq _ rfl) (fun z => by omega)
    exact g_go_ 5 (g_to key _ rfl)
  have loop : ∀ k b u4 u5, k ≤ all → (b ≤ all ∧ 1 ≤ b ∧ (b = all ∨ sn a b = all) ∧ (k = all → b = all) ∧ (b = all ∨ k < b)) → (∀ j, k < j → j ≤ all → (j = all ∨ sn a j = all) → cntF (Nat.testBit b) 8 0 ≤ cntF (Nat.testBit j) 8 0) → (∀ j, k < j → j < b → sn a j = all → cntF (Nat.testBit b) 8 0 < cntF (Nat.testBit j) 8 0) → g_Run (g_cal e) (g_mt S0 k_X10_fewest) Q 15 [.ref 82, .int (nI all), .int (nI b), .int (nI k), u4, u5] [] M := by
    intro k
    induction k with
    | zero =>
      intro b u4 u5 hk hb p1 p2
      exact g_go_ 20 (b_le (b := 0) rfl rfl (by omega) (by decide) (fun _ => h b ⟨hb.1, hb.2.1, hb.2.2.1, fun j j1 j2 j3 => p1 j (by omega) j2 j3, fun j j1 j2 j3 => p2 j (by omega) j2 j3⟩) (fun z => by omega))
    | succ k ih =>
      intro b u4 u5 hk hb p1 p2
      have nx : ∀ b' u4 u5, (b' ≤ all ∧ 1 ≤ b' ∧ (b' = all ∨ sn a b' = all) ∧ (k = all → b' = all) ∧ (b' = all ∨ k < b')) → (∀ j, k < j → j ≤ all → (j = all ∨ sn a j = all) → cntF (Nat.testBit b') 8 0 ≤ cntF (Nat.testBit j) 8 0) → (∀ j, k < j → j < b' → sn a j = all → cntF (Nat.testBit b') 8 0 < cntF (Nat.testBit j) 8 0) → g_Run (g_cal e) (g_mt S0 k_X10_fewest) Q 91 [.ref 82, .int (nI all), .int (nI b'), .int (nI (k + 1)), u4, u5] [] M := by
        intro b' u4 u5 h1 h2 h3
        have hR := ih b' u4 u5 (by omega) h1 h2 h3
        have r94 : g_Run (g_cal e) (g_mt S0 k_X10_fewest) Q 94 [.ref 82, .int (nI all), .int (nI b'), .int (nI (k + 1 - 1)), u4, u5] [] M := g_go_ 2 (g_to hR _ rfl)
        rw [← n_dec (show k + 1 ≠ 0 by omega)] at r94
        exact g_go_ 1 r94
      have := snl (k + 1)
      have := bl (k + 1)
      have := bl b
      have keep : ¬ (sn a (k + 1) = all ∧ cntF (Nat.testBit (k + 1)) 8 0 ≤ cntF (Nat.testBit b) 8 0) → ∀ u4 u5, g_Run (g_cal e) (g_mt S0 k_X10_fewest) Q 91 [.ref 82, .int (nI all), .int (nI b), .int (nI (k + 1)), u4, u5] [] M := by
        intro c u4 u5
        refine nx b u4 u5 ⟨hb.1, hb.2.1, hb.2.2.1, fun y => by omega, by have := hb.2.2.2.2; omega⟩ (fun j j1 j2 j3 => ?_) (fun j j1 j2 j3 => ?_)
        · by_cases e : j = k + 1
          · subst e
            rcases j3 with y | y
            · rw [hb.2.2.2.1 y, y]; exact Nat.le_refl _
            · by_cases c2 : cntF (Nat.testBit (k + 1)) 8 0 ≤ cntF (Nat.testBit b) 8 0
              · exact absurd ⟨y, c2⟩ c
              · omega
          · exact p1 j (by omega) j2 j3
        · by_cases e : j = k + 1
          · subst e
            by_cases c2 : cntF (Nat.testBit (k + 1)) 8 0 ≤ cntF (Nat.testBit b) 8 0
            · exact absurd ⟨j3, c2⟩ c
            · omega
          · exact p2 j (by omega) j2 j3
      have r68 : g_Run (g_cal e) (g_mt S0 k_X10_fewest) Q 68 [.ref 82, .int (nI all), .int (nI b), .int (nI (k + 1)), .int (nI (sn a (k + 1))), .int (nI (a 0))] [] M := by
        have kp : ¬ (sn a (k + 1) = all ∧ cntF (Nat.testBit (k + 1)) 8 0 ≤ cntF (Nat.testBit b) 8 0) → g_Run (g_cal e) (g_mt S0 k_X10_fewest) Q 89 [.ref 82, .int (nI all), .int (nI b), .int (nI (k + 1)), .int (nI (sn a (k + 1))), .int (nI (a 0))] [] M := fun c => g_go_ 2 (keep c (.int (nI (sn a (k + 1)))) (.int (nI (a 0))))
        refine g_go_ 4 (b_ne rfl rfl (by omega) (by omega) (fun z => g_stop_ (kp (fun y => z y.1))) (fun z => ?_))
        refine g_stop_ (g_go_ 30 ?_)
        refine m_bits (by omega) (by omega) (m_bits (by omega) (by omega) ?_)
        refine b_gt rfl rfl (by omega) (by omega) (fun y => g_stop_ (kp (fun y2 => by omega))) (fun y => ?_)
        refine g_stop_ ?_
        have r91 := nx (k + 1) (.int (nI (sn a (k + 1)))) (.int (nI (a 0))) ⟨by omega, by omega, Or.inr z, fun q => by omega, Or.inr (by omega)⟩ (fun j j1 j2 j3 => by
          by_cases e : j = k + 1
          · rw [e]; exact Nat.le_refl _
          · have := p1 j (by omega) j2 j3; omega) (fun j j1 j2 j3 => by omega)
        exact g_go_ 3 r91
      refine g_go_ 20 (b_le (b := 0) rfl rfl (by omega) (by decide) (fun z => by omega) (fun _ => ?_))
      exact g_to (seen (k + 1) b u5 (by omega) r68) _ rfl
  have r := loop all all .null .null (Nat.le_refl _) ⟨Nat.le_refl _, by omega, Or.inl rfl, fun _ => rfl, Or.inl rfl⟩ (fun j j1 j2 => by omega) (fun j j1 j2 => by omega)
  rw [← hall] at r
  exact g_to r _ rfl
theorem p_fewest {d n : Nat} {M : g_M} (hd : 6 ≤ d) (I : Inv n M) : g_pair d k_X9_fewest k_X10_fewest [] M (Inv (n + 1)) := by
  have I0 := I
  obtain ⟨a, ⟨v, -⟩, ⟨g1, -⟩, hM, -⟩ := I
  refine g_m (by omega) 20 (fun e he => x_fewest (by omega) v g1 (fun b hb => ⟨_, rfl, ?_⟩))
  refine m_fewest (by omega) v hM (fun c hc => ?_)
  rw [fwok_eq hc hb]
  exact ⟨rfl, I0.up⟩
