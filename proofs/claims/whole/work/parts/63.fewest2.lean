theorem pc_top : ∀ n, n ≤ 8 → ∀ k, k < 256 → k < 2 ^ n - 1 → cntF (Nat.testBit k) 8 0 < cntF (Nat.testBit (2 ^ n - 1)) 8 0 := by decide +kernel
theorem x_fewest {d : Nat} {M : g_M} {Q : g_R} {a : Nat → Nat} (hd : 4 ≤ d) (v : V1 a) (g1 : GX1 M 2 a) (h : ∀ b, fwok a (2 ^ a 0 - 1) b → Q (some (.int (nI b))) M) : g_cal d k_X6_fewestPlaces [.ref 70, .ref 2] M Q := by
  have b0 : a 0 ≤ 8 := v.2.1
  have b1 : 1 ≤ a 0 := v.1
  have tp := pc_top (a 0) b0
  have pl : 2 ^ a 0 ≤ 256 := Nat.pow_le_pow_right (n := 2) (by decide) b0
  have pg : 2 ≤ 2 ^ a 0 := Nat.pow_le_pow_right (n := 2) (by decide) b1
  have hall : (1 : Int32) <<< (M 2 0 &&& 31) - 1 = nI (2 ^ a 0 - 1) := by
    rw [show M 2 0 = nI (a 0) from g1.1]
    exact is (by omega) (n_shl (by omega)) rfl
  have bl : ∀ k, cntF (Nat.testBit k) 8 0 ≤ 8 := fun k => cntF_le _ 8 0
  have snl : ∀ k, sn a k < 2 ^ 8 := fun k => (g_it_J (fun _ s => s < 2 ^ 8) (snF a k) (a 0) (fun p s hp hs => snF_lt v hp hs) (a 0) 0 0 (by omega) (by decide))
  generalize hA : 2 ^ a 0 - 1 = all at *
  refine g_m (by omega) 20 (fun e he => ?_)
  have loop : ∀ m k b, k + m = all → 1 ≤ k → (b ≤ all ∧ 1 ≤ b ∧ (b = all ∨ sn a b = all)) → (∀ j, 1 ≤ j → j < k → sn a j = all → cntF (Nat.testBit b) 8 0 ≤ cntF (Nat.testBit j) 8 0) → cntF (Nat.testBit b) 8 0 ≤ cntF (Nat.testBit all) 8 0 → (b = all ∨ (∀ j, 1 ≤ j → j < b → sn a j = all → cntF (Nat.testBit b) 8 0 < cntF (Nat.testBit j) 8 0)) → g_Run (g_cal e) (g_mt S0 k_X6_fewestPlaces) Q 14 [.ref 70, .ref 2, .int (nI all), .int (nI b), .int (nI k)] [] M := by
    intro m
    induction m with
    | zero =>
      intro k b hk h1 hb p1 p2 p3
      have ok : fwok a all b := ⟨hb.1, hb.2.1, hb.2.2, fun j j1 j2 j3 => by
        by_cases c : j = all
        · rw [c]; exact p2
        · exact p1 j j1 (by omega) (by rcases j3 with y | y; exact absurd y c; exact y), fun j j1 j2 j3 => by
        rcases p3 with y | y
        · have := p1 j j1 (by omega) j3
          have := tp j (by omega) (by omega)
          rw [y] at *
          omega
        · exact y j j1 j2 j3⟩
      exact g_go_ 20 (b_ge rfl rfl (by omega) (by omega) (fun _ => h b ok) (fun z => by omega))
    | succ m ih =>
      intro k b hk h1 hb p1 p2 p3
      have keep : ¬ (sn a k = all ∧ cntF (Nat.testBit k) 8 0 < cntF (Nat.testBit b) 8 0) → g_Run (g_cal e) (g_mt S0 k_X6_fewestPlaces) Q 45 [.ref 70, .ref 2, .int (nI all), .int (nI b), .int (nI k)] [] M := by
        intro c
        have hR := ih (k + 1) b (by omega) (by omega) hb (fun j j1 j2 j3 => by
          by_cases e : j = k
          · subst e
            by_cases c2 : cntF (Nat.testBit j) 8 0 < cntF (Nat.testBit b) 8 0
            · exact absurd ⟨j3, c2⟩ c
            · omega
          · exact p1 j j1 (by omega) j3) p2 p3
        rw [nI_succ] at hR
        exact g_go_ 5 (g_to hR _ rfl)
      have take : sn a k = all → cntF (Nat.testBit k) 8 0 < cntF (Nat.testBit b) 8 0 → g_Run (g_cal e) (g_mt S0 k_X6_fewestPlaces) Q 45 [.ref 70, .ref 2, .int (nI all), .int (nI k), .int (nI k)] [] M := by
        intro c1 c2
        have hR := ih (k + 1) k (by omega) (by omega) ⟨by omega, h1, Or.inr c1⟩ (fun j j1 j2 j3 => by
          by_cases e : j = k
          · subst e; omega
          · have := p1 j j1 (by omega) j3; omega) (by omega) (Or.inr (fun j j1 j2 j3 => by have := p1 j j1 (by omega) j3; omega))
        rw [nI_succ] at hR
        exact g_go_ 5 (g_to hR _ rfl)
      have := snl k
      have := bl k
      have := bl b
      refine g_go_ 30 (b_ge rfl rfl (by omega) (by omega) (fun z => by omega) (fun _ => ?_))
      refine x_seenFrom (by omega) v g1 (by omega) ?_
      refine b_ne rfl rfl (by omega) (by omega) (fun z => g_to (keep (fun y => z y.1)) _ rfl) (fun z => ?_)
      refine x_bitCount (by omega) (by omega) (x_bitCount (by omega) (by omega) ?_)
      exact b_ge rfl rfl (by omega) (by omega) (fun y => g_to (keep (fun y2 => by omega)) _ rfl) (fun y => g_to (take z y) _ rfl)
  have r := loop (all - 1) 1 all (by omega) (by omega) ⟨Nat.le_refl _, by omega, Or.inl rfl⟩ (fun j j1 j2 => by omega) (Nat.le_refl _) (Or.inl rfl)
  rw [← hall] at r
  exact g_to r _ rfl
