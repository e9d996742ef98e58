/-! ===== orders and tells: the reference ===== -/
theorem sb_1 : ∀ s, s < 32 → ∀ p, p < 5 → (nI s >>> (nI p &&& 31)) &&& 1 = bI (s.testBit p) := by decide +kernel
theorem sb_2 : ∀ s, s < 32 → ∀ p, p < 5 → nI s ||| ((1 : Int32) <<< (nI p &&& 31)) = nI (s ||| 2 ^ p) := by decide +kernel
theorem sb_3 : ∀ s, s < 32 → ∀ p, p < 5 → s ||| 2 ^ p < 32 := by decide +kernel
def cpyL (m : Nat) : Nat → Nat → List Nat → List Nat
  | 0, _, l => l
  | c + 1, i, l => cpyL m c (i + 1) (l.set (4 * m + i) (l.getD (4 * (m - 1) + i) 0))
def foL (F : Nat → List Nat × Nat → Option (List Nat × Nat)) : Nat → Nat → List Nat × Nat → Option (List Nat × Nat)
  | 0, _, s => some s
  | c + 1, p, s => match F p s with
    | some t => foL F c (p + 1) t
    | none => none
def fo : Nat → Nat → Nat → Nat → List Nat × Nat → Option (List Nat × Nat)
  | 0, _, _, _, _ => none
  | f + 1, k, n, seen, s => if n = k then some (if s.2 + 1 < 24 then cpyL (s.2 + 1) k 0 s.1 else s.1, s.2 + 1) else
      foL (fun p s => if seen.testBit p = true then some s else if s.2 < 24 then fo f k (n + 1) (seen ||| 2 ^ p) (s.1.set (4 * s.2 + n) p, s.2) else none) k 1 s
def foC (k : Nat) : Bool := match fo 6 k 0 0 (List.replicate 96 0, 0) with
  | some t => t.2 == om k && (List.range (om k)).all (fun o => (List.range k).all (fun i => t.1.getD (4 * o + i) 0 == ol k o i))
  | none => false
theorem foC_ok : ∀ k, k < 5 → 1 ≤ k → foC k = true := by decide +kernel
theorem fo_ok {k : Nat} (hk : k < 5) (h1 : 1 ≤ k) : ∃ l, fo 6 k 0 0 (List.replicate 96 0, 0) = some (l, om k) ∧ ∀ o, o < om k → ∀ i, i < k → l.getD (4 * o + i) 0 = ol k o i := by
  have h := foC_ok k hk h1
  unfold foC at h
  cases hf : fo 6 k 0 0 (List.replicate 96 0, 0) with
  | none => rw [hf] at h; exact absurd h Bool.false_ne_true
  | some t =>
    rw [hf] at h
    obtain ⟨l, m⟩ := t
    rw [Bool.and_eq_true] at h
    obtain ⟨h2, h3⟩ := h
    have hm : m = om k := by simpa using h2
    subst hm
    refine ⟨l, rfl, fun o ho i hi => ?_⟩
    rw [List.all_eq_true] at h3
    have h4 := h3 o (List.mem_range.mpr ho)
    rw [List.all_eq_true] at h4
    have h5 := h4 i (List.mem_range.mpr hi)
    simpa using h5
theorem gset (l : List Nat) (i v j : Nat) (h : i < l.length) : (l.set i v).getD j 0 = if j = i then v else l.getD j 0 := by
  rw [List.getD_eq_getElem?_getD, List.getD_eq_getElem?_getD, List.getElem?_set]
  by_cases c : j = i
  · subst c; simp [h]
  · simp [c, Ne.symm c]
def LR (N : g_M) (l : List Nat) (m : Nat) : Prop := l.length = 96 ∧ N 82 33 = nI m ∧ ∀ j, j < 96 → l.getD j 0 ≠ 0 → N 100 j = nI (l.getD j 0)
def FO (M N : g_M) : Prop := (∀ c, c ≠ 82 → c ≠ 100 → N c = M c) ∧ ∀ j, j ≠ 33 → N 82 j = M 82 j
theorem FO.rf (M : g_M) : FO M M := ⟨fun _ _ _ => rfl, fun _ _ => rfl⟩
theorem FO.tr {M N P : g_M} (h : FO M N) (g : FO N P) : FO M P := ⟨fun c c1 c2 => (g.1 c c1 c2).trans (h.1 c c1 c2), fun j hj => (g.2 j hj).trans (h.2 j hj)⟩
theorem LR.set {N : g_M} {l : List Nat} {m j v : Nat} {x : Int32} (h : LR N l m) (hj : j < 96) (hx : v ≠ 0 → x = nI v) : LR (g_ms N 100 (upd (N 100) j x)) (l.set j v) m := by
  obtain ⟨h1, h2, h3⟩ := h
  refine ⟨by rw [List.length_set]; exact h1, by rw [g_ms_n (by decide)]; exact h2, fun t ht hn => ?_⟩
  rw [gset _ _ _ _ (by omega)] at hn ⊢
  rw [g_ms_s]
  unfold upd
  by_cases c : t = j
  · rw [if_pos c] at hn ⊢; rw [if_pos c]; exact hx hn
  · rw [if_neg c] at hn ⊢; rw [if_neg c]; exact h3 t ht hn
theorem m_findOrders : ∀ f d k n seen (s t : List Nat × Nat) (N : g_M) (Q : g_R), f ≤ d → k ≤ 4 → n ≤ k → seen < 32 → s.2 < 24 → LR N s.1 s.2 → fo f k n seen s = some t → (∀ N', FO N N' → LR N' t.1 t.2 → Q none N') → g_cal d k_X10_findOrders [.ref 82, .int (nI k), .int (nI n), .int (nI seen)] N Q := by
  intro f
  induction f with
  | zero => intro d k n seen s t N Q _ _ _ _ _ _ hf _; exact absurd hf (by simp [fo])
  | succ f ih =>
    intro d k n seen s t N Q hd hk hn hs hm hL hf h
    refine g_m (by omega) 4 (fun e he => ?_)
    by_cases c : n = k
    · rw [fo, if_pos c] at hf
      have hf' := Option.some.inj hf
      obtain ⟨l, m⟩ := s
      replace hm : m < 24 := hm
      have hL2 := hL.2.1
      replace hL2 : N 82 33 = nI m := hL2
      obtain ⟨N1, hN1⟩ : ∃ N1, N1 = g_ms N 82 (upd (N 82) 33 (N 82 33 + 1)) := ⟨_, rfl⟩
      have hF1 : FO N N1 := ⟨fun c c1 c2 => by rw [hN1, g_ms_n c1], fun j hj => by rw [hN1, g_ms_s, upd, if_neg hj]⟩
      have hL1 : LR N1 l (m + 1) := ⟨hL.1, by rw [hN1, g_ms_s, upd, if_pos rfl, hL2]; exact (nI_succ m).symm, fun j hj hn => by rw [hN1, g_ms_n (by decide)]; exact hL.2.2 j hj hn⟩
      have loop : ∀ q i l' N', i + q = k → m + 1 < 24 → FO N N' → LR N' l' (m + 1) → cpyL (m + 1) q i l' = t.1 → m + 1 = t.2 → g_Run (g_cal e) (g_mt S0 k_X10_findOrders) Q 27 [.ref 82, .int (nI k), .int (nI n), .int (nI seen), .int (nI i)] [] N' := by
        intro q
        induction q with
        | zero =>
          intro i l' N' hi hm1 f1 f2 f3 f4
          exact g_go_ 20 (b_ge rfl rfl (by omega) (by omega) (fun _ => h N' f1 (by rw [← f3, ← f4]; exact f2)) (fun y => by omega))
        | succ q ih2 =>
          intro i l' N' hi hm1 f1 f2 f3 f4
          have hg : N' 82 33 = nI (m + 1) := f2.2.1
          refine g_go_ 40 (b_ge rfl rfl (by omega) (by omega) (fun y => by omega) (fun _ => ⟨4 * (m + 1 - 1) + i, ia (im rfl (is (by omega) hg rfl)) rfl, by omega, 4 * (m + 1) + i, ia (im rfl hg) rfl, by omega, ?_⟩))
          obtain ⟨N2, hN2⟩ : ∃ N2, N2 = g_ms N' 100 (upd (N' 100) (4 * (m + 1) + i) (N' 100 (4 * (m + 1 - 1) + i))) := ⟨_, rfl⟩
          have hR := ih2 (i + 1) (l'.set (4 * (m + 1) + i) (l'.getD (4 * (m + 1 - 1) + i) 0)) N2 (by omega) hm1 (f1.tr ⟨fun c c1 c2 => by rw [hN2, g_ms_n c2], fun j hj => by rw [hN2, g_ms_n (by decide)]⟩) (by rw [hN2]; exact f2.set (by omega) (fun hz => f2.2.2 _ (by omega) hz)) f3 f4
          rw [hN2, nI_succ] at hR
          exact g_to hR _ rfl
      have ht1 : (if m + 1 < 24 then cpyL (m + 1) k 0 l else l) = t.1 := by rw [← hf']
      have ht2 : m + 1 = t.2 := by rw [← hf']
      refine b_ne rfl rfl (by omega) (by omega) (fun y => absurd c y) (fun _ => g_stop_ (g_go_ 12 ?_))
      show ((24 : Int32) ≤ g_ms N 82 (upd (N 82) 33 (N 82 33 + 1)) 82 33 → _) ∧ (¬ (24 : Int32) ≤ g_ms N 82 (upd (N 82) 33 (N 82 33 + 1)) 82 33 → _)
      rw [← hN1]
      refine b_ge hL1.2.1 (show (24 : Int32) = nI 24 from rfl) (by omega) (by decide) (fun y => ?_) (fun y => ?_)
      · rw [if_neg (by omega)] at ht1
        have hR : g_Run (g_cal e) (g_mt S0 k_X10_findOrders) Q 69 [.ref 82, .int (nI k), .int (nI n), .int (nI seen), .null] [] N1 := g_go_ 2 (h N1 hF1 (by rw [← ht1, ← ht2]; exact hL1))
        exact g_to hR _ rfl
      · rw [if_pos y] at ht1
        exact g_to (loop k 0 l N1 (by omega) y hF1 hL1 ht1 ht2) _ rfl
    · rw [fo, if_neg c] at hf
      generalize hF : (fun (p : Nat) (s : List Nat × Nat) => if seen.testBit p = true then some s else if s.2 < 24 then fo f k (n + 1) (seen ||| 2 ^ p) (s.1.set (4 * s.2 + n) p, s.2) else none) = F at hf
      have hFe : ∀ p s, F p s = if seen.testBit p = true then some s else if s.2 < 24 then fo f k (n + 1) (seen ||| 2 ^ p) (s.1.set (4 * s.2 + n) p, s.2) else none := fun p s => by rw [← hF]
      have loop : ∀ q p s N', p + q = k + 1 → 1 ≤ p → FO N N' → LR N' s.1 s.2 → foL F q p s = some t → g_Run (g_cal e) (g_mt S0 k_X10_findOrders) Q 73 [.ref 82, .int (nI k), .int (nI n), .int (nI seen), .int (nI p)] [] N' := by
        intro q
        induction q with
        | zero =>
          intro p s N' hp hp1 f1 f2 f3
          have f4 : s = t := Option.some.inj f3
          subst f4
          exact g_go_ 20 (b_gt rfl rfl (by omega) (by omega) (fun _ => h N' f1 f2) (fun y => by omega))
        | succ q ih2 =>
          intro p s N' hp hp1 f1 f2 f3
          rw [foL, hFe] at f3
          refine g_go_ 14 (b_gt rfl rfl (by omega) (by omega) (fun y => by omega) (fun _ => ?_))
          show (¬ (nI seen >>> (nI p &&& 31)) &&& 1 = 1 → _) ∧ ((nI seen >>> (nI p &&& 31)) &&& 1 = 1 → _)
          rw [sb_1 seen hs p (by omega)]
          by_cases cb : seen.testBit p = true
          · rw [if_pos cb] at f3
            rw [cb]
            have hR := ih2 (p + 1) s N' (by omega) (by omega) f1 f2 f3
            rw [nI_succ] at hR
            exact b_nf rfl (g_to hR _ rfl)
          · rw [if_neg cb] at f3
            rw [show seen.testBit p = false by simpa using cb]
            refine b_nt (by decide) ?_
            by_cases cm : s.2 < 24
            · rw [if_pos cm] at f3
              cases hr : fo f k (n + 1) (seen ||| 2 ^ p) (s.1.set (4 * s.2 + n) p, s.2) with
              | none => rw [hr] at f3; exact absurd f3 (by simp)
              | some u =>
                rw [hr] at f3
                have hg : N' 82 33 = nI s.2 := f2.2.1
                obtain ⟨N2, hN2⟩ : ∃ N2, N2 = g_ms N' 100 (upd (N' 100) (4 * s.2 + n) (nI p)) := ⟨_, rfl⟩
                have r107 : g_Run (g_cal e) (g_mt S0 k_X10_findOrders) Q 107 [.ref 82, .int (nI k), .int (nI n), .int (nI seen), .int (nI p)] [] N2 := by
                  have hcall : ∀ Q' : g_R, (∀ N3, FO N2 N3 → LR N3 u.1 u.2 → Q' none N3) → g_cal e k_X10_findOrders [.ref 82, .int (nI k), .int (nI n + 1), .int (nI seen ||| ((1 : Int32) <<< (nI p &&& 31)))] N2 Q' := fun Q' hq => by
                    rw [sb_2 seen hs p (by omega), ← nI_succ]
                    exact ih e k (n + 1) (seen ||| 2 ^ p) (s.1.set (4 * s.2 + n) p, s.2) u N2 Q' (by omega) hk (by omega) (sb_3 seen hs p (by omega)) cm (by rw [hN2]; exact f2.set (j := 4 * s.2 + n) (v := p) (by omega) (fun _ => rfl)) hr hq
                  refine g_go_ 20 (hcall _ (fun N3 g1 g2 => ?_))
                  have hR := ih2 (p + 1) u N3 (by omega) (by omega) ((f1.tr ⟨fun c c1 c2 => by rw [hN2, g_ms_n c2], fun j hj => by rw [hN2, g_ms_n (by decide)]⟩).tr g1) g2 f3
                  rw [nI_succ] at hR
                  exact g_to hR _ rfl
                rw [hN2] at r107
                have r92 : g_Run (g_cal e) (g_mt S0 k_X10_findOrders) Q 92 [.ref 82, .int (nI k), .int (nI n), .int (nI seen), .int (nI p)] [] N' := g_go_ 20 ⟨4 * s.2 + n, ia (im rfl hg) rfl, by omega, g_to r107 _ rfl⟩
                exact g_to r92 _ rfl
            · rw [if_neg cm] at f3; exact absurd f3 (by simp)
      have hR := loop k 1 s N (by omega) (by omega) (FO.rf N) hL hf
      have r70 : g_Run (g_cal e) (g_mt S0 k_X10_findOrders) Q 70 [.ref 82, .int (nI k), .int (nI n), .int (nI seen), .null] [] N := g_go_ 4 (g_to hR _ rfl)
      exact b_ne rfl rfl (by omega) (by omega) (fun _ => g_to r70 _ rfl) (fun y => absurd y c)
