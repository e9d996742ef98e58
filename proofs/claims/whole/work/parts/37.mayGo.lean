/-! ===== mayGo ===== -/
def nob (a : Nat → Nat) (p y : Nat) : Prop := ∀ i q, i < a 2 → 1 ≤ q → q < a 0 → q ≠ p → a (17 + 5 * q) ≠ 0 → wrB a i q (a 11) y = false
theorem x_nobody {d : Nat} {M : g_M} {Q : g_R} {a : Nat → Nat} (hd : 3 ≤ d) (v : V1 a) (v2 : V2 a) (hX : RX M 1 a) (p y : Nat) (hp : p < a 0) (hy : y < 2 ^ 31) (ht : nob a p y → Q (some (.int 1)) M) (hf : ¬ nob a p y → Q (some (.int 0)) M) : g_cal d k_X9_nobodyRuns [.ref 0, .int (nI p), .int (nI y)] M Q := by
  obtain ⟨g1, g2, ⟨t1, -⟩, -⟩ := hX
  have b0 : a 0 ≤ 8 := v.2.1
  have b1 : 1 ≤ a 0 := v.1
  have b2 : a 2 ≤ 8 := v.2.2.2.1
  have b11 : a 11 ≤ 60 := v2.2.2.2.1
  have x1 := g1.1
  have x3 := g1.2.2.1
  refine g_m (by omega) 60 (fun e he => ⟨2, rfl, by decide, ?_⟩)
  rw [t1 2 (by decide)]
  have loop : ∀ m q u, q + m = a 0 → 1 ≤ q → (∀ i q', i < a 2 → 1 ≤ q' → q' < q → q' ≠ p → a (17 + 5 * q') ≠ 0 → wrB a i q' (a 11) y = false) → g_Run (g_cal e) (g_mt S0 k_X9_nobodyRuns) Q 25 [.ref 0, .int (nI p), .int (nI y), .ref 2, .int (nI (a 11)), .int (nI q), u] [] M := by
    intro m
    induction m with
    | zero =>
      intro q u hq hq1 ho
      refine g_go_ 30 (b_ge rfl x1 (by omega) (by omega) (fun _ => ⟨rfl, ht (fun i q' h1 h2 h3 => ho i q' h1 h2 (by omega))⟩) (fun z => by omega))
    | succ m ih =>
      intro q u hq hq1 ho
      have bk : a (17 + 5 * q) < 65536 := v.2.2.2.2.1 _
      have nx : ∀ u, (∀ i, i < a 2 → q ≠ p → a (17 + 5 * q) ≠ 0 → wrB a i q (a 11) y = false) → g_Run (g_cal e) (g_mt S0 k_X9_nobodyRuns) Q 25 [.ref 0, .int (nI p), .int (nI y), .ref 2, .int (nI (a 11)), .int (nI q + 1), u] [] M := by
        intro u h
        rw [← nI_succ]
        refine ih (q + 1) u (by omega) (by omega) (fun i q' h1 h2 h3 h4 h5 => ?_)
        by_cases z : q' = q
        · subst z; exact h i h1 h4 h5
        · exact ho i q' h1 h2 (by omega) h4 h5
      refine g_go_ 40 (b_ge rfl x1 (by omega) (by omega) (fun z => by omega) (fun _ => ?_))
      refine b_eq rfl rfl (by omega) (by omega) (fun z => g_to (nx u (fun i _ h => absurd z h)) _ rfl) (fun zp => ⟨q, rfl, by omega, ?_⟩)
      rw [(g1.2.2.2.1 q (by omega)).2.1]
      refine b_ne (b := 0) rfl rfl (by omega) (by decide) (fun zr => ?_) (fun z => g_to (nx u (fun i _ _ h => absurd z h)) _ rfl)
      have inner : ∀ m2 i, i + m2 = a 2 → (∀ i', i' < i → wrB a i' q (a 11) y = false) → g_Run (g_cal e) (g_mt S0 k_X9_nobodyRuns) Q 56 [.ref 0, .int (nI p), .int (nI y), .ref 2, .int (nI (a 11)), .int (nI q), .int (nI i)] [] M := by
        intro m2
        induction m2 with
        | zero =>
          intro i hi h
          exact g_go_ 30 (b_ge rfl x3 (by omega) (by omega) (fun _ => g_to (nx (.int (nI i)) (fun i' h1 _ _ => h i' (by omega))) _ rfl) (fun z => by omega))
        | succ m2 ih2 =>
          intro i hi h
          refine g_go_ 30 (b_ge rfl x3 (by omega) (by omega) (fun z => by omega) (fun _ => ?_))
          refine x_wouldRun (by omega) v g1 g2 i q (a 11) y (by omega) (by omega) (by omega) hy (b_z (fun z => ?_) (fun z => ⟨rfl, hf (fun hn => ?_)⟩))
          · have hR := ih2 (i + 1) (by omega) (fun i' hi' => by
              by_cases w : i' = i
              · subst w; exact z
              · exact h i' (by omega))
            rw [nI_succ] at hR
            exact g_to hR _ rfl
          · have := hn i q (by omega) hq1 (by omega) zp zr
            rw [z] at this; cases this
      exact g_to (inner (a 2) 0 (by omega) (fun i' h => by omega)) _ rfl
  exact g_to (loop (a 0 - 1) 1 .null (by omega) (by omega) (fun i q' h1 h2 h3 => by omega)) _ rfl
theorem m_mayGoTo {d : Nat} {N : g_M} {Q : g_R} {a : Nat → Nat} (hd : 5 ≤ d) (v : V1 a) (v2 : V2 a) (f : FA N a) (p : Nat) (hp : p < a 0) (ht : nob a p (ds a p 0) → Q (some (.int 1)) N) (hf : ¬ nob a p (ds a p 0) → Q (some (.int 0)) N) : g_cal d k_X10_mayGoTo [.ref 82, .int (nI p)] N Q := by
  have b0 : a 0 ≤ 8 := v.2.1
  have b1 : 1 ≤ a 0 := v.1
  have b2 : a 2 ≤ 8 := v.2.2.2.1
  refine g_m (by omega) 4 (fun e he => ?_)
  have loop : ∀ m i u, i + m = a 2 → (∀ i' q, i' < i → 1 ≤ q → q < a 0 → q ≠ p → a (17 + 5 * q) ≠ 0 → wrB a i' q (a 11) (ds a p 0) = false) → g_Run (g_cal e) (g_mt S0 k_X10_mayGoTo) Q 2 [.ref 82, .int (nI p), .int (nI i), u] [] N := by
    intro m
    induction m with
    | zero =>
      intro i u hi ho
      refine g_go_ 30 ⟨2, rfl, by decide, ?_⟩
      rw [f.1 2 (by decide)]
      exact b_ge rfl rfl (by omega) (by omega) (fun _ => ⟨rfl, ht (fun i' q h1 => ho i' q (by omega))⟩) (fun z => by omega)
    | succ m ih =>
      intro i u hi ho
      refine g_go_ 30 ⟨2, rfl, by decide, ?_⟩
      rw [f.1 2 (by decide)]
      refine b_ge rfl rfl (by omega) (by omega) (fun z => by omega) (fun _ => ?_)
      have inner : ∀ m2 q, q + m2 = a 0 → 1 ≤ q → (∀ q', 1 ≤ q' → q' < q → q' ≠ p → a (17 + 5 * q') ≠ 0 → wrB a i q' (a 11) (ds a p 0) = false) → g_Run (g_cal e) (g_mt S0 k_X10_mayGoTo) Q 14 [.ref 82, .int (nI p), .int (nI i), .int (nI q)] [] N := by
        intro m2
        induction m2 with
        | zero =>
          intro q hq hq1 h
          have hR := ih (i + 1) (.int (nI q)) (by omega) (fun i' q' h1 h2 h3 h4 h5 => by
            by_cases w : i' = i
            · subst w; exact h q' h2 (by omega) h4 h5
            · exact ho i' q' (by omega) h2 h3 h4 h5)
          rw [nI_succ] at hR
          refine g_go_ 30 ⟨0, rfl, by decide, ?_⟩
          rw [f.1 0 (by decide)]
          exact b_ge rfl rfl (by omega) (by omega) (fun _ => g_to hR _ rfl) (fun z => by omega)
        | succ m2 ih2 =>
          intro q hq hq1 h
          have bk : a (17 + 5 * q) < 65536 := v.2.2.2.2.1 _
          have nx : (q ≠ p → a (17 + 5 * q) ≠ 0 → wrB a i q (a 11) (ds a p 0) = false) → g_Run (g_cal e) (g_mt S0 k_X10_mayGoTo) Q 14 [.ref 82, .int (nI p), .int (nI i), .int (nI q + 1)] [] N := by
            intro h2
            rw [← nI_succ]
            refine ih2 (q + 1) (by omega) (by omega) (fun q' z1 z2 z3 z4 => ?_)
            by_cases w : q' = q
            · subst w; exact h2 z3 z4
            · exact h q' z1 (by omega) z3 z4
          refine g_go_ 40 ⟨0, rfl, by decide, ?_⟩
          rw [f.1 0 (by decide)]
          refine b_ge rfl rfl (by omega) (by omega) (fun z => by omega) (fun _ => ?_)
          refine b_eq rfl rfl (by omega) (by omega) (fun z => g_to (nx (fun h => absurd z h)) _ rfl) (fun zp => m_get (by omega) q 1 rfl rfl (by omega) (by decide) ?_)
          rw [f.1 _ (by omega), show 16 + 5 * q + 1 = 17 + 5 * q by omega]
          refine b_le (b := 0) rfl rfl (by omega) (by decide) (fun z => g_to (nx (fun _ h => absurd (by omega) h)) _ rfl) (fun zr => ?_)
          refine m_tableOf (by omega) v v2 f i p (by omega) hp ?_
          obtain ⟨j1, j2⟩ := tb_J a i (ds a p 0) b1 b0
          have j1q := j1 q
          rw [decide_eq_true (show 1 ≤ q ∧ q < a 0 from ⟨hq1, by omega⟩), Bool.true_and] at j1q
          show (¬ ((nI (tb a i (ds a p 0)) >>> (nI q &&& 31)) &&& 1) = 1 → _) ∧ (((nI (tb a i (ds a p 0)) >>> (nI q &&& 31)) &&& 1) = 1 → _)
          rw [n_bit (by omega) (by omega), j1q]
          refine b_b1 (fun z => g_to (nx (fun _ _ => z)) _ rfl) (fun z => ⟨rfl, hf (fun hn => ?_)⟩)
          have := hn i q (by omega) hq1 (by omega) zp (by omega)
          rw [z] at this; cases this
      exact g_to (inner (a 0 - 1) 1 (by omega) (by omega) (fun q' h1 h2 => by omega)) _ rfl
  exact g_to (loop (a 2) 0 .null (by omega) (fun i' q h => by omega)) _ rfl
noncomputable def mgF (a : Nat → Nat) (p b : Nat) : Nat := @ite _ (ds a p 0 < 100000 ∧ ds a b 0 < ds a p 0 ∧ nob a p (ds a p 0)) (Classical.propDecidable _) p b
theorem p_mayGo {d n : Nat} {M : g_M} (hd : 8 ≤ d) (I : Inv n M) : g_pair d k_X9_mayGo k_X10_mayGo [] M (Inv (n + 1)) := by
  have I0 := I
  obtain ⟨a, ⟨v, v2, -⟩, hX, hM, -⟩ := I
  have g1 := hX.1
  have g2 := hX.2.1
  have b0 : a 0 ≤ 8 := v.2.1
  have b1 : 1 ≤ a 0 := v.1
  have x1 := g1.1
  have hJ : ∀ p b, p < a 0 → (b < a 0 ∧ ds a b 0 < 100000) → (mgF a p b < a 0 ∧ ds a (mgF a p b) 0 < 100000) := by
    intro p b hp hb
    unfold mgF
    split
    · rename_i z; exact ⟨hp, z.1⟩
    · exact hb
  have md : g_cal d k_X10_mayGo [.ref 82] M (fun v2 M2 => v2 = some (.int (nI (g_it (mgF a) (a 0 - 1) 1 0))) ∧ Inv (n + 1) M2) := by
    refine g_m (by omega) 60 (fun e he => m_findFar (by omega) v hM (fun N hN => ?_))
    have f := hN.fa hM
    have key : g_Run (g_cal e) (g_mt S0 k_X10_mayGo) (fun v2 M2 => v2 = some (.int (nI (g_it (mgF a) (a 0 - 1) 1 0))) ∧ Inv (n + 1) M2) 8 [.ref 82, .int (nI 0), .int (nI 1)] [] N := by
      refine g_loop (fun p b => g_Run (g_cal e) (g_mt S0 k_X10_mayGo) (fun v2 M2 => v2 = some (.int (nI (g_it (mgF a) (a 0 - 1) 1 0))) ∧ Inv (n + 1) M2) 8 [.ref 82, .int (nI b), .int (nI p)] [] N) (fun _ b => b < a 0 ∧ ds a b 0 < 100000) (mgF a) (a 0) ?_ (fun p b hp hb => hJ p b hp hb) (a 0 - 1) 1 0 (by omega) ⟨by omega, by rw [ds_xx]; decide⟩ (fun _ => ?_)
      · intro p b hp hb hR
        have bd := ds_le v 0 p
        have bd2 := ds_le v 0 b
        rw [nI_succ] at hR
        have no : ¬ (ds a p 0 < 100000 ∧ ds a b 0 < ds a p 0 ∧ nob a p (ds a p 0)) → g_Run (g_cal e) (g_mt S0 k_X10_mayGo) (fun v2 M2 => v2 = some (.int (nI (g_it (mgF a) (a 0 - 1) 1 0))) ∧ Inv (n + 1) M2) 8 [.ref 82, .int (nI b), .int (nI p + 1)] [] N := by
          intro z; unfold mgF at hR; rw [if_neg z] at hR; exact hR
        have yes : (ds a p 0 < 100000 ∧ ds a b 0 < ds a p 0 ∧ nob a p (ds a p 0)) → g_Run (g_cal e) (g_mt S0 k_X10_mayGo) (fun v2 M2 => v2 = some (.int (nI (g_it (mgF a) (a 0 - 1) 1 0))) ∧ Inv (n + 1) M2) 8 [.ref 82, .int (nI p), .int (nI p + 1)] [] N := by
          intro z; unfold mgF at hR; rw [if_pos z] at hR; exact hR
        refine g_go_ 40 ⟨0, rfl, by decide, ?_⟩
        rw [f.1 0 (by decide)]
        refine b_ge rfl rfl (by omega) (by omega) (fun z => by omega) (fun _ => ?_)
        refine m_isFar (by omega) v f _ _ p 0 rfl rfl (by omega) (by decide) (b_z (fun z => ?_) (fun z => ?_))
        · exact g_to (no (fun w => of_decide_eq_false z w.1)) _ rfl
        · refine m_mayGoTo (by omega) v v2 f p hp (fun zn => ?_) (fun zn => b_t rfl (g_to (no (fun w => zn w.2.2)) _ rfl))
          refine b_f (by decide) (m_farOf (by omega) f _ _ 0 p rfl rfl (by decide) (by omega) (m_farOf (by omega) f _ _ 0 b rfl rfl (by decide) (by omega) ?_))
          refine b_le rfl rfl (by omega) (by omega) (fun z2 => ?_) (fun z2 => ?_)
          · rw [ds_comm a 0 p, ds_comm a 0 b] at z2
            exact g_to (no (fun w => by omega)) _ rfl
          · rw [ds_comm a 0 p, ds_comm a 0 b] at z2
            exact g_to (yes ⟨of_decide_eq_true z, z2, zn⟩) _ rfl
      · refine g_go_ 40 ⟨0, rfl, by decide, ?_⟩
        rw [f.1 0 (by decide)]
        exact b_ge rfl rfl (by omega) (by omega) (fun _ => ⟨rfl, (I0.fr hN.sm).up⟩) (fun z => by omega)
    exact g_to key _ rfl
  refine g_m (by omega) 4 (fun e he => ?_)
  have loop : ∀ m p b u, p + m = a 0 → (b < a 0 ∧ ds a b 0 < 100000) → g_it (mgF a) m p b = g_it (mgF a) (a 0 - 1) 1 0 → g_Run (g_cal e) (g_mt S0 k_X9_mayGo) (fun v M1 => ∃ r, v = some (.int r) ∧ g_cal d k_X10_mayGo [.ref 82] M1 (fun v2 M2 => v2 = some (.int r) ∧ Inv (n + 1) M2)) 4 [.ref 0, .int (nI b), .int (nI p), u] [] M := by
    intro m
    induction m with
    | zero =>
      intro p b u hp hb hr
      refine g_go_ 40 (b_ge rfl x1 (by omega) (by omega) (fun _ => ⟨_, rfl, ?_⟩) (fun z => by omega))
      rw [show b = _ from hr]
      exact md
    | succ m ih =>
      intro p b u hp hb hr
      have bd := ds_le v p 0
      have bd2 := ds_le v b 0
      have hR := fun u => ih (p + 1) (mgF a p b) u (by omega) (hJ p b (by omega) hb) hr
      rw [nI_succ] at hR
      have no : ∀ u, ¬ (ds a p 0 < 100000 ∧ ds a b 0 < ds a p 0 ∧ nob a p (ds a p 0)) → g_Run (g_cal e) (g_mt S0 k_X9_mayGo) (fun v M1 => ∃ r, v = some (.int r) ∧ g_cal d k_X10_mayGo [.ref 82] M1 (fun v2 M2 => v2 = some (.int r) ∧ Inv (n + 1) M2)) 4 [.ref 0, .int (nI b), .int (nI p + 1), u] [] M := by
        intro u z; have hR := hR u; unfold mgF at hR; rw [if_neg z] at hR; exact hR
      have yes : ∀ u, (ds a p 0 < 100000 ∧ ds a b 0 < ds a p 0 ∧ nob a p (ds a p 0)) → g_Run (g_cal e) (g_mt S0 k_X9_mayGo) (fun v M1 => ∃ r, v = some (.int r) ∧ g_cal d k_X10_mayGo [.ref 82] M1 (fun v2 M2 => v2 = some (.int r) ∧ Inv (n + 1) M2)) 4 [.ref 0, .int (nI p), .int (nI p + 1), u] [] M := by
        intro u z; have hR := hR u; unfold mgF at hR; rw [if_pos z] at hR; exact hR
      refine g_go_ 40 (b_ge rfl x1 (by omega) (by omega) (fun z => by omega) (fun _ => ?_))
      refine x_distance (by omega) v g1 g2 p 0 (by omega) (by omega) (x_distance (by omega) v g1 g2 b 0 hb.1 (by omega) ?_)
      rw [cD_in hb.2]
      by_cases z : ds a p 0 < 100000
      · rw [cD_in z]
        refine b_le rfl rfl (by omega) (by omega) (fun z2 => g_to (no (.int (nI (ds a p 0))) (fun w => by omega)) _ rfl) (fun z2 => ?_)
        refine x_nobody (by omega) v v2 hX p (ds a p 0) (by omega) (by omega) (fun zn => b_f (by decide) ?_) (fun zn => b_t rfl ?_)
        · exact g_to (yes (.int (nI (ds a p 0))) ⟨z, z2, zn⟩) _ rfl
        · exact g_to (no (.int (nI (ds a p 0))) (fun w => zn w.2.2)) _ rfl
      · rw [cD_no z]
        exact b_t (Int32.le_of_lt (n_lt9 (by omega))) (g_to (no (.int (-9)) (fun w => z w.1)) _ rfl)
  exact g_to (loop (a 0 - 1) 1 0 .null (by omega) ⟨by omega, by rw [ds_xx]; decide⟩ rfl) _ rfl
