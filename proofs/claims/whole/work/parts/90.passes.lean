/-! ===== garden: both passes ===== -/
def ps1 (T : Nat → Nat) (n : Nat) : Nat → Nat → Nat → Bool × Nat
  | 0, _, _ => (false, 0)
  | f + 1, i, c => if (prs T n i).1 = true then (if (prs T n i).2.1 < n then ps1 T n f (prs T n i).2.1 (c + 1) else (true, c + 1)) else (false, (prs T n i).2.1)
def ps2 (T : Nat → Nat) (n : Nat) : Nat → (Nat → Nat) → Nat → Nat ⊕ (Nat → Nat) → Prop
  | 0, _, _, _ => False
  | f + 1, b, i, out => (i < n ∧ ((bad b (T i) (prs T n i) ∧ out = .inl i) ∨ ∃ b', tel b (T i) (prs T n i) b' ∧ ps2 T n f b' (prs T n i).2.1 out)) ∨ (n ≤ i ∧ out = .inr b)
theorem ps1_lt {T : Nat → Nat} {n C : Nat} : ∀ f i c, ps1 T n f i c = (true, C) → c < C
  | 0, i, c, h => absurd (congrArg Prod.fst h) Bool.false_ne_true
  | f + 1, i, c, h => by
    unfold ps1 at h
    by_cases h1 : (prs T n i).1 = true
    · rw [if_pos h1] at h
      by_cases h2 : (prs T n i).2.1 < n
      · rw [if_pos h2] at h
        have := ps1_lt f _ _ h
        omega
      · rw [if_neg h2] at h
        have := (Prod.mk.inj h).2
        omega
    · rw [if_neg h1] at h
      exact absurd (congrArg Prod.fst h) Bool.false_ne_true
theorem tel_bad {b b' : Nat → Nat} {c : Nat} {R : RES} (h : tel b c R b') (h2 : bad b c R) : False := by
  rcases h with ⟨rfl, h1, -⟩ | ⟨rfl, h1, -⟩ | ⟨rfl, h1, -⟩ | ⟨rfl, h1, -⟩ <;> rcases h2 with ⟨z, h3⟩ | ⟨z, h3⟩ | ⟨z, h3⟩ | ⟨z, h3⟩ <;> first | exact absurd z (by decide) | exact h1 h3 | exact h3 h1
theorem tel_fun {b b1 b2 : Nat → Nat} {c : Nat} {R : RES} (h : tel b c R b1) (h2 : tel b c R b2) : b1 = b2 := by
  rcases h with ⟨rfl, -, rfl⟩ | ⟨rfl, -, rfl⟩ | ⟨rfl, -, rfl⟩ | ⟨rfl, -, rfl⟩ <;> rcases h2 with ⟨z, -, h3⟩ | ⟨z, -, h3⟩ | ⟨z, -, h3⟩ | ⟨z, -, h3⟩ <;> first | exact absurd z (by decide) | exact h3.symm
theorem same_rf (a : Nat → Nat) : same a a := ⟨⟨Nat.le_refl _, Nat.le_refl _⟩, fun _ _ => rfl⟩
theorem same_tr {a b c : Nat → Nat} (h : same a b) (h2 : same b c) : same a c := ⟨⟨Nat.le_trans h.1.1 h2.1.1, Nat.le_trans h.1.2 h2.1.2⟩, fun k hk => (h2.2 k hk).trans (h.2 k hk)⟩
theorem x_count {d n : Nat} {N : g_M} {Q : g_R} {T : Nat → Nat} (hd : 11 ≤ d) (t : XT T n) (s1 : N 67 2 = nI n) (s2 : ∀ j, j < n → N 68 j = nI (T j)) (h1 : ∀ k N', ps1 T n (n + 1) 0 0 = (false, k) → k ≤ n → FR N N' → N' 67 2 = nI n → Q (some (.int (-1000 - nI k))) N') (h2 : ∀ C N', ps1 T n (n + 1) 0 0 = (true, C) → 1 ≤ C → C ≤ 64 → FR N N' → N' 67 2 = nI n → Q (some (.int (nI C))) N') : g_cal d k_X3_countStatements [.ref 67] N Q := by
  have t1 := t.1
  refine g_m (by omega) 6 (fun e he => ?_)
  have R28 : ∀ f i c N', ps1 T n f i c = ps1 T n (n + 1) 0 0 → n + 1 ≤ f + i → i ≤ n → c ≤ i → FR N N' → XS N' T n i → g_Run (g_cal e) (g_mt S0 k_X3_countStatements) Q 28 [.ref 67, .int (nI c)] [] N' := by
    intro f
    induction f with
    | zero => intro i c N' _ hf hi; omega
    | succ f ih =>
      intro i c N' hp hf hi hc f1 f2
      obtain ⟨o1, o2, o3⟩ := prs_ok (T := T) hi
      refine g_go_ 30 (x_readStatement (by omega) t hi f2 (fun N2 g1 g2 _ => ?_))
      have gF : FR N N2 := fun c c1 c2 => (g1 c c1 c2).trans (f1 c c1 c2)
      unfold ps1 at hp
      cases ho : (prs T n i).1 with
      | false =>
        rw [ho, if_neg Bool.false_ne_true] at hp
        have hq := h1 _ N2 hp.symm o1 gF g2.1
        rw [← g2.2.2] at hq
        exact b_nf rfl hq
      | true =>
        rw [ho, if_pos rfl] at hp
        obtain ⟨q1, q2, -⟩ := o3 ho
        refine b_nt (by decide) ?_
        have r7 : g_Run (g_cal e) (g_mt S0 k_X3_countStatements) Q 7 [.ref 67, .int (nI c + 1)] [] N2 := by
          rw [← nI_succ]
          have hc1 : c + 1 ≤ (prs T n i).2.1 := by omega
          refine g_go_ 30 (b_eq (b := 0) rfl rfl (by omega) (by decide) (fun z => by omega) (fun _ => ?_))
          by_cases c2 : (prs T n i).2.1 < n
          · rw [if_pos c2] at hp
            refine b_ge g2.2.2 g2.1 (by omega) (by omega) (fun z => by omega) (fun _ => b_ge (b := 64) rfl rfl (by omega) (by decide) (fun z => by omega) (fun _ => ?_))
            exact g_to (ih (prs T n i).2.1 (c + 1) N2 hp (by omega) (by omega) hc1 gF g2) _ rfl
          · rw [if_neg c2] at hp
            exact b_ge g2.2.2 g2.1 (by omega) (by omega) (fun _ => h2 (c + 1) N2 hp.symm (by omega) (by omega) gF g2.1) (fun z => by omega)
        exact g_to r7 _ rfl
  obtain ⟨N1, hN1⟩ : ∃ N1, N1 = g_ms N 67 (upd (N 67) 3 0) := ⟨_, rfl⟩
  have hR := R28 (n + 1) 0 0 N1 rfl (by omega) (by omega) (Nat.le_refl _) (fun c c1 c2 => by rw [hN1, g_ms_n c1]) ⟨by rw [hN1, g_ms_s]; exact s1, fun j hj => by rw [hN1, g_ms_n (by decide)]; exact s2 j hj, by rw [hN1, g_ms_s]; rfl⟩
  have r7 : g_Run (g_cal e) (g_mt S0 k_X3_countStatements) Q 7 [.ref 67, .int 0] [] N1 := g_go_ 3 (b_t rfl (g_to hR _ rfl))
  rw [hN1] at r7
  exact g_to r7 _ rfl
def FRD (M N : g_M) : Prop := ∀ c, c ≠ 67 → c ≠ 69 → (c < 45 ∨ 56 < c) → N c = M c
theorem x_readInto {d n : Nat} {N : g_M} {Q : g_R} {T a : Nat → Nat} (hd : 12 ≤ d) (t : XT T n) (v : V1 a) (g1 : GX1 N 45 a) (s1 : N 67 2 = nI n) (s2 : ∀ j, j < n → N 68 j = nI (T j)) (h1 : ∀ k N', ps1 T n (n + 1) 0 0 = (false, k) → k ≤ n → FRD N N' → Q (some (.int (-1000 - nI k))) N') (h2 : ∀ C k N', ps1 T n (n + 1) 0 0 = (true, C) → ps2 T n (n + 1) a 0 (.inl k) → k ≤ n → FRD N N' → Q (some (.int (-2000 - nI k))) N') (h3 : ∀ C b N', ps1 T n (n + 1) 0 0 = (true, C) → ps2 T n (n + 1) a 0 (.inr b) → 1 ≤ C → C ≤ 64 → FRD N N' → GX1 N' 45 b → V1 b → same a b → Q (some (.int (nI C))) N') : g_cal d k_X3_readInto [.ref 67, .ref 45] N Q := by
  have t1 := t.1
  refine g_m (by omega) 3 (fun e he => ?_)
  refine x_count (by omega) t s1 s2 (fun k N' p1 p2 p3 p4 => ?_) (fun C N1 p1 c1 c2 p3 p4 => ?_)
  · -- a fault of form
    have hlt : -1000 - nI k ≤ 0 := by
      have e1 : (nI k).toInt = k := nI_toInt (by omega)
      have e2 : (-1000 : Int32).toInt = -1000 := by decide
      rw [Int32.le_iff_toInt_le, Int32.toInt_sub, e1, e2, show (0 : Int32).toInt = 0 from by decide, Int.bmod_def]
      split <;> omega
    obtain ⟨N2, hN2⟩ : ∃ N2, N2 = g_ms N' 67 (upd (N' 67) 3 0) := ⟨_, rfl⟩
    have hq := h1 k N2 p1 p2 (fun c q1 q2 _ => by rw [hN2, g_ms_n q1]; exact p3 c q1 q2)
    have r4 : g_Run (g_cal e) (g_mt S0 k_X3_readInto) Q 4 [.ref 67, .ref 45, .null, .null, .null, .null] [.int (-1000 - nI k)] N' := by
      rw [hN2] at hq
      exact g_go_ 20 (b_t hlt hq)
    exact g_to r4 _ rfl
  · have R12 : ∀ f2 i j b N' u4 u5, n + 1 ≤ f2 + i → i ≤ n → (∀ out, ps2 T n f2 b i out → ps2 T n (n + 1) a 0 out) → ((j < C ∧ i < n ∧ ∃ f, ps1 T n f i j = (true, C)) ∨ (j = C ∧ n ≤ i)) → FRD N N' → XS N' T n i → GX1 N' 45 b → V1 b → same a b → (u4 = .null ∨ ∃ w, u4 = .int w) → g_Run (g_cal e) (g_mt S0 k_X3_readInto) Q 12 [.ref 67, .ref 45, .int (nI C), .int (nI j), u4, u5] [] N' := by
      intro f2
      induction f2 with
      | zero => intro i j b N' u4 u5 hf hi; omega
      | succ f2 ih =>
        intro i j b N' u4 u5 hf hi ho hj k1 k2 k3 k4 k5 w4
        rcases hj with ⟨j1, j2, f, j3⟩ | ⟨j1, j2⟩
        · obtain ⟨o1, o2, o3⟩ := prs_ok (T := T) hi
          cases f with
          | zero => exact absurd j3 (by simp [ps1])
          | succ f =>
            unfold ps1 at j3
            cases hok : (prs T n i).1 with
            | false => rw [hok, if_neg Bool.false_ne_true] at j3; exact absurd (congrArg Prod.fst j3) Bool.false_ne_true
            | true =>
              rw [hok, if_pos rfl] at j3
              obtain ⟨q1, q2, q3, q4⟩ := o3 hok
              have hs : sI T n i = nI (T i) := by unfold sI; rw [if_pos j2]
              -- one statement
              have r23 : g_Run (g_cal e) (g_mt S0 k_X3_readInto) Q 23 [.ref 67, .ref 45, .int (nI C), .int (nI j), .int (nI i), u5] [] N' := by
                refine g_go_ 60 (x_sign (by omega) t hi k2 ?_)
                rw [hs]
                refine x_readStatement (by omega) t hi k2 (fun N2 m1 m2 m3 => ?_)
                rw [hok]
                have g2 : GX1 N2 45 b := k3.fr (fun c c1 c2 => m1 c (by omega) (by omega))
                have m1' : FRD N N2 := fun c c1 c2 c3 => (m1 c c1 c2).trans (k1 c c1 c2 c3)
                refine b_f (by decide) (x_tell (by omega) k4 g2 q4 q3 (m3 hok) (fun z => ?_) (fun b' N3 z n1 n2 => ?_))
                · exact b_nf rfl (h2 C i N2 p1 (ho _ (Or.inl ⟨j2, Or.inl ⟨z, rfl⟩⟩)) hi m1')
                · obtain ⟨v', s'⟩ := tel_ok k4 q4 z
                  have hXS : XS N3 T n (prs T n i).2.1 := ⟨by rw [n1 67 (by omega)]; exact m2.1, fun j hj => by rw [n1 68 (by omega)]; exact m2.2.1 j hj, by rw [n1 67 (by omega)]; exact m2.2.2⟩
                  have hR := ih (prs T n i).2.1 (j + 1) b' N3 (.int (nI i)) (.int (nI (T i))) (by omega) o1 (fun out hout => ho out (Or.inl ⟨j2, Or.inr ⟨b', z, hout⟩⟩)) (by
                    by_cases c3 : (prs T n i).2.1 < n
                    · rw [if_pos c3] at j3
                      refine Or.inl ⟨?_, c3, f, j3⟩
                      exact ps1_lt f _ _ j3
                    · rw [if_neg c3] at j3
                      have := (Prod.mk.inj j3).2
                      exact Or.inr ⟨this, by omega⟩) (fun c c1 c2 c3 => by rw [n1 c (by omega)]; exact m1' c c1 c2 c3) hXS n2 v' (same_tr k5 s') (Or.inr ⟨_, rfl⟩)
                  rw [nI_succ] at hR
                  exact b_nt (by decide) (g_to hR _ rfl)
              rw [← k2.2.2] at r23
              rcases w4 with rfl | ⟨w, rfl⟩
              all_goals exact g_go_ 20 (b_ge rfl rfl (by omega) (by omega) (fun z => by omega) (fun _ => g_to r23 _ rfl))
        · exact g_go_ 20 (b_ge rfl rfl (by omega) (by omega) (fun _ => h3 C b N' p1 (ho _ (Or.inr ⟨j2, rfl⟩)) c1 c2 k1 k3 k4 k5) (fun z => by omega))
    obtain ⟨N2, hN2⟩ : ∃ N2, N2 = g_ms N1 67 (upd (N1 67) 3 0) := ⟨_, rfl⟩
    have n0 : 0 < n := by
      by_cases c : n = 0
      · exfalso
        have : (prs T n 0).1 = false := by
          cases hok : (prs T n 0).1 with
          | false => rfl
          | true => have := ((prs_ok (T := T) (n := n) (Nat.zero_le n)).2.2 hok).1; omega
        unfold ps1 at p1
        rw [this, if_neg Bool.false_ne_true] at p1
        exact Bool.false_ne_true (congrArg Prod.fst p1)
      · omega
    have hR := R12 (n + 1) 0 0 a N2 .null .null (by omega) (by omega) (fun _ h => h) (Or.inl ⟨by omega, n0, n + 1, p1⟩) (fun c q1 q2 _ => by rw [hN2, g_ms_n q1]; exact p3 c q1 q2) ⟨by rw [hN2, g_ms_s]; exact p4, fun j hj => by rw [hN2, g_ms_n (by decide), p3 68 (by decide) (by decide)]; exact s2 j hj, by rw [hN2, g_ms_s]; rfl⟩ (g1.fr (fun c c1 c2 => by rw [hN2, g_ms_n (by omega)]; exact p3 c (by omega) (by omega))) v (same_rf a) (Or.inl rfl)
    have r4 : g_Run (g_cal e) (g_mt S0 k_X3_readInto) Q 4 [.ref 67, .ref 45, .null, .null, .null, .null] [.int (nI C)] N1 := by
      rw [hN2] at hR
      exact g_go_ 7 (g_to hR _ rfl)
    exact g_to r4 _ rfl
