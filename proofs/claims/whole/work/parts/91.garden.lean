/-! ===== garden: the reference's passes; the pair ===== -/
def FYR (M N : g_M) : Prop := (∀ c, c ≠ 82 → c ≠ 84 → c ≠ 86 → c ≠ 88 → N c = M c) ∧ ∀ j, j ≠ 8 → N 82 j = M 82 j
theorem m_reads {d n : Nat} {M : g_M} {Q : g_R} {T a : Nat → Nat} (hd : 6 ≤ d) (t : XT T n) (v : V1 a) (hM : RM M 84 a) (s1 : M 82 7 = nI n) (s2 : ∀ j, j < n → M 87 j = nI (T j)) (h1 : ∀ k N, ps1 T n (n + 1) 0 0 = (false, k) → FYR M N → N 84 = M 84 → Q (some (.int (-1000 - nI k))) N) (h2 : ∀ C, ps1 T n (n + 1) 0 0 = (true, C) → ∃ out, ps2 T n (n + 1) a 0 out ∧ (∀ k N, out = .inl k → FYR M N → N 84 = M 84 → Q (some (.int (-2000 - nI k))) N) ∧ (∀ b N, out = .inr b → FYR M N → RM N 84 b → Q (some (.int (nI C))) N)) : g_cal d k_X10_reads [.ref 82] M Q := by
  have t1 := t.1
  refine g_m (by omega) 6 (fun e he => ?_)
  -- the second pass
  have R37 : ∀ C N, ps1 T n (n + 1) 0 0 = (true, C) → 0 < n → FYR M N → N 84 = M 84 → ∀ i0, YS N T n i0 → g_Run (g_cal e) (g_mt S0 k_X10_reads) Q 37 [.ref 82, .int (nI C), .null, .null, .null] [] N := by
    intro C N p1 n0 f1 f84 i0 f2
    obtain ⟨out, q1, q2, q3⟩ := h2 C p1
    -- all is taken over
    have R115 : ∀ m x b N u3 u4, x + m = 154 → out = .inr b → FYR M N → RM N 86 b → (∀ j, j < x → N 84 j = nI (b j)) → g_Run (g_cal e) (g_mt S0 k_X10_reads) Q 115 [.ref 82, .int (nI C), .int (nI x), u3, u4] [] N := by
      intro m
      induction m with
      | zero =>
        intro x b N u3 u4 hx ho k1 k2 k3
        exact g_go_ 20 (b_ge (b := 154) rfl rfl (by omega) (by decide) (fun _ => q3 b N ho k1 (fun j hj => k3 j (by omega))) (fun z => by omega))
      | succ m ih =>
        intro x b N u3 u4 hx ho k1 k2 k3
        obtain ⟨N2, hN2⟩ : ∃ N2, N2 = g_ms N 84 (upd (N 84) x (N 86 x)) := ⟨_, rfl⟩
        have hR := ih (x + 1) b N2 u3 u4 (by omega) ho ⟨fun c c1 c2 c3 c4 => by rw [hN2, g_ms_n c2]; exact k1.1 c c1 c2 c3 c4, fun j hj => by rw [hN2, g_ms_n (by decide)]; exact k1.2 j hj⟩ (fun j hj => by rw [hN2, g_ms_n (by decide)]; exact k2 j hj) (fun j hj => by
          rw [hN2, g_ms_s, upd]
          by_cases c : j = x
          · subst c; rw [if_pos rfl]; exact k2 j (by omega)
          · rw [if_neg c]; exact k3 j (by omega))
        rw [hN2, nI_succ] at hR
        exact g_go_ 20 (b_ge (b := 154) rfl rfl (by omega) (by decide) (fun z => by omega) (fun _ => ⟨x, rfl, by omega, x, rfl, by omega, g_to hR _ rfl⟩))
    -- the statements
    have R69 : ∀ f2 i b N u2 u3 u4, i ≤ n → ps2 T n f2 b i out → (i < n → ∃ f c, ps1 T n f i c = (true, C)) → FYR M N → N 84 = M 84 → YS N T n i → RM N 86 b → V1 b → (u3 = .null ∨ ∃ w, u3 = .int w) → g_Run (g_cal e) (g_mt S0 k_X10_reads) Q 69 [.ref 82, .int (nI C), .int u2, u3, u4] [] N := by
      intro f2
      induction f2 with
      | zero => intro i b N u2 u3 u4 _ h; exact absurd h id
      | succ f2 ih =>
        intro i b N u2 u3 u4 hi ho hp k1 k84 k2 k3 k4 w3
        rcases ho with ⟨j2, ho⟩ | ⟨j2, ho⟩
        · obtain ⟨o1, o2, o3⟩ := prs_ok (T := T) hi
          obtain ⟨f, c, j3⟩ := hp j2
          cases f with
          | zero => exact absurd j3 (by simp [ps1])
          | succ f =>
            unfold ps1 at j3
            cases hok : (prs T n i).1 with
            | false => rw [hok, if_neg Bool.false_ne_true] at j3; exact absurd (congrArg Prod.fst j3) Bool.false_ne_true
            | true =>
              rw [hok, if_pos rfl] at j3
              obtain ⟨x1, x2, x3, x4⟩ := o3 hok
              have hs : sI T n i = nI (T i) := by unfold sI; rw [if_pos j2]
              have r85 : g_Run (g_cal e) (g_mt S0 k_X10_reads) Q 85 [.ref 82, .int (nI C), .int (nI i), u3, u4] [] N := by
                refine g_go_ 60 (m_sign (by omega) t hi k2 ?_)
                rw [hs]
                refine m_readsStatement (by omega) t hi k2 (fun N2 m1 m2 m3 => ?_)
                rw [hok]
                have g2 : RM N2 86 b := k3.fr (m1.1 86 (by decide) (by decide))
                have m1' : FYR M N2 := ⟨fun c c1 c2 c3 c4 => (m1.1 c c1 c4).trans (k1.1 c c1 c2 c3 c4), fun j hj => (m1.2 j hj).trans (k1.2 j hj)⟩
                have m84 : N2 84 = M 84 := (m1.1 84 (by decide) (by decide)).trans k84
                refine m_comes (by omega) k4 g2 x4 x3 (m3 hok) (fun z => ?_) (fun b' N3 z n1 n2 => ?_)
                · rcases ho with ⟨-, ho⟩ | ⟨b', z2, -⟩
                  · exact b_nf rfl (q2 i N2 ho m1' m84)
                  · exact absurd (tel_bad z2 z) id
                · rcases ho with ⟨z2, -⟩ | ⟨b2, z2, ho⟩
                  · exact absurd (tel_bad z z2) id
                  · have eb := tel_fun z2 z
                    subst eb
                    obtain ⟨v', s'⟩ := tel_ok k4 x4 z
                    have hR := ih (prs T n i).2.1 b2 N3 (nI i) (.int (nI (T i))) (.int (bI true)) o1 ho (fun hlt => by rw [if_pos hlt] at j3; exact ⟨f, _, j3⟩) ⟨fun c c1 c2 c3 c4 => (n1 c c3).trans (m1'.1 c c1 c2 c3 c4), fun j hj => by rw [n1 82 (by decide)]; exact m1'.2 j hj⟩ (by rw [n1 84 (by decide)]; exact m84) ⟨by rw [n1 82 (by decide)]; exact m2.1, fun j hj => by rw [n1 87 (by decide)]; exact m2.2.1 j hj, by rw [n1 82 (by decide)]; exact m2.2.2⟩ n2 v' (Or.inr ⟨_, rfl⟩)
                    exact b_nt (by decide) (g_to hR _ rfl)
              rw [← k2.2.2] at r85
              exact g_go_ 20 (b_ge k2.2.2 k2.1 (by omega) (by omega) (fun z => by omega) (fun _ => g_to r85 _ rfl))
        · have hR := R115 154 0 b N u3 u4 (by omega) ho k1 k3 (fun j hj => by omega)
          rcases w3 with rfl | ⟨w, rfl⟩
          all_goals exact g_go_ 20 (b_ge k2.2.2 k2.1 (by omega) (by omega) (fun _ => g_to hR _ rfl) (fun z => by omega))
    -- the state is copied
    have R39 : ∀ m x N, x + m = 154 → FYR M N → N 84 = M 84 → (∃ i0, YS N T n i0) → (∀ j, j < x → N 86 j = nI (a j)) → g_Run (g_cal e) (g_mt S0 k_X10_reads) Q 39 [.ref 82, .int (nI C), .int (nI x), .null, .null] [] N := by
      intro m
      induction m with
      | zero =>
        intro x N hx k1 k84 k2 k3
        obtain ⟨i0, k2⟩ := k2
        obtain ⟨N2, hN2⟩ : ∃ N2, N2 = g_ms N 82 (upd (N 82) 8 0) := ⟨_, rfl⟩
        have hR := R69 (n + 1) 0 a N2 (nI x) .null .null (by omega) q1 (fun _ => ⟨_, _, p1⟩) ⟨fun c c1 c2 c3 c4 => by rw [hN2, g_ms_n c1]; exact k1.1 c c1 c2 c3 c4, fun j hj => by rw [hN2, g_ms_s, upd, if_neg hj]; exact k1.2 j hj⟩ (by rw [hN2, g_ms_n (by decide)]; exact k84) ⟨by rw [hN2, g_ms_s]; exact k2.1, fun j hj => by rw [hN2, g_ms_n (by decide)]; exact k2.2.1 j hj, by rw [hN2, g_ms_s]; rfl⟩ (fun j hj => by rw [hN2, g_ms_n (by decide)]; exact k3 j (by omega)) v (Or.inl rfl)
        rw [hN2] at hR
        exact g_go_ 20 (b_ge (b := 154) rfl rfl (by omega) (by decide) (fun _ => g_to hR _ rfl) (fun z => by omega))
      | succ m ih =>
        intro x N hx k1 k84 k2 k3
        obtain ⟨i0, k2⟩ := k2
        obtain ⟨N2, hN2⟩ : ∃ N2, N2 = g_ms N 86 (upd (N 86) x (N 84 x)) := ⟨_, rfl⟩
        have hR := ih (x + 1) N2 (by omega) ⟨fun c c1 c2 c3 c4 => by rw [hN2, g_ms_n c3]; exact k1.1 c c1 c2 c3 c4, fun j hj => by rw [hN2, g_ms_n (by decide)]; exact k1.2 j hj⟩ (by rw [hN2, g_ms_n (by decide)]; exact k84) ⟨i0, by rw [hN2, g_ms_n (by decide)]; exact k2.1, fun j hj => by rw [hN2, g_ms_n (by decide)]; exact k2.2.1 j hj, by rw [hN2, g_ms_n (by decide)]; exact k2.2.2⟩ (fun j hj => by
          rw [hN2, g_ms_s, upd]
          by_cases c : j = x
          · subst c; rw [if_pos rfl, k84]; exact hM j (by omega)
          · rw [if_neg c]; exact k3 j (by omega))
        rw [hN2, nI_succ] at hR
        exact g_go_ 20 (b_ge (b := 154) rfl rfl (by omega) (by decide) (fun z => by omega) (fun _ => ⟨x, rfl, by omega, x, rfl, by omega, g_to hR _ rfl⟩))
    exact g_go_ 3 (g_to (R39 154 0 N (by omega) f1 f84 ⟨i0, f2⟩ (fun j hj => by omega)) _ rfl)
  -- the first pass
  have R7 : ∀ f i c N, ps1 T n f i c = ps1 T n (n + 1) 0 0 → n + 1 ≤ f + i → i ≤ n → FYR M N → N 84 = M 84 → YS N T n i → g_Run (g_cal e) (g_mt S0 k_X10_reads) Q 7 [.ref 82, .int (nI c), .null, .null, .null] [] N := by
    intro f
    induction f with
    | zero => intro i c N _ hf hi; omega
    | succ f ih =>
      intro i c N hp hf hi k1 k84 k2
      obtain ⟨o1, o2, o3⟩ := prs_ok (T := T) hi
      refine g_go_ 20 (m_readsStatement (by omega) t hi k2 (fun N2 m1 m2 _ => ?_))
      have m1' : FYR M N2 := ⟨fun c c1 c2 c3 c4 => (m1.1 c c1 c4).trans (k1.1 c c1 c2 c3 c4), fun j hj => (m1.2 j hj).trans (k1.2 j hj)⟩
      have m84 : N2 84 = M 84 := (m1.1 84 (by decide) (by decide)).trans k84
      unfold ps1 at hp
      cases ho : (prs T n i).1 with
      | false =>
        rw [ho, if_neg Bool.false_ne_true] at hp
        have hq := h1 _ N2 hp.symm m1' m84
        rw [← m2.2.2] at hq
        exact b_nf rfl hq
      | true =>
        rw [ho, if_pos rfl] at hp
        obtain ⟨q1, q2, -⟩ := o3 ho
        refine b_nt (by decide) ?_
        have r26 : g_Run (g_cal e) (g_mt S0 k_X10_reads) Q 26 [.ref 82, .int (nI c + 1), .null, .null, .null] [] N2 := by
          rw [← nI_succ]
          by_cases c2 : (prs T n i).2.1 < n
          · rw [if_pos c2] at hp
            exact g_go_ 10 (b_lt m2.2.2 m2.1 (by omega) (by omega) (fun _ => g_to (ih (prs T n i).2.1 (c + 1) N2 hp (by omega) o1 m1' m84 m2) _ rfl) (fun z => by omega))
          · rw [if_neg c2] at hp
            exact g_go_ 10 (b_lt m2.2.2 m2.1 (by omega) (by omega) (fun z => by omega) (fun _ => g_to (R37 (c + 1) N2 hp.symm (by omega) m1' m84 _ m2) _ rfl))
        exact g_to r26 _ rfl
  obtain ⟨N1, hN1⟩ : ∃ N1, N1 = g_ms M 82 (upd (M 82) 8 0) := ⟨_, rfl⟩
  have hR := R7 (n + 1) 0 0 N1 rfl (by omega) (by omega) ⟨fun c c1 c2 c3 c4 => by rw [hN1, g_ms_n c1], fun j hj => by rw [hN1, g_ms_s, upd, if_neg hj]⟩ (by rw [hN1, g_ms_n (by decide)]) ⟨by rw [hN1, g_ms_s]; exact s1, fun j hj => by rw [hN1, g_ms_n (by decide)]; exact s2 j hj, by rw [hN1, g_ms_s]; rfl⟩
  rw [hN1] at hR
  exact g_to hR _ rfl
theorem n_neg {k w : Nat} (hk : k ≤ 64) (c : Int32) (hc : c.toInt = -(w : Int)) (hw : w ≤ 2000) (h1 : 1 ≤ w) : c - nI k ≤ 0 := by
  have e1 : (nI k).toInt = k := nI_toInt (by omega)
  rw [Int32.le_iff_toInt_le, Int32.toInt_sub, e1, hc, show (0 : Int32).toInt = 0 from by decide, Int.bmod_def]
  split <;> omega
/-- what the component's call leaves as it was, if nothing came of it -/
def FGx (M N : g_M) : Prop := (∀ c, c ≠ 67 → c ≠ 69 → (c < 45 ∨ 56 < c) → N c = M c) ∧ N 67 2 = 0
theorem x_garden {d n : Nat} {M : g_M} {Q : g_R} {T a : Nat → Nat} (hd : 13 ≤ d) (t : XT T n) (v : V1 a) (g1 : GX1 M 2 a) (s1 : M 67 2 = nI n) (s2 : ∀ j, j < n → M 68 j = nI (T j)) (h1 : ∀ k N, ps1 T n (n + 1) 0 0 = (false, k) → FGx M N → Q (some (.int (-1000 - nI k))) N) (h2 : ∀ C k N, ps1 T n (n + 1) 0 0 = (true, C) → ps2 T n (n + 1) a 0 (.inl k) → FGx M N → Q (some (.int (-2000 - nI k))) N) (h3 : ∀ C b N, ps1 T n (n + 1) 0 0 = (true, C) → ps2 T n (n + 1) a 0 (.inr b) → (∀ c, c ≠ 67 → c ≠ 69 → (c < 2 ∨ 13 < c) → (c < 45 ∨ 56 < c) → N c = M c) → N 67 2 = 0 → GX1 N 2 b → GX2 N 2 b → V1 b → same a b → Q (some (.int (nI C))) N) : g_cal d k_X9_garden [.ref 0] M Q := by
  have t1 := t.1
  refine g_m (by omega) 20 (fun e he => x_gcopy (by omega) (Or.inl ⟨rfl, rfl⟩) (fun M1 f1 f2 => ?_))
  have gd : GX1 M1 45 a := f2.to1 v g1
  refine x_readInto (by omega) t v gd (by rw [f1 67 (by omega)]; exact s1) (fun j hj => by rw [f1 68 (by omega)]; exact s2 j hj) (fun k N p1 p2 p3 => ?_) (fun C k N p1 p2 p3 p4 => ?_) (fun C b N p1 p2 c1 c2 p3 p4 p5 p6 => ?_)
  · obtain ⟨N2, hN2⟩ : ∃ N2, N2 = g_ms N 67 (upd (N 67) 2 0) := ⟨_, rfl⟩
    have hq := h1 k N2 p1 ⟨fun c q1 q2 q3 => by rw [hN2, g_ms_n q1, p3 c q1 q2 q3]; exact f1 c (by omega), by rw [hN2, g_ms_s]; rfl⟩
    have r25 : g_Run (g_cal e) (g_mt S0 k_X9_garden) Q 25 [.ref 0, .null] [.int (-1000 - nI k)] N := by
      rw [hN2] at hq
      exact g_go_ 20 (b_t (n_neg (w := 1000) (by omega) _ (by decide) (by decide) (by decide)) hq)
    exact g_to r25 _ rfl
  · obtain ⟨N2, hN2⟩ : ∃ N2, N2 = g_ms N 67 (upd (N 67) 2 0) := ⟨_, rfl⟩
    have hq := h2 C k N2 p1 p2 ⟨fun c q1 q2 q3 => by rw [hN2, g_ms_n q1, p4 c q1 q2 q3]; exact f1 c (by omega), by rw [hN2, g_ms_s]; rfl⟩
    have r25 : g_Run (g_cal e) (g_mt S0 k_X9_garden) Q 25 [.ref 0, .null] [.int (-2000 - nI k)] N := by
      rw [hN2] at hq
      exact g_go_ 20 (b_t (n_neg (w := 2000) (by omega) _ (by decide) (by decide) (by decide)) hq)
    exact g_to r25 _ rfl
  · obtain ⟨N2, hN2⟩ : ∃ N2, N2 = g_ms N 67 (upd (N 67) 2 0) := ⟨_, rfl⟩
    have r34 : g_Run (g_cal e) (g_mt S0 k_X9_garden) Q 34 [.ref 0, .int (nI C)] [] N2 := by
      refine g_go_ 40 (b_le (b := 0) rfl rfl (by omega) (by decide) (fun z => by omega) (fun _ => ?_))
      refine x_measure (by omega) p5 (p4.fr (fun c q1 q2 => by rw [hN2, g_ms_n (by omega)])) (fun N3 k1 k2 k3 => ?_)
      refine x_gcopy (by omega) (Or.inr (Or.inl ⟨rfl, rfl⟩)) (fun N4 m1 m2 => ?_)
      refine h3 C b N4 p1 p2 (fun c q1 q2 q3 q4 => ?_) ?_ (m2.to1 p5 k2) (m2.to2 p5 k3) p5 p6
      · rw [m1 c (by omega), k1 c (by omega), hN2, g_ms_n q1, p3 c q1 q2 (by omega)]
        exact f1 c (by omega)
      · rw [m1 67 (by omega), k1 67 (by omega), hN2, g_ms_s]; rfl
    have r25 : g_Run (g_cal e) (g_mt S0 k_X9_garden) Q 25 [.ref 0, .null] [.int (nI C)] N := by
      rw [hN2] at r34
      exact g_go_ 6 (g_to r34 _ rfl)
    exact g_to r25 _ rfl
theorem p_garden {d n : Nat} {M : g_M} (hd : 13 ≤ d) (I : Inv n M) : g_pair d k_X9_garden k_X10_garden [] M (Inv (n + 1)) := by
  have I0 := I.up
  obtain ⟨a, ⟨v, v2, v3⟩, ⟨g1, g2, tx, lx, m8⟩, hM, ⟨⟨nt, nt1, nt2, nt3, nt4⟩, o2, o3, o4, o5⟩, hI⟩ := I
  have tT : ∃ T : Nat → Nat, ∀ i, i < nt → T i < 256 ∧ M 68 i = nI (T i) ∧ M 87 i = nI (T i) := by
    refine ⟨fun i => if h : i < nt then (nt4 i h).choose else 0, fun i hi => ?_⟩
    have e : (fun i => if h : i < nt then (nt4 i h).choose else 0) i = (nt4 i hi).choose := dif_pos hi
    rw [e]
    exact (nt4 i hi).choose_spec
  obtain ⟨T, hT⟩ := tT
  have t : XT T nt := ⟨nt1, fun j hj => (hT j hj).1⟩
  have s8 : ∀ j, j < nt → M 87 j = nI (T j) := fun j hj => (hT j hj).2.2
  -- the end of the reference's call
  have ref : ∀ (N : g_M) (r : Int32), (∀ Q' : g_R, (∀ N', FYR N N' → N' 84 = N 84 → Q' (some (.int r)) N') → g_cal (d - 1) k_X10_reads [.ref 82] N Q') → FGx M N → g_cal d k_X10_garden [.ref 82] N (fun v2 M2 => v2 = some (.int r) ∧ Inv (n + 1) M2) := by
    intro N r hr f
    refine g_m (by omega) 20 (fun e he => ?_)
    rw [show d - 1 = e by omega] at hr
    refine hr _ (fun N' k1 k84 => ⟨rfl, ?_⟩)
    obtain ⟨f1, f2⟩ := f
    have kk : ∀ c, c ≠ 82 → c ≠ 86 → c ≠ 88 → c ≠ 67 → c ≠ 69 → (c < 45 ∨ 56 < c) → g_ms N' 82 (upd (N' 82) 7 0) c = M c := fun c c1 c2 c3 c4 c5 c6 => by
      rw [g_ms_n c1]
      by_cases c7 : c = 84
      · subst c7; rw [k84]; exact f1 84 (by decide) (by decide) (by omega)
      · rw [k1.1 c c1 c7 c2 c3]; exact f1 c c4 c5 c6
    have k82 : ∀ j, j ≠ 7 → j ≠ 8 → g_ms N' 82 (upd (N' 82) 7 0) 82 j = M 82 j := fun j j1 j2 => by
      rw [g_ms_s, upd, if_neg j1, k1.2 j j2, f1 82 (by decide) (by decide) (by omega)]
    have k67 : g_ms N' 82 (upd (N' 82) 7 0) 67 2 = 0 := by rw [g_ms_n (by decide), k1.1 67 (by decide) (by decide) (by decide) (by decide)]; exact f2
    obtain ⟨a', w1, w2, w3, w4, w5⟩ := I0
    refine ⟨a', w1, w2.fr (fun c c1 c2 => kk c (by omega) (by omega) (by omega) (by omega) (by omega) (by omega)), w3.fr (kk 84 (by decide) (by decide) (by decide) (by decide) (by decide) (by decide)), ⟨⟨0, by decide, k67, by rw [g_ms_s]; rfl, fun i hi => by omega⟩, ?_, ?_, ?_, ?_⟩, fun z => ?_⟩
    · obtain ⟨-, u2, -⟩ := w4
      rw [kk 0 (by decide) (by decide) (by decide) (by decide) (by decide) (by decide), k82 37 (by decide) (by decide), kk 80 (by decide) (by decide) (by decide) (by decide) (by decide) (by decide), kk 106 (by decide) (by decide) (by decide) (by decide) (by decide) (by decide)]
      exact u2
    · obtain ⟨-, -, u3, -⟩ := w4
      rw [kk 81 (by decide) (by decide) (by decide) (by decide) (by decide) (by decide), kk 83 (by decide) (by decide) (by decide) (by decide) (by decide) (by decide)]
      exact u3
    · obtain ⟨-, -, -, u4, -⟩ := w4
      rw [kk 0 (by decide) (by decide) (by decide) (by decide) (by decide) (by decide), k82 4 (by decide) (by decide)]
      exact u4
    · obtain ⟨-, -, -, -, u5⟩ := w4
      rw [kk 0 (by decide) (by decide) (by decide) (by decide) (by decide) (by decide)]
      exact u5
    · rw [kk 0 (by decide) (by decide) (by decide) (by decide) (by decide) (by decide)] at z
      obtain ⟨b, b1, b2', b3⟩ := w5 z
      exact ⟨b, b1, b2'.fr (fun c c1 c2 => kk c (by omega) (by omega) (by omega) (by omega) (by omega) (by omega)), b3.fr (kk 85 (by decide) (by decide) (by decide) (by decide) (by decide) (by decide))⟩
  refine x_garden (T := T) (by omega) t v g1 nt2 (fun j hj => (hT j hj).2.1) (fun k N p1 f => ⟨_, rfl, ref N _ (fun Q' hq => ?_) f⟩) (fun C k N p1 p2 f => ⟨_, rfl, ref N _ (fun Q' hq => ?_) f⟩) (fun C b N p1 p2 f1 f2 f3 f4 f5 f6 => ⟨_, rfl, ?_⟩)
  · refine m_reads (by omega) t v (hM.fr (f.1 84 (by decide) (by decide) (by omega))) (by rw [f.1 82 (by decide) (by decide) (by omega)]; exact nt3) (fun j hj => by rw [f.1 87 (by decide) (by decide) (by omega)]; exact s8 j hj) (fun k' N' e1 k1 k84 => ?_) (fun C e1 => ?_)
    · rw [p1] at e1
      rw [← (Prod.mk.inj e1).2]
      exact hq N' k1 k84
    · rw [p1] at e1; exact absurd (congrArg Prod.fst e1) Bool.false_ne_true
  · refine m_reads (by omega) t v (hM.fr (f.1 84 (by decide) (by decide) (by omega))) (by rw [f.1 82 (by decide) (by decide) (by omega)]; exact nt3) (fun j hj => by rw [f.1 87 (by decide) (by decide) (by omega)]; exact s8 j hj) (fun k' N' e1 k1 k84 => ?_) (fun C' e1 => ?_)
    · rw [p1] at e1; exact absurd (congrArg Prod.fst e1).symm Bool.false_ne_true
    · refine ⟨.inl k, p2, fun k' N' e2 k1 k84 => ?_, fun b N' e2 => by cases e2⟩
      cases e2
      exact hq N' k1 k84
  · refine g_m (by omega) 20 (fun e he => ?_)
    refine m_reads (by omega) t v (hM.fr (f1 84 (by decide) (by decide) (by omega) (by omega))) (by rw [f1 82 (by decide) (by decide) (by omega) (by omega)]; exact nt3) (fun j hj => by rw [f1 87 (by decide) (by decide) (by omega) (by omega)]; exact s8 j hj) (fun k' N' e1 k1 k84 => ?_) (fun C' e1 => ?_)
    · rw [p1] at e1; exact absurd (congrArg Prod.fst e1).symm Bool.false_ne_true
    · rw [p1] at e1
      have eC := (Prod.mk.inj e1).2
      refine ⟨.inr b, p2, fun k' N' e2 => (by cases e2), fun b' N' e2 k1 kR => ?_⟩
      cases e2
      rw [← eC]
      refine ⟨rfl, ?_⟩
      -- the new state
      have kk : ∀ c, c ≠ 82 → c ≠ 84 → c ≠ 86 → c ≠ 88 → c ≠ 67 → c ≠ 69 → (c < 2 ∨ 13 < c) → (c < 45 ∨ 56 < c) → g_ms N' 82 (upd (N' 82) 7 0) c = M c := fun c c1 c2 c3 c4 c5 c6 c7 c8 => by
        rw [g_ms_n c1, k1.1 c c1 c2 c3 c4]; exact f1 c c5 c6 c7 c8
      have kg : ∀ c, 2 ≤ c → c ≤ 13 → g_ms N' 82 (upd (N' 82) 7 0) c = N c := fun c c1 c2 => by
        rw [g_ms_n (by omega), k1.1 c (by omega) (by omega) (by omega) (by omega)]
      have k82 : ∀ j, j ≠ 7 → j ≠ 8 → g_ms N' 82 (upd (N' 82) 7 0) 82 j = M 82 j := fun j j1 j2 => by
        rw [g_ms_s, upd, if_neg j1, k1.2 j j2, f1 82 (by decide) (by decide) (by omega) (by omega)]
      have k67 : g_ms N' 82 (upd (N' 82) 7 0) 67 2 = 0 := by rw [g_ms_n (by decide), k1.1 67 (by decide) (by decide) (by decide) (by decide)]; exact f2
      have k84 : g_ms N' 82 (upd (N' 82) 7 0) 84 = N' 84 := g_ms_n (by decide)
      have k827 : g_ms N' 82 (upd (N' 82) 7 0) 82 7 = 0 := by rw [g_ms_s]; rfl
      generalize g_ms N' 82 (upd (N' 82) 7 0) = P at kk kg k82 k67 k84 k827 ⊢
      obtain ⟨⟨sa0, sa2⟩, se⟩ := f6
      have kq : ∀ c, c < 2 ∨ (13 < c ∧ c < 45) ∨ c = 68 ∨ c = 80 ∨ c = 81 ∨ c = 83 ∨ c = 85 ∨ c = 87 ∨ c = 106 → P c = M c := fun c hc => kk c (by omega) (by omega) (by omega) (by omega) (by omega) (by omega) (by omega) (by omega)
      refine ⟨b, ⟨f5, ?_, ?_⟩, ⟨f3.fr (fun c c1 c2 => kg c (by omega) (by omega)), f4.fr (fun c c1 c2 => kg c (by omega) (by omega)), tx.co v2 (fun c c1 c2 => kq c (by omega)) (fun k hk => se k (by omega)), ?_, ?_⟩, fun k hk => by rw [k84]; exact kR k hk, ⟨⟨0, by decide, k67, k827, fun i hi => by omega⟩, ?_, ?_, ?_, ?_⟩, fun z => ?_⟩
      · obtain ⟨q1, q2, q3, q4, q5, q6, q7, q8, q9, q10, q11⟩ := v2
        unfold V2
        rw [se 9 (by omega), se 10 (by omega), se 11 (by omega), se 12 (by omega), se 13 (by omega), se 14 (by omega), se 15 (by omega), se 3 (by omega)]
        refine ⟨q1, q2, q3, q4, q5, q6, q7, q8, q9, q10, fun i hi => ?_⟩
        rw [se (114 + i) (by omega)]
        have := q11 i hi
        omega
      · obtain ⟨q1, q2, q3, q4⟩ := v3
        unfold V3
        rw [se 8 (by omega), se 4 (by omega), se 5 (by omega), se 6 (by omega)]
        exact ⟨by omega, q2, by omega, q4⟩
      · obtain ⟨q1, q2, q3, q4⟩ := lx
        unfold LX
        rw [se 5 (by omega), se 6 (by omega)]
        refine ⟨by rw [kq _ (by omega)]; exact q1, by rw [kq _ (by omega)]; exact q2, fun h hh => ?_, fun i hi => ?_⟩
        · rw [se (122 + 3 * h) (by omega), se (123 + 3 * h) (by omega), se (124 + 3 * h) (by omega), kq _ (by omega), kq _ (by omega), kq _ (by omega)]
          exact q3 h hh
        · rw [se (146 + i) (by omega), kq _ (by omega)]
          exact q4 i hi
      · rw [se 8 (by omega), kq _ (by omega)]; exact m8
      · rw [kq 0 (by omega), k82 37 (by decide) (by decide), kq 80 (by omega), kq 106 (by omega)]
        exact o2
      · rw [kq 81 (by omega), kq 83 (by omega)]
        exact o3
      · rw [kq 0 (by omega), k82 4 (by decide) (by decide)]
        exact o4
      · rw [kq 0 (by omega)]
        exact o5
      · rw [kq 0 (by omega)] at z
        obtain ⟨b2, b1, b2', b3⟩ := hI z
        exact ⟨b2, b1.mono, b2'.fr (fun c c1 c2 => kq c (by omega)), b3.fr (kq 85 (by omega))⟩
