/-! ===== game ===== -/
theorem inB2 (u : Int32) : inB u 2 = true ↔ ¬ u < 0 ∧ u ≤ 1 := by
  unfold inB
  rw [Bool.and_eq_true, Bool.not_eq_true', decide_eq_false_iff_not, decide_eq_true_iff, Int32.lt_iff_toInt_lt, Int32.lt_iff_toInt_lt, Int32.le_iff_toInt_le, show (2 : Int32).toInt = 2 from by decide, show (1 : Int32).toInt = 1 from by decide]
  omega
theorem inB2f {u : Int32} (h : u < 0 ∨ ¬ u ≤ 1) : inB u 2 = false := by
  by_cases hb : inB u 2 = true
  · obtain ⟨h1, h2⟩ := (inB2 u).mp hb
    rcases h with h | h
    · exact absurd h h1
    · exact absurd h2 h
  · exact Bool.not_eq_true _ ▸ hb
theorem inB2c {u : Int32} (h : inB u 2 = true) : u = 0 ∨ u = 1 := by
  rcases inB_cases u (n := 2) (by decide) with z | ⟨j, hj, rfl, -⟩
  · rw [show nI 2 = 2 from rfl, h] at z; exact absurd z (by decide)
  · rcases (by omega : j = 0 ∨ j = 1) with rfl | rfl
    · exact Or.inl rfl
    · exact Or.inr rfl
/-- the sum that counts -/
def gsm (a : Nat → Nat) (k n : Nat) (w : Int32) : Nat := if w = 0 then (gme a k n).2.1 (lea (gme a k n).2.1 (om k - 1)) else (gme a k n).1 (gre (gme a k n).1 (k - 1))
theorem gsm_le {a : Nat → Nat} {k n : Nat} {w : Int32} (v : V1 a) (f : fin a k) (hk : k < 5) (h1 : 1 ≤ k) (hn : n ≤ 60) : gsm a k n w ≤ 3686400 := by
  have ob := om_b k hk h1
  obtain ⟨q1, q2, -⟩ := gme_le v f hk h1 n
  have l1 := lea_le (gme a k n).2.1 (om k - 1)
  have l2 := gre_le (gme a k n).1 (k - 1)
  have t1 := q1 (gre (gme a k n).1 (k - 1)) (by omega)
  have t2 := q2 (lea (gme a k n).2.1 (om k - 1)) (by omega)
  unfold gsm
  split <;> omega
/-- in least terms -/
def lst (s n : Nat) (u : Int32) : Int32 := if u = 0 then nI s / nI (Nat.gcd s n) else nI n / nI (Nat.gcd s n)
theorem x_least {d s n : Nat} {M : g_M} {Q : g_R} {u : Int32} (hd : 2 ≤ d) (hs : s < 2 ^ 31) (n0 : 0 < n) (hn : n < 2 ^ 27) (h : Q (some (.int (lst s n u))) M) : g_cal d k_X9_inLeastTerms [.int (nI s), .int (nI n), .int u] M Q := by
  refine g_m (by omega) 60 (fun e2 he2 => ?_)
  refine x_gcd (by omega) s n hs hn ?_
  have hg0 : 0 < Nat.gcd s n := Nat.gcd_pos_of_pos_right _ n0
  have hgl : Nat.gcd s n ≤ n := Nat.gcd_le_right _ n0
  have nz : ¬ nI (Nat.gcd s n) = 0 := fun y => by have := (nI_eq (b := 0) (by omega) (by decide)).mp y; omega
  unfold lst at h
  refine b_nt nz ⟨fun z => ⟨nz, ?_⟩, fun z => ⟨nz, ?_⟩⟩
  · rw [if_neg z] at h; exact h
  · rw [if_pos z] at h; exact h
theorem m_game {d k m : Nat} {M : g_M} {Q : g_R} {a : Nat → Nat} {w u : Int32} (hd : 60 ≤ d) (hw : inB w 2 = true) (hu : inB u 2 = true) (k1 : 1 ≤ k) (k2 : k < 5) (m1 : 1 ≤ m) (m2 : m ≤ 60) (v : V1 a) (hf : fin a k) (hM : RM M 84 a) (h : ∀ N, Sm M N → Q (some (.int (lst (gsm a k m w) m u))) N) : g_cal d k_X10_game [.ref 82, .int (nI k), .int (nI m), .int w, .int u] M Q := by
  have ob := om_b k k2 k1
  refine g_m (by omega) 60 (fun e he => m_isIn (by omega) ?_)
  rw [hw]
  refine b_f (by decide) (m_isIn (by omega) ?_)
  rw [hu]
  refine b_nt (by decide) ?_
  refine m_wrongGame (by omega) v hM (Or.inr (Or.inr (Or.inr ⟨rfl, k, m, rfl, rfl, k1, k2, m1, m2, hf⟩))) (fun N1 _ hN1 => ?_)
  have fn := hN1 rfl
  refine b_t rfl (m_goesGame (by omega) k2 k1 m2 v hf (fn.fa hM) (fun N f1 f2 f3 => ?_))
  have hq := h N (fn.sm.tr f1.sm)
  obtain ⟨q1, q2, -⟩ := gme_le v hf k2 k1 m
  obtain ⟨r1, r2, -⟩ := f3
  have hs := gsm_le (w := w) (n := m) v hf k2 k1 m2
  generalize hS : gsm a k m w = S at hq hs
  have hg0 : 0 < Nat.gcd S m := Nat.gcd_pos_of_pos_right _ m1
  have hgl : Nat.gcd S m ≤ m := Nat.gcd_le_right _ m1
  have nz : ¬ nI (Nat.gcd S m) = 0 := fun y => by have := (nI_eq (b := 0) (by omega) (by decide)).mp y; omega
  have R165 : ∀ u7, g_Run (g_cal e) (g_mt S0 k_X10_game) Q 165 [.ref 82, .int (nI k), .int (nI m), .int w, .int u, .int 0, .int (nI S), .int u7] [] N := by
    intro u7
    refine g_go_ 40 (m_common 23 e m S _ (by omega) (by omega) (by omega) (by omega) ?_)
    rw [Nat.gcd_comm]
    unfold lst at hq
    refine ⟨fun z => ⟨nz, ?_⟩, fun z => ⟨nz, ?_⟩⟩
    · rw [if_neg z] at hq; exact hq
    · rw [if_pos z] at hq; exact hq
  rcases inB2c hw with rfl | rfl
  · -- the least over orders
    have R74 : ∀ c x, x + 1 + c = om k → g_Run (g_cal e) (g_mt S0 k_X10_game) Q 74 [.ref 82, .int (nI k), .int (nI m), .int 0, .int u, .int 0, .int (nI ((gme a k m).2.1 (lea (gme a k m).2.1 x))), .int (nI (x + 1))] [] N := by
      intro c
      induction c with
      | zero =>
        intro x hx
        have hSx : (gme a k m).2.1 (lea (gme a k m).2.1 x) = S := by rw [← hS, gsm, if_pos rfl, show om k - 1 = x by omega]
        rw [hSx]
        have hR := R165 1
        refine g_go_ 20 (b_ge rfl f2 (by omega) (by omega) (fun _ => ?_) (fun y => by omega))
        refine b_ge (a := 1) rfl rfl (by omega) (by omega) (fun _ => g_to hR _ rfl) (fun _ => b_nt (by decide) (g_to hR _ rfl))
      | succ c ih =>
        intro x hx
        have l1 := lea_le (gme a k m).2.1 x
        have hR := ih (x + 1) (by omega)
        have y1 := q2 (x + 1) (by omega)
        have y2 := q2 (lea (gme a k m).2.1 x) (by omega)
        refine g_go_ 40 (b_ge rfl f2 (by omega) (by omega) (fun y => by omega) (fun _ => b_nf rfl ⟨x + 1, rfl, by omega, ?_⟩))
        show (nI ((gme a k m).2.1 (lea (gme a k m).2.1 x)) ≤ N 102 (x + 1) → _) ∧ (¬ nI ((gme a k m).2.1 (lea (gme a k m).2.1 x)) ≤ N 102 (x + 1) → _)
        rw [r2 _ (by omega)]
        refine b_ge rfl rfl (by omega) (by omega) (fun z => ?_) (fun z => ⟨x + 1, rfl, by omega, ?_⟩)
        · rw [lea, if_neg (by omega), nI_succ (x + 1)] at hR
          exact g_to hR _ rfl
        · rw [lea, if_pos z, nI_succ (x + 1), ← r2 _ (by omega)] at hR
          exact g_to hR _ rfl
    have hR := R74 (om k - 1) 0 (by omega)
    rw [show lea (gme a k m).2.1 0 = 0 from rfl, ← r2 0 (by omega)] at hR
    have r50 : g_Run (g_cal e) (g_mt S0 k_X10_game) Q 50 [.ref 82, .int (nI k), .int (nI m), .int 0, .int u, .int 0, .null, .null] [] N := g_go_ 20 (b_nf rfl ⟨0, rfl, by decide, g_to hR _ rfl⟩)
    exact g_to r50 _ rfl
  · -- the greatest over places
    have R122 : ∀ c x, x + 1 + c = k → g_Run (g_cal e) (g_mt S0 k_X10_game) Q 122 [.ref 82, .int (nI k), .int (nI m), .int 1, .int u, .int 0, .int (nI ((gme a k m).1 (gre (gme a k m).1 x))), .int (nI (x + 1))] [] N := by
      intro c
      induction c with
      | zero =>
        intro x hx
        have hSx : (gme a k m).1 (gre (gme a k m).1 x) = S := by rw [← hS, gsm, if_neg (by decide), show k - 1 = x by omega]
        rw [hSx]
        exact g_go_ 20 (b_ge rfl rfl (by omega) (by omega) (fun _ => g_to (R165 (nI (x + 1))) _ rfl) (fun y => by omega))
      | succ c ih =>
        intro x hx
        have l1 := gre_le (gme a k m).1 x
        have hR := ih (x + 1) (by omega)
        have y1 := q1 (x + 1) (by omega)
        have y2 := q1 (gre (gme a k m).1 x) (by omega)
        refine g_go_ 40 (b_ge rfl rfl (by omega) (by omega) (fun y => by omega) (fun _ => b_nf rfl ⟨x + 1, rfl, by omega, ?_⟩))
        show (N 101 (x + 1) ≤ nI ((gme a k m).1 (gre (gme a k m).1 x)) → _) ∧ (¬ N 101 (x + 1) ≤ nI ((gme a k m).1 (gre (gme a k m).1 x)) → _)
        rw [r1 _ (by omega)]
        refine b_le rfl rfl (by omega) (by omega) (fun z => ?_) (fun z => ⟨x + 1, rfl, by omega, ?_⟩)
        · rw [gre, if_neg (by omega), nI_succ (x + 1)] at hR
          exact g_to hR _ rfl
        · rw [gre, if_pos z, nI_succ (x + 1), ← r1 _ (by omega)] at hR
          exact g_to hR _ rfl
    have hR := R122 (k - 1) 0 (by omega)
    rw [show gre (gme a k m).1 0 = 0 from rfl, ← r1 0 (by omega)] at hR
    have r50 : g_Run (g_cal e) (g_mt S0 k_X10_game) Q 50 [.ref 82, .int (nI k), .int (nI m), .int 1, .int u, .int 0, .null, .null] [] N := by
      refine g_go_ 30 (b_nt (by decide) ⟨0, rfl, by decide, ?_⟩)
      exact b_ge (a := 1) rfl f2 (by omega) (by omega) (fun _ => g_to hR _ rfl) (fun _ => b_nt (by decide) (g_to hR _ rfl))
    exact g_to r50 _ rfl
theorem p_game {d n : Nat} {M : g_M} {x y w u : Int32} (hd : 60 ≤ d) (I : Inv n M) : g_pair d k_X9_game k_X10_game [.int x, .int y, .int w, .int u] M (Inv (n + 1)) := by
  have I0 := I
  obtain ⟨a, ⟨v, v2, v3⟩, ⟨g1, g2, tx, -⟩, hM, -⟩ := I
  have bad : (inB w 2 = false ∨ inB u 2 = false) → g_cal d k_X10_game [.ref 82, .int x, .int y, .int w, .int u] (g_ms M 81 (upd (M 81) 2 (M 81 2 + 1))) (fun v2 M2 => v2 = some (.int (-2)) ∧ Inv (n + 1) M2) := by
    intro hb
    have hr : ∀ (e : Nat), 1 ≤ e → g_cal e k_X10_refuse [.ref 82, .int (-2)] (g_ms M 81 (upd (M 81) 2 (M 81 2 + 1))) (fun v2 M2 => v2 = some (.int (-2)) ∧ Inv (n + 1) M2) := fun e he => m_refuse he 2 (by decide) (by decide) (e_ref I0 (by decide))
    refine g_m (by omega) 60 (fun e he => m_isIn (by omega) ?_)
    by_cases hw : inB w 2 = true
    · rw [hw]
      refine b_f (by decide) (m_isIn (by omega) ?_)
      rcases hb with hb | hb
      · rw [hw] at hb; exact absurd hb (by decide)
      · rw [hb]
        exact b_nf rfl (m_refuse (by omega) 2 (by decide) (by decide) (e_ref I0 (by decide)))
    · rw [show inB w 2 = false from Bool.not_eq_true _ ▸ hw]
      exact b_t rfl (m_refuse (by omega) 2 (by decide) (by decide) (e_ref I0 (by decide)))
  refine g_m (by omega) 60 (fun e he => ?_)
  refine ⟨fun z => x_refuse (by omega) 2 (by decide) (by decide) ⟨_, rfl, bad (Or.inl (inB2f (Or.inl z)))⟩, fun z1 => ⟨fun z => x_refuse (by omega) 2 (by decide) (by decide) ⟨_, rfl, bad (Or.inl (inB2f (Or.inr (Int32.not_le.mpr z))))⟩, fun z2 => ⟨fun z => x_refuse (by omega) 2 (by decide) (by decide) ⟨_, rfl, bad (Or.inr (inB2f (Or.inl z)))⟩, fun z3 => ⟨fun z4 => ?_, fun z => x_refuse (by omega) 2 (by decide) (by decide) ⟨_, rfl, bad (Or.inr (inB2f (Or.inr z)))⟩⟩⟩⟩⟩
  have hw := (inB2 w).mpr ⟨z1, Int32.not_lt.mp z2⟩
  have hu := (inB2 u).mpr ⟨z3, z4⟩
  refine x_refGame (m := 60) (by omega) (by decide) v g1 g2 (fun c hc => ?_)
  have bad : ∀ (j : Nat), -c = nI j → j < 7 → c ≠ 0 → g_cal d k_X10_game [.ref 82, .int x, .int y, .int w, .int u] (g_ms M 81 (upd (M 81) j (M 81 j + 1))) (fun v2 M2 => v2 = some (.int c) ∧ Inv (n + 1) M2) := by
    intro j hj1 hj c0
    refine g_m (by omega) 60 (fun e he => m_isIn (by omega) ?_)
    rw [hw]
    refine b_f (by decide) (m_isIn (by omega) ?_)
    rw [hu]
    refine b_nt (by decide) (m_wrongGame (by omega) v (hM.fr (g_ms_n (by decide))) hc (fun N hN _ => ?_))
    refine b_f c0 (m_refuse (by omega) j hj1 hj ⟨rfl, e_ref2 I0 hj ?_⟩)
    rcases hN with rfl | hN
    · exact Sm.rf _
    · exact hN.sm
  by_cases c0 : c = 0
  · subst c0
    refine b_t rfl ?_
    obtain ⟨k, m, rfl, rfl, k1, k2, m1, m2, hf⟩ : ∃ k n, x = nI k ∧ y = nI n ∧ 1 ≤ k ∧ k < 5 ∧ 1 ≤ n ∧ n ≤ 60 ∧ fin a k := by
      rcases hc with ⟨z, -⟩ | ⟨z, -⟩ | ⟨z, -⟩ | ⟨-, h⟩
      · exact absurd z (by decide)
      · exact absurd z (by decide)
      · exact absurd z (by decide)
      · exact h
    have ob := om_b k k2 k1
    refine x_gplay (by omega) k2 k1 m2 v hf g1 g2 (fun N f1 f2 f3 f4 => ?_)
    obtain ⟨q1, q2, -⟩ := gme_le v hf k2 k1 m
    obtain ⟨r1, r2, -⟩ := f4
    have l1 := lea_le (gme a k m).2.1 (om k - 1)
    have l2 := gre_le (gme a k m).1 (k - 1)
    have hMN : RM N 84 a := hM.fr (f1.sm.1 84 rfl)
    have hs := gsm_le (w := w) (n := m) v hf k2 k1 m2
    have hend : g_cal e k_X9_inLeastTerms [.int (nI (gsm a k m w)), .int (nI m), .int u] N (fun v M1 => ∃ r, v = some (.int r) ∧ g_cal d k_X10_game [.ref 82, .int (nI k), .int (nI m), .int w, .int u] M1 (fun v2 M2 => v2 = some (.int r) ∧ Inv (n + 1) M2)) :=
      x_least (by omega) (by omega) m1 (by omega) ⟨_, rfl, m_game hd hw hu k1 k2 m1 m2 v hf hMN (fun N2 s2 => ⟨rfl, ((I0.fr f1.sm).fr s2).up⟩)⟩
    have cL : ∀ Q' : g_R, Q' (some (.int (nI (lea (gme a k m).2.1 (om k - 1))))) N → ∀ e, 1 ≤ e → g_cal e k_X0_indexOfLeast [.ref 75, .int (N 72 5)] N Q' := fun Q' hq e he => by
      rw [f3]; exact x_idxLeast he (by omega) (by omega) r2 (fun j hj => by have := q2 j hj; omega) hq
    have cG : ∀ Q' : g_R, Q' (some (.int (nI (gre (gme a k m).1 (k - 1))))) N → ∀ e, 1 ≤ e → g_cal e k_X0_indexOfGreatest [.ref 74, .int (N 72 4)] N Q' := fun Q' hq e he => by
      rw [f2]; exact x_idxGreat he (by omega) k1 r1 (fun j hj => by have := q1 j hj; omega) hq
    rcases inB2c hw with rfl | rfl
    · refine b_nf rfl ?_
      refine g_m (by omega) 20 (fun e2 he2 => cL _ ⟨lea (gme a k m).2.1 (om k - 1), rfl, by omega, ?_⟩ e2 (by omega))
      rw [gsm, if_pos rfl, ← r2 _ (by omega)] at hend
      exact g_call_ hend (fun v5 N5 z => by obtain ⟨r, rfl, z2⟩ := z; exact ⟨r, rfl, z2⟩)
    · refine b_nt (by decide) ?_
      refine g_m (by omega) 20 (fun e2 he2 => cG _ ⟨gre (gme a k m).1 (k - 1), rfl, by omega, ?_⟩ e2 (by omega))
      rw [gsm, if_neg (by decide), ← r1 _ (by omega)] at hend
      exact g_call_ hend (fun v5 N5 z => by obtain ⟨r, rfl, z2⟩ := z; exact ⟨r, rfl, z2⟩)
  · refine b_f c0 ?_
    have : ∃ j, -c = nI j ∧ j < 7 := by
      rcases hc with ⟨rfl, -⟩ | ⟨rfl, -⟩ | ⟨rfl, -⟩ | ⟨z, -⟩
      · exact ⟨4, by decide, by decide⟩
      · exact ⟨6, by decide, by decide⟩
      · exact ⟨3, by decide, by decide⟩
      · exact absurd z c0
    obtain ⟨j, j1, j2⟩ := this
    exact x_refuse (by omega) j j1 j2 ⟨_, rfl, bad j j1 j2 c0⟩
