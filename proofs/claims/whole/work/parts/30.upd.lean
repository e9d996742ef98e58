/-! ===== the state changed in one place ===== -/
def aup (a : Nat → Nat) (i v : Nat) : Nat → Nat := fun k => if k = i then v else a k
theorem aup_s (a : Nat → Nat) (i v : Nat) : aup a i v i = v := by simp [aup]
theorem aup_n {a : Nat → Nat} {i v k : Nat} (h : k ≠ i) : aup a i v k = a k := by simp [aup, h]
theorem wyF_congr {a a' : Nat → Nat} {x y : Nat} : ∀ n, (∀ k, 56 ≤ k → k < 56 + 3 * n → a' k = a k) → wyF a' x y n = wyF a x y n := by
  intro n
  induction n with
  | zero => intro _; rfl
  | succ n ih =>
    intro h
    unfold wyF
    rw [h (56 + 3 * n) (by omega) (by omega), h (57 + 3 * n) (by omega) (by omega), h (58 + 3 * n) (by omega) (by omega), ih (fun k h1 h2 => h k h1 (by omega))]
theorem wy_congr {a a' : Nat → Nat} (h1 : a' 1 = a 1) (hw : a 1 ≤ 14) (h : ∀ k, 56 ≤ k → k < 98 → a' k = a k) : wy a' = wy a := by
  funext x y
  unfold wy
  rw [h1]
  exact wyF_congr _ (fun k h2 h3 => h k h2 (by omega))
theorem fw_congr {a a' : Nat → Nat} (h : wy a' = wy a) : ∀ k, fw a' k = fw a k := by
  intro k
  induction k with
  | zero => show dr a' = dr a; funext x y; unfold dr; rw [h]
  | succ k ih => show fwS (fw a' k) k = fwS (fw a k) k; rw [ih]
theorem ds_congr {a a' : Nat → Nat} (h : wy a' = wy a) : ds a' = ds a := by funext x y; unfold ds; rw [fw_congr h]
theorem GX2.co {M M' : g_M} {g : Nat} {a a' : Nat → Nat} (h : GX2 M g a) (hv : V1 a) (e : ∀ c, g + 9 ≤ c → c ≤ g + 11 → M' c = M c) (e0 : a' 0 = a 0) (e1 : a' 1 = a 1) (e2 : a' 2 = a 2) (ew : ∀ k, 56 ≤ k → k < 114 → a' k = a k) (ek : ∀ p, p < a 0 → a' (16 + 5 * p) = a (16 + 5 * p)) : GX2 M' g a' := by
  have hd := ds_congr (wy_congr e1 hv.2.2.1 (fun k h1 h2 => ew k h1 (by omega)))
  have b2 := hv.2.2.2.1
  obtain ⟨h1, h2⟩ := h
  unfold GX2
  rw [e (g + 9) (by omega) (by omega), e (g + 10) (by omega) (by omega), e (g + 11) (by omega) (by omega), e0, e2, hd]
  refine ⟨h1, fun x p hx hp => ?_⟩
  have q1 : pcd a' x p = pcd a x p := by unfold pcd; rw [hd, ew (99 + 2 * x) (by omega) (by omega)]
  have q2 : rno a' x p = rno a x p := by unfold rno; rw [q1, ek p hp]
  rw [q1, q2]
  exact h2 x p hx hp
theorem GX1.co {M M' : g_M} {g : Nat} {a a' : Nat → Nat} (h : GX1 M g a) (hv : V1 a) (e : ∀ c, g ≤ c → c ≤ g + 8 → M' c = M c) (e0 : a' 0 = a 0) (e1 : a' 1 = a 1) (e2 : a' 2 = a 2) (ew : ∀ k, 16 ≤ k → k < 114 → a' k = a k) : GX1 M' g a' := by
  have hw := wy_congr e1 hv.2.2.1 (fun k h1 h2 => ew k (by omega) (by omega))
  have b0 := hv.2.1
  have b2 := hv.2.2.2.1
  obtain ⟨h1, h2, h3, h4, h5, h6⟩ := h
  unfold GX1
  rw [e g (by omega) (by omega), e (g + 1) (by omega) (by omega), e (g + 2) (by omega) (by omega), e (g + 3) (by omega) (by omega), e (g + 4) (by omega) (by omega), e (g + 5) (by omega) (by omega), e (g + 6) (by omega) (by omega), e (g + 7) (by omega) (by omega), e (g + 8) (by omega) (by omega), e0, e1, e2, hw]
  refine ⟨h1, h2, h3, fun p hp => ?_, fun x hx => ?_, h6⟩
  · rw [ew (16 + 5 * p) (by omega) (by omega), ew (17 + 5 * p) (by omega) (by omega), ew (18 + 5 * p) (by omega) (by omega), ew (19 + 5 * p) (by omega) (by omega), ew (20 + 5 * p) (by omega) (by omega)]; exact h4 p hp
  · rw [ew (98 + 2 * x) (by omega) (by omega), ew (99 + 2 * x) (by omega) (by omega)]; exact h5 x hx
theorem TX.co {M M' : g_M} {t : Nat} {a a' : Nat → Nat} (h : TX M t a) (hv : V2 a) (e : ∀ c, t ≤ c → c ≤ t + 2 → M' c = M c) (ew : ∀ k, k = 3 ∨ (9 ≤ k ∧ k < 16) ∨ (114 ≤ k ∧ k < 122) → a' k = a k) : TX M' t a' := by
  obtain ⟨-, -, -, -, -, -, -, -, -, v1, -⟩ := hv
  obtain ⟨h1, h2, h3⟩ := h
  unfold TX
  rw [e t (by omega) (by omega), e (t + 1) (by omega) (by omega), e (t + 2) (by omega) (by omega), ew 3 (by omega)]
  refine ⟨fun k hk => ?_, h2, fun i hi => ?_⟩
  · rw [ew (9 + k) (by omega)]; exact h1 k hk
  · rw [ew (114 + i) (by omega)]; exact h3 i hi
theorem LX.co {M M' : g_M} {r : Nat} {a a' : Nat → Nat} (h : LX M r a) (b5 : a 5 ≤ 8) (b6 : a 6 ≤ 8) (e : ∀ c, r ≤ c → c ≤ r + 4 → M' c = M c) (ew : ∀ k, k = 5 ∨ k = 6 ∨ (122 ≤ k ∧ k < 154) → a' k = a k) : LX M' r a' := by
  obtain ⟨h1, h2, h3, h4⟩ := h
  unfold LX
  rw [e r (by omega) (by omega), e (r + 1) (by omega) (by omega), e (r + 2) (by omega) (by omega), e (r + 3) (by omega) (by omega), e (r + 4) (by omega) (by omega), ew 5 (by omega), ew 6 (by omega)]
  refine ⟨h1, h2, fun x hx => ?_, fun i hi => ?_⟩
  · rw [ew (122 + 3 * x) (by omega), ew (123 + 3 * x) (by omega), ew (124 + 3 * x) (by omega)]; exact h3 x hx
  · rw [ew (146 + i) (by omega)]; exact h4 i hi
theorem V1.co {a a' : Nat → Nat} (h : V1 a) (eb : ∀ k, a' k < 65536) (e : ∀ k, k < 3 ∨ (16 ≤ k ∧ k < 114) → a' k = a k) : V1 a' := by
  obtain ⟨h1, h2, h3, h4, h5, h6, w0, w1, w2, w3, h7, h8⟩ := h
  unfold V1
  rw [e 0 (by omega), e 1 (by omega), e 2 (by omega), e 16 (by omega), e 17 (by omega), e 18 (by omega), e 19 (by omega)]
  refine ⟨h1, h2, h3, h4, eb, fun p hp => ?_, w0, w1, w2, w3, fun x hx => ?_, fun i hi => ?_⟩
  · rw [e (16 + 5 * p) (by omega), e (17 + 5 * p) (by omega), e (18 + 5 * p) (by omega), e (19 + 5 * p) (by omega), e (20 + 5 * p) (by omega)]; exact h6 p hp
  · rw [e (98 + 2 * x) (by omega), e (99 + 2 * x) (by omega)]; exact h7 x hx
  · rw [e (56 + 3 * i) (by omega), e (57 + 3 * i) (by omega), e (58 + 3 * i) (by omega)]; exact h8 i hi
theorem V2.co {a a' : Nat → Nat} (h : V2 a) (e : ∀ k, k = 0 ∨ k = 3 ∨ (9 ≤ k ∧ k < 16) ∨ (114 ≤ k ∧ k < 122) → a' k = a k) : V2 a' := by
  obtain ⟨h1, h2, h3, h4, h5, h6, h7, h8, h9, h10, h11⟩ := h
  unfold V2
  rw [e 0 (by omega), e 3 (by omega), e 9 (by omega), e 10 (by omega), e 11 (by omega), e 12 (by omega), e 13 (by omega), e 14 (by omega), e 15 (by omega)]
  refine ⟨h1, h2, h3, h4, h5, h6, h7, h8, h9, h10, fun i hi => ?_⟩
  rw [e (114 + i) (by omega)]; exact h11 i hi
theorem V3.co {n : Nat} {a a' : Nat → Nat} (h : V3 n a) (e : ∀ k, k = 2 ∨ (4 ≤ k ∧ k < 9) → a' k = a k) : V3 n a' := by
  obtain ⟨h1, h2, h3, h4⟩ := h
  unfold V3
  rw [e 2 (by omega), e 4 (by omega), e 5 (by omega), e 6 (by omega), e 8 (by omega)]
  exact ⟨h1, h2, h3, h4⟩
theorem RM.up {M : g_M} {s : Nat} {a : Nat → Nat} (h : RM M s a) {i v : Nat} : RM (g_ms M s (upd (M s) i (nI v))) s (aup a i v) := by
  intro k hk
  rw [g_ms_s]
  unfold upd aup
  by_cases z : k = i
  · simp [z]
  · simp only [z, if_false]; exact h k hk
theorem aup_lt {a : Nat → Nat} {i v : Nat} (h : ∀ k, a k < 65536) (hv : v < 65536) : ∀ k, aup a i v k < 65536 := fun k => by
  unfold aup
  by_cases z : k = i
  · simp [z, hv]
  · simp only [z, if_false]; exact h k
/-- the frame of OX and of the image under changes of the world's own cells -/
theorem OX.fr {M M' : g_M} (h : OX M) (e : ∀ c, (c = 0 ∨ c = 67 ∨ c = 68 ∨ c = 80 ∨ c = 81 ∨ c = 82 ∨ c = 83 ∨ c = 87 ∨ c = 106) → M' c = M c) : OX M' := by
  unfold OX at h ⊢
  rw [e 0 (by omega), e 67 (by omega), e 68 (by omega), e 80 (by omega), e 81 (by omega), e 82 (by omega), e 83 (by omega), e 87 (by omega), e 106 (by omega)]
  exact h
theorem p_times {d n : Nat} {M : g_M} {p w : Int32} (hd : 6 ≤ d) (I : Inv n M) : g_pair d k_X9_times k_X10_times [.int p, .int w] M (Inv (n + 1)) := by
  have I0 := I
  obtain ⟨a, ⟨v, v2, v3⟩, ⟨g1, g2, t, lx, hw8⟩, hM, hO, hI⟩ := I
  have g0 := g1
  obtain ⟨x1, x2, x3, x4, x5, x6⟩ := g1
  have m0 := hM 0 (by decide)
  have b0 : a 0 ≤ 8 := v.2.1
  refine g_m (by omega) 60 (fun e he => ?_)
  refine x_isHid (by omega) ?_
  rw [x1]
  have bad : ∀ (c : Int32) (j : Nat), -c = nI j → j < 7 → c ≠ 0 → ((inP p (nI (a 0)) = false ∧ c = -1) ∨ (inP p (nI (a 0)) = true ∧ wth w 0 99 = c)) → g_cal d k_X10_times [.ref 82, .int p, .int w] (g_ms M 81 (upd (M 81) j (M 81 j + 1))) (fun v2 M2 => v2 = some (.int c) ∧ Inv (n + 1) M2) := by
    intro c j hc hj hc0 hcs
    refine g_m (by omega) 60 (fun e he => ?_)
    refine m_isRoom (by omega) ?_
    rw [g_ms_n (by decide : (84 : Nat) ≠ 81), m0]
    rcases hcs with ⟨h1, rfl⟩ | ⟨h1, h2⟩
    · rw [h1]
      exact b_t rfl (b_f (by decide) (m_refuse (by omega) j hc hj (e_ref I0 hj)))
    · rw [h1]
      refine b_f (by decide) (m_within (by omega) ?_)
      rw [h2]
      exact b_f hc0 (m_refuse (by omega) j hc hj (e_ref I0 hj))
  rcases inP_cases p (show a 0 < 2 ^ 31 by omega) with hp | ⟨j, hj0, hj, rfl, hp⟩
  · rw [hp]
    exact b_nf rfl (x_refuse (by omega) 1 (by decide) (by decide) ⟨_, rfl, bad _ _ (by decide) (by decide) (by decide) (Or.inl ⟨hp, rfl⟩)⟩)
  · rw [hp]
    refine b_nt (by decide) ⟨fun h0 => ⟨fun h1 => ?_, fun h1 => ?_⟩, fun h0 => ?_⟩
    · obtain ⟨u, hu, rfl⟩ := nI_of2 (M := 99) (n := 99) (by decide) (Int32.not_lt.mpr h0) h1
      have hw0 : wth (nI u) 0 99 = 0 := by unfold wth; rw [if_neg (Int32.not_lt.mpr h0), if_neg (Int32.not_lt.mpr h1)]
      refine ⟨j, rfl, by omega, j, rfl, by omega, ⟨_, rfl, ?_⟩⟩
      refine g_m (by omega) 60 (fun e he => ?_)
      refine m_isRoom (by omega) ?_
      rw [g_ms_n (by decide : (84 : Nat) ≠ 6), m0, hp]
      refine b_f (by decide) (m_within (by omega) ?_)
      rw [hw0]
      refine b_t rfl (m_becomes (by omega) (16 + 5 * j + 3) (ia (ia rfl (im rfl rfl)) rfl) (by omega) ⟨?_, ?_⟩)
      · rw [g_ms_n (by decide : (84 : Nat) ≠ 6), hM _ (by omega), show 16 + 5 * j + 3 = 19 + 5 * j by omega]
        exact congrArg (fun z => some (Value.int z)) (x4 j hj).2.2.2.1.symm
      · rw [show 16 + 5 * j + 3 = 19 + 5 * j by omega]
        generalize hN : g_ms (g_ms M 6 (upd (M 6) j (nI u))) 84 (upd ((g_ms M 6 (upd (M 6) j (nI u))) 84) (19 + 5 * j) (nI u)) = N
        have eN : ∀ c, c ≠ 6 → c ≠ 84 → N c = M c := fun c h1 h2 => by rw [← hN, g_ms_n h2, g_ms_n h1]
        have e6 : N 6 = upd (M 6) j (nI u) := by rw [← hN]; rfl
        have w6 := v.2.2.2.2.2.1
        have ne : ∀ k, k ≠ 19 + 5 * j → aup a (19 + 5 * j) u k = a k := fun k hk => aup_n hk
        have bb := v.2.2.2.2.1
        have hv' : V1 (aup a (19 + 5 * j) u) := by
          obtain ⟨h1, h2, h3, h4, h5, h6, w0, w1, w2, w3, h7, h8⟩ := v
          unfold V1
          rw [ne 0 (by omega), ne 1 (by omega), ne 2 (by omega), ne 16 (by omega), ne 17 (by omega), ne 18 (by omega), ne 19 (by omega)]
          refine ⟨h1, h2, h3, h4, aup_lt h5 (by omega), fun p hp => ?_, w0, w1, w2, w3, fun x hx => ?_, fun i hi => ?_⟩
          · rw [ne (16 + 5 * p) (by omega), ne (17 + 5 * p) (by omega), ne (18 + 5 * p) (by omega), ne (20 + 5 * p) (by omega)]
            have := h6 p hp
            refine ⟨this.1, this.2.1, this.2.2.1, ?_, this.2.2.2.2⟩
            by_cases z : p = j
            · rw [z, aup_s]; exact hu
            · rw [ne (19 + 5 * p) (by omega)]; exact this.2.2.2.1
          · rw [ne (98 + 2 * x) (by omega), ne (99 + 2 * x) (by omega)]; exact h7 x hx
          · rw [ne (56 + 3 * i) (by omega), ne (57 + 3 * i) (by omega), ne (58 + 3 * i) (by omega)]; exact h8 i hi
        have b5 : a 5 ≤ a 2 ∧ a 6 ≤ 8 := ⟨v3.2.2.1, v3.2.2.2⟩
        have b2 : a 2 ≤ 8 := v.2.2.2.1
        have b3 : a 3 ≤ 8 := v2.2.2.2.2.2.2.2.2.2.1
        refine ⟨aup a (19 + 5 * j) u, ⟨hv', v2.co (fun k hk => ne k (by omega)), (VV.mono ⟨v, v2, v3⟩).2.2.co (fun k hk => ne k (by omega))⟩, ⟨?_, g2.co v (fun c h1 h2 => eN c (by omega) (by omega)) (ne 0 (by omega)) (ne 1 (by omega)) (ne 2 (by omega)) (fun k h1 h2 => ne k (by omega)) (fun p hp => ne _ (by omega)), t.co v2 (fun c h1 h2 => eN c (by omega) (by omega)) (fun k hk => ne k (by omega)), lx.co (by omega) b5.2 (fun c h1 h2 => eN c (by omega) (by omega)) (fun k hk => ne k (by omega)), ?_⟩, ?_, hO.fr (fun c hc => eN c (by omega) (by omega)), fun z => ?_⟩
        · have hwy := wy_congr (a := a) (a' := aup a (19 + 5 * j) u) (ne 1 (by omega)) v.2.2.1 (fun k h1 h2 => ne k (by omega))
          unfold GX1
          rw [hwy, ne 0 (by omega), ne 1 (by omega), ne 2 (by omega)]
          show N 2 0 = _ ∧ N 2 1 = _ ∧ N 2 2 = _ ∧ (∀ p, p < a 0 → N 3 p = _ ∧ N 4 p = _ ∧ N 5 p = _ ∧ N 6 p = _ ∧ N 7 p = _) ∧ (∀ h, h < a 2 → N 8 h = _ ∧ N 9 h = _) ∧ (∀ x y, x < 8 → y < 8 → N 10 (x * 8 + y) = _)
          rw [eN 2 (by decide) (by decide), eN 3 (by decide) (by decide), eN 4 (by decide) (by decide), eN 5 (by decide) (by decide), eN 7 (by decide) (by decide), eN 8 (by decide) (by decide), eN 9 (by decide) (by decide), eN 10 (by decide) (by decide), e6]
          refine ⟨x1, x2, x3, fun p hp => ?_, fun x hx => ?_, x6⟩
          · rw [ne (16 + 5 * p) (by omega), ne (17 + 5 * p) (by omega), ne (18 + 5 * p) (by omega), ne (20 + 5 * p) (by omega)]
            have := x4 p hp
            refine ⟨this.1, this.2.1, this.2.2.1, ?_, this.2.2.2.2⟩
            unfold upd
            by_cases z : p = j
            · rw [z, aup_s, if_pos rfl]
            · rw [ne (19 + 5 * p) (by omega), if_neg z]; exact this.2.2.2.1
          · rw [ne (98 + 2 * x) (by omega), ne (99 + 2 * x) (by omega)]; exact x5 x hx
        · rw [eN 1 (by decide) (by decide), ne 8 (by omega)]; exact hw8
        · rw [← hN]
          exact RM.up (hM.fr (g_ms_n (by decide)))
        · rw [eN 0 (by decide) (by decide)] at z
          obtain ⟨b, b1, b2, b3⟩ := hI z
          exact ⟨b, b1.mono, b2.fr (fun c h1 h2 => eN c (by omega) (by omega)), b3.fr (eN 85 (by decide) (by decide))⟩
    · exact x_refuse (by omega) 6 (by decide) (by decide) ⟨_, rfl, bad _ _ (by decide) (by decide) (by decide) (Or.inr ⟨hp, by unfold wth; rw [if_neg (Int32.not_lt.mpr h0), if_pos (Int32.not_le.mp h1)]⟩)⟩
    · exact x_refuse (by omega) 4 (by decide) (by decide) ⟨_, rfl, bad _ _ (by decide) (by decide) (by decide) (Or.inr ⟨hp, by unfold wth; rw [if_pos (Int32.not_le.mp h0)]⟩)⟩
