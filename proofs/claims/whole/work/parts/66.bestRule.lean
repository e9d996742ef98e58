/-! ===== bestRule ===== -/
theorem hwm_le (a : Nat → Nat) (s : RS) (w : Nat) : hwm a s w ≤ a 2 := cnt_le _ _
theorem fnd_le (a : Nat → Nat) (m : Nat) (z : Int32) (b2 : a 2 ≤ 8) : fnd a m z ≤ 8 * m := by
  unfold fnd
  exact g_it_J (fun i s => s ≤ 8 * i) (fndF a z) m (fun i s _ hs => by unfold fndF; have := hwm_le a (ply a (z + nI i)) 0; omega) m 0 0 (by omega) (Nat.le_refl _)
def brF (f : Nat → Nat) (r : Nat) (s : Nat × Nat) : Nat × Nat := if f r < s.2 then (r, f r) else s
theorem rl_v {a : Nat → Nat} (v : V1 a) (v2 : V2 a) {r : Nat} (hr : r ≤ 4) : V1 (aup a 12 r) ∧ V2 (aup a 12 r) :=
  ⟨v.co (aup_lt v.2.2.2.2.1 (by omega)) (fun k hk => aup_n (by omega)), v2.set (k := 3) (u := r) (by decide) (Nat.zero_le _) hr⟩
theorem rl_cw {M M' : g_M} {a : Nat → Nat} {r : Nat} (v : V1 a) (v2 : V2 a) (g1 : GX1 M 2 a) (g2 : GX2 M 2 a) (tx : TX M 57 a) (e : ∀ c, 2 ≤ c → c ≤ 13 → M' c = M c) (e57 : M' 57 = M 57) (e59 : M' 59 = M 59) (e58 : ∀ k, k < 7 → M' 58 k = if k = 3 then nI r else M 58 k) : CW M' 57 (aup a 12 r) := by
  refine ⟨g1.co v (fun c h1 h2 => e c (by omega) (by omega)) (aup_n (by omega)) (aup_n (by omega)) (aup_n (by omega)) (fun k h1 h2 => aup_n (by omega)), g2.co v (fun c h1 h2 => e c (by omega) (by omega)) (aup_n (by omega)) (aup_n (by omega)) (aup_n (by omega)) (fun k h1 h2 => aup_n (by omega)) (fun p hp => aup_n (by omega)), ?_⟩
  obtain ⟨t1, t2, t3⟩ := tx
  refine ⟨fun k hk => ?_, ?_, fun i hi => ?_⟩
  · show M' 58 k = _
    rw [e58 k hk]
    by_cases c : k = 3
    · subst c; rw [if_pos rfl]; rw [aup_s]
    · rw [if_neg c, aup_n (by omega)]; exact t1 k hk
  · rw [e57, aup_n (by omega)]; exact t2
  · rw [aup_n (by omega)] at hi
    show M' 59 i = _
    rw [e59, aup_n (by omega)]; exact t3 i hi
theorem p_bestRule {d n : Nat} {M : g_M} {w z : Int32} (hd : 10 ≤ d) (I : Inv n M) : g_pair d k_X9_bestRule k_X10_bestRule [.int w, .int z] M (Inv (n + 1)) := by
  have I0 := I
  obtain ⟨a, ⟨v, v2, v3⟩, ⟨g1, g2, tx, -⟩, hM, -⟩ := I
  have b2 : a 2 ≤ 8 := v.2.2.2.1
  have b12 : a 12 ≤ 4 := v2.2.2.2.2.1
  have bad : ∀ (c : Int32) (j : Nat), -c = nI j → j < 7 → c ≠ 0 → c = wth w 1 5 → g_cal d k_X10_bestRule [.ref 82, .int w, .int z] (g_ms M 81 (upd (M 81) j (M 81 j + 1))) (fun v2 M2 => v2 = some (.int c) ∧ Inv (n + 1) M2) := by
    intro c j hc hj hc0 hcs
    refine g_m (by omega) 60 (fun e he => m_within (by omega) ?_)
    rw [← hcs]
    exact b_f hc0 (m_refuse (by omega) j hc hj (e_ref I0 hj))
  refine g_m (by omega) 60 (fun e he => ⟨fun hw => ⟨fun hw2 => ?_, fun hw2 => ?_⟩, fun hw => ?_⟩)
  · obtain ⟨m, hm, rfl⟩ := nI_of2 (M := 5) (n := 5) (by decide) (x := w) (by
      intro q
      rw [Int32.lt_iff_toInt_lt] at q
      rw [Int32.le_iff_toInt_le] at hw
      have z1 : (1 : Int32).toInt = 1 := by decide
      have z2 : (0 : Int32).toInt = 0 := by decide
      omega) hw2
    generalize hf : (fun r => fnd (aup a 12 r) m z) = f
    have hfr : ∀ r, fnd (aup a 12 r) m z = f r := fun r => by rw [← hf]
    have fle : ∀ r, f r ≤ 40 := fun r => by
      rw [← hfr]
      have := fnd_le (aup a 12 r) m z (by rw [aup_n (by omega)]; exact b2)
      omega
    -- the reference
    have md : ∀ K, Sm M K → g_cal d k_X10_bestRule [.ref 82, .int (nI m), .int z] K (fun v2 M2 => v2 = some (.int (nI (g_it (brF f) 5 0 (0, 2147483647)).1)) ∧ Inv (n + 1) M2) := by
      intro K sm
      have IK := I0.fr sm
      have hMK : RM K 84 a := hM.fr (sm.1 84 rfl)
      refine g_m (by omega) 60 (fun e he => m_within (by omega) ?_)
      have hz : wth (nI m) 1 5 = 0 := by unfold wth; rw [if_neg (Int32.not_lt.mpr hw), if_neg (Int32.not_lt.mpr hw2)]
      rw [hz]
      refine b_t rfl (m_setOf (by omega) 3 rfl (by decide) ?_)
      rw [hMK _ (by decide), show 9 + 3 = 12 from rfl]
      -- after the rules
      have R86 : ∀ N b u6 u7 u8, (∀ c, c ≠ 84 → c ≠ 82 → c ≠ 89 → c ≠ 90 → (c < 91 ∨ 96 < c) → N c = K c) → (∀ j, (j < 17 ∨ 25 < j) → N 82 j = K 82 j) → (∀ k, k < 154 → k ≠ 12 → N 84 k = nI (a k)) → b = (g_it (brF f) 5 0 (0, 2147483647)).1 → g_Run (g_cal e) (g_mt S0 k_X10_bestRule) (fun v2 M2 => v2 = some (.int (nI (g_it (brF f) 5 0 (0, 2147483647)).1)) ∧ Inv (n + 1) M2) 86 [.ref 82, .int (nI m), .int z, .int 0, .int (nI (a 12)), .int (nI b), u6, u7, u8] [] N := by
        intro N b u6 u7 u8 e1 e2 e3 hb
        refine g_go_ 20 ⟨12, rfl, by decide, by rw [hb], ?_⟩
        generalize hP : g_ms N 84 (upd (N 84) 12 (nI (a 12))) = P
        have o : ∀ c, c ≠ 84 → P c = N c := fun c hc => by rw [← hP, g_ms_n hc]
        have p84 : ∀ k, k < 154 → P 84 k = K 84 k := fun k hk => by
          rw [← hP, g_ms_s, hMK k hk]
          unfold upd
          by_cases c : k = 12
          · rw [if_pos c, c]
          · rw [if_neg c]; exact e3 k hk c
        obtain ⟨a', hv', hX', hM', hO', hI'⟩ := IK.up
        have kc : ∀ c, c < 82 ∨ c = 83 ∨ (84 < c ∧ c < 89) ∨ 96 < c → P c = K c := fun c hc => (o c (by omega)).trans (e1 c (by omega) (by omega) (by omega) (by omega) (by omega))
        have k82 : ∀ j, (j < 17 ∨ 25 < j) → P 82 j = K 82 j := fun j hj => by rw [o 82 (by decide)]; exact e2 j hj
        refine ⟨a', hv', hX'.fr (fun c h1 h2 => kc c (by omega)), fun k hk => by rw [p84 k hk]; exact hM' k hk, ?_, fun y => ?_⟩
        · unfold OX at hO' ⊢
          rw [kc 67 (by decide), kc 68 (by decide), kc 87 (by decide), kc 0 (by decide), kc 80 (by decide), kc 106 (by decide), kc 81 (by decide), kc 83 (by decide), k82 7 (by decide), k82 37 (by decide), k82 4 (by decide)]
          exact hO'
        · rw [kc 0 (by decide)] at y
          obtain ⟨b, b1, b2', b3⟩ := hI' y
          exact ⟨b, b1, b2'.fr (fun c h1 h2 => kc c (by omega)), b3.fr (kc 85 (by decide))⟩
      have loop : ∀ k r N s u8, r + k = 5 → (∀ c, c ≠ 84 → c ≠ 82 → c ≠ 89 → c ≠ 90 → (c < 91 ∨ 96 < c) → N c = K c) → (∀ j, (j < 17 ∨ 25 < j) → N 82 j = K 82 j) → (∀ k, k < 154 → k ≠ 12 → N 84 k = nI (a k)) → g_it (brF f) k r s = g_it (brF f) 5 0 (0, 2147483647) → (r = 0 → s = (0, 2147483647)) → (r ≠ 0 → s.1 ≤ 4 ∧ s.2 ≤ 40) → ∀ x5 x6, (r = 0 → x5 = -9) → (r ≠ 0 → x5 = nI s.1 ∧ x6 = nI s.2) → g_Run (g_cal e) (g_mt S0 k_X10_bestRule) (fun v2 M2 => v2 = some (.int (nI (g_it (brF f) 5 0 (0, 2147483647)).1)) ∧ Inv (n + 1) M2) 34 [.ref 82, .int (nI m), .int z, .int 0, .int (nI (a 12)), .int x5, .int x6, .int (nI r), u8] [] N := by
        intro k
        induction k with
        | zero =>
          intro r N s u8 hr e1 e2 e3 hs h0 h1 x5 x6 hx0 hx1
          obtain ⟨hx, -⟩ := hx1 (by omega)
          subst hx
          exact g_go_ 20 (b_ge rfl (show (5 : Int32) = nI 5 from rfl) (by omega) (by decide) (fun _ => g_to (R86 N s.1 _ _ u8 e1 e2 e3 (by rw [← hs]; rfl)) _ rfl) (fun y => by omega))
        | succ k ih =>
          intro r N s u8 hr e1 e2 e3 hs h0 h1 x5 x6 hx0 hx1
          refine g_go_ 60 (b_ge rfl (show (5 : Int32) = nI 5 from rfl) (by omega) (by decide) (fun y => by omega) (fun _ => ⟨12, rfl, by decide, ?_⟩))
          generalize hP : g_ms N 84 (upd (N 84) 12 (nI r)) = P
          have o : ∀ c, c ≠ 84 → P c = N c := fun c hc => by rw [← hP, g_ms_n hc]
          have rmP : RM P 84 (aup a 12 r) := fun k hk => by
            rw [← hP, g_ms_s]
            unfold upd aup
            by_cases c : k = 12
            · rw [if_pos c, if_pos c]
            · rw [if_neg c, if_neg c]; exact e3 k hk c
          obtain ⟨v', v2'⟩ := rl_v v v2 (show r ≤ 4 by omega)
          refine m_finds (by omega) v' v2' rmP hm (fun N2 q => ?_)
          rw [hfr r]
          have fr := fle r
          have f1 : ∀ c, c ≠ 84 → c ≠ 82 → c ≠ 89 → c ≠ 90 → (c < 91 ∨ 96 < c) → N2 c = K c := fun c c1 c2 c3 c4 c5 => ((q.1 c c2 c3 c4 c5).trans (o c c1)).trans (e1 c c1 c2 c3 c4 c5)
          have f2 : ∀ j, (j < 17 ∨ 25 < j) → N2 82 j = K 82 j := fun j hj => by rw [q.2 j hj, o 82 (by decide)]; exact e2 j hj
          have f3 : ∀ k, k < 154 → k ≠ 12 → N2 84 k = nI (a k) := fun k hk h12 => by rw [q.1 84 (by decide) (by decide) (by decide) (by decide), rmP k hk, aup_n h12]
          have hs2 : g_it (brF f) k (r + 1) (brF f r s) = g_it (brF f) 5 0 (0, 2147483647) := hs
          have R80 : ∀ x5 x6, brF f r s = ((brF f r s).1, (brF f r s).2) → x5 = nI (brF f r s).1 → x6 = nI (brF f r s).2 → ((brF f r s).1 ≤ 4 ∧ (brF f r s).2 ≤ 40) → ∀ u8, g_Run (g_cal e) (g_mt S0 k_X10_bestRule) (fun v2 M2 => v2 = some (.int (nI (g_it (brF f) 5 0 (0, 2147483647)).1)) ∧ Inv (n + 1) M2) 80 [.ref 82, .int (nI m), .int z, .int 0, .int (nI (a 12)), .int x5, .int x6, .int (nI r), u8] [] N2 := by
            intro x5 x6 _ h5 h6 hb u8
            have hR := ih (r + 1) N2 (brF f r s) u8 (by omega) f1 f2 f3 hs2 (fun y => by omega) (fun _ => hb) x5 x6 (fun y => by omega) (fun _ => ⟨h5, h6⟩)
            rw [nI_succ] at hR
            exact g_go_ 5 (g_to hR _ rfl)
          by_cases r0 : r = 0
          · have s0 := h0 r0
            have hbr : brF f r s = (r, f r) := by unfold brF; rw [if_pos (by rw [s0]; show f r < 2147483647; omega)]
            rw [hbr] at R80
            have h9 := hx0 r0
            subst h9
            exact b_t (by decide) (g_to (R80 (nI r) (nI (f r)) rfl rfl rfl ⟨by omega, fr⟩ (.int (nI (f r)))) _ rfl)
          · obtain ⟨h5, h6⟩ := hx1 r0
            obtain ⟨bs1, bs2⟩ := h1 r0
            subst h5 h6
            refine b_lt (b := 0) rfl rfl (by omega) (by decide) (fun y => by omega) (fun _ => ?_)
            refine b_lt rfl rfl (by omega) (by omega) (fun y => ?_) (fun y => ?_)
            · have hbr : brF f r s = (r, f r) := by unfold brF; rw [if_pos y]
              rw [hbr] at R80
              exact g_to (R80 (nI r) (nI (f r)) rfl rfl rfl ⟨by omega, fr⟩ (.int (nI (f r)))) _ rfl
            · have hbr : brF f r s = s := by unfold brF; rw [if_neg (by omega)]
              rw [hbr] at R80
              exact g_to (R80 (nI s.1) (nI s.2) rfl rfl rfl ⟨bs1, bs2⟩ (.int (nI (f r)))) _ rfl
      exact g_to (loop 5 0 K (0, 2147483647) .null (by omega) (fun _ _ _ _ _ _ => rfl) (fun _ _ => rfl) (fun k hk _ => hMK k hk) rfl (fun _ => rfl) (fun y => absurd rfl y) (-9) 0 (fun _ => rfl) (fun y => absurd rfl y)) _ rfl
    refine x_tcopy (by omega) (Or.inl ⟨rfl, rfl⟩) (fun M1 f1 t1 => ?_)
    have tx1 : TX M1 57 a := t1.to v2 tx
    have g11 : GX1 M1 2 a := g1.fr (fun c h1 h2 => f1 c (by omega))
    have g21 : GX2 M1 2 a := g2.fr (fun c h1 h2 => f1 c (by omega))
    have loop : ∀ k r N s u6, r + k = 5 → (∀ c, c ≠ 58 → c ≠ 66 → (c < 60 ∨ 65 < c) → N c = M1 c) → (∀ j, j ≠ 3 → N 58 j = M1 58 j) → g_it (brF f) k r s = g_it (brF f) 5 0 (0, 2147483647) → s.2 ≤ 2147483647 → g_Run (g_cal e) (g_mt S0 k_X9_bestRule) (fun v M1 => ∃ r, v = some (.int r) ∧ g_cal d k_X10_bestRule [.ref 82, .int (nI m), .int z] M1 (fun v2 M2 => v2 = some (.int r) ∧ Inv (n + 1) M2)) 48 [.ref 0, .int (nI m), .int z, .int (nI s.1), .int (nI s.2), .int (nI r), u6] [] N := by
      intro k
      induction k with
      | zero =>
        intro r N s u6 hr e1 e2 hs hb
        have smN : Sm M N := by
          have oc : ∀ c, (c < 57 ∨ 59 < c) → c ≠ 66 → (c < 60 ∨ 65 < c) → N c = M c := fun c c1 c2 c3 => (e1 c (by omega) c2 c3).trans (f1 c (by omega))
          refine ⟨fun c hc => ?_, by rw [oc 82 (by decide) (by decide) (by decide)], by rw [oc 82 (by decide) (by decide) (by decide)], by rw [oc 82 (by decide) (by decide) (by decide)], by rw [oc 67 (by decide) (by decide) (by decide)]⟩
          simp [g_kp] at hc
          exact oc c (by omega) (by omega) (by omega)
        have r1 := md N smN
        rw [← hs] at r1
        exact g_go_ 20 (b_ge rfl (show (5 : Int32) = nI 5 from rfl) (by omega) (by decide) (fun _ => ⟨_, rfl, r1⟩) (fun y => by omega))
      | succ k ih =>
        intro r N s u6 hr e1 e2 hs hb
        refine g_go_ 60 (b_ge rfl (show (5 : Int32) = nI 5 from rfl) (by omega) (by decide) (fun y => by omega) (fun _ => ⟨3, rfl, by decide, ?_⟩))
        generalize hP : g_ms N 58 (upd (N 58) 3 (nI r)) = P
        have o : ∀ c, c ≠ 58 → P c = N c := fun c hc => by rw [← hP, g_ms_n hc]
        have p58 : ∀ j, P 58 j = if j = 3 then nI r else M1 58 j := fun j => by
          rw [← hP, g_ms_s]
          unfold upd
          by_cases c : j = 3
          · rw [if_pos c, if_pos c]
          · rw [if_neg c, if_neg c]; exact e2 j c
        obtain ⟨v', v2'⟩ := rl_v v v2 (show r ≤ 4 by omega)
        have cw := rl_cw (M' := P) (r := r) v v2 g11 g21 tx1 (fun c h1 h2 => (o c (by omega)).trans (e1 c (by omega) (by omega) (by omega))) ((o 57 (by decide)).trans (e1 57 (by decide) (by decide) (by decide))) ((o 59 (by decide)).trans (e1 59 (by decide) (by decide) (by decide))) (fun k _ => p58 k)
        refine x_finds (by omega) v' v2' cw hm (fun N2 q => ?_)
        rw [hfr r]
        have fr := fle r
        have q1 : ∀ c, c ≠ 58 → c ≠ 66 → (c < 60 ∨ 65 < c) → N2 c = M1 c := fun c c1 c2 c3 => ((q c c2 (by omega)).trans (o c c1)).trans (e1 c c1 c2 c3)
        have q2 : ∀ j, j ≠ 3 → N2 58 j = M1 58 j := fun j hj => by rw [q 58 (by decide) (by decide), p58 j, if_neg hj]
        have hs2 : g_it (brF f) k (r + 1) (brF f r s) = g_it (brF f) 5 0 (0, 2147483647) := hs
        refine b_ge rfl rfl (by omega) (by omega) (fun y => ?_) (fun y => ?_)
        · have hbr : brF f r s = s := by unfold brF; rw [if_neg (by omega)]
          rw [hbr] at hs2
          have hR := ih (r + 1) N2 s (.int (nI (f r))) (by omega) q1 q2 hs2 hb
          rw [nI_succ] at hR
          exact g_to hR _ rfl
        · have hbr : brF f r s = (r, f r) := by unfold brF; rw [if_pos y]
          rw [hbr] at hs2
          have hR := ih (r + 1) N2 (r, f r) (.int (nI (f r))) (by omega) q1 q2 hs2 (by show f r ≤ _; omega)
          rw [nI_succ] at hR
          exact g_to hR _ rfl
    exact g_to (loop 5 0 M1 (0, 2147483647) .null (by omega) (fun _ _ _ _ => rfl) (fun _ _ => rfl) rfl (Nat.le_refl _)) _ rfl
  · exact x_refuse (by omega) 6 (by decide) (by decide) ⟨_, rfl, bad _ _ (by decide) (by decide) (by decide) (by unfold wth; rw [if_neg (Int32.not_lt.mpr hw), if_pos (Int32.not_le.mp hw2)])⟩
  · exact x_refuse (by omega) 4 (by decide) (by decide) ⟨_, rfl, bad _ _ (by decide) (by decide) (by decide) (by unfold wth; rw [if_pos (Int32.not_le.mp hw)])⟩
