theorem p_round {d n : Nat} {M : g_M} {z : Int32} (hd : 9 ≤ d) (hn : n < 1000) (I : Inv n M) : g_pair d k_X9_round k_X10_round [.int z] M (Inv (n + 1)) := by
  obtain ⟨a, hv, hX, hM, hO, hI⟩ := I
  have hv0 := hv
  obtain ⟨v, v2, v3⟩ := hv
  obtain ⟨g1, g2, tx, lx, hw8⟩ := hX
  have b0 : a 0 ≤ 8 := v.2.1
  have b2 : a 2 ≤ 8 := v.2.2.2.1
  obtain ⟨p1, p2, p3, p4, p5, p6⟩ := ply_ok v v2 z
  have bo : ∀ h, h < a 2 → (ply a z).ho h ≤ 4 := fun h hh => by have := (p1 h hh).2.1; omega
  refine g_m (by omega) 60 (fun e he => ?_)
  refine x_play (r := 17) (tt := 14) (by omega) (Or.inl rfl) (Or.inl rfl) v v2 ⟨g1, g2, tx⟩ (fun M1 f1 c1 c7 => ?_)
  have g11 : GX1 M1 2 a := g1.fr (fun c h1 h2 => f1 c (by omega) (by omega))
  refine x_growTimes (by omega) v g11 c1 (fun h hh => (p1 h hh).1) (fun M2 f2 t2 => ?_)
  obtain ⟨M3, hM3⟩ : ∃ M3, M3 = g_ms M2 1 (upd (M2 1) 3 (M2 1 3 + 1)) := ⟨_, rfl⟩
  have o3 : ∀ c, c ≠ 1 → M3 c = M2 c := fun c hc => by rw [hM3, g_ms_n hc]
  have oM : ∀ c, c ≠ 1 → c ≠ 6 → c ≠ 66 → (c < 17 ∨ 22 < c) → M3 c = M c := fun c c1 c2 c3 c4 => by rw [o3 c c1, f2 c c2]; exact f1 c c3 (by omega)
  have c3 : CS M3 17 a (a 2) (ply a z) := c1.fr (fun c h1 h2 => by rw [o3 c (by omega), f2 c (by omega)])
  have hRM3 : RM M3 84 a := hM.fr (oM 84 (by decide) (by decide) (by decide) (by decide))
  show g_cal e k_X4_howMany [.ref 17, .int 0] (g_ms M2 1 (upd (M2 1) 3 (M2 1 3 + 1))) _
  rw [← hM3]
  refine x_howMany (w := 0) (by omega) (Or.inl rfl) b2 bo c3 (by decide) ⟨_, rfl, ?_⟩
  refine m_round (by omega) v v2 hRM3 (fun N k1 k2 k3 => ⟨rfl, ?_⟩)
  have oN : ∀ c, c < 82 ∨ c = 83 ∨ (84 < c ∧ c < 89) ∨ 96 < c → N c = M3 c := fun c hc => k1 c (by omega) (by omega) (by omega) (by omega) (by omega)
  have el : ∀ {k}, (k < 4 ∨ (9 ≤ k ∧ k < 21) ∨ (56 ≤ k ∧ k < 122)) → aft a z k = a k := fun h => aft_lo h
  have lke := lkc_eq (s := ply a z) b2 (fun k hk => (p4 k hk).1)
  have RXa : RX M3 1 (aft a z) := by
    refine ⟨?_, ?_, ?_, ?_, ?_⟩
    · obtain ⟨x1, x2, x3, x4, x5, x6⟩ := g1
      refine ⟨?_, ?_, ?_, fun p hp => ?_, fun h hh => ?_, fun x y hx hy => ?_⟩
      · rw [oM 2 (by decide) (by decide) (by decide) (by decide), el (by omega)]; exact x1
      · rw [oM 2 (by decide) (by decide) (by decide) (by decide), el (by omega)]; exact x2
      · rw [oM 2 (by decide) (by decide) (by decide) (by decide), el (by omega)]; exact x3
      · rw [el (by omega)] at hp
        have q := x4 p hp
        have r0 := aft_pl (a := a) (z := z) (p := p) (j := 0) (by omega) (by omega) (by omega)
        have r1 := aft_pl (a := a) (z := z) (p := p) (j := 1) (by omega) (by omega) (by omega)
        have r2 := aft_pl (a := a) (z := z) (p := p) (j := 2) (by omega) (by omega) (by omega)
        have r4 := aft_pl (a := a) (z := z) (p := p) (j := 4) (by omega) (by omega) (by omega)
        rw [show 16 + 5 * p + 0 = 16 + 5 * p by omega] at r0
        rw [show 16 + 5 * p + 1 = 17 + 5 * p by omega] at r1
        rw [show 16 + 5 * p + 2 = 18 + 5 * p by omega] at r2
        rw [show 16 + 5 * p + 4 = 20 + 5 * p by omega] at r4
        rw [r0, r1, r2, r4]
        refine ⟨?_, ?_, ?_, ?_, ?_⟩
        · rw [oM _ (by decide) (by decide) (by decide) (by decide)]; exact q.1
        · rw [oM _ (by decide) (by decide) (by decide) (by decide)]; exact q.2.1
        · rw [oM _ (by decide) (by decide) (by decide) (by decide)]; exact q.2.2.1
        · show M3 6 p = _
          rw [o3 6 (by decide), t2 p hp, lke p]
          by_cases c : 1 ≤ p
          · rw [aft_tm hp (by omega) c]
          · have p0 : p = 0 := by omega
            subst p0
            rw [el (by omega)]
            have l0 : lkc (ply a z) 0 = 0 := cnt_no (fun k _ => by
              show ((ply a z).lk k && decide ((ply a z).wh k = 0)) = false
              by_cases y : (ply a z).lk k = true
              · have := (p4 k y).2
                rw [decide_eq_false (by omega), Bool.and_false]
              · rw [show (ply a z).lk k = false from Bool.not_eq_true _ ▸ y, Bool.false_and])
            have := (v.2.2.2.2.2.1 0 hp).2.2.2.1
            rw [l0]
            congr 1
            omega
        · rw [oM _ (by decide) (by decide) (by decide) (by decide)]; exact q.2.2.2.2
      · rw [el (by omega)] at hh
        rw [el (by omega), el (by omega), oM _ (by decide) (by decide) (by decide) (by decide), oM _ (by decide) (by decide) (by decide) (by decide)]
        exact x5 h hh
      · have hwy : wy (aft a z) = wy a := wy_congr (el (by omega)) v.2.2.1 (fun k h1 h2 => el (by omega))
        rw [hwy, oM _ (by decide) (by decide) (by decide) (by decide)]
        exact x6 x y hx hy
    · exact g2.co v (fun c h1 h2 => oM c (by omega) (by omega) (by omega) (by omega)) (el (by omega)) (el (by omega)) (el (by omega)) (fun k h1 h2 => el (by omega)) (fun p hp => by
        have r0 := aft_pl (a := a) (z := z) (p := p) (j := 0) (by omega) (by omega) (by omega)
        exact r0)
    · exact tx.co v2 (fun c h1 h2 => oM c (by omega) (by omega) (by omega) (by omega)) (fun k hk => el (by omega))
    · obtain ⟨s5, s6, s9, s8, sr, sc⟩ := c3
      refine ⟨s5, s6, fun h hh => ?_, fun i hi => ?_⟩
      · have hh' : h < a 2 := hh
        obtain ⟨w1, w2, w3, w4⟩ := sr h hh'
        obtain ⟨t1, t2, t3⟩ := aft_wh (a := a) (z := z) (h := h) (by omega)
        rw [t1, t2, t3]
        have := (p1 h hh').2.1
        exact ⟨w1, w2, w4 (by omega)⟩
      · have hi' : i < (ply a z).cn := hi
        rw [aft_ca (by omega), if_pos hi']
        exact sc i hi'
    · have m1 : M2 1 3 = nI (a 8) := by rw [f2 1 (by decide), f1 1 (by decide) (by decide)]; exact hw8
      rw [hM3, g_ms_s]
      show M2 1 3 + 1 = nI (a 8 + 1)
      rw [m1, nI_succ]
  refine ⟨aft a z, aft_vv hv0 hn z, RXa.fr (fun c h1 h2 => oN c (by omega)), k3, ?_, fun y => ?_⟩
  · have oo : ∀ c, c ≠ 1 → c ≠ 6 → c ≠ 66 → (c < 17 ∨ 22 < c) → (c < 82 ∨ c = 83 ∨ (84 < c ∧ c < 89) ∨ 96 < c) → N c = M c := fun c c1 c2 c3 c4 c5 => (oN c c5).trans (oM c c1 c2 c3 c4)
    have o82 : ∀ j, (j < 17 ∨ 25 < j) → N 82 j = M 82 j := fun j hj => by rw [k2 j hj, oM 82 (by decide) (by decide) (by decide) (by decide)]
    unfold OX at hO ⊢
    rw [oo 67 (by decide) (by decide) (by decide) (by decide) (by decide), oo 68 (by decide) (by decide) (by decide) (by decide) (by decide), oo 87 (by decide) (by decide) (by decide) (by decide) (by decide), oo 0 (by decide) (by decide) (by decide) (by decide) (by decide), oo 80 (by decide) (by decide) (by decide) (by decide) (by decide), oo 106 (by decide) (by decide) (by decide) (by decide) (by decide), oo 81 (by decide) (by decide) (by decide) (by decide) (by decide), oo 83 (by decide) (by decide) (by decide) (by decide) (by decide), o82 7 (by decide), o82 37 (by decide), o82 4 (by decide)]
    exact hO
  · rw [oN 0 (by decide), oM 0 (by decide) (by decide) (by decide) (by decide)] at y
    obtain ⟨b, b1, b2', b3⟩ := hI y
    exact ⟨b, b1.mono, b2'.fr (fun c h1 h2 => (oN c (by omega)).trans (oM c (by omega) (by omega) (by omega) (by omega))), b3.fr ((oN 85 (by decide)).trans (oM 85 (by decide) (by decide) (by decide) (by decide)))⟩
