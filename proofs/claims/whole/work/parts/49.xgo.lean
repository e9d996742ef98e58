/-! ===== the component's round: she goes on, they run ===== -/
theorem x_wayBetween {d : Nat} {M : g_M} {Q : g_R} {a : Nat → Nat} (hd : 1 ≤ d) (v : V1 a) (g1 : GX1 M 2 a) (p q : Nat) (hp : p < a 0) (hq : q < a 0) (h : Q (some (.int (nI (wy a p q)))) M) : g_cal d k_X1_wayBetween [.ref 2, .int (nI p), .int (nI q)] M Q := by
  have b0 : a 0 ≤ 8 := v.2.1
  rw [← g1.2.2.2.2.2 p q (by omega) (by omega)] at h
  refine g_m hd 60 (fun e he => ?_)
  refine b_lt (b := 0) rfl rfl (by omega) (by decide) (fun z => by omega) (fun _ => b_ge rfl g1.1 (by omega) (by omega) (fun z => by omega) (fun _ => ?_))
  refine b_lt (b := 0) rfl rfl (by omega) (by decide) (fun z => by omega) (fun _ => b_ge rfl g1.1 (by omega) (by omega) (fun z => by omega) (fun _ => ?_))
  exact ⟨p * 8 + q, ia (im rfl rfl) rfl, by omega, h⟩
theorem x_nextOn {d : Nat} {M : g_M} {Q : g_R} {a : Nat → Nat} (hd : 2 ≤ d) (v : V1 a) (g1 : GX1 M 2 a) (g2 : GX2 M 2 a) (x g : Nat) (hx : x < a 0) (hg : g < a 0) (hf : ds a x g < 100000) (h : Q (some (.int (nI (if g = x then x else nx a x g)))) M) : g_cal d k_X1_nextOn [.ref 2, .int (nI x), .int (nI g)] M Q := by
  have b0 : a 0 ≤ 8 := v.2.1
  have x1 := g1.1
  refine g_m (by omega) 60 (fun e he => x_distance (by omega) v g1 g2 x g hx hg ?_)
  rw [cD_in hf]
  have loop : ∀ m p u5 u6, p + m = a 0 → (g = x ∨ (nx a x g = nxF a x g (8 - p) p)) → g_Run (g_cal e) (g_mt S0 k_X1_nextOn) Q 10 [.ref 2, .int (nI x), .int (nI g), .int (nI (ds a x g)), .int (nI p), u5, u6] [] M := by
    intro m
    induction m with
    | zero =>
      intro p u5 u6 hp hn
      by_cases c : g = x
      · rw [if_pos c] at h
        exact g_go_ 20 (b_ge rfl x1 (by omega) (by omega) (fun _ => h) (fun z => by omega))
      · exfalso
        have ok := nx_ok v (fun w => c w.symm) hf
        have lt := (wy_dr v ok.1).2.2.1
        have e : nx a x g = nxF a x g (8 - p) p := by rcases hn with hn | hn; exact absurd hn c; exact hn
        have ge : ∀ k p, p ≤ nxF a x g k p := by
          intro k
          induction k with
          | zero => intro p; exact Nat.le_refl _
          | succ k ih => intro p; unfold nxF; split; exact Nat.le_refl _; have := ih (p + 1); omega
        have := ge (8 - p) p
        omega
    | succ m ih =>
      intro p u5 u6 hp hn
      have hw := wy_le v x p
      have hdl := ds_le v p g
      have hst : nxF a x g (8 - p) p = if wy a x p ≠ 0 ∧ wy a x p + ds a p g = ds a x g then p else nxF a x g (8 - (p + 1)) (p + 1) := by
        rw [show 8 - p = (8 - (p + 1)) + 1 by omega]; rfl
      have no : ∀ u5 u6, (g = x ∨ ¬ (wy a x p ≠ 0 ∧ wy a x p + ds a p g = ds a x g)) → g_Run (g_cal e) (g_mt S0 k_X1_nextOn) Q 61 [.ref 2, .int (nI x), .int (nI g), .int (nI (ds a x g)), .int (nI p), u5, u6] [] M := by
        intro u5 u6 z
        have hR := ih (p + 1) u5 u6 (by omega) (by
          by_cases c : g = x
          · exact Or.inl c
          · right
            rcases hn with hn | hn
            · exact absurd hn c
            · rw [hn, hst, if_neg (by rcases z with z | z; exact absurd z c; exact z)])
        rw [nI_succ] at hR
        exact g_go_ 5 (g_to hR _ rfl)
      refine g_go_ 40 (b_ge rfl x1 (by omega) (by omega) (fun z => by omega) (fun _ => ?_))
      refine x_wayBetween (by omega) v g1 x p hx (by omega) (x_distance (by omega) v g1 g2 p g (by omega) hg ?_)
      refine b_le (b := 0) rfl rfl (by omega) (by decide) (fun z => g_to (no _ _ (Or.inr (fun y => y.1 (by omega)))) _ rfl) (fun z => ?_)
      by_cases zd : ds a p g < 100000
      · rw [cD_in zd]
        refine b_f (n_ne9 (by omega)) ?_
        refine b_ne (ia rfl rfl) rfl (by omega) (by omega) (fun z2 => g_to (no _ _ (Or.inr (fun y => z2 y.2))) _ rfl) (fun z2 => ?_)
        have c : g ≠ x := by intro w; subst w; rw [ds_xx] at z2; omega
        rw [if_neg c] at h
        rcases hn with hn | hn
        · exact absurd hn c
        · rw [hn, hst, if_pos ⟨by omega, z2⟩] at h
          exact h
      · rw [cD_no zd]
        exact b_t rfl (g_to (no _ _ (Or.inr (fun y => by omega))) _ rfl)
  exact g_to (loop (a 0) 0 .null .null (by omega) (Or.inr rfl)) _ rfl
theorem x_nextTarget {d tt : Nat} {M : g_M} {Q : g_R} {a : Nat → Nat} {s : RS} (hd : 2 ≤ d) (htt : tt = 14 ∨ tt = 57) (v : V1 a) (v2 : V2 a) (w : CW M tt a) (hs : s.sp < a 0) (hp : s.pa ≤ 8) (k0 : M 66 0 = nI s.sp) (k2 : M 66 2 = nI s.pa)
    (h : ∀ M', (∀ c, c ≠ 66 → M' c = M c) → (∀ j, j ≠ 2 → M' 66 j = M 66 j) → M' 66 2 = nI (skp a s.sp 8 s.pa) → Q (some (.int (nI (gol a (skp a s.sp 8 s.pa))))) M') : g_cal d k_X5_nextTarget [.ref 66, .ref 2, .ref tt] M Q := by
  have b0 : a 0 ≤ 8 := v.2.1
  have b3 : a 3 ≤ 8 := v2.2.2.2.2.2.2.2.2.2.1
  have bo := v2.2.2.2.2.2.2.2.2.2.2
  have tl := w.2.2.2.1
  have tp := w.2.2.2.2
  refine g_m (by omega) 0 (fun e he => ?_)
  have loop : ∀ m i N u, i ≤ 8 → a 3 ≤ i + m → skp a s.sp m i = skp a s.sp 8 s.pa → (∀ c, c ≠ 66 → N c = M c) → (∀ j, j ≠ 2 → N 66 j = M 66 j) → N 66 2 = nI i → g_Run (g_cal e) (g_mt S0 k_X5_nextTarget) Q 0 [.ref 66, .ref 2, .ref tt, u] [] N := by
    intro m
    induction m with
    | zero =>
      intro i N u hi hm hk e1 e2 e3
      have hk' : i = skp a s.sp 8 s.pa := hk
      have fin := h N e1 e2 (by rw [← hk']; exact e3)
      rw [← hk', show gol a i = 0 from by unfold gol; rw [if_neg (by omega)]] at fin
      rcases htt with rfl | rfl
      all_goals
        refine g_go_ 20 (b_ge e3 (show N _ 2 = nI (a 3) by rw [e1 _ (by decide)]; exact tl) (by omega) (by omega) (fun _ => fin) (fun z => by omega))
    | succ m ih =>
      intro i N u hi hm hk e1 e2 e3
      by_cases c : i < a 3
      · have bi := bo i c
        have hd := ds_le v s.sp (a (114 + i))
        have wN : GX1 N 2 a := w.1.fr (fun c h1 h2 => e1 c (by omega))
        have wN2 : GX2 N 2 a := w.2.1.fr (fun c h1 h2 => e1 c (by omega))
        have tpi : N (tt + 2) i = nI (a (114 + i)) := by rw [e1 _ (by omega)]; exact tp i c
        have n0 : N 66 0 = nI s.sp := (e2 0 (by decide)).trans k0
        have hst : skp a s.sp (m + 1) i = if i < a 3 ∧ (a (114 + i) = s.sp ∨ ¬ ds a s.sp (a (114 + i)) < 100000) then skp a s.sp m (i + 1) else i := rfl
        rw [hst] at hk
        obtain ⟨N2, hN2⟩ : ∃ N2, N2 = g_ms N 66 (upd (N 66) 2 (N 66 2 + 1)) := ⟨_, rfl⟩
        have skip : ∀ u, (a (114 + i) = s.sp ∨ ¬ ds a s.sp (a (114 + i)) < 100000) → g_Run (g_cal e) (g_mt S0 k_X5_nextTarget) Q 54 [.ref 66, .ref 2, .ref tt, u] [] N := by
          intro u z
          rw [if_pos ⟨c, z⟩] at hk
          have hR := ih (i + 1) N2 u (by omega) (by omega) hk (fun c hc => by rw [hN2, g_ms_n hc]; exact e1 c hc) (fun j hj => by rw [hN2, g_ms_s]; unfold upd; rw [if_neg hj]; exact e2 j hj) (by rw [hN2, g_ms_s]; show N 66 2 + 1 = _; rw [e3, nI_succ])
          rw [hN2] at hR
          exact g_go_ 10 (g_to hR _ rfl)
        have stop : a (114 + i) ≠ s.sp → ds a s.sp (a (114 + i)) < 100000 → Q (some (.int (nI (a (114 + i))))) N := by
          intro z1 z2
          rw [if_neg (fun y => by rcases y.2 with y | y; exact z1 y; exact y z2)] at hk
          have := h N e1 e2 (by rw [← hk]; exact e3)
          rw [← hk, show gol a i = a (114 + i) from by unfold gol; rw [if_pos c]] at this
          exact this
        rcases htt with rfl | rfl
        all_goals
          refine g_go_ 40 (b_ge e3 (show N _ 2 = nI (a 3) by rw [e1 _ (by decide)]; exact tl) (by omega) (by omega) (fun z => by omega) (fun _ => ?_))
          refine b_ge e3 (show (8 : Int32) = nI 8 from rfl) (by omega) (by decide) (fun z => by omega) (fun _ => ⟨i, e3, by omega, ?_⟩)
          rw [tpi]
          refine b_eq rfl n0 (by omega) (by omega) (fun z => g_to (skip _ (Or.inl z)) _ rfl) (fun z => ?_)
          show g_cal e k_X1_distance [.ref 2, .int (N 66 0), .int (nI (a (114 + i)))] N _
          rw [n0]
          refine x_distance (by omega) v wN wN2 s.sp (a (114 + i)) hs (by omega) ?_
          by_cases zd : ds a s.sp (a (114 + i)) < 100000
          · rw [cD_in zd]
            exact b_f (n_ne9 (by omega)) (stop z zd)
          · rw [cD_no zd]
            exact b_t rfl (g_to (skip _ (Or.inr zd)) _ rfl)
      · have hst : skp a s.sp (m + 1) i = i := by unfold skp; rw [if_neg (fun y => c y.1)]
        rw [hst] at hk
        have fin := h N e1 e2 (by rw [← hk]; exact e3)
        rw [← hk, show gol a i = 0 from by unfold gol; rw [if_neg c]] at fin
        rcases htt with rfl | rfl
        all_goals
          exact g_go_ 20 (b_ge e3 (show N _ 2 = nI (a 3) by rw [e1 _ (by decide)]; exact tl) (by omega) (by omega) (fun _ => fin) (fun z => by omega))
  exact g_to (loop 8 s.pa M .null hp (by omega) rfl (fun _ _ => rfl) (fun _ _ => rfl) k2) _ rfl
theorem gol_lt {a : Nat → Nat} (v : V1 a) (v2 : V2 a) (i : Nat) : gol a i < a 0 := by
  unfold gol
  split
  · rename_i c; exact (v2.2.2.2.2.2.2.2.2.2.2 i c).2
  · exact v.1
theorem x_goOnAt {d tt t : Nat} {M : g_M} {Q : g_R} {a : Nat → Nat} {s : RS} (hd : 3 ≤ d) (htt : tt = 14 ∨ tt = 57) (v : V1 a) (v2 : V2 a) (w : CW M tt a) (ht : t ≤ 900) (I : RI a t s) (ck : CK M s)
    (h : ∀ M', (∀ c, c ≠ 66 → M' c = M c) → CK M' (goA a t s) → Q none M') : g_cal d k_X5_goOnAt [.ref 66, .int (nI t), .ref 2, .ref tt] M Q := by
  have ck0 := ck
  obtain ⟨k1, k2, k3, k4, k5⟩ := ck
  obtain ⟨i1, i2, i3, i4, i5, i6, i7, i8, i9⟩ := I
  have b0 : a 0 ≤ 8 := v.2.1
  refine g_m (by omega) 60 (fun e he => ?_)
  show (¬ M 66 4 = 0 → _) ∧ (M 66 4 = 0 → _)
  rw [k3]
  refine b_nz (fun z => ?_) (fun z => ?_)
  · have := h M (fun _ _ => rfl) (by unfold goA; rw [if_neg (fun y => by rw [z] at y; cases y.1)]; exact ck0)
    exact this
  · have m := i7 z
    have kk := k5 z
    have nogo : ¬ s.mo ≤ t → Q none M := fun y => h M (fun _ _ => rfl) (by unfold goA; rw [if_neg (fun y2 => y y2.2)]; exact ck0)
    show (M 66 3 = nI t → _) ∧ (¬ M 66 3 = nI t → _)
    by_cases hm : s.mo ≤ t
    · have hmt : s.mo = t := by omega
      have k3' : M 66 3 = nI t := by
        rcases kk with kk | kk
        · rw [← hmt]; exact kk.2
        · omega
      refine b_t k3' ?_
      have hgo : goA a t s = if gol a (skp a s.sp 8 s.pa) = s.sp then s.sSk s.sp s.to 100000 (skp a s.sp 8 s.pa) s.wk else s.sSk s.sp (nx a s.sp (gol a (skp a s.sp 8 s.pa))) (t + wy a s.sp (nx a s.sp (gol a (skp a s.sp 8 s.pa)))) (skp a s.sp 8 s.pa) true := by unfold goA; rw [if_pos ⟨z, hm⟩]
      rw [hgo] at h
      have gl := gol_lt v v2 (skp a s.sp 8 s.pa)
      have gf : ds a s.sp (gol a (skp a s.sp 8 s.pa)) < 100000 := by
        by_cases y : gol a (skp a s.sp 8 s.pa) = s.sp
        · rw [y, ds_xx]; decide
        · exact gol_ok v2 i4.2 i5 y
      have tg : ∀ Q' : g_R, (∀ M', (∀ c, c ≠ 66 → M' c = M c) → (∀ j, j ≠ 2 → M' 66 j = M 66 j) → M' 66 2 = nI (skp a s.sp 8 s.pa) → Q' (some (.int (nI (gol a (skp a s.sp 8 s.pa))))) M') → g_cal e k_X5_nextTarget [.ref 66, .ref 2, .ref tt] M Q' := fun Q' hq => x_nextTarget (by omega) htt v v2 w i4.1 i5 k1 k2 hq
      have rest : ∀ N, (∀ c, c ≠ 66 → N c = M c) → (∀ j, j ≠ 2 → N 66 j = M 66 j) → N 66 2 = nI (skp a s.sp 8 s.pa) → g_Run (g_cal e) (g_mt S0 k_X5_goOnAt) Q 28 [.ref 66, .int (nI t), .ref 2, .ref tt] [.int (nI (gol a (skp a s.sp 8 s.pa))), .int (nI s.sp), .ref 2, .ref 66] N := by
        intro N e1 e2 e3
        have w1 : GX1 N 2 a := w.1.fr (fun c h1 h2 => e1 c (by omega))
        have w2 : GX2 N 2 a := w.2.1.fr (fun c h1 h2 => e1 c (by omega))
        generalize gol a (skp a s.sp 8 s.pa) = g at *
        generalize skp a s.sp 8 s.pa = pa' at *
        refine g_go_ 40 (x_nextOn (by omega) v w1 w2 s.sp g i4.1 gl gf ?_)
        by_cases y : g = s.sp
        · rw [if_pos y]
          rw [if_pos y] at h
          show (¬ (upd (N 66) 1 (nI s.sp)) 1 = (upd (N 66) 1 (nI s.sp)) 0 → _) ∧ ((upd (N 66) 1 (nI s.sp)) 1 = (upd (N 66) 1 (nI s.sp)) 0 → _)
          have e0 : (upd (N 66) 1 (nI s.sp)) 1 = (upd (N 66) 1 (nI s.sp)) 0 := by
            show nI s.sp = N 66 0
            rw [e2 0 (by decide), k1]
          refine b_nf e0 (h _ (fun c hc => by rw [g_ms_n hc, g_ms_n hc]; exact e1 c hc) ⟨?_, ?_, ?_, fun y2 => ?_, fun _ => Or.inr ⟨rfl, rfl⟩⟩)
          · show N 66 0 = _; rw [e2 0 (by decide)]; exact k1
          · show N 66 2 = _; exact e3
          · show N 66 4 = _; rw [e2 4 (by decide)]; exact k3
          · have y3 : s.wk = true := y2
            rw [z] at y3; cases y3
        · rw [if_neg y]
          rw [if_neg y] at h
          obtain ⟨n1, n2⟩ := nx_ok v (fun q => y q.symm) gf
          obtain ⟨o1, o2, o3, o4⟩ := wy_dr v n1
          have o5 := wy_le v s.sp (nx a s.sp g)
          generalize nx a s.sp g = t' at *
          show (¬ (upd (N 66) 1 (nI t')) 1 = (upd (N 66) 1 (nI t')) 0 → _) ∧ ((upd (N 66) 1 (nI t')) 1 = (upd (N 66) 1 (nI t')) 0 → _)
          have e00 : N 66 0 = nI s.sp := by rw [e2 0 (by decide), k1]
          have e0 : ¬ (upd (N 66) 1 (nI t')) 1 = (upd (N 66) 1 (nI t')) 0 := by
            show ¬ nI t' = N 66 0
            rw [e00]
            intro q
            exact o4 ((nI_eq (by omega) (by omega)).mp q).symm
          refine b_nt e0 ?_
          generalize hK : g_ms N 66 (upd (N 66) 1 (nI t')) = K
          have eK : ∀ c, c ≠ 66 → K c = M c := fun c hc => by rw [← hK, g_ms_n hc]; exact e1 c hc
          have K0 : K 66 0 = nI s.sp := by rw [← hK]; exact e00
          have K1 : K 66 1 = nI t' := by rw [← hK]; rfl
          have K2 : K 66 2 = nI pa' := by rw [← hK]; exact e3
          show g_cal e k_X1_wayBetween [.ref 2, .int (K 66 0), .int (K 66 1)] K _
          rw [K0, K1]
          refine x_wayBetween (by omega) v (w.1.fr (fun c h1 h2 => eK c (by omega))) s.sp t' o2 o3 ⟨Or.inr rfl, h _ (fun c hc => by rw [g_ms_n hc, g_ms_n hc]; exact eK c hc) ⟨?_, ?_, ?_, fun _ => ⟨?_, ?_⟩, (fun y2 => by cases y2)⟩⟩
          · show K 66 0 = _; exact K0
          · show K 66 2 = _; exact K2
          · rfl
          · show K 66 1 = _; exact K1
          · show nI t + nI (wy a s.sp t') = _; rw [nI_add]; rfl
      rcases htt with rfl | rfl
      all_goals
        refine tg _ (fun N e1 e2 e3 => ?_)
        have hR := rest N e1 e2 e3
        rw [← k1] at hR
        exact g_to hR _ rfl
    · refine b_f ?_ (nogo hm)
      rcases kk with kk | kk
      · rw [kk.2]
        intro y
        have := (nI_eq (by omega) (by omega)).mp y
        omega
      · rw [kk.2, show (2147483647 : Int32) = nI 2147483647 from rfl]
        intro y
        have := (nI_eq (by decide) (by omega)).mp y
        omega
theorem x_secondsBack {d t : Nat} {M : g_M} {Q : g_R} {a : Nat → Nat} {s : RS} {u : Nat} (hd : 2 ≤ d) (v : V1 a) (g1 : GX1 M 2 a) (g2 : GX2 M 2 a) (I : RI a u s) (hu : t ≤ u) (ck : CK M s) (h : Q (some (.int (nI (bck a t s)))) M) : g_cal d k_X5_secondsBack [.ref 66, .int (nI t), .ref 2] M Q := by
  obtain ⟨k1, k2, k3, k4, k5⟩ := ck
  obtain ⟨i1, i2, i3, i4, i5, i6, i7, i8, i9⟩ := I
  have b1 := v.1
  refine g_m (by omega) 60 (fun e he => ?_)
  unfold bck at h
  show (M 66 4 = 0 → _) ∧ (¬ M 66 4 = 0 → _)
  rw [k3]
  refine b_z (fun z => ?_) (fun z => ?_)
  · rw [if_neg (by rw [z]; decide)] at h
    show g_cal e k_X1_distance [.ref 2, .int (M 66 0), .int 0] M _
    rw [k1]
    refine x_distance (by omega) v g1 g2 s.sp 0 i4.1 (by omega) ?_
    rw [cD_in i4.2]
    exact h
  · rw [if_pos z] at h
    obtain ⟨j1, j2, j3, j4⟩ := i6 z
    show g_cal e k_X1_distance [.ref 2, .int (M 66 1), .int 0] M _
    rw [(k4 z).1]
    refine x_distance (by omega) v g1 g2 s.to 0 j1 (by omega) ?_
    rw [cD_in j2]
    show Q (some (.int (M 66 3 - nI t + nI (ds a s.to 0)))) M
    rw [(k4 z).2, ia (is (show t ≤ s.mo by omega) rfl rfl) rfl]
    exact h
