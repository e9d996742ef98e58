/-! ===== cover, times, set ===== -/
/-- COVER by its parts -/
def cv (K H T many sec dusk : Nat) : Nat := if K = 1 then H - 5 * T else if K = 5 then H - (5 * T + 5) else if K = 2 then min 99 (H + 10) else if K = 7 then min 99 (H + 10 + dusk) else if K = 3 then (if 2 ≤ many then H / 2 else H) else if K = 4 then (if sec % 2 = 0 then H else H / 2) else H
theorem cv_le {K H T many sec dusk : Nat} (hH : H ≤ 99) : cv K H T many sec dusk ≤ 99 := by unfold cv; repeat' (first | omega | split)
theorem n_min {a b : Nat} (ha : a < 2 ^ 31) (hb : b < 2 ^ 31) : (if nI b < nI a then nI b else nI a) = nI (min a b) := by
  by_cases h : b < a
  · rw [if_pos (nI_lt h ha), Nat.min_eq_right (by omega)]
  · rw [if_neg (nI_nlt (by omega) hb), Nat.min_eq_left (by omega)]
theorem n_max {a b : Nat} (ha : a < 2 ^ 31) (hb : b < 2 ^ 31) : (if nI a < nI b then nI b else nI a) = nI (max a b) := by
  by_cases h : a < b
  · rw [if_pos (nI_lt h hb), Nat.max_eq_right (by omega)]
  · rw [if_neg (nI_nlt (by omega) ha), Nat.max_eq_left (by omega)]
/-- held to 0 .. 99, as the component does it -/
theorem x_held {x : Int32} {a b c : Nat} (ha : a < 2 ^ 30) (hb : b < 2 ^ 30) (hx : x = nI a - nI b) (hc : c = min 99 (a - b)) : (if (0 : Int32) < (if x < 99 then x else 99) then (if x < 99 then x else 99) else 0) = nI c := by
  subst hx; subst hc
  by_cases h : a < b
  · have h1 := pk_sneg hb h
    have h2 : nI a - nI b < 99 := by rw [Int32.lt_iff_toInt_lt] at h1 ⊢; have : (99 : Int32).toInt = 99 := by decide
                                     have : (0 : Int32).toInt = 0 := by decide
                                     omega
    have h3 : ¬ (0 : Int32) < nI a - nI b := by rw [Int32.lt_iff_toInt_lt] at h1 ⊢; omega
    rw [if_pos h2, if_neg h3, show a - b = 0 by omega]
    rfl
  · rw [pk_sub (by omega), show (99 : Int32) = nI 99 from rfl, n_min (by decide) (by omega)]
    rw [show (0 : Int32) = nI 0 from rfl, n_max (by decide) (by omega)]
    congr 1
    try omega
theorem m_held {d : Nat} {M : g_M} {x : Int32} {Q : g_R} (hd : 1 ≤ d) (a b c : Nat) (ha : a < 2 ^ 30) (hb : b < 2 ^ 30) (hx : x = nI a - nI b) (hc : c = min 99 (a - b)) (h : Q (some (.int (nI c))) M) : g_cal d k_X10_held [.int x] M Q := by
  subst hx; subst hc
  refine g_m hd 40 (fun e he => ?_)
  by_cases hab : a < b
  · refine b_f (by have := pk_sneg hb hab; exact Int32.not_le.mpr this) ?_
    rw [show a - b = 0 by omega] at h
    exact h
  · rw [pk_sub (by omega)]
    refine b_ge (b := 0) rfl rfl (by omega) (by decide) (fun _ => ?_) (fun z => by omega)
    refine b_le rfl (show (99 : Int32) = nI 99 from rfl) (by omega) (by decide) (fun z => ?_) (fun z => ?_)
    · rw [show min 99 (a - b) = a - b by omega] at h; exact h
    · rw [show min 99 (a - b) = 99 by omega] at h; exact h
theorem x_coverAt {d : Nat} {M : g_M} {Q : g_R} (hd : 1 ≤ d) (p sec many T dusk K H : Nat) (hp : p < 8) (hK : M 3 p = nI K) (hH : M 5 p = nI H) (bK : K ≤ 8) (bH : H ≤ 99) (bs : sec < 2 ^ 30) (bm : many < 2 ^ 30) (bT : T ≤ 99) (bd : dusk ≤ 50) (h : Q (some (.int (nI (cv K H T many sec dusk)))) M) : g_cal d k_X1_coverAt [.ref 2, .int (nI p), .int (nI sec), .int (nI many), .int (nI T), .int (nI dusk)] M Q := by
  refine g_m hd 60 (fun e he => ⟨p, rfl, hp, p, rfl, hp, ?_⟩)
  rw [hK, hH]
  have fin : ∀ (x : Int32) (a b : Nat), a < 2 ^ 30 → b < 2 ^ 30 → x = nI a - nI b → cv K H T many sec dusk = min 99 (a - b) → g_Run (g_cal e) (g_mt S0 k_X1_coverAt) Q 140 [.ref 2, .int (nI p), .int (nI sec), .int (nI many), .int (nI T), .int (nI dusk), .int x] [] M := by
    intro x a b ha hb hx hc
    refine g_go_ 20 ?_
    show Q (some (.int (if (0 : Int32) < (if x < 99 then x else 99) then (if x < 99 then x else 99) else 0))) M
    rw [x_held ha hb hx hc]; exact h
  have z0 : ∀ a, nI a = nI a - nI 0 := fun a => by rw [pk_sub (by omega)]; rfl
  have d2 : nI H / 2 = nI (H / 2) := idv (by omega) (by decide) (by decide) rfl rfl
  match K, bK with
  | 0, _ => exact g_sw_of 140 (by decide) (g_to (fin (nI H) H 0 (by omega) (by decide) (z0 _) (by simp [cv]; omega)) _ rfl)
  | 1, _ => exact g_sw_of 56 (by decide) (g_to (fin (nI H - 5 * nI T) H (5 * T) (by omega) (by omega) (by rw [show (5 : Int32) * nI T = nI (5 * T) from im rfl rfl]) (by simp [cv]; omega)) _ rfl)
  | 2, _ => exact g_sw_of 82 (by decide) (g_to (fin (nI H + 10) (H + 10) 0 (by omega) (by decide) (by rw [← z0]; exact ia rfl rfl) (by simp [cv])) _ rfl)
  | 3, _ =>
    refine g_sw_of 101 (by decide) (b_lt rfl (show (2 : Int32) = nI 2 from rfl) (by omega) (by decide) (fun z => ?_) (fun z => ⟨by decide, ?_⟩))
    · exact g_to (fin (nI H) H 0 (by omega) (by decide) (z0 _) (by simp [cv, show ¬ 2 ≤ many by omega]; omega)) _ rfl
    · exact g_to (fin (nI H / 2) (H / 2) 0 (by omega) (by decide) (by rw [d2]; exact z0 _) (by simp [cv, z]; omega)) _ rfl
  | 4, _ =>
    refine g_sw_of 120 (by decide) ⟨by decide, ?_⟩
    show ((¬ nI sec - nI sec / 2 * 2 = 0) → _) ∧ (nI sec - nI sec / 2 * 2 = 0 → _)
    rw [irm (x := nI sec) (y := 2) (b := 2) (by omega) (by decide) (by decide) rfl rfl]
    refine b_ne (b := 0) rfl rfl (by omega) (by decide) (fun z => ⟨by decide, ?_⟩) (fun z => ?_)
    · exact g_to (fin (nI H / 2) (H / 2) 0 (by omega) (by decide) (by rw [d2]; exact z0 _) (by simp [cv, z]; omega)) _ rfl
    · exact g_to (fin (nI H) H 0 (by omega) (by decide) (z0 _) (by simp [cv, z]; omega)) _ rfl
  | 5, _ => exact g_sw_of 68 (by decide) (g_to (fin (nI H - (5 * nI T + 5)) H (5 * T + 5) (by omega) (by omega) (by rw [show (5 : Int32) * nI T + 5 = nI (5 * T + 5) from ia (im rfl rfl) rfl]) (by simp [cv]; omega)) _ rfl)
  | 6, _ => exact g_sw_of 140 (by decide) (g_to (fin (nI H) H 0 (by omega) (by decide) (z0 _) (by simp [cv]; omega)) _ rfl)
  | 7, _ => exact g_sw_of 88 (by decide) (g_to (fin (nI H + (10 + nI dusk)) (H + (10 + dusk)) 0 (by omega) (by decide) (by rw [← z0]; exact ia rfl (ia rfl rfl)) (by simp [cv]; omega)) _ rfl)
  | 8, _ => exact g_sw_of 140 (by decide) (g_to (fin (nI H) H 0 (by omega) (by decide) (z0 _) (by simp [cv]; omega)) _ rfl)
theorem m_coverOf {d : Nat} {M : g_M} {Q : g_R} (hd : 2 ≤ d) (p sec many T dusk K H : Nat) (hp : p < 8) (hK : M 84 (16 + 5 * p) = nI K) (hH : M 84 (18 + 5 * p) = nI H) (hds : M 84 10 = nI dusk) (bK : K ≤ 8) (bH : H ≤ 99) (bs : sec < 2 ^ 30) (bm : many < 2 ^ 30) (bT : T ≤ 99) (bd : dusk ≤ 50) (h : Q (some (.int (nI (cv K H T many sec dusk)))) M) : g_cal d k_X10_coverOf [.ref 82, .int (nI p), .int (nI sec), .int (nI many), .int (nI T)] M Q := by
  refine g_m (by omega) 60 (fun e he => ?_)
  refine m_get (by omega) p 2 rfl rfl hp (by decide) ?_
  rw [show 16 + 5 * p + 2 = 18 + 5 * p by omega, hH]
  refine m_get (by omega) p 0 rfl rfl hp (by decide) ?_
  rw [show 16 + 5 * p + 0 = 16 + 5 * p by omega, hK]
  have z0 : ∀ a, nI a = nI a - nI 0 := fun a => by rw [pk_sub (by omega)]; rfl
  have d2 : nI H / 2 = nI (H / 2) := idv (by omega) (by decide) (by decide) rfl rfl
  have ss : ∀ a b : Nat, nI H - nI a - nI b = nI H - nI (a + b) := by
    intro a b
    rw [← nI_add, Int32.sub_sub]
  match K, bK with
  | 0, _ => exact g_sw_of 141 (by decide) (m_held (by omega) H 0 _ (by omega) (by decide) (z0 _) (by simp [cv]; omega) h)
  | 1, _ => exact g_sw_of 56 (by decide) (m_held (by omega) H (5 * T) _ (by omega) (by omega) (by rw [show (5 : Int32) * nI T = nI (5 * T) from im rfl rfl]) (by simp [cv]; omega) h)
  | 2, _ => exact g_sw_of 80 (by decide) (m_held (by omega) (H + 10) 0 _ (by omega) (by decide) (by rw [← z0]; exact ia rfl rfl) (by simp [cv]) h)
  | 3, _ =>
    refine g_sw_of 104 (by decide) (b_le rfl (show (1 : Int32) = nI 1 from rfl) (by omega) (by decide) (fun z => ?_) (fun z => ⟨by decide, ?_⟩))
    · exact m_held (by omega) H 0 _ (by omega) (by decide) (z0 _) (by simp [cv, show ¬ 2 ≤ many by omega]; omega) h
    · exact m_held (by omega) (H / 2) 0 _ (by omega) (by decide) (by rw [d2]; exact z0 _) (by simp [cv, show 2 ≤ many by omega]; omega) h
  | 4, _ =>
    refine g_sw_of 122 (by decide) ⟨by decide, ?_⟩
    show ((¬ nI sec - nI sec / 2 * 2 = 0) → _) ∧ (nI sec - nI sec / 2 * 2 = 0 → _)
    rw [irm (x := nI sec) (y := 2) (b := 2) (by omega) (by decide) (by decide) rfl rfl]
    refine b_ne (b := 0) rfl rfl (by omega) (by decide) (fun z => ⟨by decide, ?_⟩) (fun z => ?_)
    · exact m_held (by omega) (H / 2) 0 _ (by omega) (by decide) (by rw [d2]; exact z0 _) (by simp [cv, z]; omega) h
    · exact m_held (by omega) H 0 _ (by omega) (by decide) (z0 _) (by simp [cv, z]; omega) h
  | 5, _ => exact g_sw_of 67 (by decide) (m_held (by omega) H (5 * T + 5) _ (by omega) (by omega) (by rw [show (5 : Int32) * nI T = nI (5 * T) from im rfl rfl]; exact ss _ 5) (by simp [cv]; omega) h)
  | 6, _ => exact g_sw_of 141 (by decide) (m_held (by omega) H 0 _ (by omega) (by decide) (z0 _) (by simp [cv]; omega) h)
  | 7, _ =>
    refine g_sw_of 89 (by decide) (m_setOf (by omega) 1 rfl (by decide) ?_)
    rw [hds]
    exact m_held (by omega) (H + 10 + dusk) 0 _ (by omega) (by decide) (by rw [← z0]; exact ia (ia rfl rfl) rfl) (by simp [cv]) h
  | 8, _ => exact g_sw_of 141 (by decide) (m_held (by omega) H 0 _ (by omega) (by decide) (z0 _) (by simp [cv]; omega) h)
/-- what a place's cover is in the state a, with so many finds -/
def cvA (a : Nat → Nat) (p sec many T : Nat) : Nat := cv (a (16 + 5 * p)) (a (18 + 5 * p)) T many sec (a 10)
theorem xc_coverAt {d : Nat} {M : g_M} {Q : g_R} {a : Nat → Nat} (hd : 1 ≤ d) (v : V1 a) (v2 : V2 a) (x : GX1 M 2 a) (p sec many T : Nat) (hp : p < a 0) (bs : sec < 2 ^ 30) (bm : many < 2 ^ 30) (bT : T ≤ 99) (h : Q (some (.int (nI (cvA a p sec many T)))) M) : g_cal d k_X1_coverAt [.ref 2, .int (nI p), .int (nI sec), .int (nI many), .int (nI T), .int (nI (a 10))] M Q := by
  have w := v.2.2.2.2.2.1 p hp
  exact x_coverAt hd p sec many T (a 10) _ _ (by have := v.2.1; omega) (x.2.2.2.1 p hp).1 (x.2.2.2.1 p hp).2.2.1 w.1 w.2.2.1 bs bm bT v2.2.2.1 h
theorem mc_coverOf {d : Nat} {M : g_M} {Q : g_R} {a : Nat → Nat} (hd : 2 ≤ d) (v : V1 a) (v2 : V2 a) (hM : RM M 84 a) (p sec many T : Nat) (hp : p < a 0) (bs : sec < 2 ^ 30) (bm : many < 2 ^ 30) (bT : T ≤ 99) (h : Q (some (.int (nI (cvA a p sec many T)))) M) : g_cal d k_X10_coverOf [.ref 82, .int (nI p), .int (nI sec), .int (nI many), .int (nI T)] M Q := by
  have w := v.2.2.2.2.2.1 p hp
  have hp8 : p < 8 := by have := v.2.1; omega
  exact m_coverOf hd p sec many T (a 10) _ _ hp8 (hM _ (by omega)) (hM _ (by omega)) (hM _ (by decide)) w.1 w.2.2.1 bs bm bT v2.2.2.1 h
theorem p_cover {d n : Nat} {M : g_M} {p w u : Int32} (hd : 6 ≤ d) (I : Inv n M) : g_pair d k_X9_cover k_X10_cover [.int p, .int w, .int u] M (Inv (n + 1)) := by
  have I0 := I
  obtain ⟨a, ⟨v, v2, -⟩, ⟨g1, -, ⟨t1, t2, t3⟩, -⟩, hM, -⟩ := I
  have g0 := g1
  obtain ⟨x1, -, -, x4, -⟩ := g1
  have m0 := hM 0 (by decide)
  have b0 : a 0 ≤ 8 := v.2.1
  refine g_m (by omega) 60 (fun e he => ?_)
  refine x_isHid (by omega) ?_
  rw [x1]
  have bad : ∀ (c : Int32) (j : Nat), -c = nI j → j < 7 → c ≠ 0 → ((inP p (nI (a 0)) = false ∧ c = -1) ∨ (inP p (nI (a 0)) = true ∧ (w < 0 ∨ u < 0) ∧ c = -4) ∨ (inP p (nI (a 0)) = true ∧ ¬ w < 0 ∧ ¬ u < 0 ∧ (999 < w ∨ 9 < u) ∧ c = -6)) → g_cal d k_X10_cover [.ref 82, .int p, .int w, .int u] (g_ms M 81 (upd (M 81) j (M 81 j + 1))) (fun v2 M2 => v2 = some (.int c) ∧ Inv (n + 1) M2) := by
    intro c j hc hj hc0 hcs
    refine g_m (by omega) 60 (fun e he => ?_)
    refine m_isRoom (by omega) ?_
    rw [g_ms_n (by decide : (84 : Nat) ≠ 81), m0]
    have fin : g_Run (g_cal e) (g_mt S0 k_X10_cover) (fun v2 M2 => v2 = some (.int c) ∧ Inv (n + 1) M2) 44 [.ref 82, .int p, .int w, .int u, .null] [.int c] (g_ms M 81 (upd (M 81) j (M 81 j + 1))) := g_go_ 20 (b_f hc0 (m_refuse (by omega) j hc hj (e_ref I0 hj)))
    rcases hcs with ⟨h1, rfl⟩ | ⟨h1, h2, rfl⟩ | ⟨h1, h2, h3, h4, rfl⟩
    · rw [h1]
      exact b_nf rfl (g_to fin _ rfl)
    · rw [h1]
      refine b_nt (by decide) ⟨fun _ => g_to fin _ rfl, fun z => ⟨fun z2 => ?_, fun _ => g_to fin _ rfl⟩⟩
      rcases h2 with h2 | h2
      · exact absurd h2 z
      · exact absurd h2 (Int32.not_lt.mpr z2)
    · rw [h1]
      refine b_nt (by decide) (b_f h2 (b_t (Int32.not_lt.mp h3) ⟨fun _ => g_to fin _ rfl, fun z => ⟨fun z2 => ?_, fun _ => g_to fin _ rfl⟩⟩))
      rcases h4 with h4 | h4
      · exact absurd h4 z
      · exact absurd h4 (Int32.not_lt.mpr z2)
  rcases inP_cases p (show a 0 < 2 ^ 31 by omega) with hp | ⟨j, hj0, hj, rfl, hp⟩
  · rw [hp]
    exact b_nf rfl (x_refuse (by omega) 1 (by decide) (by decide) ⟨_, rfl, bad _ _ (by decide) (by decide) (by decide) (Or.inl ⟨hp, rfl⟩)⟩)
  · rw [hp]
    refine b_nt (by decide) ⟨fun hw => ?_, fun hw => ⟨fun hu => ⟨fun hw2 => ?_, fun hw2 => ⟨fun hu2 => ?_, fun hu2 => ?_⟩⟩, fun hu => ?_⟩⟩
    · exact x_refuse (by omega) 4 (by decide) (by decide) ⟨_, rfl, bad _ _ (by decide) (by decide) (by decide) (Or.inr (Or.inl ⟨hp, Or.inl hw, rfl⟩))⟩
    · exact x_refuse (by omega) 6 (by decide) (by decide) ⟨_, rfl, bad _ _ (by decide) (by decide) (by decide) (Or.inr (Or.inr ⟨hp, hw, Int32.not_lt.mpr hu, Or.inl hw2, rfl⟩))⟩
    · obtain ⟨sec, hsec, rfl⟩ := nI_of2 (M := 999) (n := 999) (by decide) hw (Int32.not_lt.mp hw2)
      obtain ⟨many, hmany, rfl⟩ := nI_of2 (M := 9) (n := 9) (by decide) (Int32.not_lt.mpr hu) hu2
      refine ⟨j, rfl, by omega, 1, rfl, by decide, ?_⟩
      rw [(x4 j hj).2.2.2.1, t1 1 (by decide)]
      have bT := (v.2.2.2.2.2.1 j hj).2.2.2.1
      refine xc_coverAt (by omega) v v2 g0 j sec many (a (19 + 5 * j)) hj (by omega) (by omega) bT ⟨_, rfl, ?_⟩
      refine g_m (by omega) 60 (fun e he => ?_)
      refine m_isRoom (by omega) ?_
      rw [m0, hp]
      refine b_nt (by decide) (b_f hw (b_t hu (b_f hw2 (b_t hu2 (b_t rfl (m_get (by omega) j 3 rfl rfl (by omega) (by decide) ?_))))))
      rw [hM _ (by omega), show 16 + 5 * j + 3 = 19 + 5 * j by omega]
      exact mc_coverOf (by omega) v v2 hM j sec many _ hj (by omega) (by omega) bT ⟨rfl, I0.up⟩
    · exact x_refuse (by omega) 6 (by decide) (by decide) ⟨_, rfl, bad _ _ (by decide) (by decide) (by decide) (Or.inr (Or.inr ⟨hp, hw, Int32.not_lt.mpr hu, Or.inr (Int32.not_le.mp hu2), rfl⟩))⟩
    · exact x_refuse (by omega) 4 (by decide) (by decide) ⟨_, rfl, bad _ _ (by decide) (by decide) (by decide) (Or.inr (Or.inl ⟨hp, Or.inr (Int32.not_le.mp hu), rfl⟩))⟩
