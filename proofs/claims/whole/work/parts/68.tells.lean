/-! ===== the table of orders; the component tells all ===== -/
def om : Nat → Nat
  | 1 => 1
  | 2 => 2
  | 3 => 6
  | 4 => 24
  | _ => 0
def olL : Nat → List Nat
  | 1 => [1, 0, 0, 0]
  | 2 => [1, 2, 0, 0, 2, 1, 0, 0]
  | 3 => [1, 2, 3, 0, 1, 3, 2, 0, 2, 1, 3, 0, 2, 3, 1, 0, 3, 1, 2, 0, 3, 2, 1, 0]
  | 4 => [1, 2, 3, 4, 1, 2, 4, 3, 1, 3, 2, 4, 1, 3, 4, 2, 1, 4, 2, 3, 1, 4, 3, 2, 2, 1, 3, 4, 2, 1, 4, 3, 2, 3, 1, 4, 2, 3, 4, 1, 2, 4, 1, 3, 2, 4, 3, 1, 3, 1, 2, 4, 3, 1, 4, 2, 3, 2, 1, 4, 3, 2, 4, 1, 3, 4, 1, 2, 3, 4, 2, 1, 4, 1, 2, 3, 4, 1, 3, 2, 4, 2, 1, 3, 4, 2, 3, 1, 4, 3, 1, 2, 4, 3, 2, 1]
  | _ => []
def ol (k o i : Nat) : Nat := (olL k).getD (4 * o + i) 0
def ix (k o p : Nat) : Nat := if ol k o 0 = p + 1 then 0 else if ol k o 1 = p + 1 then 1 else if ol k o 2 = p + 1 then 2 else 3
theorem ol_b : ∀ k, k < 5 → ∀ o, o < om k → ∀ i, i < k → 1 ≤ ol k o i ∧ ol k o i ≤ k := by decide +kernel
theorem ol_inj : ∀ k, k < 5 → ∀ o, o < om k → ∀ i, i < k → ∀ j, j < k → ol k o i = ol k o j → i = j := by decide +kernel
theorem ol_ix : ∀ k, k < 5 → ∀ o, o < om k → ∀ p, p < k → ix k o p < k ∧ ol k o (ix k o p) = p + 1 := by decide +kernel
theorem ol_0 : ∀ k, k < 5 → ∀ i, i < k → ol k 0 i = i + 1 := by decide +kernel
theorem ol_last : ∀ k, k < 5 → ∀ o, o < om k → o + 1 = om k → riseF (ol k o) (k - 1) = 0 := by decide +kernel
theorem ol_nz : ∀ k, k < 5 → ∀ o, o < om k → o + 1 < om k → riseF (ol k o) (k - 1) ≠ 0 := by decide +kernel
theorem ol_next : ∀ k, k < 5 → ∀ o, o < om k → o + 1 < om k → ∀ i, i < k → revF 4 (swp (ol k o) (riseF (ol k o) (k - 1) - 1) (aboveF (ol k o) (riseF (ol k o) (k - 1) - 1) (k - 1))) (riseF (ol k o) (k - 1)) (k - 1) i = ol k (o + 1) i := by decide +kernel
theorem om_b : ∀ k, k < 5 → 1 ≤ k → 1 ≤ om k ∧ om k ≤ 24 := by decide
/-- the way along an order -/
def pth (a : Nat → Nat) (row : Nat → Nat) : Nat → Nat
  | 0 => 0
  | i + 1 => pth a row i + ds a (if i = 0 then 0 else row (i - 1)) (row i)
def tl (a : Nat → Nat) (k o p : Nat) : Nat := pth a (ol k o) (ix k o p + 1)
def fin (a : Nat → Nat) (k : Nat) : Prop := k < a 0 ∧ ∀ p, 1 ≤ p → p ≤ k → ds a 0 p < 100000
theorem fin_ds {a : Nat → Nat} {k x y : Nat} (v : V1 a) (f : fin a k) (hx : x ≤ k) (hy : y ≤ k) : ds a x y ≤ 15360 := by
  have c : ∀ z, z ≤ k → ds a 0 z ≤ 15360 := fun z hz => by
    by_cases h : z = 0
    · rw [h, ds_xx]; omega
    · exact ds_fin v (f.2 z (by omega) hz)
  have t := ds_tri a (z := 0) (by decide) x y
  have h1 := c x hx
  have h2 := c y hy
  rw [ds_comm a x 0] at t
  exact ds_fin v (by omega)
theorem pth_le {a : Nat → Nat} {k : Nat} {row : Nat → Nat} (v : V1 a) (f : fin a k) (hr : ∀ i, i < k → row i ≤ k) : ∀ i, i ≤ k → pth a row i ≤ 15360 * i
  | 0, _ => by unfold pth; omega
  | i + 1, h => by
    have := pth_le v f hr i (by omega)
    have q : ds a (if i = 0 then 0 else row (i - 1)) (row i) ≤ 15360 := fin_ds v f (by split; omega; exact hr _ (by omega)) (hr i (by omega))
    unfold pth
    omega
theorem x_ordBegin {d k : Nat} {N : g_M} {Q : g_R} (hd : 1 ≤ d) (hk : k ≤ 4) (h : ∀ N', (∀ c, c ≠ 77 → c ≠ 78 → N' c = N c) → N' 77 1 = nI k → RW N' k (fun i => i + 1) → Q none N') : g_cal d k_X2_begin [.ref 77, .int (nI k)] N Q := by
  refine g_m hd 8 (fun e he => ?_)
  have loop : ∀ m i N', i + m = k → (∀ c, c ≠ 77 → c ≠ 78 → N' c = N c) → N' 77 1 = nI k → RW N' i (fun i => i + 1) → g_Run (g_cal e) (g_mt S0 k_X2_begin) Q 11 [.ref 77, .int (nI k), .int (nI i)] [] N' := by
    intro m
    induction m with
    | zero =>
      intro i N' hi e1 e2 e3
      have e : i = k := by omega
      subst e
      exact g_go_ 20 (b_ge rfl e2 (by omega) (by omega) (fun _ => h N' e1 e2 e3) (fun y => by omega))
    | succ m ih =>
      intro i N' hi e1 e2 e3
      refine g_go_ 20 (b_ge rfl e2 (by omega) (by omega) (fun y => by omega) (fun _ => ⟨i, rfl, by omega, ?_⟩))
      obtain ⟨N2, hN2⟩ : ∃ N2, N2 = g_ms N' 78 (upd (N' 78) i (nI i + 1)) := ⟨_, rfl⟩
      have hR := ih (i + 1) N2 (by omega) (fun c h1 h2 => by rw [hN2, g_ms_n h2]; exact e1 c h1 h2) (by rw [hN2, g_ms_n (by decide)]; exact e2) (fun j hj => by
        rw [hN2, g_ms_s]
        by_cases c : j = i
        · subst c; rw [upd, if_pos rfl]; exact (nI_succ j).symm
        · rw [upd, if_neg c]; exact e3 j (by omega))
      rw [hN2, nI_succ] at hR
      exact g_to hR _ rfl
  refine ?_
  have hm : (if (4 : Int32) < nI k then (4 : Int32) else nI k) = nI k := by
    rw [if_neg (fun z => by have := (ilt (a := 4) (b := k) rfl rfl (by decide) (by omega)).mp z; omega)]
  have hR := loop k 0 (g_ms N 77 (upd (N 77) 1 (nI k))) (by omega) (fun c h1 h2 => g_ms_n h1) (by rw [g_ms_s]; rfl) (fun j hj => by omega)
  have hR2 : g_Run (g_cal e) (g_mt S0 k_X2_begin) Q 11 [.ref 77, .int (nI k), .int (nI 0)] [] (g_ms N 77 (upd (N 77) 1 (if (4 : Int32) < nI k then (4 : Int32) else nI k))) := by rw [hm]; exact hR
  exact g_to hR2 _ rfl
/-- tellAll -/
def TL (N : g_M) (a : Nat → Nat) (k o : Nat) : Prop := ∀ o', o' < o → ∀ p, p < k → N 73 (4 * o' + p) = nI (tl a k o' p)
theorem x_tellAll {d k : Nat} {M : g_M} {Q : g_R} {a : Nat → Nat} (hd : 3 ≤ d) (hk : k < 5) (h1 : 1 ≤ k) (v : V1 a) (f : fin a k) (g1 : GX1 M 2 a) (g2 : GX2 M 2 a) (hp : M 72 4 = nI k) (h : ∀ N, (∀ c, c ≠ 72 → c ≠ 73 → c ≠ 77 → c ≠ 78 → N c = M c) → N 72 4 = nI k → N 72 5 = nI (om k) → TL N a k (om k) → Q none N) : g_cal d k_X0_tellAll [.ref 72, .ref 2, .ref 77] M Q := by
  have b0 : a 0 ≤ 8 := v.2.1
  have omb := om_b k hk h1
  have ka := f.1
  refine g_m (by omega) 4 (fun e he => ?_)
  -- along one order
  have inn : ∀ m i o N u6, i + m = k → o < om k → (∀ c, c ≠ 72 → c ≠ 73 → c ≠ 77 → c ≠ 78 → N c = M c) → N 72 4 = nI k → N 72 5 = nI o → N 77 1 = nI k → RW N k (ol k o) → TL N a k o → (∀ j, j < i → N 73 (o * 4 + ol k o j - 1) = nI (pth a (ol k o) (j + 1))) → (∀ N u3 u4 u6, (∀ c, c ≠ 72 → c ≠ 73 → c ≠ 77 → c ≠ 78 → N c = M c) → N 72 4 = nI k → N 72 5 = nI o → N 77 1 = nI k → RW N k (ol k o) → TL N a k (o + 1) → g_Run (g_cal e) (g_mt S0 k_X0_tellAll) Q 78 [.ref 72, .ref 2, .ref 77, .int u3, .int u4, .int (nI k), u6] [] N) → g_Run (g_cal e) (g_mt S0 k_X0_tellAll) Q 21 [.ref 72, .ref 2, .ref 77, .int (nI (if i = 0 then 0 else ol k o (i - 1))), .int (nI (pth a (ol k o) i)), .int (nI i), u6] [] N := by
    intro m
    induction m with
    | zero =>
      intro i o N u6 hi ho e1 e2 e3 e4 e5 e6 e7 hq
      have e : i = k := by omega
      subst e
      refine g_go_ 8 (b_ge rfl e2 (by omega) (by omega) (fun _ => g_to (hq N _ _ u6 e1 e2 e3 e4 e5 (fun o' ho' p hp => ?_)) _ rfl) (fun y => by omega))
      by_cases c : o' = o
      · subst c
        obtain ⟨q1, q2⟩ := ol_ix i hk o' ho p hp
        have q3 := e7 _ q1
        rw [q2] at q3
        rw [show 4 * o' + p = o' * 4 + (p + 1) - 1 by omega]
        exact q3
      · exact e6 o' (by omega) p hp
    | succ m ih =>
      intro i o N u6 hi ho e1 e2 e3 e4 e5 e6 e7 hq
      have o1 := ol_b k hk o ho i (by omega)
      have hat : (if i = 0 then 0 else ol k o (i - 1)) ≤ k := by
        split
        · omega
        · exact (ol_b k hk o ho (i - 1) (by omega)).2
      have hds := fin_ds v f hat o1.2
      refine g_go_ 60 (b_ge rfl e2 (by omega) (by omega) (fun y => by omega) (fun _ => ⟨i, rfl, by omega, ?_⟩))
      rw [e5 i (by omega)]
      refine x_distance (by omega) v (g1.fr (fun c c1 c2 => e1 c (by omega) (by omega) (by omega) (by omega))) (g2.fr (fun c c1 c2 => e1 c (by omega) (by omega) (by omega) (by omega))) (if i = 0 then 0 else ol k o (i - 1)) (ol k o i) (by omega) (by omega) ?_
      rw [cD_in (by omega)]
      refine ⟨o * 4 + ol k o i - 1, is (by omega) (ia (im e3 rfl) rfl) rfl, by omega, ?_⟩
      obtain ⟨N2, hN2⟩ : ∃ N2, N2 = g_ms N 73 (upd (N 73) (o * 4 + ol k o i - 1) (nI (pth a (ol k o) i) + nI (ds a (if i = 0 then 0 else ol k o (i - 1)) (ol k o i)))) := ⟨_, rfl⟩
      have hR := ih (i + 1) o N2 (.int (nI (ol k o i))) (by omega) ho (fun c c1 c2 c3 c4 => by rw [hN2, g_ms_n c2]; exact e1 c c1 c2 c3 c4) (by rw [hN2, g_ms_n (by decide)]; exact e2) (by rw [hN2, g_ms_n (by decide)]; exact e3) (by rw [hN2, g_ms_n (by decide)]; exact e4) (fun t ht => by rw [hN2, g_ms_n (by decide)]; exact e5 t ht) (fun o' ho' p hp => by
        rw [hN2, g_ms_s, upd, if_neg (by omega)]; exact e6 o' ho' p hp) (fun j hj => by
        rw [hN2, g_ms_s]
        by_cases c : j = i
        · subst c
          rw [upd, if_pos rfl, nI_add]
          rfl
        · have oj := ol_b k hk o ho j (by omega)
          have oi := ol_inj k hk o ho j (by omega) i (by omega)
          rw [upd, if_neg (fun z => c (oi (by omega)))]
          exact e7 j (by omega)) hq
      rw [if_neg (show ¬ i + 1 = 0 by omega), show i + 1 - 1 = i by omega, show pth a (ol k o) (i + 1) = pth a (ol k o) i + ds a (if i = 0 then 0 else ol k o (i - 1)) (ol k o i) from rfl, ← nI_add, hN2, nI_succ] at hR
      exact g_to hR _ rfl
  -- all orders from one on
  have R21 : ∀ q o N u6, o + 1 + q = om k → (∀ c, c ≠ 72 → c ≠ 73 → c ≠ 77 → c ≠ 78 → N c = M c) → N 72 4 = nI k → N 72 5 = nI o → N 77 1 = nI k → RW N k (ol k o) → TL N a k o → g_Run (g_cal e) (g_mt S0 k_X0_tellAll) Q 21 [.ref 72, .ref 2, .ref 77, .int 0, .int 0, .int 0, u6] [] N := by
    intro q
    induction q with
    | zero =>
      intro o N u6 ho e1 e2 e3 e4 e5 e6
      refine inn k 0 o N u6 (by omega) (by omega) e1 e2 e3 e4 e5 e6 (fun j hj => by omega) (fun N1 u3 u4 u6 f1 f2 f3 f4 f5 f6 => ?_)
      obtain ⟨N2, hN2⟩ : ∃ N2, N2 = g_ms N1 72 (upd (N1 72) 5 (N1 72 5 + 1)) := ⟨_, rfl⟩
      have hc : N2 72 5 = nI (om k) := by rw [hN2, g_ms_s, ← ho]; show N1 72 5 + 1 = _; rw [f3]; exact (nI_succ o).symm
      have hq := h N2 (fun c c1 c2 c3 c4 => by rw [hN2, g_ms_n c1]; exact f1 c c1 c2 c3 c4) (by rw [hN2, g_ms_s]; exact f2) hc (fun o' ho' p hp => by rw [hN2, g_ms_n (by decide)]; exact f6 o' (by omega) p hp)
      refine g_go_ 20 ?_
      show ((24 : Int32) ≤ g_ms N1 72 (upd (N1 72) 5 (N1 72 5 + 1)) 72 5 → _) ∧ (¬ (24 : Int32) ≤ g_ms N1 72 (upd (N1 72) 5 (N1 72 5 + 1)) 72 5 → _)
      rw [← hN2]
      refine b_ge hc (show (24 : Int32) = nI 24 from rfl) (by omega) (by decide) (fun _ => hq) (fun y => ?_)
      refine x_advance (len := k) (row := ol k o) (by omega) (by omega) h1 (by rw [hN2, g_ms_n (by decide)]; exact f4) (fun i hi => by rw [hN2, g_ms_n (by decide)]; exact f5 i hi) (fun i hi => by have := ol_b k hk o (by omega) i hi; omega) (fun _ => ?_) (fun z => absurd (ol_last k hk o (by omega) (by omega)) z)
      exact b_nf rfl hq
    | succ q ih =>
      intro o N u6 ho e1 e2 e3 e4 e5 e6
      refine inn k 0 o N u6 (by omega) (by omega) e1 e2 e3 e4 e5 e6 (fun j hj => by omega) (fun N1 u3 u4 u6 f1 f2 f3 f4 f5 f6 => ?_)
      obtain ⟨N2, hN2⟩ : ∃ N2, N2 = g_ms N1 72 (upd (N1 72) 5 (N1 72 5 + 1)) := ⟨_, rfl⟩
      have hc : N2 72 5 = nI (o + 1) := by rw [hN2, g_ms_s]; show N1 72 5 + 1 = _; rw [f3]; exact (nI_succ o).symm
      refine g_go_ 20 ?_
      show ((24 : Int32) ≤ g_ms N1 72 (upd (N1 72) 5 (N1 72 5 + 1)) 72 5 → _) ∧ (¬ (24 : Int32) ≤ g_ms N1 72 (upd (N1 72) 5 (N1 72 5 + 1)) 72 5 → _)
      rw [← hN2]
      refine b_ge hc (show (24 : Int32) = nI 24 from rfl) (by omega) (by decide) (fun y => by omega) (fun y => ?_)
      refine x_advance (len := k) (row := ol k o) (by omega) (by omega) h1 (by rw [hN2, g_ms_n (by decide)]; exact f4) (fun i hi => by rw [hN2, g_ms_n (by decide)]; exact f5 i hi) (fun i hi => by have := ol_b k hk o (by omega) i hi; omega) (fun z => absurd z (ol_nz k hk o (by omega) (by omega))) (fun _ N3 t1 t2 => ?_)
      have hR := ih (o + 1) N3 u6 (by omega) (fun c c1 c2 c3 c4 => by rw [t1 c c4, hN2, g_ms_n c1]; exact f1 c c1 c2 c3 c4) (by rw [t1 72 (by decide), hN2, g_ms_s]; exact f2) (by rw [t1 72 (by decide)]; exact hc) (by rw [t1 77 (by decide), hN2, g_ms_n (by decide)]; exact f4) (fun i hi => by rw [t2 i hi, ol_next k hk o (by omega) (by omega) i hi]) (fun o' ho' p hp => by rw [t1 73 (by decide), hN2, g_ms_n (by decide)]; exact f6 o' (by omega) p hp)
      exact b_nt (by decide) (g_to hR _ rfl)
  have hm : ∀ Q' : g_R, (∀ N', (∀ c, c ≠ 77 → c ≠ 78 → N' c = M c) → N' 77 1 = nI k → RW N' k (fun i => i + 1) → Q' none N') → g_cal e k_X2_begin [.ref 77, .int (M 72 4)] M Q' := fun Q' hq => by
    rw [hp]; exact x_ordBegin (by omega) (by omega) hq
  refine hm _ (fun N' f1 f2 f3 => ?_)
  obtain ⟨N2, hN2⟩ : ∃ N2, N2 = g_ms N' 72 (upd (N' 72) 5 0) := ⟨_, rfl⟩
  have hR := R21 (om k - 1) 0 N2 .null (by omega) (fun c c1 c2 c3 c4 => by rw [hN2, g_ms_n c1]; exact f1 c c3 c4) (by rw [hN2, g_ms_s, ← hp, ← f1 72 (by decide) (by decide)]; rfl) (by rw [hN2, g_ms_s]; rfl) (by rw [hN2, g_ms_n (by decide)]; exact f2) (fun i hi => by rw [hN2, g_ms_n (by decide), f3 i hi, ol_0 k hk i hi]) (fun o' ho' => by omega)
  rw [hN2] at hR
  have r8 : g_Run (g_cal e) (g_mt S0 k_X0_tellAll) Q 8 [.ref 72, .ref 2, .ref 77, .null, .null, .null, .null] [] N' := g_go_ 12 (g_to hR _ rfl)
  exact g_to r8 _ rfl
