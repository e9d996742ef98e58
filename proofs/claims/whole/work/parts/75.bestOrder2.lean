/-! ===== bestOrder: the reference ===== -/
def FB (M N : g_M) : Prop := (∀ c, c ≠ 82 → c ≠ 84 → (c < 89 ∨ 105 < c) → N c = M c) ∧ ∀ j, (j < 17 ∨ 33 < j) → N 82 j = M 82 j
theorem n_gt9 {x : Nat} (h : x < 1000) : (-9 : Int32) < nI x := by
  rw [Int32.lt_iff_toInt_lt, show (-9 : Int32).toInt = -9 from by decide, nI_toInt (by omega)]
  omega
theorem n_gt1 {x : Nat} (h : x < 1000) : (-1 : Int32) < nI x := by
  rw [Int32.lt_iff_toInt_lt, show (-1 : Int32).toInt = -1 from by decide, nI_toInt (by omega)]
  omega
theorem m_bestOrder {d k m : Nat} {M : g_M} {Q : g_R} {a : Nat → Nat} {z i r : Int32} (hd : 9 ≤ d) (k1 : 1 ≤ k) (k2 : k < 5) (m1 : 1 ≤ m) (m2 : m ≤ 5) (v : V1 a) (v2 : V2 a) (hf : fin a k) (hM : RM M 84 a) (hi : ¬ i < -1) (hr : boR k (gre (boF a k m z) (om k - 1)) (boF a k m z) i r) (h : ∀ N, FB M N → (∀ j, j < 154 → N 84 j = nI (a j)) → Q (some (.int r)) N) : g_cal d k_X10_bestOrder [.ref 82, .int (nI k), .int (nI m), .int z, .int i] M Q := by
  have ob := om_b k k2 k1
  have ka := hf.1
  generalize hF : boF a k m z = f at hr
  have fle : ∀ o, f o ≤ 40 := fun o => by rw [← hF]; exact boF_le v k m z o m2
  generalize hG : gre f (om k - 1) = G at hr
  have hGl : G < om k := by have := gre_le f (om k - 1); omega
  refine g_m (by omega) 60 (fun e he => ?_)
  -- the answer
  have R257 : ∀ N u7 u8 u9, FB M N → (∀ j, j < 154 → N 84 j = nI (a j)) → (∀ j, j < k → N 105 j = nI (ol k G j)) → g_Run (g_cal e) (g_mt S0 k_X10_bestOrder) Q 257 [.ref 82, .int (nI k), .int (nI m), .int z, .int i, .int 0, .int (nI (f G)), u7, u8, u9] [] N := by
    intro N u7 u8 u9 e1 e2 e3
    have hq := h N e1 e2
    rcases hr with ⟨hi0, hr⟩ | ⟨j, rfl, hj, hr⟩ | ⟨hi0, hik, hr⟩
    · rw [hr] at hq
      exact g_go_ 20 (b_f (Int32.not_le.mpr hi0) hq)
    · rw [hr, ← e3 j hj] at hq
      exact g_go_ 20 (b_ge (b := 0) rfl rfl (by omega) (by decide) (fun _ => b_ge rfl rfl (by omega) (by omega) (fun y => by omega) (fun _ => ⟨j, rfl, by omega, hq⟩)) (fun y => by omega))
    · rw [hr] at hq
      exact g_go_ 20 (b_t (Int32.not_lt.mp hi0) (b_t hik hq))
  -- all is put back
  have R229 : ∀ c x N u8 u9, x + c = 154 → FB M N → (∀ j, j < 154 → N 104 j = nI (a j)) → (∀ j, j < x → N 84 j = nI (a j)) → (∀ j, j < k → N 105 j = nI (ol k G j)) → g_Run (g_cal e) (g_mt S0 k_X10_bestOrder) Q 229 [.ref 82, .int (nI k), .int (nI m), .int z, .int i, .int 0, .int (nI (f G)), .int (nI x), u8, u9] [] N := by
    intro c
    induction c with
    | zero =>
      intro x N u8 u9 hx e1 e2 e3 e4
      exact g_go_ 20 (b_ge rfl (show (154 : Int32) = nI 154 from rfl) (by omega) (by decide) (fun _ => g_to (R257 N _ u8 u9 e1 (fun j hj => e3 j (by omega)) e4) _ rfl) (fun y => by omega))
    | succ c ih =>
      intro x N u8 u9 hx e1 e2 e3 e4
      obtain ⟨N2, hN2⟩ : ∃ N2, N2 = g_ms N 84 (upd (N 84) x (N 104 x)) := ⟨_, rfl⟩
      have hR := ih (x + 1) N2 u8 u9 (by omega) ⟨fun c c1 c2 c3 => by rw [hN2, g_ms_n c2]; exact e1.1 c c1 c2 c3, fun j hj => by rw [hN2, g_ms_n (by decide)]; exact e1.2 j hj⟩ (fun j hj => by rw [hN2, g_ms_n (by decide)]; exact e2 j hj) (fun j hj => by
        rw [hN2, g_ms_s, upd]
        by_cases c : j = x
        · subst c; rw [if_pos rfl]; exact e2 j (by omega)
        · rw [if_neg c]; exact e3 j (by omega)) (fun j hj => by rw [hN2, g_ms_n (by decide)]; exact e4 j hj)
      rw [hN2, nI_succ] at hR
      exact g_go_ 20 (b_ge rfl (show (154 : Int32) = nI 154 from rfl) (by omega) (by decide) (fun y => by omega) (fun _ => ⟨x, rfl, by omega, x, rfl, by omega, g_to hR _ rfl⟩))
  -- the orders
  have R118 : ∀ c o N x6 u8 u9, o + c = om k → FB M N → N 82 33 = nI (om k) → (∀ o, o < om k → ∀ i, i < k → N 100 (4 * o + i) = nI (ol k o i)) → (∀ j, j < 154 → N 104 j = nI (a j)) → N 84 3 = nI k → (∀ j, j < 154 → j ≠ 3 → (j < 114 ∨ 114 + k ≤ j) → N 84 j = nI (a j)) → (o = 0 → x6 = -9) → (o ≠ 0 → x6 = nI (f (gre f (o - 1))) ∧ ∀ j, j < k → N 105 j = nI (ol k (gre f (o - 1)) j)) → (u8 = .null ∨ ∃ x, u8 = .int x) → g_Run (g_cal e) (g_mt S0 k_X10_bestOrder) Q 118 [.ref 82, .int (nI k), .int (nI m), .int z, .int i, .int 0, .int x6, .int (nI o), u8, u9] [] N := by
    intro c
    induction c with
    | zero =>
      intro o N x6 u8 u9 ho e1 e2 e3 e4 e5 e6 h0 h1 w8
      obtain ⟨p1, p2⟩ := h1 (by omega)
      rw [show o - 1 = om k - 1 by omega, hG] at p1 p2
      subst p1
      have hR := R229 154 0 N u8 u9 (by omega) e1 e4 (fun j hj => by omega) p2
      exact g_go_ 20 (b_ge rfl e2 (by omega) (by omega) (fun _ => g_to hR _ rfl) (fun y => by omega))
    | succ c ih =>
      intro o N x6 u8 u9 ho e1 e2 e3 e4 e5 e6 h0 h1 w8
      have hol : o < om k := by omega
      have fo' := fle o
      -- on to the next
      have R220 : ∀ N' x6' x8 u9, FB M N' → N' 82 33 = nI (om k) → (∀ o, o < om k → ∀ i, i < k → N' 100 (4 * o + i) = nI (ol k o i)) → (∀ j, j < 154 → N' 104 j = nI (a j)) → N' 84 3 = nI k → (∀ j, j < 154 → j ≠ 3 → (j < 114 ∨ 114 + k ≤ j) → N' 84 j = nI (a j)) → x6' = nI (f (gre f o)) → (∀ j, j < k → N' 105 j = nI (ol k (gre f o) j)) → g_Run (g_cal e) (g_mt S0 k_X10_bestOrder) Q 220 [.ref 82, .int (nI k), .int (nI m), .int z, .int i, .int 0, .int x6', .int (nI o), .int x8, u9] [] N' := by
        intro N' x6' x8 u9 f1 f2 f3 f4 f5 f6 f7 f8
        have hR := ih (o + 1) N' x6' (.int x8) u9 (by omega) f1 f2 f3 f4 f5 f6 (fun y => by omega) (fun _ => ⟨f7, f8⟩) (Or.inr ⟨_, rfl⟩)
        rw [nI_succ] at hR
        exact g_go_ 3 (g_to hR _ rfl)
      -- a better one is kept
      have R189 : ∀ q x N', x + q = k → FB M N' → N' 82 33 = nI (om k) → (∀ o, o < om k → ∀ i, i < k → N' 100 (4 * o + i) = nI (ol k o i)) → (∀ j, j < 154 → N' 104 j = nI (a j)) → N' 84 3 = nI k → (∀ j, j < 154 → j ≠ 3 → (j < 114 ∨ 114 + k ≤ j) → N' 84 j = nI (a j)) → gre f o = o → (∀ j, j < x → N' 105 j = nI (ol k o j)) → g_Run (g_cal e) (g_mt S0 k_X10_bestOrder) Q 189 [.ref 82, .int (nI k), .int (nI m), .int z, .int i, .int 0, .int (nI (f o)), .int (nI o), .int (nI (f o)), .int (nI x)] [] N' := by
        intro q
        induction q with
        | zero =>
          intro x N' hx f1 f2 f3 f4 f5 f6 f7 f8
          have hR := R220 N' (nI (f o)) (nI (f o)) (.int (nI x)) f1 f2 f3 f4 f5 f6 (by rw [f7]) (fun j hj => by rw [f7]; exact f8 j (by omega))
          exact g_go_ 20 (b_ge rfl rfl (by omega) (by omega) (fun _ => g_to hR _ rfl) (fun y => by omega))
        | succ q ih2 =>
          intro x N' hx f1 f2 f3 f4 f5 f6 f7 f8
          obtain ⟨N2, hN2⟩ : ∃ N2, N2 = g_ms N' 105 (upd (N' 105) x (N' 100 (4 * o + x))) := ⟨_, rfl⟩
          have hR := ih2 (x + 1) N2 (by omega) ⟨fun c c1 c2 c3 => by rw [hN2, g_ms_n (by omega)]; exact f1.1 c c1 c2 c3, fun j hj => by rw [hN2, g_ms_n (by decide)]; exact f1.2 j hj⟩ (by rw [hN2, g_ms_n (by decide)]; exact f2) (fun o ho i hi => by rw [hN2, g_ms_n (by decide)]; exact f3 o ho i hi) (fun j hj => by rw [hN2, g_ms_n (by decide)]; exact f4 j hj) (by rw [hN2, g_ms_n (by decide)]; exact f5) (fun j j1 j2 j3 => by rw [hN2, g_ms_n (by decide)]; exact f6 j j1 j2 j3) f7 (fun j hj => by
            rw [hN2, g_ms_s, upd]
            by_cases c : j = x
            · subst c; rw [if_pos rfl]; exact f3 o hol j (by omega)
            · rw [if_neg c]; exact f8 j (by omega))
          rw [hN2, nI_succ] at hR
          exact g_go_ 30 (b_ge rfl rfl (by omega) (by omega) (fun y => by omega) (fun _ => ⟨4 * o + x, ia (im rfl rfl) rfl, by omega, x, rfl, by omega, g_to hR _ rfl⟩))
      -- the order is told, then tried
      have R130 : ∀ q x N', x + q = k → FB M N' → N' 82 33 = nI (om k) → (∀ o, o < om k → ∀ i, i < k → N' 100 (4 * o + i) = nI (ol k o i)) → (∀ j, j < 154 → N' 104 j = nI (a j)) → N' 84 3 = nI k → (∀ j, j < 154 → j ≠ 3 → (j < 114 ∨ 114 + k ≤ j) → N' 84 j = nI (a j)) → (o ≠ 0 → x6 = nI (f (gre f (o - 1))) ∧ ∀ j, j < k → N' 105 j = nI (ol k (gre f (o - 1)) j)) → (∀ j, j < x → N' 84 (114 + j) = nI (ol k o j)) → g_Run (g_cal e) (g_mt S0 k_X10_bestOrder) Q 130 [.ref 82, .int (nI k), .int (nI m), .int z, .int i, .int 0, .int x6, .int (nI o), .int (nI x), u9] [] N' := by
        intro q
        induction q with
        | zero =>
          intro x N' hx f1 f2 f3 f4 f5 f6 f7 f8
          have rmP : RM N' 84 (oa a k o) := fun j hj => by
            by_cases c3 : j = 3
            · subst c3; rw [oa_3]; exact f5
            · by_cases c4 : 114 ≤ j ∧ j < 114 + k
              · obtain ⟨t, rfl⟩ : ∃ t, j = 114 + t := ⟨j - 114, by omega⟩
                rw [oa_i (by omega)]; exact f8 t (by omega)
              · rw [oa_n c3 (by omega)]; exact f6 j hj c3 (by omega)
          obtain ⟨v', v2'⟩ := oa_v v v2 k2 ka hol
          refine g_go_ 60 (b_ge rfl rfl (by omega) (by omega) (fun _ => m_finds (by omega) v' v2' rmP m2 (fun N2 qf => ?_)) (fun y => by omega))
          have hfo : fnd (oa a k o) m z = f o := by rw [← hF]; rfl
          rw [hfo]
          have g1 : FB M N2 := ⟨fun c c1 c2 c3 => by rw [qf.1 c c1 (by omega) (by omega) (by omega)]; exact f1.1 c c1 c2 c3, fun j hj => by rw [qf.2 j (by omega)]; exact f1.2 j hj⟩
          have g2 : N2 82 33 = nI (om k) := by rw [qf.2 33 (by decide)]; exact f2
          have o84 : N2 84 = N' 84 := qf.1 84 (by decide) (by decide) (by decide) (by decide)
          have g3 : ∀ o, o < om k → ∀ i, i < k → N2 100 (4 * o + i) = nI (ol k o i) := fun o ho i hi => by rw [qf.1 100 (by decide) (by decide) (by decide) (by decide)]; exact f3 o ho i hi
          have g4 : ∀ j, j < 154 → N2 104 j = nI (a j) := fun j hj => by rw [qf.1 104 (by decide) (by decide) (by decide) (by decide)]; exact f4 j hj
          have g5 : N2 84 3 = nI k := by rw [o84]; exact f5
          have g6 : ∀ j, j < 154 → j ≠ 3 → (j < 114 ∨ 114 + k ≤ j) → N2 84 j = nI (a j) := fun j j1 j2 j3 => by rw [o84]; exact f6 j j1 j2 j3
          have hbet : gre f o = o → g_Run (g_cal e) (g_mt S0 k_X10_bestOrder) Q 182 [.ref 82, .int (nI k), .int (nI m), .int z, .int i, .int 0, .int x6, .int (nI o), .int (nI (f o)), u9] [] N2 := fun hg => g_go_ 6 (g_to (R189 k 0 N2 (by omega) g1 g2 g3 g4 g5 g6 hg (fun j hj => by omega)) _ rfl)
          by_cases o0 : o = 0
          · have x9 := h0 o0
            subst x9
            have hg : gre f o = o := by rw [o0]; rfl
            exact b_t (n_gt9 (by omega)) (g_to (hbet hg) _ rfl)
          · obtain ⟨p1, p2⟩ := f7 o0
            obtain ⟨o', rfl⟩ : ∃ o', o = o' + 1 := ⟨o - 1, by omega⟩
            rw [show o' + 1 - 1 = o' by omega] at p1 p2
            have fg := fle (gre f o')
            subst p1
            refine b_gt rfl rfl (by omega) (by omega) (fun y => ?_) (fun y => ?_)
            · exact g_to (hbet (by rw [gre, if_pos y])) _ rfl
            · have hg : gre f (o' + 1) = gre f o' := by rw [gre, if_neg (by omega)]
              have hR := R220 N2 (nI (f (gre f o'))) (nI (f (o' + 1))) u9 g1 g2 g3 g4 g5 g6 (by rw [hg]) (fun j hj => by rw [hg, qf.1 105 (by decide) (by decide) (by decide) (by decide)]; exact p2 j hj)
              exact g_to hR _ rfl
        | succ q ih2 =>
          intro x N' hx f1 f2 f3 f4 f5 f6 f7 f8
          obtain ⟨N2, hN2⟩ : ∃ N2, N2 = g_ms N' 84 (upd (N' 84) (114 + x) (N' 100 (4 * o + x))) := ⟨_, rfl⟩
          have hR := ih2 (x + 1) N2 (by omega) ⟨fun c c1 c2 c3 => by rw [hN2, g_ms_n c2]; exact f1.1 c c1 c2 c3, fun j hj => by rw [hN2, g_ms_n (by decide)]; exact f1.2 j hj⟩ (by rw [hN2, g_ms_n (by decide)]; exact f2) (fun o ho i hi => by rw [hN2, g_ms_n (by decide)]; exact f3 o ho i hi) (fun j hj => by rw [hN2, g_ms_n (by decide)]; exact f4 j hj) (by rw [hN2, g_ms_s, upd, if_neg (by omega)]; exact f5) (fun j j1 j2 j3 => by rw [hN2, g_ms_s, upd, if_neg (by omega)]; exact f6 j j1 j2 j3) (fun y => ⟨(f7 y).1, fun j hj => by rw [hN2, g_ms_n (by decide)]; exact (f7 y).2 j hj⟩) (fun j hj => by
            rw [hN2, g_ms_s, upd]
            by_cases c : j = x
            · subst c; rw [if_pos rfl]; exact f3 o hol j (by omega)
            · rw [if_neg (by omega)]; exact f8 j (by omega))
          rw [hN2, nI_succ] at hR
          exact g_go_ 30 (b_ge rfl rfl (by omega) (by omega) (fun y => by omega) (fun _ => ⟨4 * o + x, ia (im rfl rfl) rfl, by omega, 114 + x, ia rfl rfl, by omega, g_to hR _ rfl⟩))
      have hR := R130 k 0 N (by omega) e1 e2 e3 e4 e5 e6 h1 (fun j hj => by omega)
      rcases w8 with rfl | ⟨x8, rfl⟩
      · exact g_go_ 20 (b_ge rfl e2 (by omega) (by omega) (fun y => by omega) (fun _ => g_to hR _ rfl))
      · exact g_go_ 20 (b_ge rfl e2 (by omega) (by omega) (fun y => by omega) (fun _ => g_to hR _ rfl))
  -- all is kept
  have R76 : ∀ c x N, x + c = 154 → FB M N → N 82 33 = nI (om k) → (∀ o, o < om k → ∀ i, i < k → N 100 (4 * o + i) = nI (ol k o i)) → (∀ j, j < 154 → N 84 j = nI (a j)) → (∀ j, j < x → N 104 j = nI (a j)) → g_Run (g_cal e) (g_mt S0 k_X10_bestOrder) Q 76 [.ref 82, .int (nI k), .int (nI m), .int z, .int i, .int 0, .int (nI x), .null, .null, .null] [] N := by
    intro c
    induction c with
    | zero =>
      intro x N hx f1 f2 f3 f4 f5
      obtain ⟨N2, hN2⟩ : ∃ N2, N2 = g_ms N 84 (upd (N 84) 3 (nI k)) := ⟨_, rfl⟩
      have hR := R118 (om k) 0 N2 (-9) .null .null (by omega) ⟨fun c c1 c2 c3 => by rw [hN2, g_ms_n c2]; exact f1.1 c c1 c2 c3, fun j hj => by rw [hN2, g_ms_n (by decide)]; exact f1.2 j hj⟩ (by rw [hN2, g_ms_n (by decide)]; exact f2) (fun o ho i hi => by rw [hN2, g_ms_n (by decide)]; exact f3 o ho i hi) (fun j hj => by rw [hN2, g_ms_n (by decide)]; exact f5 j (by omega)) (by rw [hN2, g_ms_s]; rfl) (fun j j1 j2 j3 => by rw [hN2, g_ms_s, upd, if_neg j2]; exact f4 j j1) (fun _ => rfl) (fun y => absurd rfl y) (Or.inl rfl)
      rw [hN2] at hR
      exact g_go_ 20 (b_ge rfl (show (154 : Int32) = nI 154 from rfl) (by omega) (by decide) (fun _ => ⟨3, rfl, by decide, g_to hR _ rfl⟩) (fun y => by omega))
    | succ c ih =>
      intro x N hx f1 f2 f3 f4 f5
      obtain ⟨N2, hN2⟩ : ∃ N2, N2 = g_ms N 104 (upd (N 104) x (N 84 x)) := ⟨_, rfl⟩
      have hR := ih (x + 1) N2 (by omega) ⟨fun c c1 c2 c3 => by rw [hN2, g_ms_n (by omega)]; exact f1.1 c c1 c2 c3, fun j hj => by rw [hN2, g_ms_n (by decide)]; exact f1.2 j hj⟩ (by rw [hN2, g_ms_n (by decide)]; exact f2) (fun o ho i hi => by rw [hN2, g_ms_n (by decide)]; exact f3 o ho i hi) (fun j hj => by rw [hN2, g_ms_n (by decide)]; exact f4 j hj) (fun j hj => by
        rw [hN2, g_ms_s, upd]
        by_cases c : j = x
        · subst c; rw [if_pos rfl]; exact f4 j (by omega)
        · rw [if_neg c]; exact f5 j (by omega))
      rw [hN2, nI_succ] at hR
      exact g_go_ 20 (b_ge rfl (show (154 : Int32) = nI 154 from rfl) (by omega) (by decide) (fun y => by omega) (fun _ => ⟨x, rfl, by omega, x, rfl, by omega, g_to hR _ rfl⟩))
  -- the first checks
  refine b_lt (a := k) (b := 1) rfl rfl (by omega) (by decide) (fun y => by omega) (fun _ => b_lt (a := m) (b := 1) rfl rfl (by omega) (by decide) (fun y => by omega) (fun _ => b_t (Int32.not_lt.mp hi) ?_))
  refine b_gt (a := k) (b := 4) rfl rfl (by omega) (by decide) (fun y => by omega) (fun _ => b_le (a := m) (b := 5) rfl rfl (by omega) (by decide) (fun _ => ?_) (fun y => by omega))
  refine b_nf rfl (m_isGame (by omega) k2 k1 v hM (fun y => absurd hf y) (fun _ N1 fn => ?_))
  refine b_nt (by decide) (b_t rfl ?_)
  refine m_findTells (by omega) k2 k1 v hf (fn.fa hM) (fun N t1 t2 t3 t4 => ?_)
  have hFB : FB M N := ⟨fun c c1 c2 c3 => by rw [t1.1 c c1 (by omega) (by omega)]; exact fn.1 c (by omega) (by omega), fun j hj => by rw [t1.2 j (by omega), fn.1 82 (by decide) (by decide)]⟩
  have hR := R76 154 0 N (by omega) hFB t2 t3 (fun j hj => by rw [t1.1 84 (by decide) (by decide) (by decide), fn.1 84 (by decide) (by decide)]; exact hM j hj) (fun j hj => by omega)
  exact g_to hR _ rfl
