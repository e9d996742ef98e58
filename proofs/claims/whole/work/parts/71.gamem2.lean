/-! ===== tells and the game: the reference ===== -/
def FT (M N : g_M) : Prop := (∀ c, c ≠ 82 → c ≠ 99 → c ≠ 100 → N c = M c) ∧ ∀ j, j ≠ 33 → N 82 j = M 82 j
def TM (N : g_M) (a : Nat → Nat) (k o : Nat) : Prop := ∀ o', o' < o → ∀ p, p < k → N 99 (4 * o' + p) = nI (tl a k o' p)
theorem FA.co {M N : g_M} {a : Nat → Nat} (h : FA M a) (e1 : N 84 = M 84) (e2 : N 89 = M 89) (e3 : N 90 = M 90) : FA N a := ⟨h.1.fr e1, by rw [e3]; exact h.2.1, by rw [e2]; exact h.2.2⟩
theorem rep0 (n j : Nat) : (List.replicate n 0).getD j 0 = 0 := by
  rw [List.getD_eq_getElem?_getD, List.getElem?_replicate]
  split <;> rfl
theorem m_findTells {d k : Nat} {M : g_M} {Q : g_R} {a : Nat → Nat} (hd : 7 ≤ d) (hk : k < 5) (h1 : 1 ≤ k) (v : V1 a) (f : fin a k) (fa : FA M a) (h : ∀ N, FT M N → N 82 33 = nI (om k) → (∀ o, o < om k → ∀ i, i < k → N 100 (4 * o + i) = nI (ol k o i)) → TM N a k (om k) → Q none N) : g_cal d k_X10_findTells [.ref 82, .int (nI k)] M Q := by
  have b0 : a 0 ≤ 8 := v.2.1
  have omb := om_b k hk h1
  have ka := f.1
  refine g_m (by omega) 4 (fun e he => ?_)
  have R14 : ∀ q o N u3 u4 u5 u6, o + q = om k → FT M N → N 82 33 = nI (om k) → (∀ o, o < om k → ∀ i, i < k → N 100 (4 * o + i) = nI (ol k o i)) → TM N a k o → (u3 = .null ∨ ∃ x, u3 = .int x) → (u4 = .null ∨ ∃ x, u4 = .int x) → g_Run (g_cal e) (g_mt S0 k_X10_findTells) Q 14 [.ref 82, .int (nI k), .int (nI o), u3, u4, u5, u6] [] N := by
    intro q
    induction q with
    | zero =>
      intro o N u3 u4 u5 u6 ho e1 e2 e3 e4 w3 w4
      have e : o = om k := by omega
      subst e
      exact g_go_ 20 (b_ge rfl e2 (by omega) (by omega) (fun _ => h N e1 e2 e3 e4) (fun y => by omega))
    | succ q ih =>
      intro o N u3 u4 u5 u6 ho e1 e2 e3 e4 w3 w4
      have hol : o < om k := by omega
      have inn : ∀ m i N u6, i + m = k → FT M N → N 82 33 = nI (om k) → (∀ o, o < om k → ∀ i, i < k → N 100 (4 * o + i) = nI (ol k o i)) → TM N a k o → (∀ j, j < i → N 99 (4 * o + ol k o j - 1) = nI (pth a (ol k o) (j + 1))) → g_Run (g_cal e) (g_mt S0 k_X10_findTells) Q 30 [.ref 82, .int (nI k), .int (nI o), .int (nI (pth a (ol k o) i)), .int (nI (if i = 0 then 0 else ol k o (i - 1))), .int (nI i), u6] [] N := by
        intro m
        induction m with
        | zero =>
          intro i N u6 hi e1 e2 e3 e4 e5
          have e : i = k := by omega
          subst e
          have hR := ih (o + 1) N (.int (nI (pth a (ol i o) i))) (.int (nI (if i = 0 then 0 else ol i o (i - 1)))) (.int (nI i)) u6 (by omega) e1 e2 e3 (fun o' ho' p hp => by
            by_cases c : o' = o
            · subst c
              obtain ⟨q1, q2⟩ := ol_ix i hk o' hol p hp
              have q3 := e5 _ q1
              rw [q2] at q3
              rw [show 4 * o' + p = 4 * o' + (p + 1) - 1 by omega]
              exact q3
            · exact e4 o' (by omega) p hp) (Or.inr ⟨_, rfl⟩) (Or.inr ⟨_, rfl⟩)
          rw [nI_succ] at hR
          exact g_go_ 20 (b_ge rfl rfl (by omega) (by omega) (fun _ => g_to hR _ rfl) (fun y => by omega))
        | succ m ih2 =>
          intro i N u6 hi e1 e2 e3 e4 e5
          have o1 := ol_b k hk o hol i (by omega)
          have hat : (if i = 0 then 0 else ol k o (i - 1)) ≤ k := by
            split
            · omega
            · exact (ol_b k hk o hol (i - 1) (by omega)).2
          have hds := fin_ds v f hat o1.2
          refine g_go_ 60 (b_ge rfl rfl (by omega) (by omega) (fun y => by omega) (fun _ => ⟨4 * o + i, ia (im rfl rfl) rfl, by omega, ?_⟩))
          rw [e3 o hol i (by omega)]
          refine m_farOf (by omega) (fa.co (e1.1 84 (by decide) (by decide) (by decide)) (e1.1 89 (by decide) (by decide) (by decide)) (e1.1 90 (by decide) (by decide) (by decide))) _ _ (if i = 0 then 0 else ol k o (i - 1)) (ol k o i) rfl rfl (by omega) (by omega) ?_
          refine ⟨4 * o + ol k o i - 1, is (by omega) (ia (im rfl rfl) rfl) rfl, by omega, ?_⟩
          obtain ⟨N2, hN2⟩ : ∃ N2, N2 = g_ms N 99 (upd (N 99) (4 * o + ol k o i - 1) (nI (pth a (ol k o) i) + nI (ds a (if i = 0 then 0 else ol k o (i - 1)) (ol k o i)))) := ⟨_, rfl⟩
          have hR := ih2 (i + 1) N2 (.int (nI (ol k o i))) (by omega) ⟨fun c c1 c2 c3 => by rw [hN2, g_ms_n c2]; exact e1.1 c c1 c2 c3, fun j hj => by rw [hN2, g_ms_n (by decide)]; exact e1.2 j hj⟩ (by rw [hN2, g_ms_n (by decide)]; exact e2) (fun o ho i hi => by rw [hN2, g_ms_n (by decide)]; exact e3 o ho i hi) (fun o' ho' p hp => by
            rw [hN2, g_ms_s, upd, if_neg (by omega)]; exact e4 o' ho' p hp) (fun j hj => by
            rw [hN2, g_ms_s]
            by_cases c : j = i
            · subst c
              rw [upd, if_pos rfl, nI_add]
              rfl
            · have oj := ol_b k hk o hol j (by omega)
              have oi := ol_inj k hk o hol j (by omega) i (by omega)
              rw [upd, if_neg (fun z => c (oi (by omega)))]
              exact e5 j (by omega))
          rw [if_neg (show ¬ i + 1 = 0 by omega), show i + 1 - 1 = i by omega, show pth a (ol k o) (i + 1) = pth a (ol k o) i + ds a (if i = 0 then 0 else ol k o (i - 1)) (ol k o i) from rfl, ← nI_add, hN2, nI_succ] at hR
          exact g_to hR _ rfl
      have hR := inn k 0 N u6 (by omega) e1 e2 e3 e4 (fun j hj => by omega)
      rcases w3 with rfl | ⟨x3, rfl⟩
      · rcases w4 with rfl | ⟨x4, rfl⟩
        · exact g_go_ 20 (b_ge rfl e2 (by omega) (by omega) (fun y => by omega) (fun _ => g_to hR _ rfl))
        · exact g_go_ 20 (b_ge rfl e2 (by omega) (by omega) (fun y => by omega) (fun _ => g_to hR _ rfl))
      · rcases w4 with rfl | ⟨x4, rfl⟩
        · exact g_go_ 20 (b_ge rfl e2 (by omega) (by omega) (fun y => by omega) (fun _ => g_to hR _ rfl))
        · exact g_go_ 20 (b_ge rfl e2 (by omega) (by omega) (fun y => by omega) (fun _ => g_to hR _ rfl))
  obtain ⟨N1, hN1⟩ : ∃ N1, N1 = g_ms M 82 (upd (M 82) 33 0) := ⟨_, rfl⟩
  obtain ⟨l, hl, hl2⟩ := fo_ok hk h1
  have r5 : g_Run (g_cal e) (g_mt S0 k_X10_findTells) Q 5 [.ref 82, .int (nI k), .null, .null, .null, .null, .null] [] N1 := by
    refine g_go_ 12 (m_findOrders 6 e k 0 0 (List.replicate 96 0, 0) (l, om k) N1 _ (by omega) (by omega) (by omega) (by decide) (by decide) ⟨rfl, by rw [hN1, g_ms_s]; rfl, fun j hj hn => absurd (rep0 96 j) hn⟩ hl (fun N2 f1 f2 => ?_))
    have hR := R14 (om k) 0 N2 .null .null .null .null (by omega) ⟨fun c c1 c2 c3 => by rw [f1.1 c c1 c3, hN1, g_ms_n c1], fun j hj => by rw [f1.2 j hj, hN1, g_ms_s, upd, if_neg hj]⟩ f2.2.1 (fun o ho i hi => by
      have q := hl2 o ho i hi
      have q1 := ol_b k hk o ho i hi
      have q2 := f2.2.2 (4 * o + i) (by omega)
      rw [show (l, om k).1 = l from rfl, q] at q2
      exact q2 (by omega)) (fun o' ho' => by omega) (Or.inl rfl) (Or.inl rfl)
    exact g_to hR _ rfl
  rw [hN1] at r5
  exact g_to r5 _ rfl
/-- the game -/
def GM (N : g_M) (k : Nat) (s : (Nat → Nat) × (Nat → Nat) × (Nat → Nat)) : Prop := (∀ p, p < k → N 101 p = nI (s.1 p)) ∧ (∀ o, o < om k → N 102 o = nI (s.2.1 o)) ∧ (∀ p, p < k → N 103 p = nI (s.2.2 p))
def FH (M N : g_M) : Prop := (∀ c, c ≠ 82 → (c < 99 ∨ 103 < c) → N c = M c) ∧ ∀ j, j ≠ 33 → N 82 j = M 82 j
theorem m_goesGame {d k n : Nat} {M : g_M} {Q : g_R} {a : Nat → Nat} (hd : 8 ≤ d) (hk : k < 5) (h1 : 1 ≤ k) (hn : n ≤ 60) (v : V1 a) (f : fin a k) (fa : FA M a) (h : ∀ N, FH M N → N 82 33 = nI (om k) → GM N k (gme a k n) → Q none N) : g_cal d k_X10_goesGame [.ref 82, .int (nI k), .int (nI n)] M Q := by
  have ob := om_b k hk h1
  refine g_m (by omega) 4 (fun e he => ?_)
  have R57 : ∀ m i N u4 u5 u6, i + m = n → FH M N → N 82 33 = nI (om k) → TM N a k (om k) → GM N k (gme a k i) → (u4 = .null ∨ ∃ x, u4 = .int x) → (u5 = .null ∨ ∃ x, u5 = .int x) → g_Run (g_cal e) (g_mt S0 k_X10_goesGame) Q 57 [.ref 82, .int (nI k), .int (nI n), .int (nI i), u4, u5, u6] [] N := by
    intro m
    induction m with
    | zero =>
      intro i N u4 u5 u6 hi e1 e3 e4 e5 w4 w5
      have e : i = n := by omega
      subst e
      exact g_go_ 20 (b_ge rfl rfl (by omega) (by omega) (fun _ => h N e1 e3 e5) (fun y => by omega))
    | succ m ih =>
      intro i N u4 u5 u6 hi e1 e3 e4 e5 w4 w5
      obtain ⟨q1, q2, q3⟩ := gme_le v f hk h1 i
      have l1 := lea_le (gme a k i).2.1 (om k - 1)
      have l2 := gre_le (gme a k i).1 (k - 1)
      obtain ⟨r1, r2, r3⟩ := e5
      generalize hP : gre (gme a k i).1 (k - 1) = P at l2
      generalize hO : lea (gme a k i).2.1 (om k - 1) = O at l1
      -- adding to the orders
      have R204 : ∀ m2 x N', x + m2 = om k → FH M N' → N' 82 33 = nI (om k) → TM N' a k (om k) → (∀ p, p < k → N' 101 p = nI ((gme a k (i + 1)).1 p)) → (∀ o, o < om k → N' 102 o = nI (if o < x then (gme a k (i + 1)).2.1 o else (gme a k i).2.1 o)) → (∀ p, p < k → N' 103 p = nI ((gme a k (i + 1)).2.2 p)) → g_Run (g_cal e) (g_mt S0 k_X10_goesGame) Q 204 [.ref 82, .int (nI k), .int (nI n), .int (nI i), .int (nI P), .int (nI O), .int (nI x)] [] N' := by
        intro m2
        induction m2 with
        | zero =>
          intro x N' hx f1 f2 f3 f4 f5 f6
          have hR := ih (i + 1) N' (.int (nI P)) (.int (nI O)) (.int (nI x)) (by omega) f1 f2 f3 ⟨f4, fun o ho => by rw [f5 o ho, if_pos (by omega)], f6⟩ (Or.inr ⟨_, rfl⟩) (Or.inr ⟨_, rfl⟩)
          rw [nI_succ] at hR
          exact g_go_ 20 (b_ge rfl f2 (by omega) (by omega) (fun _ => g_to hR _ rfl) (fun y => by omega))
        | succ m2 ih2 =>
          intro x N' hx f1 f2 f3 f4 f5 f6
          refine g_go_ 40 (b_ge rfl f2 (by omega) (by omega) (fun y => by omega) (fun _ => ⟨x, rfl, by omega, 4 * x + P, ia (im rfl rfl) rfl, by omega, x, rfl, by omega, ?_⟩))
          obtain ⟨N2, hN2⟩ : ∃ N2, N2 = g_ms N' 102 (upd (N' 102) x (N' 102 x + N' 99 (4 * x + P))) := ⟨_, rfl⟩
          have hR := ih2 (x + 1) N2 (by omega) ⟨fun c c1 c2 => by rw [hN2, g_ms_n (by omega)]; exact f1.1 c c1 c2, fun j hj => by rw [hN2, g_ms_n (by decide)]; exact f1.2 j hj⟩ (by rw [hN2, g_ms_n (by decide)]; exact f2) (fun o' ho' p hp => by rw [hN2, g_ms_n (by decide)]; exact f3 o' ho' p hp) (fun p hp => by rw [hN2, g_ms_n (by decide)]; exact f4 p hp) (fun o ho => by
            rw [hN2, g_ms_s]
            by_cases c : o = x
            · subst c
              rw [upd, if_pos rfl, if_pos (by omega), f5 o ho, if_neg (by omega), f3 o ho P (by omega), nI_add, ← hP]
              rfl
            · rw [upd, if_neg c, f5 o ho]
              by_cases q : o < x
              · rw [if_pos q, if_pos (by omega)]
              · rw [if_neg q, if_neg (by omega)]) (fun p hp => by rw [hN2, g_ms_n (by decide)]; exact f6 p hp)
          rw [hN2, nI_succ] at hR
          exact g_to hR _ rfl
      -- adding to the places
      have R167 : ∀ m2 x N', x + m2 = k → FH M N' → N' 82 33 = nI (om k) → TM N' a k (om k) → (∀ p, p < k → N' 101 p = nI (if p < x then (gme a k (i + 1)).1 p else (gme a k i).1 p)) → (∀ o, o < om k → N' 102 o = nI ((gme a k i).2.1 o)) → (∀ p, p < k → N' 103 p = nI ((gme a k (i + 1)).2.2 p)) → g_Run (g_cal e) (g_mt S0 k_X10_goesGame) Q 167 [.ref 82, .int (nI k), .int (nI n), .int (nI i), .int (nI P), .int (nI O), .int (nI x)] [] N' := by
        intro m2
        induction m2 with
        | zero =>
          intro x N' hx f1 f2 f3 f4 f5 f6
          have hR := R204 (om k) 0 N' (by omega) f1 f2 f3 (fun p hp => by rw [f4 p hp, if_pos (by omega)]) (fun o ho => by rw [f5 o ho, if_neg (by omega)]) f6
          exact g_go_ 20 (b_ge rfl rfl (by omega) (by omega) (fun _ => g_to hR _ rfl) (fun y => by omega))
        | succ m2 ih2 =>
          intro x N' hx f1 f2 f3 f4 f5 f6
          refine g_go_ 40 (b_ge rfl rfl (by omega) (by omega) (fun y => by omega) (fun _ => ⟨x, rfl, by omega, 4 * O + x, ia (im rfl rfl) rfl, by omega, x, rfl, by omega, ?_⟩))
          obtain ⟨N2, hN2⟩ : ∃ N2, N2 = g_ms N' 101 (upd (N' 101) x (N' 101 x + N' 99 (4 * O + x))) := ⟨_, rfl⟩
          have hR := ih2 (x + 1) N2 (by omega) ⟨fun c c1 c2 => by rw [hN2, g_ms_n (by omega)]; exact f1.1 c c1 c2, fun j hj => by rw [hN2, g_ms_n (by decide)]; exact f1.2 j hj⟩ (by rw [hN2, g_ms_n (by decide)]; exact f2) (fun o' ho' p hp => by rw [hN2, g_ms_n (by decide)]; exact f3 o' ho' p hp) (fun p hp => by
            rw [hN2, g_ms_s]
            by_cases c : p = x
            · subst c
              rw [upd, if_pos rfl, if_pos (by omega), f4 p hp, if_neg (by omega), f3 O (by omega) p hp, nI_add, ← hO]
              rfl
            · rw [upd, if_neg c, f4 p hp]
              by_cases q : p < x
              · rw [if_pos q, if_pos (by omega)]
              · rw [if_neg q, if_neg (by omega)]) (fun o ho => by rw [hN2, g_ms_n (by decide)]; exact f5 o ho) (fun p hp => by rw [hN2, g_ms_n (by decide)]; exact f6 p hp)
          rw [hN2, nI_succ] at hR
          exact g_to hR _ rfl
      -- it is taken
      have R153 : ∀ x6, g_Run (g_cal e) (g_mt S0 k_X10_goesGame) Q 153 [.ref 82, .int (nI k), .int (nI n), .int (nI i), .int (nI P), .int (nI O), .int x6] [] N := by
        intro x6
        refine g_go_ 40 ⟨P, rfl, by omega, P, rfl, by omega, ?_⟩
        obtain ⟨N2, hN2⟩ : ∃ N2, N2 = g_ms N 103 (upd (N 103) P (N 103 P + 1)) := ⟨_, rfl⟩
        have hR := R167 k 0 N2 (by omega) ⟨fun c c1 c2 => by rw [hN2, g_ms_n (by omega)]; exact e1.1 c c1 c2, fun j hj => by rw [hN2, g_ms_n (by decide)]; exact e1.2 j hj⟩ (by rw [hN2, g_ms_n (by decide)]; exact e3) (fun o' ho' p hp => by rw [hN2, g_ms_n (by decide)]; exact e4 o' ho' p hp) (fun p hp => by rw [hN2, g_ms_n (by decide), if_neg (by omega)]; exact r1 p hp) (fun o ho => by rw [hN2, g_ms_n (by decide)]; exact r2 o ho) (fun p hp => by
          rw [hN2, g_ms_s]
          show upd (N 103) P (N 103 P + 1) p = nI (aup (gme a k i).2.2 (gre (gme a k i).1 (k - 1)) ((gme a k i).2.2 (gre (gme a k i).1 (k - 1)) + 1) p)
          rw [hP]
          unfold upd aup
          by_cases c : p = P
          · rw [if_pos c, if_pos c, r3 _ (by omega)]; exact (nI_succ _).symm
          · rw [if_neg c, if_neg c]; exact r3 p hp)
        rw [hN2] at hR
        exact g_to hR _ rfl
      -- the least order
      have R112 : ∀ m2 x, x + 1 + m2 = om k → g_Run (g_cal e) (g_mt S0 k_X10_goesGame) Q 112 [.ref 82, .int (nI k), .int (nI n), .int (nI i), .int (nI P), .int (nI (lea (gme a k i).2.1 x)), .int (nI (x + 1))] [] N := by
        intro m2
        induction m2 with
        | zero =>
          intro x hx
          have hR := R153 (nI (x + 1))
          rw [← hO, show om k - 1 = x by omega] at hR
          exact g_go_ 20 (b_ge rfl e3 (by omega) (by omega) (fun _ => g_to hR _ rfl) (fun y => by omega))
        | succ m2 ih2 =>
          intro x hx
          have gl := lea_le (gme a k i).2.1 x
          have hR := ih2 (x + 1) (by omega)
          refine g_go_ 40 (b_ge rfl e3 (by omega) (by omega) (fun y => by omega) (fun _ => ⟨x + 1, rfl, by omega, lea (gme a k i).2.1 x, rfl, by omega, ?_⟩))
          show (N 102 (lea (gme a k i).2.1 x) ≤ N 102 (x + 1) → _) ∧ (¬ N 102 (lea (gme a k i).2.1 x) ≤ N 102 (x + 1) → _)
          rw [r2 _ (by omega), r2 _ (by omega)]
          have y1 := q2 (x + 1) (by omega)
          have y2 := q2 (lea (gme a k i).2.1 x) (by omega)
          refine b_ge rfl rfl (by omega) (by omega) (fun z => ?_) (fun z => ?_)
          · rw [lea, if_neg (by omega), nI_succ (x + 1)] at hR
            exact g_to hR _ rfl
          · rw [lea, if_pos z, nI_succ (x + 1)] at hR
            exact g_to hR _ rfl
      -- the greatest place
      have R68 : ∀ m2 x u6, x + 1 + m2 = k → g_Run (g_cal e) (g_mt S0 k_X10_goesGame) Q 68 [.ref 82, .int (nI k), .int (nI n), .int (nI i), .int (nI (gre (gme a k i).1 x)), .int (nI (x + 1)), u6] [] N := by
        intro m2
        induction m2 with
        | zero =>
          intro x u6 hx
          have hR := R112 (om k - 1) 0 (by omega)
          rw [← hP, show k - 1 = x by omega] at hR
          exact g_go_ 20 (b_ge rfl rfl (by omega) (by omega) (fun _ => g_to hR _ rfl) (fun y => by omega))
        | succ m2 ih2 =>
          intro x u6 hx
          have gl := gre_le (gme a k i).1 x
          have hR := ih2 (x + 1) u6 (by omega)
          refine g_go_ 40 (b_ge rfl rfl (by omega) (by omega) (fun y => by omega) (fun _ => ⟨x + 1, rfl, by omega, gre (gme a k i).1 x, rfl, by omega, ?_⟩))
          show (N 101 (x + 1) ≤ N 101 (gre (gme a k i).1 x) → _) ∧ (¬ N 101 (x + 1) ≤ N 101 (gre (gme a k i).1 x) → _)
          rw [r1 _ (by omega), r1 _ (by omega)]
          have y1 := q1 (x + 1) (by omega)
          have y2 := q1 (gre (gme a k i).1 x) (by omega)
          refine b_le rfl rfl (by omega) (by omega) (fun z => ?_) (fun z => ?_)
          · rw [gre, if_neg (by omega), nI_succ (x + 1)] at hR
            exact g_to hR _ rfl
          · rw [gre, if_pos z, nI_succ (x + 1)] at hR
            exact g_to hR _ rfl
      have hR := R68 (k - 1) 0 u6 (by omega)
      rcases w4 with rfl | ⟨x4, rfl⟩
      · rcases w5 with rfl | ⟨x5, rfl⟩
        · exact g_go_ 20 (b_ge rfl rfl (by omega) (by omega) (fun y => by omega) (fun _ => g_to hR _ rfl))
        · exact g_go_ 20 (b_ge rfl rfl (by omega) (by omega) (fun y => by omega) (fun _ => g_to hR _ rfl))
      · rcases w5 with rfl | ⟨x5, rfl⟩
        · exact g_go_ 20 (b_ge rfl rfl (by omega) (by omega) (fun y => by omega) (fun _ => g_to hR _ rfl))
        · exact g_go_ 20 (b_ge rfl rfl (by omega) (by omega) (fun y => by omega) (fun _ => g_to hR _ rfl))
  -- orders are made empty
  have R34 : ∀ m x N, x + m = om k → FH M N → N 82 33 = nI (om k) → TM N a k (om k) → (∀ p, p < k → N 101 p = 0) → (∀ p, p < k → N 103 p = 0) → (∀ o, o < x → N 102 o = 0) → g_Run (g_cal e) (g_mt S0 k_X10_goesGame) Q 34 [.ref 82, .int (nI k), .int (nI n), .int (nI x), .null, .null, .null] [] N := by
    intro m
    induction m with
    | zero =>
      intro x N hx f1 f2 f3 f4 f5 f6
      have hR := R57 n 0 N .null .null .null (by omega) f1 f2 f3 ⟨f4, fun o ho => f6 o (by omega), f5⟩ (Or.inl rfl) (Or.inl rfl)
      exact g_go_ 20 (b_ge rfl f2 (by omega) (by omega) (fun _ => g_to hR _ rfl) (fun y => by omega))
    | succ m ih =>
      intro x N hx f1 f2 f3 f4 f5 f6
      obtain ⟨N2, hN2⟩ : ∃ N2, N2 = g_ms N 102 (upd (N 102) x 0) := ⟨_, rfl⟩
      have hR := ih (x + 1) N2 (by omega) ⟨fun c c1 c2 => by rw [hN2, g_ms_n (by omega)]; exact f1.1 c c1 c2, fun j hj => by rw [hN2, g_ms_n (by decide)]; exact f1.2 j hj⟩ (by rw [hN2, g_ms_n (by decide)]; exact f2) (fun o' ho' p hp => by rw [hN2, g_ms_n (by decide)]; exact f3 o' ho' p hp) (fun p hp => by rw [hN2, g_ms_n (by decide)]; exact f4 p hp) (fun p hp => by rw [hN2, g_ms_n (by decide)]; exact f5 p hp) (fun o ho => by
        rw [hN2, g_ms_s, upd]
        by_cases c : o = x
        · rw [if_pos c]
        · rw [if_neg c]; exact f6 o (by omega))
      rw [hN2, nI_succ] at hR
      exact g_go_ 20 (b_ge rfl f2 (by omega) (by omega) (fun y => by omega) (fun _ => ⟨x, rfl, by omega, g_to hR _ rfl⟩))
  have R7 : ∀ m x N, x + m = 4 → FH M N → N 82 33 = nI (om k) → TM N a k (om k) → (∀ p, p < x → N 101 p = 0) → (∀ p, p < x → N 103 p = 0) → g_Run (g_cal e) (g_mt S0 k_X10_goesGame) Q 7 [.ref 82, .int (nI k), .int (nI n), .int (nI x), .null, .null, .null] [] N := by
    intro m
    induction m with
    | zero =>
      intro x N hx f1 f2 f3 f4 f5
      have hR := R34 (om k) 0 N (by omega) f1 f2 f3 (fun p hp => f4 p (by omega)) (fun p hp => f5 p (by omega)) (fun o ho => by omega)
      exact g_go_ 20 (b_ge (b := 4) rfl rfl (by omega) (by omega) (fun _ => g_to hR _ rfl) (fun y => by omega))
    | succ m ih =>
      intro x N hx f1 f2 f3 f4 f5
      obtain ⟨N2, hN2⟩ : ∃ N2, N2 = g_ms N 101 (upd (N 101) x 0) := ⟨_, rfl⟩
      obtain ⟨N3, hN3⟩ : ∃ N3, N3 = g_ms N2 103 (upd (N2 103) x 0) := ⟨_, rfl⟩
      have hR := ih (x + 1) N3 (by omega) ⟨fun c c1 c2 => by rw [hN3, g_ms_n (by omega), hN2, g_ms_n (by omega)]; exact f1.1 c c1 c2, fun j hj => by rw [hN3, g_ms_n (by decide), hN2, g_ms_n (by decide)]; exact f1.2 j hj⟩ (by rw [hN3, g_ms_n (by decide), hN2, g_ms_n (by decide)]; exact f2) (fun o' ho' p hp => by rw [hN3, g_ms_n (by decide), hN2, g_ms_n (by decide)]; exact f3 o' ho' p hp) (fun p hp => by
        rw [hN3, g_ms_n (by decide), hN2, g_ms_s, upd]
        by_cases c : p = x
        · rw [if_pos c]
        · rw [if_neg c]; exact f4 p (by omega)) (fun p hp => by
        rw [hN3, g_ms_s, upd]
        by_cases c : p = x
        · rw [if_pos c]
        · rw [if_neg c, hN2, g_ms_n (by decide)]; exact f5 p (by omega))
      rw [hN3, hN2, nI_succ] at hR
      exact g_go_ 30 (b_ge (b := 4) rfl rfl (by omega) (by omega) (fun y => by omega) (fun _ => ⟨x, rfl, by omega, x, rfl, by omega, g_to hR _ rfl⟩))
  refine m_findTells (by omega) hk h1 v f fa (fun N t1 t2 t3 t4 => ?_)
  have hR := R7 4 0 N (by omega) ⟨fun c c1 c2 => t1.1 c c1 (by omega) (by omega), t1.2⟩ t2 t4 (fun p hp => by omega) (fun p hp => by omega)
  have r5 : g_Run (g_cal e) (g_mt S0 k_X10_goesGame) Q 5 [.ref 82, .int (nI k), .int (nI n), .null, .null, .null, .null] [] N := g_go_ 3 (g_to hR _ rfl)
  exact g_to r5 _ rfl
