/-! ===== the game: the component ===== -/
def gre (f : Nat → Nat) : Nat → Nat
  | 0 => 0
  | n + 1 => if f (gre f n) < f (n + 1) then n + 1 else gre f n
def lea (f : Nat → Nat) : Nat → Nat
  | 0 => 0
  | n + 1 => if f (n + 1) < f (lea f n) then n + 1 else lea f n
theorem gre_le (f : Nat → Nat) : ∀ n, gre f n ≤ n
  | 0 => Nat.le_refl _
  | n + 1 => by have := gre_le f n; unfold gre; split <;> omega
theorem lea_le (f : Nat → Nat) : ∀ n, lea f n ≤ n
  | 0 => Nat.le_refl _
  | n + 1 => by have := lea_le f n; unfold lea; split <;> omega
def gme (a : Nat → Nat) (k : Nat) : Nat → (Nat → Nat) × (Nat → Nat) × (Nat → Nat)
  | 0 => (fun _ => 0, fun _ => 0, fun _ => 0)
  | n + 1 => (fun x => (gme a k n).1 x + tl a k (lea (gme a k n).2.1 (om k - 1)) x, fun x => (gme a k n).2.1 x + tl a k x (gre (gme a k n).1 (k - 1)), aup (gme a k n).2.2 (gre (gme a k n).1 (k - 1)) ((gme a k n).2.2 (gre (gme a k n).1 (k - 1)) + 1))
theorem tl_le {a : Nat → Nat} {k o p : Nat} (v : V1 a) (f : fin a k) (hk : k < 5) (ho : o < om k) (hp : p < k) : tl a k o p ≤ 61440 := by
  have q := ol_ix k hk o ho p hp
  have := pth_le v f (row := ol k o) (fun i hi => (ol_b k hk o ho i hi).2) (ix k o p + 1) (by omega)
  unfold tl
  omega
theorem gme_le {a : Nat → Nat} {k : Nat} (v : V1 a) (f : fin a k) (hk : k < 5) (h1 : 1 ≤ k) : ∀ n, (∀ p, p < k → (gme a k n).1 p ≤ 61440 * n) ∧ (∀ o, o < om k → (gme a k n).2.1 o ≤ 61440 * n) ∧ (∀ p, (gme a k n).2.2 p ≤ n)
  | 0 => ⟨fun _ _ => Nat.le_refl _, fun _ _ => Nat.le_refl _, fun _ => Nat.le_refl _⟩
  | n + 1 => by
    obtain ⟨q1, q2, q3⟩ := gme_le v f hk h1 n
    have ob := om_b k hk h1
    have l1 := lea_le (gme a k n).2.1 (om k - 1)
    have l2 := gre_le (gme a k n).1 (k - 1)
    refine ⟨fun p hp => ?_, fun o ho => ?_, fun p => ?_⟩
    · have := q1 p hp
      have := tl_le v f hk (show lea (gme a k n).2.1 (om k - 1) < om k by omega) hp
      show (gme a k n).1 p + tl a k (lea (gme a k n).2.1 (om k - 1)) p ≤ _
      omega
    · have := q2 o ho
      have := tl_le v f hk ho (show gre (gme a k n).1 (k - 1) < k by omega)
      show (gme a k n).2.1 o + tl a k o (gre (gme a k n).1 (k - 1)) ≤ _
      omega
    · show aup (gme a k n).2.2 (gre (gme a k n).1 (k - 1)) ((gme a k n).2.2 (gre (gme a k n).1 (k - 1)) + 1) p ≤ _
      have := q3 (gre (gme a k n).1 (k - 1))
      have := q3 p
      unfold aup
      split <;> omega
theorem x_idxGreat {d len : Nat} {N : g_M} {Q : g_R} {f : Nat → Nat} (hd : 1 ≤ d) (hl : len ≤ 4) (h1 : 1 ≤ len) (hN : ∀ i, i < len → N 74 i = nI (f i)) (hb : ∀ i, i < len → f i < 2 ^ 31) (h : Q (some (.int (nI (gre f (len - 1))))) N) : g_cal d k_X0_indexOfGreatest [.ref 74, .int (nI len)] N Q := by
  refine g_m hd 4 (fun e he => ?_)
  have loop : ∀ m i, i + 1 + m = len → g_Run (g_cal e) (g_mt S0 k_X0_indexOfGreatest) Q 4 [.ref 74, .int (nI len), .int (nI (gre f i)), .int (nI (i + 1))] [] N := by
    intro m
    induction m with
    | zero =>
      intro i hi
      have e : i = len - 1 := by omega
      subst e
      exact g_go_ 20 (b_ge rfl rfl (by omega) (by omega) (fun _ => h) (fun y => by omega))
    | succ m ih =>
      intro i hi
      have gl := gre_le f i
      have hR := ih (i + 1) (by omega)
      refine g_go_ 20 (b_ge rfl rfl (by omega) (by omega) (fun y => by omega) (fun _ => ⟨i + 1, rfl, by omega, gre f i, rfl, by omega, ?_⟩))
      show (N 74 (i + 1) ≤ N 74 (gre f i) → _) ∧ (¬ N 74 (i + 1) ≤ N 74 (gre f i) → _)
      rw [hN _ (by omega), hN _ (by omega)]
      refine b_le rfl rfl (hb _ (by omega)) (hb _ (by omega)) (fun z => ?_) (fun z => ?_)
      · rw [gre, if_neg (by omega), nI_succ (i + 1)] at hR
        exact g_to hR _ rfl
      · rw [gre, if_pos z, nI_succ (i + 1)] at hR
        exact g_to hR _ rfl
  exact g_to (loop (len - 1) 0 (by omega)) _ rfl
theorem x_idxLeast {d len : Nat} {N : g_M} {Q : g_R} {f : Nat → Nat} (hd : 1 ≤ d) (hl : len ≤ 24) (h1 : 1 ≤ len) (hN : ∀ i, i < len → N 75 i = nI (f i)) (hb : ∀ i, i < len → f i < 2 ^ 31) (h : Q (some (.int (nI (lea f (len - 1))))) N) : g_cal d k_X0_indexOfLeast [.ref 75, .int (nI len)] N Q := by
  refine g_m hd 4 (fun e he => ?_)
  have loop : ∀ m i, i + 1 + m = len → g_Run (g_cal e) (g_mt S0 k_X0_indexOfLeast) Q 4 [.ref 75, .int (nI len), .int (nI (lea f i)), .int (nI (i + 1))] [] N := by
    intro m
    induction m with
    | zero =>
      intro i hi
      have e : i = len - 1 := by omega
      subst e
      exact g_go_ 20 (b_ge rfl rfl (by omega) (by omega) (fun _ => h) (fun y => by omega))
    | succ m ih =>
      intro i hi
      have gl := lea_le f i
      have hR := ih (i + 1) (by omega)
      refine g_go_ 20 (b_ge rfl rfl (by omega) (by omega) (fun y => by omega) (fun _ => ⟨i + 1, rfl, by omega, lea f i, rfl, by omega, ?_⟩))
      show (N 75 (lea f i) ≤ N 75 (i + 1) → _) ∧ (¬ N 75 (lea f i) ≤ N 75 (i + 1) → _)
      rw [hN _ (by omega), hN _ (by omega)]
      refine b_ge rfl rfl (hb _ (by omega)) (hb _ (by omega)) (fun z => ?_) (fun z => ?_)
      · rw [lea, if_neg (by omega), nI_succ (i + 1)] at hR
        exact g_to hR _ rfl
      · rw [lea, if_pos z, nI_succ (i + 1)] at hR
        exact g_to hR _ rfl
  exact g_to (loop (len - 1) 0 (by omega)) _ rfl
def fln (c : Nat) : Nat := if c = 75 then 24 else 4
theorem x_fill {d c : Nat} {N : g_M} {Q : g_R} (hd : 1 ≤ d) (hc : c = 74 ∨ c = 75 ∨ c = 76) (h : ∀ N', (∀ c', c' ≠ c → N' c' = N c') → (∀ i, i < fln c → N' c i = 0) → Q none N') : g_cal d k_J7_fill [.ref c, .int 0] N Q := by
  have key : ∀ (e k : Nat) (R : Nat → g_M → Prop), (∀ i N', i < k → R (i + 1) (g_ms N' c (upd (N' c) i 0)) → R i N') → (∀ N', (∀ c', c' ≠ c → N' c' = N c') → (∀ i, i < k → N' c i = 0) → R k N') → R 0 N := by
    intro e k R hs hz
    have l : ∀ m i N', i + m = k → (∀ c', c' ≠ c → N' c' = N c') → (∀ j, j < i → N' c j = 0) → R i N' := by
      intro m
      induction m with
      | zero =>
        intro i N' hi e1 e2
        have e : i = k := by omega
        subst e
        exact hz N' e1 e2
      | succ m ih =>
        intro i N' hi e1 e2
        refine hs i N' (by omega) (ih (i + 1) _ (by omega) (fun c' hc' => by rw [g_ms_n hc']; exact e1 c' hc') (fun j hj => ?_))
        rw [g_ms_s]
        by_cases q : j = i
        · rw [upd, if_pos q]
        · rw [upd, if_neg q]; exact e2 j (by omega)
    exact l k 0 N (by omega) (fun _ _ => rfl) (fun j hj => by omega)
  refine g_m hd 5 (fun e he => ?_)
  rcases hc with rfl | rfl | rfl
  · have hR := key e 4 (fun i N' => g_Run (g_cal e) (g_mt S0 k_J7_fill) Q 5 [.ref 74, .int 0, .int (nI i), .int (nI 4)] [] N') (fun i N' hi hR => by
      rw [nI_succ] at hR
      exact g_go_ 20 (b_ge rfl rfl (by omega) (by omega) (fun y => by omega) (fun _ => ⟨i, rfl, by omega, g_to hR _ rfl⟩))) (fun N' e1 e2 => g_go_ 20 (b_ge rfl rfl (by omega) (by omega) (fun _ => h N' e1 e2) (fun y => by omega)))
    exact g_to hR _ rfl
  · have hR := key e 24 (fun i N' => g_Run (g_cal e) (g_mt S0 k_J7_fill) Q 5 [.ref 75, .int 0, .int (nI i), .int (nI 24)] [] N') (fun i N' hi hR => by
      rw [nI_succ] at hR
      exact g_go_ 20 (b_ge rfl rfl (by omega) (by omega) (fun y => by omega) (fun _ => ⟨i, rfl, by omega, g_to hR _ rfl⟩))) (fun N' e1 e2 => g_go_ 20 (b_ge rfl rfl (by omega) (by omega) (fun _ => h N' e1 e2) (fun y => by omega)))
    exact g_to hR _ rfl
  · have hR := key e 4 (fun i N' => g_Run (g_cal e) (g_mt S0 k_J7_fill) Q 5 [.ref 76, .int 0, .int (nI i), .int (nI 4)] [] N') (fun i N' hi hR => by
      rw [nI_succ] at hR
      exact g_go_ 20 (b_ge rfl rfl (by omega) (by omega) (fun y => by omega) (fun _ => ⟨i, rfl, by omega, g_to hR _ rfl⟩))) (fun N' e1 e2 => g_go_ 20 (b_ge rfl rfl (by omega) (by omega) (fun _ => h N' e1 e2) (fun y => by omega)))
    exact g_to hR _ rfl
theorem x_addTells {d k p o : Nat} {N : g_M} {Q : g_R} {a f g : Nat → Nat} (hd : 1 ≤ d) (hk : k < 5) (h1 : 1 ≤ k) (hp : p < k) (ho : o < om k) (q4 : N 72 4 = nI k) (q5 : N 72 5 = nI (om k)) (ht : TL N a k (om k)) (hf : ∀ i, i < k → N 74 i = nI (f i)) (hg : ∀ i, i < om k → N 75 i = nI (g i)) (h : ∀ N', (∀ c, c ≠ 74 → c ≠ 75 → N' c = N c) → (∀ i, i < k → N' 74 i = nI (f i + tl a k o i)) → (∀ i, i < om k → N' 75 i = nI (g i + tl a k i p)) → Q none N') : g_cal d k_X0_addTells [.ref 72, .int (nI p), .int (nI o)] N Q := by
  have ob := om_b k hk h1
  refine g_m hd 2 (fun e he => ?_)
  have l2 : ∀ m i N', i + m = om k → (∀ c, c ≠ 74 → c ≠ 75 → N' c = N c) → (∀ i, i < k → N' 74 i = nI (f i + tl a k o i)) → (∀ j, j < om k → N' 75 j = nI (if j < i then g j + tl a k j p else g j)) → g_Run (g_cal e) (g_mt S0 k_X0_addTells) Q 37 [.ref 72, .int (nI p), .int (nI o), .int (nI i)] [] N' := by
    intro m
    induction m with
    | zero =>
      intro i N' hi e1 e2 e3
      have e : i = om k := by omega
      subst e
      exact g_go_ 20 (b_ge rfl (by rw [e1 72 (by decide) (by decide)]; exact q5) (by omega) (by omega) (fun _ => h N' e1 e2 (fun i hi => by rw [e3 i hi, if_pos hi])) (fun y => by omega))
    | succ m ih =>
      intro i N' hi e1 e2 e3
      refine g_go_ 30 (b_ge rfl (by rw [e1 72 (by decide) (by decide)]; exact q5) (by omega) (by omega) (fun y => by omega) (fun _ => ⟨i, rfl, by omega, i * 4 + p, ia (im rfl rfl) rfl, by omega, i, rfl, by omega, ?_⟩))
      obtain ⟨N2, hN2⟩ : ∃ N2, N2 = g_ms N' 75 (upd (N' 75) i (N' 75 i + N' 73 (i * 4 + p))) := ⟨_, rfl⟩
      have hR := ih (i + 1) N2 (by omega) (fun c c1 c2 => by rw [hN2, g_ms_n c2]; exact e1 c c1 c2) (fun j hj => by rw [hN2, g_ms_n (by decide)]; exact e2 j hj) (fun j hj => by
        rw [hN2, g_ms_s]
        by_cases c : j = i
        · subst c
          rw [upd, if_pos rfl, if_pos (by omega), e3 j hj, if_neg (by omega), e1 73 (by decide) (by decide), show j * 4 + p = 4 * j + p by omega, ht j hj p hp, nI_add]
        · rw [upd, if_neg c, e3 j hj]
          by_cases q : j < i
          · rw [if_pos q, if_pos (by omega)]
          · rw [if_neg q, if_neg (by omega)])
      rw [hN2, nI_succ] at hR
      exact g_to hR _ rfl
  have l1 : ∀ m i N', i + m = k → (∀ c, c ≠ 74 → N' c = N c) → (∀ j, j < k → N' 74 j = nI (if j < i then f j + tl a k o j else f j)) → g_Run (g_cal e) (g_mt S0 k_X0_addTells) Q 2 [.ref 72, .int (nI p), .int (nI o), .int (nI i)] [] N' := by
    intro m
    induction m with
    | zero =>
      intro i N' hi e1 e2
      have e : i = k := by omega
      subst e
      have hR := l2 (om i) 0 N' (by omega) (fun c c1 c2 => e1 c c1) (fun j hj => by rw [e2 j hj, if_pos hj]) (fun j hj => by rw [e1 75 (by decide), if_neg (by omega)]; exact hg j hj)
      exact g_go_ 20 (b_ge rfl (by rw [e1 72 (by decide)]; exact q4) (by omega) (by omega) (fun _ => g_to hR _ rfl) (fun y => by omega))
    | succ m ih =>
      intro i N' hi e1 e2
      refine g_go_ 30 (b_ge rfl (by rw [e1 72 (by decide)]; exact q4) (by omega) (by omega) (fun y => by omega) (fun _ => ⟨i, rfl, by omega, o * 4 + i, ia (im rfl rfl) rfl, by omega, i, rfl, by omega, ?_⟩))
      obtain ⟨N2, hN2⟩ : ∃ N2, N2 = g_ms N' 74 (upd (N' 74) i (N' 74 i + N' 73 (o * 4 + i))) := ⟨_, rfl⟩
      have hR := ih (i + 1) N2 (by omega) (fun c c1 => by rw [hN2, g_ms_n c1]; exact e1 c c1) (fun j hj => by
        rw [hN2, g_ms_s]
        by_cases c : j = i
        · subst c
          rw [upd, if_pos rfl, if_pos (by omega), e2 j hj, if_neg (by omega), e1 73 (by decide), show o * 4 + j = 4 * o + j by omega, ht o ho j hj, nI_add]
        · rw [upd, if_neg c, e2 j hj]
          by_cases q : j < i
          · rw [if_pos q, if_pos (by omega)]
          · rw [if_neg q, if_neg (by omega)])
      rw [hN2, nI_succ] at hR
      exact g_to hR _ rfl
  exact g_to (l1 k 0 N (by omega) (fun _ _ => rfl) (fun j hj => by rw [if_neg (by omega)]; exact hf j hj)) _ rfl
/-- the whole game -/
def GR (N : g_M) (k : Nat) (s : (Nat → Nat) × (Nat → Nat) × (Nat → Nat)) : Prop := (∀ p, p < k → N 74 p = nI (s.1 p)) ∧ (∀ o, o < om k → N 75 o = nI (s.2.1 o)) ∧ (∀ p, p < k → N 76 p = nI (s.2.2 p))
def FG (M N : g_M) : Prop := ∀ c, c ≠ 72 → c ≠ 73 → c ≠ 74 → c ≠ 75 → c ≠ 76 → c ≠ 77 → c ≠ 78 → N c = M c
theorem x_gplay {d k n : Nat} {M : g_M} {Q : g_R} {a : Nat → Nat} (hd : 4 ≤ d) (hk : k < 5) (h1 : 1 ≤ k) (hn : n ≤ 60) (v : V1 a) (f : fin a k) (g1 : GX1 M 2 a) (g2 : GX2 M 2 a) (h : ∀ N, FG M N → N 72 4 = nI k → N 72 5 = nI (om k) → GR N k (gme a k n) → Q none N) : g_cal d k_X0_play [.ref 72, .ref 2, .ref 77, .int (nI k), .int (nI n)] M Q := by
  have ob := om_b k hk h1
  refine g_m (by omega) 6 (fun e he => ?_)
  have loop : ∀ m i N u6 u7, i + m = n → FG M N → N 72 4 = nI k → N 72 5 = nI (om k) → TL N a k (om k) → GR N k (gme a k i) → g_Run (g_cal e) (g_mt S0 k_X0_play) Q 42 [.ref 72, .ref 2, .ref 77, .int (nI k), .int (nI n), .int (nI i), u6, u7] [] N := by
    intro m
    induction m with
    | zero =>
      intro i N u6 u7 hi e1 e2 e3 e4 e5
      have e : i = n := by omega
      subst e
      exact g_go_ 20 (b_ge rfl rfl (by omega) (by omega) (fun _ => h N e1 e2 e3 e5) (fun y => by omega))
    | succ m ih =>
      intro i N u6 u7 hi e1 e2 e3 e4 e5
      obtain ⟨q1, q2, q3⟩ := gme_le v f hk h1 i
      have l1 := lea_le (gme a k i).2.1 (om k - 1)
      have l2 := gre_le (gme a k i).1 (k - 1)
      obtain ⟨r1, r2, r3⟩ := e5
      have cG : ∀ Q' : g_R, Q' (some (.int (nI (gre (gme a k i).1 (k - 1))))) N → g_cal e k_X0_indexOfGreatest [.ref 74, .int (N 72 4)] N Q' := fun Q' hq => by
        rw [e2]; exact x_idxGreat (by omega) (by omega) h1 r1 (fun j hj => by have := q1 j hj; omega) hq
      have cL : ∀ Q' : g_R, Q' (some (.int (nI (lea (gme a k i).2.1 (om k - 1))))) N → g_cal e k_X0_indexOfLeast [.ref 75, .int (N 72 5)] N Q' := fun Q' hq => by
        rw [e3]; exact x_idxLeast (by omega) (by omega) (by omega) r2 (fun j hj => by have := q2 j hj; omega) hq
      refine g_go_ 60 (b_ge rfl rfl (by omega) (by omega) (fun y => by omega) (fun _ => cG _ (cL _ ⟨gre (gme a k i).1 (k - 1), rfl, by omega, gre (gme a k i).1 (k - 1), rfl, by omega, ?_⟩)))
      obtain ⟨N2, hN2⟩ : ∃ N2, N2 = g_ms N 76 (upd (N 76) (gre (gme a k i).1 (k - 1)) (N 76 (gre (gme a k i).1 (k - 1)) + 1)) := ⟨_, rfl⟩
      have cA : ∀ Q' : g_R, (∀ N', (∀ c, c ≠ 74 → c ≠ 75 → N' c = N2 c) → (∀ j, j < k → N' 74 j = nI ((gme a k i).1 j + tl a k (lea (gme a k i).2.1 (om k - 1)) j)) → (∀ j, j < om k → N' 75 j = nI ((gme a k i).2.1 j + tl a k j (gre (gme a k i).1 (k - 1)))) → Q' none N') → g_cal e k_X0_addTells [.ref 72, .int (nI (gre (gme a k i).1 (k - 1))), .int (nI (lea (gme a k i).2.1 (om k - 1)))] N2 Q' := fun Q' hq =>
        x_addTells (by omega) hk h1 (by omega) (by omega) (by rw [hN2, g_ms_n (by decide)]; exact e2) (by rw [hN2, g_ms_n (by decide)]; exact e3) (fun o' ho' p hp => by rw [hN2, g_ms_n (by decide)]; exact e4 o' ho' p hp) (fun j hj => by rw [hN2, g_ms_n (by decide)]; exact r1 j hj) (fun j hj => by rw [hN2, g_ms_n (by decide)]; exact r2 j hj) hq
      rw [hN2] at cA
      refine cA _ (fun N3 t1 t2 t3 => ?_)
      rw [← hN2] at t1
      have hR := ih (i + 1) N3 (.int (nI (gre (gme a k i).1 (k - 1)))) (.int (nI (lea (gme a k i).2.1 (om k - 1)))) (by omega) (fun c c1 c2 c3 c4 c5 c6 c7 => by rw [t1 c c3 c4, hN2, g_ms_n c5]; exact e1 c c1 c2 c3 c4 c5 c6 c7) (by rw [t1 72 (by decide) (by decide), hN2, g_ms_n (by decide)]; exact e2) (by rw [t1 72 (by decide) (by decide), hN2, g_ms_n (by decide)]; exact e3) (fun o' ho' p hp => by rw [t1 73 (by decide) (by decide), hN2, g_ms_n (by decide)]; exact e4 o' ho' p hp) ⟨fun p hp => t2 p hp, fun o ho => t3 o ho, fun p hp => by
        rw [t1 76 (by decide) (by decide), hN2, g_ms_s]
        show upd (N 76) (gre (gme a k i).1 (k - 1)) (N 76 (gre (gme a k i).1 (k - 1)) + 1) p = nI (aup (gme a k i).2.2 (gre (gme a k i).1 (k - 1)) ((gme a k i).2.2 (gre (gme a k i).1 (k - 1)) + 1) p)
        unfold upd aup
        by_cases c : p = gre (gme a k i).1 (k - 1)
        · rw [if_pos c, if_pos c, r3 _ (by omega)]; exact (nI_succ _).symm
        · rw [if_neg c, if_neg c]; exact r3 p hp⟩
      rw [nI_succ] at hR
      exact g_to hR _ rfl
  have hm : (if (4 : Int32) < nI k then (4 : Int32) else nI k) = nI k := by
    rw [if_neg (fun z => by have := (ilt (a := 4) (b := k) rfl rfl (by decide) (by omega)).mp z; omega)]
  obtain ⟨N1, hN1⟩ : ∃ N1, N1 = g_ms M 72 (upd (M 72) 4 (nI k)) := ⟨_, rfl⟩
  have r9 : g_Run (g_cal e) (g_mt S0 k_X0_play) Q 9 [.ref 72, .ref 2, .ref 77, .int (nI k), .int (nI n), .null, .null, .null] [] N1 := by
    refine g_go_ 40 (x_fill (by omega) (Or.inl rfl) (fun N2 f1 f2 => ?_))
    refine x_fill (by omega) (Or.inr (Or.inl rfl)) (fun N3 f3 f4 => ?_)
    refine x_fill (by omega) (Or.inr (Or.inr rfl)) (fun N4 f5 f6 => ?_)
    have eN : ∀ c, c ≠ 74 → c ≠ 75 → c ≠ 76 → N4 c = N1 c := fun c c1 c2 c3 => by rw [f5 c c3, f3 c c2, f1 c c1]
    have eM : ∀ c, c ≠ 72 → c ≠ 74 → c ≠ 75 → c ≠ 76 → N4 c = M c := fun c c0 c1 c2 c3 => by rw [eN c c1 c2 c3, hN1, g_ms_n c0]
    refine x_tellAll (by omega) hk h1 v f (g1.fr (fun c c1 c2 => eM c (by omega) (by omega) (by omega) (by omega))) (g2.fr (fun c c1 c2 => eM c (by omega) (by omega) (by omega) (by omega))) (by rw [eN 72 (by decide) (by decide) (by decide), hN1, g_ms_s]; rfl) (fun N5 t1 t2 t3 t4 => ?_)
    have hR := loop n 0 N5 .null .null (by omega) (fun c c1 c2 c3 c4 c5 c6 c7 => by rw [t1 c c1 c2 c6 c7]; exact eM c c1 c3 c4 c5) t2 t3 t4 ⟨fun p hp => by rw [t1 74 (by decide) (by decide) (by decide) (by decide), f5 74 (by decide), f3 74 (by decide)]; exact f2 p (by show p < 4; omega), fun o ho => by rw [t1 75 (by decide) (by decide) (by decide) (by decide), f5 75 (by decide)]; exact f4 o (by show o < 24; omega), fun p hp => by rw [t1 76 (by decide) (by decide) (by decide) (by decide)]; exact f6 p (by show p < 4; omega)⟩
    exact g_to hR _ rfl
  have r9' : g_Run (g_cal e) (g_mt S0 k_X0_play) Q 9 [.ref 72, .ref 2, .ref 77, .int (nI k), .int (nI n), .null, .null, .null] [] (g_ms M 72 (upd (M 72) 4 (if (4 : Int32) < nI k then (4 : Int32) else nI k))) := by rw [hm, ← hN1]; exact r9
  exact g_to r9' _ rfl
