/-! ===== all seen: the component ===== -/
def oI : Option Nat → Int32
  | none => -9
  | some v => nI v
def CR (N : g_M) (C : Nat → Nat → Option Nat) : Prop := ∀ s l, s < 256 → s.testBit 0 = true → l < 8 → N 71 (s / 2 * 8 + l) = oI (C s l)
def cup (C : Nat → Nat → Option Nat) (s l : Nat) (o : Option Nat) : Nat → Nat → Option Nat := fun s' l' => if s' = s ∧ l' = l then o else C s' l'
theorem tb0 {s : Nat} (h : s.testBit 0 = true) : s % 2 = 1 := by
  rw [Nat.testBit_zero] at h
  exact of_decide_eq_true h
theorem CR.set {N : g_M} {C : Nat → Nat → Option Nat} {s l w : Nat} {x : Int32} (h : CR N C) (hs : s.testBit 0 = true) (hl : l < 8) (hx : x = nI w) : CR (g_ms N 71 (upd (N 71) (s / 2 * 8 + l) x)) (cup C s l (some w)) := by
  intro s' l' h1 h2 h3
  have := tb0 hs
  have := tb0 h2
  rw [g_ms_s]
  unfold upd cup
  by_cases c : s' = s ∧ l' = l
  · obtain ⟨rfl, rfl⟩ := c
    rw [if_pos rfl, if_pos ⟨rfl, rfl⟩]; exact hx
  · rw [if_neg c, if_neg (fun z => c (by omega))]; exact h s' l' h1 h2 h3
theorem x_slotOf {d s l : Nat} {M : g_M} {Q : g_R} (hd : 1 ≤ d) (hs : s < 2 ^ 31) (h : Q (some (.int (nI (s / 2 * 8 + l)))) M) : g_cal d k_X6_slotOf [.int (nI s), .int (nI l)] M Q := by
  have e2 : nI s >>> ((1 : Int32) &&& 31) = nI (s / 2) := n_shr (b := s) (i := 1) hs (by decide)
  have e3 : (nI s >>> ((1 : Int32) &&& 31)) * 8 + nI l = nI (s / 2 * 8 + l) := by rw [e2]; exact ia (im rfl rfl) rfl
  rw [← e3] at h
  exact g_m hd 20 (fun e he => h)
theorem x_toCome {d : Nat} {M : g_M} {Q : g_R} {a : Nat → Nat} (hd : 2 ≤ d) (v : V1 a) (g1 : GX1 M 2 a) (g2 : GX2 M 2 a) (h : Q (some (.int (nI (rcS a)))) M) : g_cal d k_X6_placesToCome [.ref 2] M Q := by
  have b0 : a 0 ≤ 8 := v.2.1
  have b1 : 1 ≤ a 0 := v.1
  refine g_m (by omega) 4 (fun e he => ?_)
  have key : g_Run (g_cal e) (g_mt S0 k_X6_placesToCome) Q 4 [.ref 2, .int (nI 0), .int (nI 0)] [] M := by
    refine g_loop (fun p s => g_Run (g_cal e) (g_mt S0 k_X6_placesToCome) Q 4 [.ref 2, .int (nI s), .int (nI p)] [] M) (fun _ _ => True) (rcF a) (a 0) ?_ (fun _ _ _ _ => trivial) (a 0) 0 0 (by omega) trivial (fun _ => ?_)
    · intro p s hp _ hR
      unfold rcF at hR
      rw [nI_succ, ← n_or] at hR
      refine g_go_ 30 (b_ge rfl g1.1 (by omega) (by omega) (fun z => by omega) (fun _ => ?_))
      refine x_distance (by omega) v g1 g2 0 p (by omega) hp ?_
      by_cases c : ds a 0 p < 100000
      · rw [cD_in c]
        rw [if_pos c, ← n_shl (by omega)] at hR
        exact b_nt (n_ne9 (by omega)) (g_to hR _ rfl)
      · rw [cD_no c]
        rw [if_neg c] at hR
        exact b_nf rfl (g_to hR _ rfl)
    · exact g_go_ 20 (b_ge rfl g1.1 (by omega) (by omega) (fun _ => h) (fun z => by omega))
  exact g_to key _ rfl
theorem x_fill9 {d : Nat} {N : g_M} {Q : g_R} (hd : 1 ≤ d) (h : ∀ N', (∀ c', c' ≠ 71 → N' c' = N c') → (∀ i, i < 1024 → N' 71 i = -9) → Q none N') : g_cal d k_J7_fill [.ref 71, .int (-9)] N Q := by
  refine g_m hd 5 (fun e he => ?_)
  have loop : ∀ m i N', i + m = 1024 → (∀ c', c' ≠ 71 → N' c' = N c') → (∀ j, j < i → N' 71 j = -9) → g_Run (g_cal e) (g_mt S0 k_J7_fill) Q 5 [.ref 71, .int (-9), .int (nI i), .int (nI 1024)] [] N' := by
    intro m
    induction m with
    | zero =>
      intro i N' hi e1 e2
      exact g_go_ 20 (b_ge rfl rfl (by omega) (by omega) (fun _ => h N' e1 (fun j hj => e2 j (by omega))) (fun y => by omega))
    | succ m ih =>
      intro i N' hi e1 e2
      obtain ⟨N2, hN2⟩ : ∃ N2, N2 = g_ms N' 71 (upd (N' 71) i (-9)) := ⟨_, rfl⟩
      have hR := ih (i + 1) N2 (by omega) (fun c' hc' => by rw [hN2, g_ms_n hc']; exact e1 c' hc') (fun j hj => by
        rw [hN2, g_ms_s]
        by_cases q : j = i
        · rw [upd, if_pos q]
        · rw [upd, if_neg q]; exact e2 j (by omega))
      rw [hN2, nI_succ] at hR
      exact g_go_ 20 (b_ge rfl rfl (by omega) (by omega) (fun y => by omega) (fun _ => ⟨i, rfl, by omega, g_to hR _ rfl⟩))
  exact g_to (loop 1024 0 N (by omega) (fun _ _ => rfl) (fun j hj => by omega)) _ rfl
/-- on from one set -/
def G1 (a : Nat → Nat) (C C' : Nat → Nat → Option Nat) (set last sec x : Nat) : Prop := ∀ s l, C' s l = C s l ∨ ∃ q, 1 ≤ q ∧ q < x ∧ q < a 0 ∧ set.testBit q = false ∧ ds a last q < 100000 ∧ s = set ||| 2 ^ q ∧ l = q ∧ C' s l = some (sec + ds a last q) ∧ ∀ w, C s l = some w → sec + ds a last q < w
def G2 (a : Nat → Nat) (C' : Nat → Nat → Option Nat) (set last sec x : Nat) : Prop := ∀ q, 1 ≤ q → q < x → q < a 0 → set.testBit q = false → ds a last q < 100000 → ∃ w, C' (set ||| 2 ^ q) q = some w ∧ w ≤ sec + ds a last q
theorem x_goFurther {d set last sec : Nat} {M : g_M} {Q : g_R} {a : Nat → Nat} {C : Nat → Nat → Option Nat} (hd : 2 ≤ d) (v : V1 a) (g1 : GX1 M 2 a) (g2 : GX2 M 2 a) (hs : set < 2 ^ a 0) (hs0 : set.testBit 0 = true) (hl : last < a 0) (hc : sec ≤ 130000) (hC : CR M C) (hB : ∀ s l w, C s l = some w → w ≤ 130000) (h : ∀ N C', (∀ c, c ≠ 71 → N c = M c) → CR N C' → G1 a C C' set last sec (a 0) → G2 a C' set last sec (a 0) → Q none N) : g_cal d k_X6_goFurther [.ref 70, .ref 2, .int (nI set), .int (nI last), .int (nI sec)] M Q := by
  have b0 : a 0 ≤ 8 := v.2.1
  have b1 : 1 ≤ a 0 := v.1
  have pl : 2 ^ a 0 ≤ 256 := Nat.pow_le_pow_right (n := 2) (by decide) b0
  refine g_m (by omega) 3 (fun e he => ?_)
  have loop : ∀ m x N C' u6 u7, x + m = a 0 → 1 ≤ x → (∀ c, c ≠ 71 → N c = M c) → CR N C' → G1 a C C' set last sec x → G2 a C' set last sec x → g_Run (g_cal e) (g_mt S0 k_X6_goFurther) Q 3 [.ref 70, .ref 2, .int (nI set), .int (nI last), .int (nI sec), .int (nI x), u6, u7] [] N := by
    intro m
    induction m with
    | zero =>
      intro x N C' u6 u7 hx hx1 e1 e2 e3 e4
      have ex : x = a 0 := by omega
      subst ex
      exact g_go_ 20 (b_ge rfl (by rw [e1 2 (by decide)]; exact g1.1) (by omega) (by omega) (fun _ => h N C' e1 e2 e3 e4) (fun y => by omega))
    | succ m ih =>
      intro x N C' u6 u7 hx hx1 e1 e2 e3 e4
      have xa : x < a 0 := by omega
      have skip : ¬ (set.testBit x = false ∧ ds a last x < 100000) → ∀ x6 u7, g_Run (g_cal e) (g_mt S0 k_X6_goFurther) Q 92 [.ref 70, .ref 2, .int (nI set), .int (nI last), .int (nI sec), .int (nI x), .int x6, u7] [] N := by
        intro hn x6 u7
        have hR := ih (x + 1) N C' (.int x6) u7 (by omega) (by omega) e1 e2 (fun s l => by
          rcases e3 s l with y | ⟨q, q1, q2, q3⟩
          · exact Or.inl y
          · exact Or.inr ⟨q, q1, by omega, q3⟩) (fun q q1 q2 q3 q4 q5 => by
          by_cases c : q = x
          · subst c; exact absurd ⟨q4, q5⟩ hn
          · exact e4 q q1 (by omega) q3 q4 q5)
        rw [nI_succ] at hR
        exact g_go_ 3 (g_to hR _ rfl)
      refine g_go_ 80 (b_ge rfl (by rw [e1 2 (by decide)]; exact g1.1) (by omega) (by omega) (fun y => by omega) (fun _ => ?_))
      refine x_distance (by omega) v (g1.fr (fun c c1 c2 => e1 c (by omega))) (g2.fr (fun c c1 c2 => e1 c (by omega))) last x hl xa ?_
      refine x_hasBit (by omega) set x rfl rfl (by omega) (by omega) ?_
      refine b_nz (fun y => g_to (skip (fun z => by rw [y] at z; exact absurd z.1 (by decide)) _ u7) _ rfl) (fun y => ?_)
      by_cases c : ds a last x < 100000
      · rw [cD_in c]
        refine b_nt (n_ne9 (by omega)) ?_
        have so : (set ||| 2 ^ x).testBit 0 = true := sub_l _ _ 0 hs0
        have sl : set ||| 2 ^ x < 256 := Nat.lt_of_lt_of_le (Nat.or_lt_two_pow hs (Nat.pow_lt_pow_right (by decide) xa)) pl
        have hsl := e2 (set ||| 2 ^ x) x sl so (by omega)
        have hds := ds_b v c
        have hor : nI set ||| ((1 : Int32) <<< (nI x &&& 31)) = nI (set ||| 2 ^ x) := by rw [show (1 : Int32) <<< (nI x &&& 31) = nI (2 ^ x) from n_shl (by omega), n_or]
        have cs : ∀ Q' : g_R, Q' (some (.int (nI ((set ||| 2 ^ x) / 2 * 8 + x)))) N → g_cal e k_X6_slotOf [.int (nI set ||| ((1 : Int32) <<< (nI x &&& 31))), .int (nI x)] N Q' := fun Q' hq => by rw [hor]; exact x_slotOf (by omega) (by omega) hq
        refine cs _ ⟨(set ||| 2 ^ x) / 2 * 8 + x, rfl, by omega, ?_⟩
        -- it is written
        have put : (∀ w, C' (set ||| 2 ^ x) x = some w → sec + ds a last x < w) → g_Run (g_cal e) (g_mt S0 k_X6_goFurther) Q 80 [.ref 70, .ref 2, .int (nI set), .int (nI last), .int (nI sec), .int (nI x), .int (nI (ds a last x)), .int (nI ((set ||| 2 ^ x) / 2 * 8 + x))] [] N := by
          intro hw
          obtain ⟨N2, hN2⟩ : ∃ N2, N2 = g_ms N 71 (upd (N 71) ((set ||| 2 ^ x) / 2 * 8 + x) (nI sec + nI (ds a last x))) := ⟨_, rfl⟩
          have hR := ih (x + 1) N2 (cup C' (set ||| 2 ^ x) x (some (sec + ds a last x))) (.int (nI (ds a last x))) (.int (nI ((set ||| 2 ^ x) / 2 * 8 + x))) (by omega) (by omega) (fun c hc => by rw [hN2, g_ms_n hc]; exact e1 c hc) (by rw [hN2]; exact e2.set so (by omega) (nI_add _ _)) (fun s l => by
            by_cases cc : s = set ||| 2 ^ x ∧ l = x
            · obtain ⟨rfl, rfl⟩ := cc
              refine Or.inr ⟨l, hx1, by omega, xa, y, c, rfl, rfl, by unfold cup; rw [if_pos ⟨rfl, rfl⟩], fun w hw2 => ?_⟩
              rcases e3 (set ||| 2 ^ l) l with z | ⟨q, q1, q2, q3, q4, q5, q6, q7, q8⟩
              · exact hw w (by rw [z]; exact hw2)
              · omega
            · have hcu : cup C' (set ||| 2 ^ x) x (some (sec + ds a last x)) s l = C' s l := by unfold cup; rw [if_neg cc]
              rw [hcu]
              rcases e3 s l with z | ⟨q, q1, q2, q3⟩
              · exact Or.inl z
              · exact Or.inr ⟨q, q1, by omega, q3⟩) (fun q q1 q2 q3 q4 q5 => by
            by_cases cq : q = x
            · subst cq
              exact ⟨_, by unfold cup; rw [if_pos ⟨rfl, rfl⟩], Nat.le_refl _⟩
            · obtain ⟨w, w1, w2⟩ := e4 q q1 (by omega) q3 q4 q5
              exact ⟨w, by unfold cup; rw [if_neg (fun z => cq z.2)]; exact w1, w2⟩)
          rw [hN2, nI_succ] at hR
          exact g_go_ 20 ⟨(set ||| 2 ^ x) / 2 * 8 + x, rfl, by omega, g_to hR _ rfl⟩
        cases ho : C' (set ||| 2 ^ x) x with
        | none =>
          rw [ho] at hsl
          refine b_t hsl (g_to (put (fun w hw => by rw [ho] at hw; exact absurd hw (by simp))) _ rfl)
        | some w =>
          rw [ho] at hsl
          have hsl' : N 71 ((set ||| 2 ^ x) / 2 * 8 + x) = nI w := hsl
          have hwb : w ≤ 130480 := by
            rcases e3 (set ||| 2 ^ x) x with z | ⟨q, q1, q2, q3, q4, q5, q6, q7, q8, q9⟩
            · rw [z] at ho; have := hB _ _ _ ho; omega
            · omega
          refine b_f (by rw [hsl']; exact n_ne9 (by omega)) ⟨(set ||| 2 ^ x) / 2 * 8 + x, rfl, by omega, ?_⟩
          show (N 71 ((set ||| 2 ^ x) / 2 * 8 + x) ≤ nI sec + nI (ds a last x) → _) ∧ (¬ N 71 ((set ||| 2 ^ x) / 2 * 8 + x) ≤ nI sec + nI (ds a last x) → _)
          refine b_ge (nI_add _ _) hsl' (by omega) (by omega) (fun z => ?_) (fun z => ?_)
          · have hR := ih (x + 1) N C' (.int (nI (ds a last x))) (.int (nI ((set ||| 2 ^ x) / 2 * 8 + x))) (by omega) (by omega) e1 e2 (fun s l => by
              rcases e3 s l with y | ⟨q, q1, q2, q3⟩
              · exact Or.inl y
              · exact Or.inr ⟨q, q1, by omega, q3⟩) (fun q q1 q2 q3 q4 q5 => by
              by_cases cq : q = x
              · subst cq; exact ⟨w, ho, z⟩
              · exact e4 q q1 (by omega) q3 q4 q5)
            rw [nI_succ] at hR
            exact g_to hR _ rfl
          · exact g_to (put (fun w' hw' => by rw [ho] at hw'; have := Option.some.inj hw'; omega)) _ rfl
      · rw [cD_no c]
        exact b_nf rfl (g_to (skip (fun z => c z.2) _ u7) _ rfl)
  exact g_to (loop (a 0 - 1) 1 M C .null .null (by omega) (by omega) (fun _ _ => rfl) hC (fun _ _ => Or.inl rfl) (fun q q1 q2 => by omega)) _ rfl
