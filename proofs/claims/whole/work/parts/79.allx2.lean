/-! ===== all seen: the component finds the least ===== -/
def sa (a : Nat → Nat) (s : Nat) : Prop := sn a s &&& gl a = gl a
theorem sa_sub {a : Nat → Nat} {s : Nat} (h : sa a s) : sub (gl a) (sn a s) := fun b hb => by
  have : (sn a s &&& gl a).testBit b = true := by rw [h]; exact hb
  rw [Nat.testBit_and, Bool.and_eq_true] at this
  exact this.1
theorem sa_eq {a : Nat → Nat} {s : Nat} (h : sn a s = gl a) : sa a s := by
  unfold sa
  rw [h, Nat.and_self]
theorem or_gt {s q : Nat} (h : s.testBit q = false) : s < s ||| 2 ^ q := by
  have h5 : s ≤ s ||| 2 ^ q := Nat.left_le_or
  rcases Nat.lt_or_ge s (s ||| 2 ^ q) with h6 | h6
  · exact h6
  · exfalso
    have h7 : s ||| 2 ^ q = s := by omega
    have h8 := sub_r s (2 ^ q) q (by rw [pw_tb]; exact decide_eq_true rfl)
    rw [h7, h] at h8
    exact absurd h8 (by decide)
/-- what holds as sets are gone through: up to set k, place l -/
def PC (k l s t : Nat) : Prop := s < k ∨ (s = k ∧ t < l)
def DV (a : Nat → Nat) (C : Nat → Nat → Option Nat) (b : Option Nat) (k l : Nat) : Prop :=
  (∀ s t w, C s t = some w → ∃ m, sq a m s t w) ∧ C 1 0 = some 0 ∧
  (∀ s t w, PC k l s t → C s t = some w → ¬ sa a s → ∀ q, 1 ≤ q → q < a 0 → s.testBit q = false → ds a t q < 100000 → ∃ w', C (s ||| 2 ^ q) q = some w' ∧ w' ≤ w + ds a t q) ∧
  (∀ s t w, PC k l s t → C s t = some w → sa a s → ∃ b', b = some b' ∧ b' ≤ w) ∧
  (∀ b', b = some b' → ∃ m s t, sa a s ∧ sq a m s t b')
theorem DV.bd {a : Nat → Nat} {C : Nat → Nat → Option Nat} {b : Option Nat} {k l : Nat} (v : V1 a) (h : DV a C b k l) : (∀ s t w, C s t = some w → w ≤ 130000) ∧ ∀ b', b = some b' → b' ≤ 130000 := by
  have b0 : a 0 ≤ 8 := v.2.1
  have pl : 2 ^ a 0 ≤ 256 := Nat.pow_le_pow_right (n := 2) (by decide) b0
  refine ⟨fun s t w hw => ?_, fun b' hb => ?_⟩
  · obtain ⟨m, hm⟩ := h.1 s t w hw
    obtain ⟨-, q2, q3, -, -, q6⟩ := sq_ok v _ _ _ _ hm
    omega
  · obtain ⟨m, s, t, -, hm⟩ := h.2.2.2.2 b' hb
    obtain ⟨-, q2, q3, -, -, q6⟩ := sq_ok v _ _ _ _ hm
    omega
theorem DV.go {a : Nat → Nat} {C C' : Nat → Nat → Option Nat} {b : Option Nat} {k l w : Nat} (h : DV a C b k l) (hw : C k l = some w) (hn : ¬ sa a k) (h1 : G1 a C C' k l w (a 0)) (h2 : G2 a C' k l w (a 0)) : DV a C' b k (l + 1) := by
  obtain ⟨d1, d2, d3, d4, d5⟩ := h
  have old : ∀ s t, PC k (l + 1) s t → C' s t = C s t := fun s t hp => by
    rcases h1 s t with y | ⟨q, q1, q2, q3, q4, q5, q6, q7, q8⟩
    · exact y
    · have := or_gt q4
      unfold PC at hp
      omega
  refine ⟨fun s t w' hw' => ?_, ?_, fun s t w' hp hw' hs q q1 q2 q3 q4 => ?_, fun s t w' hp hw' hs => ?_, d5⟩
  · rcases h1 s t with y | ⟨q, q1, q2, q3, q4, q5, rfl, rfl, q8, q9⟩
    · rw [y] at hw'; exact d1 s t w' hw'
    · rw [q8] at hw'
      have e := Option.some.inj hw'
      obtain ⟨m, hm⟩ := d1 _ _ _ hw
      exact ⟨m + 1, k, l, w, hm, q3, q4, rfl, q5, e.symm⟩
  · rcases h1 1 0 with y | ⟨q, q1, q2, q3, q4, q5, q6, q7, q8⟩
    · rw [y]; exact d2
    · omega
  · rw [old s t hp] at hw'
    by_cases c : s = k ∧ t = l
    · obtain ⟨rfl, rfl⟩ := c
      have e : w' = w := Option.some.inj (hw'.symm.trans hw)
      subst e
      exact h2 q q1 q2 q2 q3 q4
    · have hp' : PC k l s t := by unfold PC at hp ⊢; omega
      obtain ⟨w2, p1, p2⟩ := d3 s t w' hp' hw' hs q q1 q2 q3 q4
      rcases h1 (s ||| 2 ^ q) q with y | ⟨q', -, -, -, -, -, -, -, q8, q9⟩
      · exact ⟨w2, by rw [y]; exact p1, p2⟩
      · have := q9 w2 p1
        exact ⟨_, q8, by omega⟩
  · rw [old s t hp] at hw'
    by_cases c : s = k ∧ t = l
    · obtain ⟨rfl, rfl⟩ := c
      exact absurd hs hn
    · exact d4 s t w' (by unfold PC at hp ⊢; omega) hw' hs
theorem DV.skip {a : Nat → Nat} {C : Nat → Nat → Option Nat} {b : Option Nat} {k l : Nat} (h : DV a C b k l) (hw : C k l = none) : DV a C b k (l + 1) := by
  obtain ⟨d1, d2, d3, d4, d5⟩ := h
  have no : ∀ s t w, PC k (l + 1) s t → C s t = some w → PC k l s t := fun s t w hp hc => by
    by_cases c : s = k ∧ t = l
    · obtain ⟨rfl, rfl⟩ := c
      rw [hw] at hc; exact absurd hc (by simp)
    · unfold PC at hp ⊢; omega
  exact ⟨d1, d2, fun s t w hp hc => d3 s t w (no s t w hp hc) hc, fun s t w hp hc => d4 s t w (no s t w hp hc) hc, d5⟩
theorem DV.best {a : Nat → Nat} {C : Nat → Nat → Option Nat} {b b2 : Option Nat} {k l w : Nat} (h : DV a C b k l) (hw : C k l = some w) (hs : sa a k) (hb : (b2 = b ∧ ∃ b', b = some b' ∧ b' ≤ w) ∨ (b2 = some w ∧ ∀ b', b = some b' → w ≤ b')) : DV a C b2 k (l + 1) := by
  obtain ⟨d1, d2, d3, d4, d5⟩ := h
  refine ⟨d1, d2, fun s t w' hp hc hn => ?_, fun s t w' hp hc hn => ?_, fun b' hb' => ?_⟩
  · by_cases c : s = k ∧ t = l
    · obtain ⟨rfl, rfl⟩ := c
      exact absurd hs hn
    · exact d3 s t w' (by unfold PC at hp ⊢; omega) hc hn
  · by_cases c : s = k ∧ t = l
    · obtain ⟨rfl, rfl⟩ := c
      have e : w' = w := Option.some.inj (hc.symm.trans hw)
      subst e
      rcases hb with ⟨rfl, b', e1, e2⟩ | ⟨e1, -⟩
      · exact ⟨b', e1, e2⟩
      · exact ⟨w', e1, Nat.le_refl _⟩
    · obtain ⟨b', e1, e2⟩ := d4 s t w' (by unfold PC at hp ⊢; omega) hc hn
      rcases hb with ⟨rfl, -⟩ | ⟨e3, e4⟩
      · exact ⟨b', e1, e2⟩
      · have := e4 b' e1
        exact ⟨w, e3, by omega⟩
  · rcases hb with ⟨rfl, -⟩ | ⟨e3, -⟩
    · exact d5 b' hb'
    · rw [e3] at hb'
      have := Option.some.inj hb'
      subst this
      obtain ⟨m, hm⟩ := d1 k l w hw
      exact ⟨m, k, l, hs, hm⟩
theorem DV.next {a : Nat → Nat} {C : Nat → Nat → Option Nat} {b : Option Nat} {k : Nat} (v : V1 a) (hk : k % 2 = 1) (h : DV a C b k (a 0)) : DV a C b (k + 2) 0 := by
  obtain ⟨d1, d2, d3, d4, d5⟩ := h
  have no : ∀ s t w, PC (k + 2) 0 s t → C s t = some w → PC k (a 0) s t := fun s t w hp hc => by
    obtain ⟨m, hm⟩ := d1 s t w hc
    obtain ⟨q1, -, -, q4, -⟩ := sq_ok v _ _ _ _ hm
    have := tb0 q4
    unfold PC at hp ⊢
    omega
  exact ⟨d1, d2, fun s t w hp hc => d3 s t w (no s t w hp hc) hc, fun s t w hp hc => d4 s t w (no s t w hp hc) hc, d5⟩
theorem DV.fin {a : Nat → Nat} {C : Nat → Nat → Option Nat} {b : Option Nat} {k l : Nat} (v : V1 a) (hk : 2 ^ a 0 ≤ k) (h : DV a C b k l) : ∃ c, b = some c ∧ opt a c := by
  obtain ⟨d1, d2, d3, d4, d5⟩ := h
  have all : ∀ s t w, C s t = some w → PC k l s t := fun s t w hc => by
    obtain ⟨m, hm⟩ := d1 s t w hc
    have := (sq_ok v _ _ _ _ hm).2.1
    unfold PC
    omega
  have Z : ∀ n s t c, sq a n s t c → (∃ b', b = some b' ∧ b' ≤ c) ∨ ∃ w, C s t = some w ∧ w ≤ c := by
    intro n
    induction n with
    | zero =>
      intro s t c hs
      obtain ⟨rfl, rfl, rfl⟩ := hs
      exact Or.inr ⟨0, d2, Nat.le_refl _⟩
    | succ n ih =>
      intro s t c hs
      obtain ⟨s', t', c', h1, h2, h3, rfl, h4, rfl⟩ := hs
      rcases ih s' t' c' h1 with ⟨b', e1, e2⟩ | ⟨w, e1, e2⟩
      · exact Or.inl ⟨b', e1, by omega⟩
      · by_cases hsa : sa a s'
        · obtain ⟨b', f1, f2⟩ := d4 s' t' w (all _ _ _ e1) e1 hsa
          exact Or.inl ⟨b', f1, by omega⟩
        · have t0 : 1 ≤ t := by
            have := (sq_ok v _ _ _ _ h1).2.2.2.1
            by_cases c : t = 0
            · subst c; rw [this] at h3; exact absurd h3 (by decide)
            · omega
          obtain ⟨w', f1, f2⟩ := d3 s' t' w (all _ _ _ e1) e1 hsa t t0 h2 h3 h4
          exact Or.inr ⟨w', f1, by omega⟩
  have Y : ∀ n p c, rch a n p (gl a) c → ∃ b', b = some b' ∧ b' ≤ c := by
    intro n p c hr
    obtain ⟨m, set, last, c', s1, -, s3, -, s5⟩ := rch_sq v n p _ c hr
    rcases Z _ _ _ _ s1 with ⟨b', e1, e2⟩ | ⟨w, e1, e2⟩
    · exact ⟨b', e1, by omega⟩
    · obtain ⟨b', f1, f2⟩ := d4 set last w (all _ _ _ e1) e1 (sa_eq s3)
      exact ⟨b', f1, by omega⟩
  obtain ⟨n, p, c, hr, -⟩ := walk_ex v
  obtain ⟨b', e1, e2⟩ := Y n p c hr
  refine ⟨b', e1, ?_, fun n p c' hr' => ?_⟩
  · obtain ⟨m, s, t, hs, hq⟩ := d5 b' e1
    obtain ⟨n, s2, r1, r2⟩ := sq_rch v _ _ _ _ hq
    have e : s2 = gl a := sub_eq (rch_ok v _ _ _ _ r1).2.2.1 (sub_tr (sa_sub hs) r2)
    rw [e] at r1
    exact ⟨n, t, r1⟩
  · obtain ⟨b2, f1, f2⟩ := Y n p c' hr'
    have : b' = b2 := Option.some.inj (e1.symm.trans f1)
    omega
theorem x_leastWay {d : Nat} {M : g_M} {Q : g_R} {a : Nat → Nat} (hd : 4 ≤ d) (v : V1 a) (g1 : GX1 M 2 a) (g2 : GX2 M 2 a) (h : ∀ N c, (∀ c, c ≠ 71 → N c = M c) → opt a c → Q (some (.int (nI c))) N) : g_cal d k_X6_leastWay [.ref 70, .ref 2] M Q := by
  have b0 : a 0 ≤ 8 := v.2.1
  have b1 : 1 ≤ a 0 := v.1
  have pl : 2 ^ a 0 ≤ 256 := Nat.pow_le_pow_right (n := 2) (by decide) b0
  have pg : 2 ≤ 2 ^ a 0 := Nat.pow_le_pow_right (n := 2) (by decide) b1
  have pe : 2 ^ a 0 % 2 = 0 := by
    obtain ⟨j, hj⟩ : ∃ j, a 0 = j + 1 := ⟨a 0 - 1, by omega⟩
    rw [hj, Nat.pow_succ]; omega
  have snl : ∀ k, sn a k < 2 ^ 8 := fun k => (g_it_J (fun _ s => s < 2 ^ 8) (snF a k) (a 0) (fun p s hp hs => snF_lt v hp hs) (a 0) 0 0 (by omega) (by decide))
  have rsl : rcS a < 2 ^ 8 := g_it_J (fun _ s => s < 2 ^ 8) (rcF a) (a 0) (fun p s hp hs => by
    unfold rcF
    refine Nat.or_lt_two_pow hs ?_
    split
    · exact Nat.pow_lt_pow_right (by decide) (by omega)
    · decide) (a 0) 0 0 (by omega) (by decide)
  have gll : gl a < 2 ^ 8 := snl (rcS a)
  refine g_m (by omega) 40 (fun e he => ?_)
  refine x_toCome (by omega) v g1 g2 (x_seenFrom (by omega) v g1 (by omega) ?_)
  refine x_fill9 (by omega) (fun N1 f1 f2 => ⟨0, rfl, by decide, ?_⟩)
  have hgl : sn a (rcS a) = gl a := rfl
  rw [hgl]
  have R31 : ∀ m k N C b u5 u6 u7, k + 2 * m = 2 ^ a 0 + 1 → k % 2 = 1 → (∀ c, c ≠ 71 → N c = M c) → CR N C → DV a C b k 0 → (u5 = .null ∨ ∃ x, u5 = .int x) → (u6 = .null ∨ ∃ x, u6 = .int x) → g_Run (g_cal e) (g_mt S0 k_X6_leastWay) Q 31 [.ref 70, .ref 2, .int (nI (gl a)), .int (oI b), .int (nI k), u5, u6, u7] [] N := by
    intro m
    induction m with
    | zero =>
      intro k N C b u5 u6 u7 hk hk2 e1 e2 e3 w5 w6
      have hall : (1 : Int32) <<< (N 2 0 &&& 31) = nI (2 ^ a 0) := by
        rw [e1 2 (by decide), show M 2 0 = nI (a 0) from g1.1]
        exact n_shl (by omega)
      obtain ⟨c, rfl, hc⟩ := e3.fin v (by omega)
      exact g_go_ 20 (b_ge rfl hall (by omega) (by omega) (fun _ => h N c e1 hc) (fun y => by omega))
    | succ m ih =>
      intro k N C b u5 u6 u7 hk hk2 e1 e2 e3 w5 w6
      have k0 : k.testBit 0 = true := by rw [Nat.testBit_zero, hk2]; rfl
      have hall : (1 : Int32) <<< (N 2 0 &&& 31) = nI (2 ^ a 0) := by
        rw [e1 2 (by decide), show M 2 0 = nI (a 0) from g1.1]
        exact n_shl (by omega)
      have R64 : ∀ q l N C b u7 (x5 : Int32), l + q = a 0 → (∀ c, c ≠ 71 → N c = M c) → CR N C → DV a C b k l → ((sa a k ∧ x5 = 1) ∨ (¬ sa a k ∧ x5 = 0)) → g_Run (g_cal e) (g_mt S0 k_X6_leastWay) Q 64 [.ref 70, .ref 2, .int (nI (gl a)), .int (oI b), .int (nI k), .int x5, .int (nI l), u7] [] N := by
        intro q
        induction q with
        | zero =>
          intro l N C b u7 x5 hl e1 e2 e3 hx
          have el : l = a 0 := by omega
          subst el
          have hR := ih (k + 2) N C b (.int x5) (.int (nI (a 0))) u7 (by omega) (by omega) e1 e2 (e3.next v hk2) (Or.inr ⟨_, rfl⟩) (Or.inr ⟨_, rfl⟩)
          rw [show nI (k + 2) = nI k + 2 from (ia rfl rfl).symm] at hR
          exact g_go_ 20 (b_ge rfl (by rw [e1 2 (by decide)]; exact g1.1) (by omega) (by omega) (fun _ => g_to hR _ rfl) (fun y => by omega))
        | succ q ih2 =>
          intro l N C b u7 x5 hl e1 e2 e3 hx
          obtain ⟨bd1, bd2⟩ := e3.bd v
          have hsl := e2 k l (by omega) k0 (by omega)
          have nxt : ∀ N C b x7, (∀ c, c ≠ 71 → N c = M c) → CR N C → DV a C b k (l + 1) → g_Run (g_cal e) (g_mt S0 k_X6_leastWay) Q 131 [.ref 70, .ref 2, .int (nI (gl a)), .int (oI b), .int (nI k), .int x5, .int (nI l), .int x7] [] N := by
            intro N C b x7 h1 h2 h3
            have hR := ih2 (l + 1) N C b (.int x7) x5 (by omega) h1 h2 h3 hx
            rw [nI_succ] at hR
            exact g_go_ 3 (g_to hR _ rfl)
          refine g_go_ 60 (b_ge rfl (by rw [e1 2 (by decide)]; exact g1.1) (by omega) (by omega) (fun y => by omega) (fun _ => ?_))
          refine x_slotOf (by omega) (by omega) ⟨k / 2 * 8 + l, rfl, by omega, ?_⟩
          rw [hsl]
          cases ho : C k l with
          | none => exact b_nf rfl (g_to (nxt N C b (-9) e1 e2 (e3.skip ho)) _ rfl)
          | some w =>
            have hwb := bd1 k l w ho
            refine b_nt (n_ne9 (by omega)) ?_
            rcases hx with ⟨hs, rfl⟩ | ⟨hs, rfl⟩
            · refine b_nt (by decide) ?_
              cases hb : b with
              | none =>
                refine b_t rfl (g_to (nxt N C (some w) (nI w) e1 e2 (e3.best ho hs (Or.inr ⟨rfl, fun b' hb' => by rw [hb] at hb'; exact absurd hb' (by simp)⟩))) _ rfl)
              | some b' =>
                have hbb := bd2 b' hb
                refine b_f (n_ne9 (by omega)) (b_ge rfl rfl (by omega) (by omega) (fun y => ?_) (fun y => ?_))
                · have hd := e3.best (b2 := b) ho hs (Or.inl ⟨rfl, b', hb, y⟩)
                  rw [hb] at hd
                  exact g_to (nxt N C (some b') (nI w) e1 e2 hd) _ rfl
                · exact g_to (nxt N C (some w) (nI w) e1 e2 (e3.best ho hs (Or.inr ⟨rfl, fun b2 hb2 => by rw [hb] at hb2; have := Option.some.inj hb2; omega⟩))) _ rfl
            · refine b_nf rfl ?_
              refine x_goFurther (by omega) v (g1.fr (fun c c1 c2 => e1 c (by omega))) (g2.fr (fun c c1 c2 => e1 c (by omega))) (by omega) k0 (by omega) hwb e2 bd1 (fun N2 C2 t1 t2 t3 t4 => ?_)
              exact g_to (nxt N2 C2 b (nI w) (fun c hc => (t1 c hc).trans (e1 c hc)) t2 (e3.go ho hs t3 t4)) _ rfl
      have hsn := snl k
      have hand : nI (sn a k) &&& nI (gl a) = nI (sn a k &&& gl a) := n_and _ _
      have hal : sn a k &&& gl a ≤ sn a k := Nat.and_le_left
      have cb : ∀ (A B : Prop), (¬ sa a k → A) → (sa a k → B) → (¬ nI (sn a k) &&& nI (gl a) = nI (gl a) → A) ∧ (nI (sn a k) &&& nI (gl a) = nI (gl a) → B) := fun A B fA fB => b_ne hand rfl (by omega) (by omega) fA fB
      rcases w5 with rfl | ⟨x5, rfl⟩
      all_goals
        refine g_go_ 40 (b_ge rfl hall (by omega) (by omega) (fun y => by omega) (fun _ => ?_))
        refine x_seenFrom (by omega) v (g1.fr (fun c c1 c2 => e1 c (by omega))) (by omega) ?_
        refine cb _ _ (fun y => ?_) (fun y => ?_)
        · rcases w6 with rfl | ⟨x6, rfl⟩
          all_goals exact g_to (R64 (a 0) 0 N C b u7 0 (by omega) e1 e2 e3 (Or.inr ⟨y, rfl⟩)) _ rfl
        · rcases w6 with rfl | ⟨x6, rfl⟩
          all_goals exact g_to (R64 (a 0) 0 N C b u7 1 (by omega) e1 e2 e3 (Or.inl ⟨y, rfl⟩)) _ rfl
  obtain ⟨N2, hN2⟩ : ∃ N2, N2 = g_ms N1 71 (upd (N1 71) 0 0) := ⟨_, rfl⟩
  have c0 : CR N2 (cup (fun _ _ => none) 1 0 (some 0)) := by
    rw [hN2]
    exact CR.set (s := 1) (l := 0) (w := 0) (fun s l h1 h2 h3 => by have := tb0 h2; exact f2 _ (by omega)) (by decide) (by decide) rfl
  have hdv : DV a (cup (fun _ _ => none) 1 0 (some 0)) none 1 0 := by
    have cs : ∀ s t w, cup (fun _ _ => none) 1 0 (some 0) s t = some w → s = 1 ∧ t = 0 ∧ w = 0 := fun s t w hw => by
      unfold cup at hw
      by_cases c : s = 1 ∧ t = 0
      · rw [if_pos c] at hw; exact ⟨c.1, c.2, (Option.some.inj hw).symm⟩
      · rw [if_neg c] at hw; exact absurd hw (by simp)
    have no : ∀ s t w, PC 1 0 s t → cup (fun _ _ => none) 1 0 (some 0) s t = some w → False := fun s t w hp hc => by
      obtain ⟨rfl, rfl, rfl⟩ := cs s t w hc
      unfold PC at hp; omega
    exact ⟨fun s t w hw => by obtain ⟨rfl, rfl, rfl⟩ := cs s t w hw; exact ⟨0, rfl, rfl, rfl⟩, rfl, fun s t w hp hc => absurd (no s t w hp hc) id, fun s t w hp hc => absurd (no s t w hp hc) id, fun b' hb => absurd hb (by simp)⟩
  have hR := R31 (2 ^ a 0 / 2) 1 N2 _ none .null .null .null (by omega) (by omega) (fun c hc => by rw [hN2, g_ms_n hc]; exact f1 c hc) c0 hdv (Or.inl rfl) (Or.inl rfl)
  rw [hN2] at hR
  exact g_to hR _ rfl
