/-! ===== fewest ===== -/
def snF (a : Nat → Nat) (k : Nat) (p s : Nat) : Nat := s ||| (if k.testBit p = true then a (20 + 5 * p) else 0)
def sn (a : Nat → Nat) (k : Nat) : Nat := g_it (snF a k) (a 0) 0 0
theorem snF_lt {a : Nat → Nat} (v : V1 a) {k p s : Nat} (hp : p < a 0) (hs : s < 2 ^ 8) : snF a k p s < 2 ^ 8 := by
  have b0 : a 0 ≤ 8 := v.2.1
  have bv := (v.2.2.2.2.2.1 p hp).2.2.2.2.1
  have bv8 : a (20 + 5 * p) < 2 ^ 8 := Nat.lt_of_lt_of_le bv (Nat.pow_le_pow_right (by decide) b0)
  unfold snF
  refine Nat.or_lt_two_pow hs ?_
  split
  · exact bv8
  · decide
theorem x_seenFrom {d k : Nat} {M : g_M} {Q : g_R} {a : Nat → Nat} (hd : 2 ≤ d) (v : V1 a) (g1 : GX1 M 2 a) (hk : k < 2 ^ 31) (h : Q (some (.int (nI (sn a k)))) M) : g_cal d k_X6_seenFrom [.ref 2, .int (nI k)] M Q := by
  have b0 : a 0 ≤ 8 := v.2.1
  refine g_m (by omega) 4 (fun e he => ?_)
  have key : g_Run (g_cal e) (g_mt S0 k_X6_seenFrom) Q 4 [.ref 2, .int (nI k), .int (nI 0), .int (nI 0)] [] M := by
    refine g_loop (fun p s => g_Run (g_cal e) (g_mt S0 k_X6_seenFrom) Q 4 [.ref 2, .int (nI k), .int (nI s), .int (nI p)] [] M) (fun _ _ => True) (snF a k) (a 0) ?_ (fun _ _ _ _ => trivial) (a 0) 0 0 (by omega) trivial (fun _ => ?_)
    · intro p s hp _ hR
      unfold snF at hR
      rw [nI_succ, ← n_or] at hR
      refine g_go_ 30 (b_ge rfl g1.1 (by omega) (by omega) (fun z => by omega) (fun _ => ?_))
      refine x_hasBit (by omega) k p rfl rfl hk (by omega) (b_z (fun z => ?_) (fun z => ⟨p, rfl, by omega, ?_⟩))
      · rw [if_neg (by rw [z]; decide)] at hR
        exact g_to hR _ rfl
      · rw [(g1.2.2.2.1 p hp).2.2.2.2]
        rw [if_pos z] at hR
        exact g_to hR _ rfl
    · exact g_go_ 20 (b_ge rfl g1.1 (by omega) (by omega) (fun _ => h) (fun z => by omega))
  exact g_to key _ rfl
def btl : Nat → Nat → Nat
  | 0, _ => 0
  | k + 1, v => v % 2 + btl k (v / 2)
theorem btl_ok : ∀ v, v < 256 → btl 8 v = cntF (Nat.testBit v) 8 0 := by decide +kernel
theorem m_bits {d v : Nat} {M : g_M} {Q : g_R} (hd : 1 ≤ d) (hv : v < 256) (h : Q (some (.int (nI (cntF (Nat.testBit v) 8 0)))) M) : g_cal d k_X10_bits [.int (nI v)] M Q := by
  rw [← btl_ok v hv] at h
  refine g_m hd 5 (fun e he => ?_)
  have loop : ∀ k w n, w < 2 ^ k → w < 256 → Q (some (.int (nI (n + btl k w)))) M → g_Run (g_cal e) (g_mt S0 k_X10_bits) Q 4 [.int (nI v), .int (nI n), .int (nI w)] [] M := by
    intro k
    induction k with
    | zero =>
      intro w n hw hw2 hq
      have e0 : w = 0 := by have : (2 : Nat) ^ 0 = 1 := rfl; omega
      subst e0
      exact g_go_ 20 (b_le (b := 0) rfl rfl (by omega) (by decide) (fun _ => hq) (fun z => by omega))
    | succ k ih =>
      intro w n hw hw2 hq
      rw [Nat.pow_succ] at hw
      refine g_go_ 20 (b_le (b := 0) rfl rfl (by omega) (by decide) (fun z => ?_) (fun z => ?_))
      · have e0 : w = 0 := by omega
        subst e0
        have : ∀ k, btl k 0 = 0 := by
          intro k
          induction k with
          | zero => rfl
          | succ k ih => show 0 % 2 + btl k (0 / 2) = 0; rw [ih]
        rw [this] at hq
        exact hq
      · have hR := ih (w / 2) (n + w % 2) (by omega) (by omega) (by rw [show n + w % 2 + btl k (w / 2) = n + btl (k + 1) w from Nat.add_assoc _ _ _]; exact hq)
        have e1 : nI w &&& 1 = nI (w % 2) := by
          have := n_and w 1
          rw [Nat.and_one_is_mod] at this
          exact this
        have e2 : nI w >>> ((1 : Int32) &&& 31) = nI (w / 2) := n_shr (b := w) (i := 1) (by omega) (by decide)
        rw [← nI_add, ← e1, ← e2] at hR
        exact g_to hR _ rfl
  exact g_to (loop 8 v 0 hv hv (by rw [Nat.zero_add]; exact h)) _ rfl
/-- which is the answer -/
def fwok (a : Nat → Nat) (all b : Nat) : Prop := b ≤ all ∧ 1 ≤ b ∧ (b = all ∨ sn a b = all) ∧ (∀ k, 1 ≤ k → k ≤ all → (k = all ∨ sn a k = all) → cntF (Nat.testBit b) 8 0 ≤ cntF (Nat.testBit k) 8 0) ∧ (∀ k, 1 ≤ k → k < b → sn a k = all → cntF (Nat.testBit b) 8 0 < cntF (Nat.testBit k) 8 0)
theorem fwok_eq {a : Nat → Nat} {all b c : Nat} (h : fwok a all b) (h2 : fwok a all c) : b = c := by
  obtain ⟨b1, b2, b3, b4, b5⟩ := h
  obtain ⟨c1, c2, c3, c4, c5⟩ := h2
  rcases Nat.lt_trichotomy b c with q | q | q
  · have hs : sn a b = all := by rcases b3 with y | y; omega; exact y
    have := c5 b b2 q hs
    have := b4 c c2 c1 c3
    omega
  · exact q
  · have hs : sn a c = all := by rcases c3 with y | y; omega; exact y
    have := b5 c c2 q hs
    have := c4 b b2 b1 b3
    omega
