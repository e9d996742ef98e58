/-! ===== all seen: the reference ===== -/
def LM (N : g_M) (L : Nat → Nat) (T : Nat → Bool) : Prop := ∀ k, k < 2048 → N 97 k = nI (L k) ∧ N 98 k = bI (T k)
def DJ (a : Nat → Nat) (L : Nat → Nat) (T : Nat → Bool) : Prop :=
  (∀ k, k < 2048 → L k ≤ 100000) ∧ (∀ k, k < 2048 → L k < 100000 → ∃ n, rch a n (k / 256) (k % 256) (L k)) ∧ L (vw a 0) = 0 ∧
  (∀ k, k < 2048 → T k = true → L k < 100000 ∧ k % 256 ≠ gl a ∧ ∀ q, q < a 0 → wy a (k / 256) q ≠ 0 → L (256 * q + (k % 256 ||| vw a q)) ≤ L k + wy a (k / 256) q) ∧
  (∀ j k, j < 2048 → k < 2048 → T j = true → T k = false → L k < 100000 → L j ≤ L k)
/-- the least of the open ones -/
def BS (L : Nat → Nat) (T : Nat → Bool) (x : Nat) (y : Int32) : Prop := (y = -9 ∧ ∀ k, k < x → T k = false → 100000 ≤ L k) ∨ ∃ b, y = nI b ∧ b < x ∧ T b = false ∧ L b < 100000 ∧ ∀ k, k < x → T k = false → L k < 100000 → L b ≤ L k
theorem key_lt {p s : Nat} (hp : p < 8) (hs : s < 256) : 256 * p + s < 2048 ∧ (256 * p + s) / 256 = p ∧ (256 * p + s) % 256 = s := by omega
theorem DJ.low {a : Nat → Nat} {L : Nat → Nat} {T : Nat → Bool} {B : Nat} (v : V1 a) (h : DJ a L T) (hB : ∀ k, k < 2048 → T k = false → L k < 100000 → B ≤ L k) (hB2 : B ≤ 100000) : ∀ n p s c, rch a n p s c → (T (256 * p + s) = true ∧ L (256 * p + s) ≤ c) ∨ B ≤ c := by
  have b0 : a 0 ≤ 8 := v.2.1
  obtain ⟨d1, d2, d3, d4, d5⟩ := h
  have step : ∀ p s c, p < 8 → s < 256 → L (256 * p + s) ≤ c → (T (256 * p + s) = true ∧ L (256 * p + s) ≤ c) ∨ B ≤ c := by
    intro p s c hp hs hL
    obtain ⟨k1, -, -⟩ := key_lt hp hs
    cases ht : T (256 * p + s) with
    | true => exact Or.inl ⟨rfl, hL⟩
    | false =>
      refine Or.inr ?_
      by_cases c2 : L (256 * p + s) < 100000
      · have := hB _ k1 ht c2; omega
      · omega
  intro n
  induction n with
  | zero =>
    intro p s c hr
    have ok := rch_ok v _ _ _ _ hr
    obtain ⟨rfl, rfl, rfl⟩ := hr
    refine step 0 (vw a 0) 0 (by omega) (by have := ok.2.2.2.2; omega) ?_
    rw [show 256 * 0 + vw a 0 = vw a 0 by omega, d3]
    exact Nat.le_refl _
  | succ n ih =>
    intro q t c hr
    have ok := rch_ok v _ _ _ _ hr
    obtain ⟨p, s, c', h1, h2, rfl, rfl⟩ := hr
    have ok1 := rch_ok v _ _ _ _ h1
    obtain ⟨k1, k2, k3⟩ := key_lt (show p < 8 by omega) (show s < 256 by have := ok1.2.2.2.2; omega)
    rcases ih p s c' h1 with ⟨e1, e2⟩ | e
    · have e3 := (d4 _ k1 e1).2.2 q ok.1 (by rw [k2]; exact h2)
      rw [k2, k3] at e3
      exact step q (s ||| vw a q) _ (by omega) (by have := ok.2.2.2.2; omega) (by omega)
    · exact Or.inr (by omega)
theorem DJ.none {a : Nat → Nat} {L : Nat → Nat} {T : Nat → Bool} (v : V1 a) (h : DJ a L T) (hB : ∀ k, k < 2048 → T k = false → 100000 ≤ L k) : False := by
  have b0 : a 0 ≤ 8 := v.2.1
  obtain ⟨n, p, c, hr, hc⟩ := walk_ex v
  have ok := rch_ok v _ _ _ _ hr
  obtain ⟨k1, k2, k3⟩ := key_lt (show p < 8 by omega) (show gl a < 256 by have := ok.2.2.2.2; omega)
  rcases h.low v (B := 100000) (fun k hk ht hl => by have := hB k hk ht; omega) (Nat.le_refl _) n p (gl a) c hr with ⟨e1, -⟩ | e
  · exact (h.2.2.2.1 _ k1 e1).2.1 k3
  · omega
theorem DJ.goal {a : Nat → Nat} {L : Nat → Nat} {T : Nat → Bool} {b : Nat} (v : V1 a) (h : DJ a L T) (hb : b < 2048) (hl : L b < 100000) (hB : ∀ k, k < 2048 → T k = false → L k < 100000 → L b ≤ L k) (hg : b % 256 = gl a) : opt a (L b) := by
  have b0 : a 0 ≤ 8 := v.2.1
  refine ⟨?_, fun n p c hr => ?_⟩
  · obtain ⟨n, hn⟩ := h.2.1 b hb hl
    rw [hg] at hn
    exact ⟨n, _, hn⟩
  · have ok := rch_ok v _ _ _ _ hr
    obtain ⟨k1, k2, k3⟩ := key_lt (show p < 8 by omega) (show gl a < 256 by have := ok.2.2.2.2; omega)
    rcases h.low v hB (by omega) n p (gl a) c hr with ⟨e1, -⟩ | e
    · exact absurd k3 (h.2.2.2.1 _ k1 e1).2.1
    · exact e
/-- on from one of them -/
def R2 (a : Nat → Nat) (L L' : Nat → Nat) (b x : Nat) : Prop := ∀ k, L' k = L k ∨ ∃ q, q < x ∧ q < a 0 ∧ wy a (b / 256) q ≠ 0 ∧ k = 256 * q + (b % 256 ||| vw a q) ∧ L' k = L b + wy a (b / 256) q ∧ L' k < L k
def R3 (a : Nat → Nat) (L L' : Nat → Nat) (b x : Nat) : Prop := ∀ q, q < x → q < a 0 → wy a (b / 256) q ≠ 0 → L' (256 * q + (b % 256 ||| vw a q)) ≤ L b + wy a (b / 256) q
theorem DJ.go {a : Nat → Nat} {L L' : Nat → Nat} {T T' : Nat → Bool} {b : Nat} (v : V1 a) (h : DJ a L T) (hb : b < 2048) (ht : T b = false) (hl : L b < 100000) (hB : ∀ k, k < 2048 → T k = false → L k < 100000 → L b ≤ L k) (hg : b % 256 ≠ gl a) (r2 : R2 a L L' b (a 0)) (r3 : R3 a L L' b (a 0)) (t1 : T' b = true) (t2 : ∀ k, k ≠ b → T' k = T k) : DJ a L' T' := by
  obtain ⟨d1, d2, d3, d4, d5⟩ := h
  have le : ∀ k, L' k ≤ L k := fun k => by
    rcases r2 k with y | ⟨q, q1, q2, q3, q4, q5, q6⟩ <;> omega
  have sb : ∀ j, j < 2048 → T j = true → L j ≤ L b := fun j hj hT => d5 j b hj hb hT ht hl
  have set : ∀ j, j < 2048 → T' j = true → L' j = L j ∧ L j ≤ L b := fun j hj hT => by
    have hle : L j ≤ L b := by
      by_cases c : j = b
      · rw [c]; exact Nat.le_refl _
      · rw [t2 j c] at hT; exact sb j hj hT
    refine ⟨?_, hle⟩
    rcases r2 j with y | ⟨q, q1, q2, q3, q4, q5, q6⟩
    · exact y
    · omega
  have lb := (set b hb t1).1
  refine ⟨fun k hk => by have := le k; have := d1 k hk; omega, fun k hk hL => ?_, ?_, fun k hk hT => ?_, fun j k hj hk hT hF hL => ?_⟩
  · rcases r2 k with y | ⟨q, q1, q2, q3, q4, q5, q6⟩
    · rw [y] at hL ⊢; exact d2 k hk hL
    · obtain ⟨n, hn⟩ := d2 b hb hl
      have hr : rch a (n + 1) q (b % 256 ||| vw a q) (L b + wy a (b / 256) q) := ⟨b / 256, b % 256, L b, hn, q3, rfl, rfl⟩
      have ok := rch_ok v _ _ _ _ hr
      obtain ⟨-, k2, k3⟩ := key_lt (show q < 8 by have := v.2.1; omega) (show b % 256 ||| vw a q < 256 by have := ok.2.2.2.2; omega)
      rw [q5, q4, k2, k3]
      exact ⟨n + 1, hr⟩
  · have := le (vw a 0); omega
  · obtain ⟨e1, e2⟩ := set k hk hT
    rw [e1]
    by_cases c : k = b
    · subst c
      exact ⟨hl, hg, fun q q1 q2 => r3 q q1 q1 q2⟩
    · rw [t2 k c] at hT
      obtain ⟨f1, f2, f3⟩ := d4 k hk hT
      exact ⟨f1, f2, fun q q1 q2 => by have := f3 q q1 q2; have := le (256 * q + (k % 256 ||| vw a q)); omega⟩
  · obtain ⟨e1, e2⟩ := set j hj hT
    have kb : k ≠ b := fun z => by rw [z, t1] at hF; exact absurd hF (by decide)
    rw [t2 k kb] at hF
    rw [e1]
    rcases r2 k with y | ⟨q, q1, q2, q3, q4, q5, q6⟩
    · rw [y] at hL ⊢
      have := hB k hk hF hL
      omega
    · omega
theorem m_allSeen {d : Nat} {M : g_M} {Q : g_R} {a : Nat → Nat} (hd : 3 ≤ d) (v : V1 a) (hM : RM M 84 a) (h : ∀ N c, (∀ c, c ≠ 89 → c ≠ 90 → c ≠ 97 → c ≠ 98 → N c = M c) → opt a c → Q (some (.int (nI c))) N) : g_cal d k_X10_allSeen [.ref 82] M Q := by
  have b0 : a 0 ≤ 8 := v.2.1
  have b1 : 1 ≤ a 0 := v.1
  have snl : ∀ k, sn a k < 2 ^ 8 := fun k => (g_it_J (fun _ s => s < 2 ^ 8) (snF a k) (a 0) (fun p s hp hs => snF_lt v hp hs) (a 0) 0 0 (by omega) (by decide))
  have gll : gl a < 256 := snl (rcS a)
  have v0 : vw a 0 < 256 := vw_lt v b1
  refine g_m (by omega) 4 (fun e he => m_findFar (by omega) v hM (fun N0 fn => ?_))
  have fa0 := fn.fa hM
  have dry : ∀ N : g_M, N 90 = N0 90 → ∀ p q, p < 8 → q < 8 → N 90 (8 * p + q) = nI (dr a p q) := fun N e p q hp hq => by rw [e]; exact fa0.2.1 p q hp hq
  -- one turn, and all that follow
  have R88 : ∀ f N L T x2 u3 u4 u5 u6, cnt T 2048 + f = 2049 → (∀ c, c ≠ 89 → c ≠ 90 → c ≠ 97 → c ≠ 98 → N c = M c) → N 90 = N0 90 → LM N L T → DJ a L T → g_Run (g_cal e) (g_mt S0 k_X10_allSeen) Q 88 [.ref 82, .int (nI (gl a)), .int x2, u3, u4, u5, u6] [] N := by
    intro f
    induction f with
    | zero => intro N L T x2 u3 u4 u5 u6 hc; have := cnt_le T 2048; omega
    | succ f ih =>
      intro N L T x2 u3 u4 u5 u6 hc e1 e90 e2 e3
      have L1 := e3.1
      -- on from the best
      have R186 : ∀ b, b < 2048 → T b = false → L b < 100000 → (∀ k, k < 2048 → T k = false → L k < 100000 → L b ≤ L k) → b % 256 ≠ gl a → ∀ m q N' L' u5 u6, q + m = a 0 → (∀ c, c ≠ 89 → c ≠ 90 → c ≠ 97 → c ≠ 98 → N' c = M c) → N' 90 = N0 90 → LM N' L' (fun k => if k = b then true else T k) → R2 a L L' b q → R3 a L L' b q → g_Run (g_cal e) (g_mt S0 k_X10_allSeen) Q 186 [.ref 82, .int (nI (gl a)), .int (nI b), .int (nI (b / 256)), .int (nI q), u5, u6] [] N' := by
        intro b hb hTb hLb hB hg m
        induction m with
        | zero =>
          intro q N' L' u5 u6 hq f1 f90 f2 f3 f4
          have eq : q = a 0 := by omega
          subst eq
          have hdj : DJ a L' (fun k => if k = b then true else T k) := e3.go v hb hTb hLb hB hg f3 f4 (if_pos rfl) (fun k hk => if_neg hk)
          have hcn : cnt (fun k => if k = b then true else T k) 2048 = cnt T 2048 + 1 := cnt_put (k := b) hb hTb (if_pos rfl) (fun k _ hk => if_neg hk)
          have hR := ih N' L' _ (nI b) (.int (nI (b / 256))) (.int (nI (a 0))) u5 u6 (by omega) f1 f90 f2 hdj
          refine g_go_ 20 ⟨0, rfl, by decide, ?_⟩
          refine b_ge rfl (by rw [f1 84 (by decide) (by decide) (by decide) (by decide)]; exact hM 0 (by decide)) (by omega) (by omega) (fun _ => g_to hR _ rfl) (fun y => by omega)
        | succ m ih2 =>
          intro q N' L' u5 u6 hq f1 f90 f2 f3 f4
          have qa : q < a 0 := by omega
          have hs0 : N' 84 0 = nI (a 0) := by rw [f1 84 (by decide) (by decide) (by decide) (by decide)]; exact hM 0 (by decide)
          have skip : wy a (b / 256) q = 0 → g_Run (g_cal e) (g_mt S0 k_X10_allSeen) Q 297 [.ref 82, .int (nI (gl a)), .int (nI b), .int (nI (b / 256)), .int (nI q), u5, u6] [] N' := by
            intro hw
            have hR := ih2 (q + 1) N' L' u5 u6 (by omega) f1 f90 f2 (fun k => by
              rcases f3 k with y | ⟨q', q1, q2⟩
              · exact Or.inl y
              · exact Or.inr ⟨q', by omega, q2⟩) (fun q' q1 q2 q3 => by
              by_cases c : q' = q
              · subst c; exact absurd hw q3
              · exact f4 q' (by omega) q2 q3)
            rw [nI_succ] at hR
            exact g_go_ 3 (g_to hR _ rfl)
          have hdr := dry N' f90 (b / 256) q (by omega) (by omega)
          refine g_go_ 20 ⟨0, rfl, by decide, ?_⟩
          refine b_ge rfl hs0 (by omega) (by omega) (fun y => by omega) (fun _ => ?_)
          refine b_eq rfl rfl (by omega) (by omega) (fun y => g_to (skip (by
            by_cases c : wy a (b / 256) q = 0
            · exact c
            · exact absurd y.symm (wy_dr v c).2.2.2)) _ rfl) (fun y => ?_)
          refine ⟨8 * (b / 256) + q, ia (im rfl rfl) rfl, by omega, ?_⟩
          rw [hdr]
          by_cases c : wy a (b / 256) q = 0
          · have hd0 : dr a (b / 256) q = 100000 := by unfold dr; rw [if_neg (Ne.symm y), if_pos c]
            rw [hd0]
            exact b_f (by decide) (g_to (skip c) _ rfl)
          · have hd0 := (wy_dr v c).1
            have wl := wy_le v (b / 256) q
            rw [hd0]
            refine b_lt (b := 100000) rfl rfl (by omega) (by decide) (fun _ => ?_) (fun y => by omega)
            rw [hd0] at hdr
            obtain ⟨n, hn⟩ := e3.2.1 b hb hLb
            have hr : rch a (n + 1) q (b % 256 ||| vw a q) (L b + wy a (b / 256) q) := ⟨b / 256, b % 256, L b, hn, c, rfl, rfl⟩
            have ok := rch_ok v _ _ _ _ hr
            obtain ⟨k1, -, -⟩ := key_lt (show q < 8 by omega) (show b % 256 ||| vw a q < 256 by have := ok.2.2.2.2; omega)
            generalize hK : 256 * q + (b % 256 ||| vw a q) = K at k1
            have lb : L' b = L b := by
              rcases f3 b with y | ⟨q', q1, q2, q3, q4, q5, q6⟩
              · exact y
              · omega
            have hlk : L' K ≤ 100000 := by
              have := L1 K k1
              rcases f3 K with y | ⟨q', q1, q2, q3, q4, q5, q6⟩ <;> omega
            have hkey : 256 * nI q + ((nI b - nI b / 256 * 256) ||| N' 84 (16 + 5 * q + 4)) = nI K := by
              rw [irm (x := nI b) (y := 256) (a := b) (b := 256) (by omega) (by decide) (by decide) rfl rfl, f1 84 (by decide) (by decide) (by decide) (by decide), hM _ (by omega), show 16 + 5 * q + 4 = 20 + 5 * q by omega, n_or, ← hK]
              exact ia (im rfl rfl) rfl
            have cg : ∀ Q' : g_R, Q' (some (.int (N' 84 (16 + 5 * q + 4)))) N' → g_cal e k_X10_get [.ref 82, .int (nI q), .int 4] N' Q' := fun Q' hq' => m_get (by omega) q 4 rfl rfl (by omega) (by decide) hq'
            -- after it is kept
            have fin2 : ∀ N2 L2 x5 x6, (∀ c, c ≠ 97 → N2 c = N' c) → LM N2 L2 (fun k => if k = b then true else T k) → R2 a L L2 b (q + 1) → R3 a L L2 b (q + 1) → g_Run (g_cal e) (g_mt S0 k_X10_allSeen) Q 297 [.ref 82, .int (nI (gl a)), .int (nI b), .int (nI (b / 256)), .int (nI q), .int x5, .int x6] [] N2 := by
              intro N2 L2 x5 x6 h1 h2 h3 h4
              have hR := ih2 (q + 1) N2 L2 (.int x5) (.int x6) (by omega) (fun c c1 c2 c3 c4 => by rw [h1 c c3]; exact f1 c c1 c2 c3 c4) (by rw [h1 90 (by decide)]; exact f90) h2 h3 h4
              rw [nI_succ] at hR
              exact g_go_ 3 (g_to hR _ rfl)
            have r245 : g_Run (g_cal e) (g_mt S0 k_X10_allSeen) Q 245 [.ref 82, .int (nI (gl a)), .int (nI b), .int (nI (b / 256)), .int (nI q), .int (nI K), u6] [] N' := by
              refine g_go_ 60 ⟨b, rfl, by omega, 8 * (b / 256) + q, ia (im rfl rfl) rfl, by omega, K, rfl, by omega, ?_⟩
              show (N' 97 K ≤ N' 97 b + N' 90 (8 * (b / 256) + q) → _) ∧ (¬ N' 97 K ≤ N' 97 b + N' 90 (8 * (b / 256) + q) → _)
              have hv : N' 97 b + N' 90 (8 * (b / 256) + q) = nI (L b + wy a (b / 256) q) := by rw [(f2 b hb).1, hdr, lb, nI_add]
              rw [hv]
              refine b_ge rfl (f2 K k1).1 (by omega) (by omega) (fun y => ?_) (fun y => ?_)
              · refine ⟨K, rfl, by omega, K, rfl, by omega, ?_⟩
                obtain ⟨N2, hN2⟩ : ∃ N2, N2 = g_ms N' 97 (upd (N' 97) K (N' 97 K)) := ⟨_, rfl⟩
                have hR := fin2 N2 L' (nI K) (nI (L b + wy a (b / 256) q)) (fun c hc => by rw [hN2, g_ms_n hc]) (fun k hk => by
                  refine ⟨?_, by rw [hN2, g_ms_n (by decide)]; exact (f2 k hk).2⟩
                  rw [hN2, g_ms_s, upd]
                  by_cases c2 : k = K
                  · rw [if_pos c2, c2]; exact (f2 K k1).1
                  · rw [if_neg c2]; exact (f2 k hk).1) (fun k => by
                  rcases f3 k with y | ⟨q', q1, q2⟩
                  · exact Or.inl y
                  · exact Or.inr ⟨q', by omega, q2⟩) (fun q' q1 q2 q3 => by
                  by_cases c2 : q' = q
                  · subst c2; rw [hK]; exact y
                  · exact f4 q' (by omega) q2 q3)
                rw [hN2] at hR
                exact g_to hR _ rfl
              · refine ⟨K, rfl, by omega, ?_⟩
                obtain ⟨N2, hN2⟩ : ∃ N2, N2 = g_ms N' 97 (upd (N' 97) K (nI (L b + wy a (b / 256) q))) := ⟨_, rfl⟩
                have hR := fin2 N2 (aup L' K (L b + wy a (b / 256) q)) (nI K) (nI (L b + wy a (b / 256) q)) (fun c hc => by rw [hN2, g_ms_n hc]) (fun k hk => by
                  refine ⟨?_, by rw [hN2, g_ms_n (by decide)]; exact (f2 k hk).2⟩
                  rw [hN2, g_ms_s]
                  unfold upd aup
                  by_cases c2 : k = K
                  · rw [if_pos c2, if_pos c2]
                  · rw [if_neg c2, if_neg c2]; exact (f2 k hk).1) (fun k => by
                  by_cases c2 : k = K
                  · subst c2
                    refine Or.inr ⟨q, by omega, qa, c, hK.symm, aup_s _ _ _, ?_⟩
                    rw [aup_s]
                    rcases f3 k with z | ⟨q', q1, q2, q3, q4, q5, q6⟩ <;> omega
                  · rw [aup_n c2]
                    rcases f3 k with z | ⟨q', q1, q2⟩
                    · exact Or.inl z
                    · exact Or.inr ⟨q', by omega, q2⟩) (fun q' q1 q2 q3 => by
                  by_cases c2 : q' = q
                  · subst c2; rw [hK, aup_s]; exact Nat.le_refl _
                  · by_cases c3 : 256 * q' + (b % 256 ||| vw a q') = K
                    · have := f4 q' (by omega) q2 q3
                      rw [c3] at this ⊢
                      rw [aup_s]
                      omega
                    · rw [aup_n c3]; exact f4 q' (by omega) q2 q3)
                rw [hN2] at hR
                exact g_to hR _ rfl
            have r223 : g_Run (g_cal e) (g_mt S0 k_X10_allSeen) Q 223 [.ref 82, .int (nI (gl a)), .int (nI b), .int (nI (b / 256)), .int (nI q), u5, u6] [] N' := by
              refine g_go_ 30 ⟨by decide, cg _ ?_⟩
              rw [← hkey] at r245
              exact g_to r245 _ rfl
            exact g_to r223 _ rfl
      -- the search
      have R93 : ∀ m x y, x + m = 2048 → BS L T x y → g_Run (g_cal e) (g_mt S0 k_X10_allSeen) Q 93 [.ref 82, .int (nI (gl a)), .int y, .int (nI x), u4, u5, u6] [] N := by
        intro m
        induction m with
        | zero =>
          intro x y hx hb
          have ex : x = 2048 := by omega
          subst ex
          refine g_go_ 60 (b_ge rfl (show (2048 : Int32) = nI 2048 from rfl) (by decide) (by decide) (fun _ => ?_) (fun z => by omega))
          rcases hb with ⟨rfl, hn⟩ | ⟨b, rfl, hb1, hb2, hb3, hb4⟩
          · exact absurd (e3.none v hn) id
          · refine b_ge (b := 0) rfl rfl (by omega) (by decide) (fun _ => ⟨by decide, ?_⟩) (fun z => by omega)
            have hrm : nI b - nI b / 256 * 256 = nI (b % 256) := irm (x := nI b) (y := 256) (a := b) (b := 256) (by omega) (by decide) (by decide) rfl rfl
            refine b_ne hrm rfl (by omega) (by omega) (fun z => ?_) (fun z => ⟨b, rfl, by omega, ?_⟩)
            · refine ⟨b, rfl, by omega, Or.inr rfl, by decide, ?_⟩
              have hdv : nI b / 256 = nI (b / 256) := idv (x := nI b) (y := 256) (a := b) (b := 256) (by omega) (by decide) (by decide) rfl rfl
              obtain ⟨N2, hN2⟩ : ∃ N2, N2 = g_ms N 98 (upd (N 98) b 1) := ⟨_, rfl⟩
              have hR := R186 b hb1 hb2 hb3 hb4 z (a 0) 0 N2 L u5 u6 (by omega) (fun c c1 c2 c3 c4 => by rw [hN2, g_ms_n c4]; exact e1 c c1 c2 c3 c4) (by rw [hN2, g_ms_n (by decide)]; exact e90) (fun k hk => by
                refine ⟨by rw [hN2, g_ms_n (by decide)]; exact (e2 k hk).1, ?_⟩
                rw [hN2, g_ms_s, upd]
                show _ = bI (if k = b then true else T k)
                by_cases c2 : k = b
                · rw [if_pos c2, if_pos c2]; rfl
                · rw [if_neg c2, if_neg c2]; exact (e2 k hk).2) (fun k => Or.inl rfl) (fun q q1 => by omega)
              rw [hN2, ← hdv] at hR
              exact g_to hR _ rfl
            · rw [(e2 b hb1).1]
              exact h N (L b) e1 (e3.goal v hb1 hb3 hb4 z)
        | succ m ih2 =>
          intro x y hx hb
          have hx2 : x < 2048 := by omega
          have keep : BS L T (x + 1) y → g_Run (g_cal e) (g_mt S0 k_X10_allSeen) Q 141 [.ref 82, .int (nI (gl a)), .int y, .int (nI x), u4, u5, u6] [] N := fun hb2 => by
            have hR := ih2 (x + 1) y (by omega) hb2
            rw [nI_succ] at hR
            exact g_go_ 3 (g_to hR _ rfl)
          have take : BS L T (x + 1) (nI x) → g_Run (g_cal e) (g_mt S0 k_X10_allSeen) Q 139 [.ref 82, .int (nI (gl a)), .int y, .int (nI x), u4, u5, u6] [] N := fun hb2 => by
            have hR := ih2 (x + 1) (nI x) (by omega) hb2
            rw [nI_succ] at hR
            exact g_go_ 5 (g_to hR _ rfl)
          have stay : (T x = true ∨ 100000 ≤ L x) → BS L T (x + 1) y := fun hn => by
            have nx : ∀ k, k < x + 1 → T k = false → L k < 100000 → k < x := fun k hk ht hl => by
              by_cases c : k = x
              · subst c
                rcases hn with z | z
                · rw [z] at ht; exact absurd ht (by decide)
                · omega
              · omega
            rcases hb with ⟨r1, r2⟩ | ⟨b, r1, r2, r3, r4, r5⟩
            · refine Or.inl ⟨r1, fun k hk ht => ?_⟩
              by_cases c : L k < 100000
              · exact r2 k (nx k hk ht c) ht
              · omega
            · exact Or.inr ⟨b, r1, by omega, r3, r4, fun k hk ht hl => r5 k (nx k hk ht hl) ht hl⟩
          refine g_go_ 60 (b_ge rfl (show (2048 : Int32) = nI 2048 from rfl) (by omega) (by decide) (fun z => by omega) (fun _ => ⟨x, rfl, by omega, ?_⟩))
          rw [(e2 x hx2).2]
          refine b_nz (fun z => g_to (keep (stay (Or.inl z))) _ rfl) (fun hT => ⟨x, rfl, by omega, ?_⟩)
          show ((100000 : Int32) ≤ N 97 x → _) ∧ (¬ (100000 : Int32) ≤ N 97 x → _)
          rw [(e2 x hx2).1]
          have lx := L1 x hx2
          refine b_ge (b := 100000) rfl rfl (by omega) (by decide) (fun z => g_to (keep (stay (Or.inr z))) _ rfl) (fun hLx => ?_)
          rcases hb with ⟨rfl, r2⟩ | ⟨b, rfl, r2, r3, r4, r5⟩
          · refine b_t (by decide) (g_to (take (Or.inr ⟨x, rfl, by omega, hT, hLx, fun k hk ht hl => ?_⟩)) _ rfl)
            by_cases c : k = x
            · rw [c]; exact Nat.le_refl _
            · have := r2 k (by omega) ht; omega
          · refine b_lt (b := 0) rfl rfl (by omega) (by decide) (fun z => by omega) (fun _ => ⟨x, rfl, by omega, b, rfl, by omega, ?_⟩)
            show (N 97 b ≤ N 97 x → _) ∧ (¬ N 97 b ≤ N 97 x → _)
            rw [(e2 x hx2).1, (e2 b (by omega)).1]
            refine b_ge rfl rfl (by omega) (by omega) (fun z => ?_) (fun z => ?_)
            · refine g_to (keep (Or.inr ⟨b, rfl, by omega, r3, r4, fun k hk ht hl => ?_⟩)) _ rfl
              by_cases c : k = x
              · rw [c]; exact z
              · exact r5 k (by omega) ht hl
            · refine g_to (take (Or.inr ⟨x, rfl, by omega, hT, hLx, fun k hk ht hl => ?_⟩)) _ rfl
              by_cases c : k = x
              · rw [c]; exact Nat.le_refl _
              · have := r5 k (by omega) ht hl; omega
      have hR := R93 2048 0 (-9) (by omega) (Or.inl ⟨rfl, fun k hk => by omega⟩)
      exact g_go_ 6 (g_to hR _ rfl)
  -- the start
  have R48 : ∀ m x N, x + m = 2048 → (∀ c, c ≠ 89 → c ≠ 90 → c ≠ 97 → c ≠ 98 → N c = M c) → N 90 = N0 90 → (∀ k, k < x → N 97 k = 100000 ∧ N 98 k = 0) → g_Run (g_cal e) (g_mt S0 k_X10_allSeen) Q 48 [.ref 82, .int (nI (gl a)), .int (nI x), .null, .null, .null, .null] [] N := by
    intro m
    induction m with
    | zero =>
      intro x N hx f1 f90 f2
      refine g_go_ 30 (b_ge rfl (show (2048 : Int32) = nI 2048 from rfl) (by omega) (by decide) (fun _ => ?_) (fun z => by omega))
      refine m_get (by omega) 0 4 rfl rfl (by decide) (by decide) ⟨vw a 0, ?_, by omega, ?_⟩
      · rw [f1 84 (by decide) (by decide) (by decide) (by decide), hM _ (by decide)]; rfl
      obtain ⟨N2, hN2⟩ : ∃ N2, N2 = g_ms N 97 (upd (N 97) (vw a 0) 0) := ⟨_, rfl⟩
      obtain ⟨L0, hL0⟩ : ∃ L0 : Nat → Nat, ∀ k, L0 k = if k = vw a 0 then 0 else 100000 := ⟨_, fun _ => rfl⟩
      have hR := R88 2049 N2 L0 (fun _ => false) (nI x) .null .null .null .null (by rw [cnt_no (fun _ _ => rfl)]) (fun c c1 c2 c3 c4 => by rw [hN2, g_ms_n c3]; exact f1 c c1 c2 c3 c4) (by rw [hN2, g_ms_n (by decide)]; exact f90) (fun k hk => by
        refine ⟨?_, by rw [hN2, g_ms_n (by decide)]; exact (f2 k (by omega)).2⟩
        rw [hN2, g_ms_s, upd, hL0]
        by_cases c : k = vw a 0
        · rw [if_pos c, if_pos c]; rfl
        · rw [if_neg c, if_neg c]; exact (f2 k (by omega)).1) ⟨fun k hk => by rw [hL0]; split <;> omega, fun k hk hl => by
          rw [hL0] at hl ⊢
          by_cases c : k = vw a 0
          · rw [if_pos c]
            exact ⟨0, by omega, by omega, rfl⟩
          · rw [if_neg c] at hl; omega, by rw [hL0, if_pos rfl], fun k hk ht => absurd ht Bool.false_ne_true, fun j k hj hk ht => absurd ht Bool.false_ne_true⟩
      rw [hN2] at hR
      exact g_to hR _ rfl
    | succ m ih =>
      intro x N hx f1 f90 f2
      obtain ⟨N2, hN2⟩ : ∃ N2, N2 = g_ms N 97 (upd (N 97) x 100000) := ⟨_, rfl⟩
      obtain ⟨N3, hN3⟩ : ∃ N3, N3 = g_ms N2 98 (upd (N2 98) x 0) := ⟨_, rfl⟩
      have hR := ih (x + 1) N3 (by omega) (fun c c1 c2 c3 c4 => by rw [hN3, g_ms_n c4, hN2, g_ms_n c3]; exact f1 c c1 c2 c3 c4) (by rw [hN3, g_ms_n (by decide), hN2, g_ms_n (by decide)]; exact f90) (fun k hk => by
        refine ⟨?_, ?_⟩
        · rw [hN3, g_ms_n (by decide), hN2, g_ms_s, upd]
          by_cases c : k = x
          · rw [if_pos c]
          · rw [if_neg c]; exact (f2 k (by omega)).1
        · rw [hN3, g_ms_s, upd]
          by_cases c : k = x
          · rw [if_pos c]
          · rw [if_neg c, hN2, g_ms_n (by decide)]; exact (f2 k (by omega)).2)
      rw [hN3, hN2, nI_succ] at hR
      exact g_go_ 30 (b_ge rfl (show (2048 : Int32) = nI 2048 from rfl) (by omega) (by decide) (fun z => by omega) (fun _ => ⟨x, rfl, by omega, x, rfl, by omega, Or.inl rfl, g_to hR _ rfl⟩))
  have R8 : ∀ m p s, p + m = a 0 → g_it (snF a (rcS a)) m p s = gl a → g_Run (g_cal e) (g_mt S0 k_X10_allSeen) Q 8 [.ref 82, .int (nI s), .int (nI p), .null, .null, .null, .null] [] N0 := by
    intro m
    induction m with
    | zero =>
      intro p s hp hs
      have hs' : s = gl a := hs
      subst hs'
      have hR := R48 2048 0 N0 (by omega) (fun c c1 c2 c3 c4 => fn.1 c c1 c2) rfl (fun k hk => by omega)
      refine g_go_ 20 ⟨0, rfl, by decide, ?_⟩
      exact b_ge rfl (fa0.1 0 (by decide)) (by omega) (by omega) (fun _ => g_to hR _ rfl) (fun y => by omega)
    | succ m ih =>
      intro p s hp hs
      have hR := ih (p + 1) (snF a (rcS a) p s) (by omega) hs
      unfold snF at hR
      rw [nI_succ, ← n_or] at hR
      refine g_go_ 40 ⟨0, rfl, by decide, ?_⟩
      refine b_ge rfl (fa0.1 0 (by decide)) (by omega) (by omega) (fun y => by omega) (fun _ => ?_)
      refine m_isFar (by omega) v fa0 _ _ 0 p rfl rfl (by omega) (by omega) ?_
      by_cases c : ds a 0 p < 100000
      · rw [decide_eq_true c]
        refine b_f (by decide) (m_get (by omega) p 4 rfl rfl (by omega) (by decide) ?_)
        rw [fa0.1 _ (by omega), show 16 + 5 * p + 4 = 20 + 5 * p by omega]
        rw [if_pos ((rcS_tb a p).mpr ⟨by omega, c⟩)] at hR
        exact g_to hR _ rfl
      · rw [decide_eq_false c]
        rw [if_neg (fun z => c ((rcS_tb a p).mp z).2)] at hR
        exact b_t rfl (g_to hR _ rfl)
  have hR := R8 (a 0) 0 0 (by omega) rfl
  have r4 : g_Run (g_cal e) (g_mt S0 k_X10_allSeen) Q 4 [.ref 82, .null, .null, .null, .null, .null, .null] [] N0 := g_go_ 4 (g_to hR _ rfl)
  exact g_to r4 _ rfl
theorem p_allSeen {d n : Nat} {M : g_M} (hd : 6 ≤ d) (I : Inv n M) : g_pair d k_X9_allSeen k_X10_allSeen [] M (Inv (n + 1)) := by
  have I0 := I
  obtain ⟨a, ⟨v, v2, v3⟩, ⟨g1, g2, tx, -⟩, hM, -⟩ := I
  refine g_m (by omega) 20 (fun e he => x_leastWay (by omega) v g1 g2 (fun N c f1 hc => ⟨_, rfl, ?_⟩))
  have s1 : Sm M N := by
    have hs : ∀ k, g_kp k = true → k ≠ 71 := fun k hk z => by rw [z] at hk; exact absurd hk (by decide)
    exact ⟨fun k hk => f1 k (hs k hk), by rw [f1 82 (by decide)], by rw [f1 82 (by decide)], by rw [f1 82 (by decide)], by rw [f1 67 (by decide)]⟩
  refine m_allSeen (by omega) v (hM.fr (s1.1 84 rfl)) (fun N2 c2 f2 hc2 => ?_)
  rw [opt_eq hc2 hc]
  refine ⟨rfl, ((I0.fr s1).fr ?_).up⟩
  have kp : ∀ k, g_kp k = true → N2 k = N k := fun k hk => f2 k (fun z => by rw [z] at hk; exact absurd hk (by decide)) (fun z => by rw [z] at hk; exact absurd hk (by decide)) (fun z => by rw [z] at hk; exact absurd hk (by decide)) (fun z => by rw [z] at hk; exact absurd hk (by decide))
  exact ⟨kp, by rw [f2 82 (by decide) (by decide) (by decide) (by decide)], by rw [f2 82 (by decide) (by decide) (by decide) (by decide)], by rw [f2 82 (by decide) (by decide) (by decide) (by decide)], by rw [f2 67 (by decide) (by decide) (by decide) (by decide)]⟩
