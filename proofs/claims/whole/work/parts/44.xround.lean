/-! ===== the component's round: its small methods ===== -/
def CS (M : g_M) (r : Nat) (a : Nat → Nat) (n : Nat) (s : RS) : Prop := M r 5 = nI (a 2) ∧ M r 6 = nI s.cn ∧ M r 9 = s.sd ∧ (∃ b, b < 256 ∧ M r 8 = nI b ∧ ∀ k, b.testBit k = s.lk k) ∧
  (∀ h, h < n → M (r + 1) h = nI (s.wh h) ∧ M (r + 2) h = nI (s.ho h) ∧ (s.ho h = 4 → M (r + 3) h = nI (s.cm h)) ∧ (s.ho h < 3 → M (r + 3) h = nI (s.wn h))) ∧ (∀ i, i < s.cn → M (r + 4) i = nI (s.ca i))
def CK (M : g_M) (s : RS) : Prop := M 66 0 = nI s.sp ∧ M 66 2 = nI s.pa ∧ M 66 4 = bI s.wk ∧ (s.wk = true → M 66 1 = nI s.to ∧ M 66 3 = nI s.mo) ∧ (s.wk = false → (s.mo < 100000 ∧ M 66 3 = nI s.mo) ∨ (s.mo = 100000 ∧ M 66 3 = 2147483647))
def CW (M : g_M) (tt : Nat) (a : Nat → Nat) : Prop := GX1 M 2 a ∧ GX2 M 2 a ∧ TX M tt a
def Fx (r : Nat) (M M' : g_M) : Prop := ∀ c, c ≠ 66 → (c < r ∨ r + 5 < c) → M' c = M c
theorem Fx.rf (r : Nat) (M : g_M) : Fx r M M := fun _ _ _ => rfl
theorem Fx.tr {r : Nat} {M M' M'' : g_M} (h : Fx r M M') (h2 : Fx r M' M'') : Fx r M M'' := fun c h1 h3 => (h2 c h1 h3).trans (h c h1 h3)
theorem GX1.fr {M M' : g_M} {g : Nat} {a : Nat → Nat} (h : GX1 M g a) (e : ∀ c, g ≤ c → c ≤ g + 11 → M' c = M c) : GX1 M' g a := by
  unfold GX1 at h ⊢
  rw [e g (by omega) (by omega), e (g + 1) (by omega) (by omega), e (g + 2) (by omega) (by omega), e (g + 3) (by omega) (by omega), e (g + 4) (by omega) (by omega), e (g + 5) (by omega) (by omega), e (g + 6) (by omega) (by omega), e (g + 7) (by omega) (by omega), e (g + 8) (by omega) (by omega)]
  exact h
theorem GX2.fr {M M' : g_M} {g : Nat} {a : Nat → Nat} (h : GX2 M g a) (e : ∀ c, g ≤ c → c ≤ g + 11 → M' c = M c) : GX2 M' g a := by
  unfold GX2 at h ⊢
  rw [e (g + 9) (by omega) (by omega), e (g + 10) (by omega) (by omega), e (g + 11) (by omega) (by omega)]
  exact h
theorem TX.fr {M M' : g_M} {t : Nat} {a : Nat → Nat} (h : TX M t a) (e : ∀ c, t ≤ c → c ≤ t + 2 → M' c = M c) : TX M' t a := by
  unfold TX at h ⊢
  rw [e t (by omega) (by omega), e (t + 1) (by omega) (by omega), e (t + 2) (by omega) (by omega)]
  exact h
theorem CW.fr {M M' : g_M} {r tt : Nat} {a : Nat → Nat} (h : CW M tt a) (hr : r = 17 ∨ r = 60) (ht : tt = 14 ∨ tt = 57) (f : Fx r M M') : CW M' tt a :=
  ⟨h.1.fr (fun c h1 h2 => f c (by omega) (by omega)), h.2.1.fr (fun c h1 h2 => f c (by omega) (by omega)), h.2.2.fr (fun c h1 h2 => f c (by omega) (by omega))⟩
theorem CK.fr {M M' : g_M} {s : RS} (h : CK M s) (e : M' 66 = M 66) : CK M' s := by unfold CK at h ⊢; rw [e]; exact h
theorem x_find {d r i t c : Nat} {M : g_M} {Q : g_R} (hd : 1 ≤ d) (hr : r = 17 ∨ r = 60) (hi : i < 8) (hc : c < 8) (h6 : M r 6 = nI c) (h : ∀ M', (∀ k, k ≠ r → k ≠ r + 2 → k ≠ r + 3 → k ≠ r + 4 → M' k = M k) → M' (r + 2) = upd (M (r + 2)) i 0 → M' (r + 3) = upd (M (r + 3)) i (nI t) → M' (r + 4) = upd (M (r + 4)) c (nI i) → M' r = upd (M r) 6 (nI (c + 1)) → Q none M') : g_cal d k_X4_find [.ref r, .int (nI i), .int (nI t)] M Q := by
  rcases hr with rfl | rfl
  all_goals
    refine g_m hd 40 (fun e he => ⟨i, rfl, hi, i, rfl, hi, ?_⟩)
    refine b_ge (a := c) h6 (show (8 : Int32) = nI 8 from rfl) (by omega) (by decide) (fun z => by omega) (fun _ => ⟨c, h6, hc, ?_⟩)
    refine h _ (fun k h1 h2 h3 h4 => ?_) rfl rfl rfl ?_
    · rw [g_ms_n h1, g_ms_n h4, g_ms_n h3, g_ms_n h2]
    · rw [g_ms_s, nI_succ, ← h6]; rfl
theorem x_draw {d r n : Nat} {M : g_M} {Q : g_R} (hd : 1 ≤ d) (hr : r = 17 ∨ r = 60) (h0 : 0 < n) (hn : n < 2 ^ 31) (h : Q (some (.int (nI (drw (nsd (M r 9)) n)))) (g_ms M r (upd (M r) 9 (nsd (M r 9))))) : g_cal d k_X4_drawBelow [.ref r, .int (nI n)] M Q := by
  have hl := lw_lt (nsd (M r 9))
  have q : ((nsd (M r 9) &&& 2147483647) / 256 - (nsd (M r 9) &&& 2147483647) / 256 / nI n * nI n) = nI (drw (nsd (M r 9)) n) := by
    rw [lw_nI, idv (x := nI (lw (nsd (M r 9)))) (y := 256) (b := 256) hl (by decide) (by decide) rfl rfl]
    exact irm (by have := Nat.div_le_self (lw (nsd (M r 9))) 256; omega) h0 hn rfl rfl
  rw [← q] at h
  rcases hr with rfl | rfl
  all_goals
    refine g_m hd 40 (fun e he => ?_)
    refine b_le (b := 0) rfl rfl hn (by decide) (fun z => by omega) (fun _ => ⟨by decide, ?_, h⟩)
    intro z
    have := (nI_eq (b := 0) hn (by decide)).mp z
    omega
theorem x_hidingIn {d r : Nat} {M : g_M} {Q : g_R} {a : Nat → Nat} {s : RS} (hd : 1 ≤ d) (hr : r = 17 ∨ r = 60) (b2 : a 2 ≤ 8) (bw : ∀ h, h < a 2 → s.wh h < 65536 ∧ s.ho h ≤ 4) (hS : CS M r a (a 2) s) (p : Nat) (hp : p < 65536) (h : Q (some (.int (nI (hidN a s p)))) M) : g_cal d k_X4_hidingIn [.ref r, .int (nI p)] M Q := by
  obtain ⟨s5, s6, s9, s8, sr, sc⟩ := hS
  rcases hr with rfl | rfl
  all_goals
    refine g_m hd 4 (fun e he => ?_)
    refine g_to (k := k_X4_hidingIn) (L := [.ref _, .int (nI p), .int (nI 0), .int (nI 0)]) (pc := 4) ?_ _ rfl
    refine g_loop (fun i n => g_Run (g_cal e) (g_mt S0 k_X4_hidingIn) Q 4 [.ref _, .int (nI p), .int (nI n), .int (nI i)] [] M) (fun _ _ => True) (fun h n => n + if s.ho h = 3 ∧ s.wh h = p then 1 else 0) (a 2) ?_ (fun _ _ _ _ => trivial) (a 2) 0 0 (by omega) trivial (fun _ => ?_)
    · intro i n hi _ hR
      obtain ⟨w1, w2, -, -⟩ := sr i hi
      obtain ⟨v1, v2⟩ := bw i hi
      rw [nI_succ, ← nI_add] at hR
      refine g_go_ 40 (b_ge rfl s5 (by omega) (by omega) (fun z => by omega) (fun _ => ⟨i, rfl, by omega, ?_⟩))
      rw [w2]
      refine b_ne rfl (show (3 : Int32) = nI 3 from rfl) (by omega) (by decide) (fun z => ?_) (fun z => ⟨i, rfl, by omega, ?_⟩)
      · rw [if_neg (fun w => z w.1)] at hR
        exact g_to hR _ rfl
      · rw [w1]
        refine b_ne rfl rfl (by omega) (by omega) (fun z2 => ?_) (fun z2 => ?_)
        · rw [if_neg (fun w => z2 w.2)] at hR
          exact g_to hR _ rfl
        · rw [if_pos ⟨z, z2⟩] at hR
          exact g_to hR _ rfl
    · exact g_go_ 40 (b_ge rfl s5 (by omega) (by omega) (fun _ => h) (fun z => by omega))
