/-! ===== copies; image, on ===== -/
def GC (M M' : g_M) (g g0 : Nat) : Prop := M' g 0 = M g0 0 ∧ M' g 1 = M g0 1 ∧ M' g 2 = M g0 2 ∧ (∀ i, i < 8 → M' (g + 1) i = M (g0 + 1) i) ∧ (∀ i, i < 8 → M' (g + 2) i = M (g0 + 2) i) ∧ (∀ i, i < 8 → M' (g + 3) i = M (g0 + 3) i) ∧ (∀ i, i < 8 → M' (g + 4) i = M (g0 + 4) i) ∧ (∀ i, i < 8 → M' (g + 5) i = M (g0 + 5) i) ∧ (∀ i, i < 8 → M' (g + 6) i = M (g0 + 6) i) ∧ (∀ i, i < 8 → M' (g + 7) i = M (g0 + 7) i) ∧ (∀ i, i < 64 → M' (g + 8) i = M (g0 + 8) i) ∧ (∀ i, i < 64 → M' (g + 9) i = M (g0 + 9) i) ∧ (∀ i, i < 64 → M' (g + 10) i = M (g0 + 10) i) ∧ (∀ i, i < 64 → M' (g + 11) i = M (g0 + 11) i)
def TC (M M' : g_M) (g g0 : Nat) : Prop := (∀ i, i < 7 → M' (g + 1) i = M (g0 + 1) i) ∧ (∀ i, i < 8 → M' (g + 2) i = M (g0 + 2) i) ∧ M' g 2 = M g0 2
def LC (M M' : g_M) (g g0 : Nat) : Prop := (∀ i, i < 8 → M' (g + 1) i = M (g0 + 1) i) ∧ (∀ i, i < 8 → M' (g + 2) i = M (g0 + 2) i) ∧ (∀ i, i < 8 → M' (g + 3) i = M (g0 + 3) i) ∧ (∀ i, i < 8 → M' (g + 4) i = M (g0 + 4) i) ∧ M' g 5 = M g0 5 ∧ M' g 6 = M g0 6 ∧ M' g 7 = M g0 7 ∧ M' g 8 = M g0 8
theorem x_gcopy {d g g0 : Nat} {M : g_M} {Q : g_R} (hd : 1 ≤ d) (hp : (g = 45 ∧ g0 = 2) ∨ (g = 2 ∧ g0 = 45) ∨ (g = 24 ∧ g0 = 2) ∨ (g = 2 ∧ g0 = 24)) (h : ∀ M', (∀ c, (c < g ∨ g + 11 < c) → M' c = M c) → GC M M' g g0 → Q none M') : g_cal d k_X1_copyFrom [.ref g, .ref g0] M Q := by
  rcases hp with ⟨rfl, rfl⟩ | ⟨rfl, rfl⟩ | ⟨rfl, rfl⟩ | ⟨rfl, rfl⟩
  · refine g_m hd 130 (fun e he => ?_)
    refine ⟨0, 0, 8, rfl, rfl, rfl, by decide, by decide, 0, 0, 8, rfl, rfl, rfl, by decide, by decide, 0, 0, 8, rfl, rfl, rfl, by decide, by decide, 0, 0, 8, rfl, rfl, rfl, by decide, by decide, 0, 0, 8, rfl, rfl, rfl, by decide, by decide, 0, 0, 8, rfl, rfl, rfl, by decide, by decide, 0, 0, 8, rfl, rfl, rfl, by decide, by decide, 0, 0, 64, rfl, rfl, rfl, by decide, by decide, 0, 0, 64, rfl, rfl, rfl, by decide, by decide, 0, 0, 64, rfl, rfl, rfl, by decide, by decide, 0, 0, 64, rfl, rfl, rfl, by decide, by decide, h _ (fun c hc => ?_) ?_⟩
    · rw [g_ms_n (by omega), g_ms_n (by omega), g_ms_n (by omega), g_ms_n (by omega), g_ms_n (by omega), g_ms_n (by omega), g_ms_n (by omega), g_ms_n (by omega), g_ms_n (by omega), g_ms_n (by omega), g_ms_n (by omega), g_ms_n (by omega), g_ms_n (by omega), g_ms_n (by omega)]
    · exact ⟨rfl, rfl, rfl, fun i hi => sb_cpy0 hi, fun i hi => sb_cpy0 hi, fun i hi => sb_cpy0 hi, fun i hi => sb_cpy0 hi, fun i hi => sb_cpy0 hi, fun i hi => sb_cpy0 hi, fun i hi => sb_cpy0 hi, fun i hi => sb_cpy0 hi, fun i hi => sb_cpy0 hi, fun i hi => sb_cpy0 hi, fun i hi => sb_cpy0 hi⟩
  · refine g_m hd 130 (fun e he => ?_)
    refine ⟨0, 0, 8, rfl, rfl, rfl, by decide, by decide, 0, 0, 8, rfl, rfl, rfl, by decide, by decide, 0, 0, 8, rfl, rfl, rfl, by decide, by decide, 0, 0, 8, rfl, rfl, rfl, by decide, by decide, 0, 0, 8, rfl, rfl, rfl, by decide, by decide, 0, 0, 8, rfl, rfl, rfl, by decide, by decide, 0, 0, 8, rfl, rfl, rfl, by decide, by decide, 0, 0, 64, rfl, rfl, rfl, by decide, by decide, 0, 0, 64, rfl, rfl, rfl, by decide, by decide, 0, 0, 64, rfl, rfl, rfl, by decide, by decide, 0, 0, 64, rfl, rfl, rfl, by decide, by decide, h _ (fun c hc => ?_) ?_⟩
    · rw [g_ms_n (by omega), g_ms_n (by omega), g_ms_n (by omega), g_ms_n (by omega), g_ms_n (by omega), g_ms_n (by omega), g_ms_n (by omega), g_ms_n (by omega), g_ms_n (by omega), g_ms_n (by omega), g_ms_n (by omega), g_ms_n (by omega), g_ms_n (by omega), g_ms_n (by omega)]
    · exact ⟨rfl, rfl, rfl, fun i hi => sb_cpy0 hi, fun i hi => sb_cpy0 hi, fun i hi => sb_cpy0 hi, fun i hi => sb_cpy0 hi, fun i hi => sb_cpy0 hi, fun i hi => sb_cpy0 hi, fun i hi => sb_cpy0 hi, fun i hi => sb_cpy0 hi, fun i hi => sb_cpy0 hi, fun i hi => sb_cpy0 hi, fun i hi => sb_cpy0 hi⟩
  · refine g_m hd 130 (fun e he => ?_)
    refine ⟨0, 0, 8, rfl, rfl, rfl, by decide, by decide, 0, 0, 8, rfl, rfl, rfl, by decide, by decide, 0, 0, 8, rfl, rfl, rfl, by decide, by decide, 0, 0, 8, rfl, rfl, rfl, by decide, by decide, 0, 0, 8, rfl, rfl, rfl, by decide, by decide, 0, 0, 8, rfl, rfl, rfl, by decide, by decide, 0, 0, 8, rfl, rfl, rfl, by decide, by decide, 0, 0, 64, rfl, rfl, rfl, by decide, by decide, 0, 0, 64, rfl, rfl, rfl, by decide, by decide, 0, 0, 64, rfl, rfl, rfl, by decide, by decide, 0, 0, 64, rfl, rfl, rfl, by decide, by decide, h _ (fun c hc => ?_) ?_⟩
    · rw [g_ms_n (by omega), g_ms_n (by omega), g_ms_n (by omega), g_ms_n (by omega), g_ms_n (by omega), g_ms_n (by omega), g_ms_n (by omega), g_ms_n (by omega), g_ms_n (by omega), g_ms_n (by omega), g_ms_n (by omega), g_ms_n (by omega), g_ms_n (by omega), g_ms_n (by omega)]
    · exact ⟨rfl, rfl, rfl, fun i hi => sb_cpy0 hi, fun i hi => sb_cpy0 hi, fun i hi => sb_cpy0 hi, fun i hi => sb_cpy0 hi, fun i hi => sb_cpy0 hi, fun i hi => sb_cpy0 hi, fun i hi => sb_cpy0 hi, fun i hi => sb_cpy0 hi, fun i hi => sb_cpy0 hi, fun i hi => sb_cpy0 hi, fun i hi => sb_cpy0 hi⟩
  · refine g_m hd 130 (fun e he => ?_)
    refine ⟨0, 0, 8, rfl, rfl, rfl, by decide, by decide, 0, 0, 8, rfl, rfl, rfl, by decide, by decide, 0, 0, 8, rfl, rfl, rfl, by decide, by decide, 0, 0, 8, rfl, rfl, rfl, by decide, by decide, 0, 0, 8, rfl, rfl, rfl, by decide, by decide, 0, 0, 8, rfl, rfl, rfl, by decide, by decide, 0, 0, 8, rfl, rfl, rfl, by decide, by decide, 0, 0, 64, rfl, rfl, rfl, by decide, by decide, 0, 0, 64, rfl, rfl, rfl, by decide, by decide, 0, 0, 64, rfl, rfl, rfl, by decide, by decide, 0, 0, 64, rfl, rfl, rfl, by decide, by decide, h _ (fun c hc => ?_) ?_⟩
    · rw [g_ms_n (by omega), g_ms_n (by omega), g_ms_n (by omega), g_ms_n (by omega), g_ms_n (by omega), g_ms_n (by omega), g_ms_n (by omega), g_ms_n (by omega), g_ms_n (by omega), g_ms_n (by omega), g_ms_n (by omega), g_ms_n (by omega), g_ms_n (by omega), g_ms_n (by omega)]
    · exact ⟨rfl, rfl, rfl, fun i hi => sb_cpy0 hi, fun i hi => sb_cpy0 hi, fun i hi => sb_cpy0 hi, fun i hi => sb_cpy0 hi, fun i hi => sb_cpy0 hi, fun i hi => sb_cpy0 hi, fun i hi => sb_cpy0 hi, fun i hi => sb_cpy0 hi, fun i hi => sb_cpy0 hi, fun i hi => sb_cpy0 hi, fun i hi => sb_cpy0 hi⟩
theorem x_tcopy {d g g0 : Nat} {M : g_M} {Q : g_R} (hd : 1 ≤ d) (hp : (g = 57 ∧ g0 = 14) ∨ (g = 36 ∧ g0 = 14) ∨ (g = 14 ∧ g0 = 36)) (h : ∀ M', (∀ c, (c < g ∨ g + 2 < c) → M' c = M c) → TC M M' g g0 → Q none M') : g_cal d k_X7_copyFrom [.ref g, .ref g0] M Q := by
  rcases hp with ⟨rfl, rfl⟩ | ⟨rfl, rfl⟩ | ⟨rfl, rfl⟩
  · refine g_m hd 60 (fun e he => ?_)
    refine ⟨0, 0, 7, rfl, rfl, rfl, by decide, by decide, 0, 0, 8, rfl, rfl, rfl, by decide, by decide, h _ (fun c hc => ?_) ?_⟩
    · rw [g_ms_n (by omega), g_ms_n (by omega), g_ms_n (by omega)]
    · exact ⟨fun i hi => sb_cpy0 hi, fun i hi => sb_cpy0 hi, rfl⟩
  · refine g_m hd 60 (fun e he => ?_)
    refine ⟨0, 0, 7, rfl, rfl, rfl, by decide, by decide, 0, 0, 8, rfl, rfl, rfl, by decide, by decide, h _ (fun c hc => ?_) ?_⟩
    · rw [g_ms_n (by omega), g_ms_n (by omega), g_ms_n (by omega)]
    · exact ⟨fun i hi => sb_cpy0 hi, fun i hi => sb_cpy0 hi, rfl⟩
  · refine g_m hd 60 (fun e he => ?_)
    refine ⟨0, 0, 7, rfl, rfl, rfl, by decide, by decide, 0, 0, 8, rfl, rfl, rfl, by decide, by decide, h _ (fun c hc => ?_) ?_⟩
    · rw [g_ms_n (by omega), g_ms_n (by omega), g_ms_n (by omega)]
    · exact ⟨fun i hi => sb_cpy0 hi, fun i hi => sb_cpy0 hi, rfl⟩
theorem x_lcopy {d g g0 : Nat} {M : g_M} {Q : g_R} (hd : 1 ≤ d) (hp : (g = 39 ∧ g0 = 17) ∨ (g = 17 ∧ g0 = 39)) (h : ∀ M', (∀ c, (c < g ∨ g + 4 < c) → M' c = M c) → LC M M' g g0 → Q none M') : g_cal d k_X4_copyFrom [.ref g, .ref g0] M Q := by
  rcases hp with ⟨rfl, rfl⟩ | ⟨rfl, rfl⟩
  · refine g_m hd 80 (fun e he => ?_)
    refine ⟨0, 0, 8, rfl, rfl, rfl, by decide, by decide, 0, 0, 8, rfl, rfl, rfl, by decide, by decide, 0, 0, 8, rfl, rfl, rfl, by decide, by decide, 0, 0, 8, rfl, rfl, rfl, by decide, by decide, h _ (fun c hc => ?_) ?_⟩
    · rw [g_ms_n (by omega), g_ms_n (by omega), g_ms_n (by omega), g_ms_n (by omega), g_ms_n (by omega), g_ms_n (by omega), g_ms_n (by omega), g_ms_n (by omega)]
    · exact ⟨fun i hi => sb_cpy0 hi, fun i hi => sb_cpy0 hi, fun i hi => sb_cpy0 hi, fun i hi => sb_cpy0 hi, rfl, rfl, rfl, rfl⟩
  · refine g_m hd 80 (fun e he => ?_)
    refine ⟨0, 0, 8, rfl, rfl, rfl, by decide, by decide, 0, 0, 8, rfl, rfl, rfl, by decide, by decide, 0, 0, 8, rfl, rfl, rfl, by decide, by decide, 0, 0, 8, rfl, rfl, rfl, by decide, by decide, h _ (fun c hc => ?_) ?_⟩
    · rw [g_ms_n (by omega), g_ms_n (by omega), g_ms_n (by omega), g_ms_n (by omega), g_ms_n (by omega), g_ms_n (by omega), g_ms_n (by omega), g_ms_n (by omega)]
    · exact ⟨fun i hi => sb_cpy0 hi, fun i hi => sb_cpy0 hi, fun i hi => sb_cpy0 hi, fun i hi => sb_cpy0 hi, rfl, rfl, rfl, rfl⟩
def WC (M M' : g_M) (w' w : Nat) : Prop := GC M M' (w' + 1) (w + 1) ∧ TC M M' (w' + 13) (w + 13) ∧ LC M M' (w' + 16) (w + 16) ∧ M' w' 3 = M w 3
theorem GC.fr {M M' N N' : g_M} {g g0 : Nat} (h : GC M M' g g0) (e : ∀ c, g ≤ c → c ≤ g + 11 → N' c = M' c) (e0 : ∀ c, g0 ≤ c → c ≤ g0 + 11 → N c = M c) : GC N N' g g0 := by
  unfold GC at h ⊢
  rw [e g (by omega) (by omega), e0 g0 (by omega) (by omega), e (g + 1) (by omega) (by omega), e0 (g0 + 1) (by omega) (by omega), e (g + 2) (by omega) (by omega), e0 (g0 + 2) (by omega) (by omega), e (g + 3) (by omega) (by omega), e0 (g0 + 3) (by omega) (by omega), e (g + 4) (by omega) (by omega), e0 (g0 + 4) (by omega) (by omega), e (g + 5) (by omega) (by omega), e0 (g0 + 5) (by omega) (by omega), e (g + 6) (by omega) (by omega), e0 (g0 + 6) (by omega) (by omega), e (g + 7) (by omega) (by omega), e0 (g0 + 7) (by omega) (by omega), e (g + 8) (by omega) (by omega), e0 (g0 + 8) (by omega) (by omega), e (g + 9) (by omega) (by omega), e0 (g0 + 9) (by omega) (by omega), e (g + 10) (by omega) (by omega), e0 (g0 + 10) (by omega) (by omega), e (g + 11) (by omega) (by omega), e0 (g0 + 11) (by omega) (by omega)]
  exact h
theorem TC.fr {M M' N N' : g_M} {g g0 : Nat} (h : TC M M' g g0) (e : ∀ c, g ≤ c → c ≤ g + 2 → N' c = M' c) (e0 : ∀ c, g0 ≤ c → c ≤ g0 + 2 → N c = M c) : TC N N' g g0 := by
  unfold TC at h ⊢
  rw [e g (by omega) (by omega), e0 g0 (by omega) (by omega), e (g + 1) (by omega) (by omega), e0 (g0 + 1) (by omega) (by omega), e (g + 2) (by omega) (by omega), e0 (g0 + 2) (by omega) (by omega)]
  exact h
theorem LC.fr {M M' N N' : g_M} {g g0 : Nat} (h : LC M M' g g0) (e : ∀ c, g ≤ c → c ≤ g + 4 → N' c = M' c) (e0 : ∀ c, g0 ≤ c → c ≤ g0 + 4 → N c = M c) : LC N N' g g0 := by
  unfold LC at h ⊢
  rw [e g (by omega) (by omega), e0 g0 (by omega) (by omega), e (g + 1) (by omega) (by omega), e0 (g0 + 1) (by omega) (by omega), e (g + 2) (by omega) (by omega), e0 (g0 + 2) (by omega) (by omega), e (g + 3) (by omega) (by omega), e0 (g0 + 3) (by omega) (by omega), e (g + 4) (by omega) (by omega), e0 (g0 + 4) (by omega) (by omega)]
  exact h
theorem x_wcopy {d w w0 : Nat} {M : g_M} {Q : g_R} (hd : 2 ≤ d) (hp : (w = 23 ∧ w0 = 1) ∨ (w = 1 ∧ w0 = 23)) (h : ∀ M', (∀ c, (c < w ∨ w + 20 < c) → M' c = M c) → WC M M' w w0 → Q none M') : g_cal d k_X8_copyFrom [.ref w, .ref w0] M Q := by
  rcases hp with ⟨rfl, rfl⟩ | ⟨rfl, rfl⟩
  · refine g_m (by omega) 40 (fun e he => ?_)
    refine x_gcopy (by omega) (by omega) (fun M1 f1 c1 => ?_)
    refine x_tcopy (by omega) (by omega) (fun M2 f2 c2 => ?_)
    refine x_lcopy (by omega) (by omega) (fun M3 f3 c3 => ?_)
    refine h _ (fun c hc => ?_) ⟨c1.fr (fun c h1 h2 => ?_) (fun c h1 h2 => rfl), c2.fr (fun c h1 h2 => ?_) (fun c h1 h2 => ?_), c3.fr (fun c h1 h2 => ?_) (fun c h1 h2 => ?_), ?_⟩
    · rw [g_ms_n (by omega), f3 c (by omega), f2 c (by omega), f1 c (by omega)]
    · rw [g_ms_n (by omega), f3 c (by omega), f2 c (by omega)]
    · rw [g_ms_n (by omega), f3 c (by omega)]
    · rw [f1 c (by omega)]
    · rw [g_ms_n (by omega)]
    · rw [f2 c (by omega), f1 c (by omega)]
    · rw [g_ms_s]
      show M3 1 3 = M 1 3
      rw [f3 1 (by omega), f2 1 (by omega), f1 1 (by omega)]
  · refine g_m (by omega) 40 (fun e he => ?_)
    refine x_gcopy (by omega) (by omega) (fun M1 f1 c1 => ?_)
    refine x_tcopy (by omega) (by omega) (fun M2 f2 c2 => ?_)
    refine x_lcopy (by omega) (by omega) (fun M3 f3 c3 => ?_)
    refine h _ (fun c hc => ?_) ⟨c1.fr (fun c h1 h2 => ?_) (fun c h1 h2 => rfl), c2.fr (fun c h1 h2 => ?_) (fun c h1 h2 => ?_), c3.fr (fun c h1 h2 => ?_) (fun c h1 h2 => ?_), ?_⟩
    · rw [g_ms_n (by omega), f3 c (by omega), f2 c (by omega), f1 c (by omega)]
    · rw [g_ms_n (by omega), f3 c (by omega), f2 c (by omega)]
    · rw [g_ms_n (by omega), f3 c (by omega)]
    · rw [f1 c (by omega)]
    · rw [g_ms_n (by omega)]
    · rw [f2 c (by omega), f1 c (by omega)]
    · rw [g_ms_s]
      show M3 23 3 = M 23 3
      rw [f3 23 (by omega), f2 23 (by omega), f1 23 (by omega)]
/-- a copied garden, told, round hold what the first held -/
theorem GC.to1 {M M' : g_M} {g g0 : Nat} {a : Nat → Nat} (c : GC M M' g g0) (v : V1 a) (h : GX1 M g0 a) : GX1 M' g a := by
  obtain ⟨c1, c2, c3, d1, d2, d3, d4, d5, d6, d7, d8, d9, d10, d11⟩ := c
  obtain ⟨v1, v2, v3, v4, -⟩ := v
  obtain ⟨x1, x2, x3, x4, x5, x6⟩ := h
  refine ⟨c1.trans x1, c2.trans x2, c3.trans x3, fun p hp => ?_, fun p hp => ?_, fun x y hx hy => ?_⟩
  · rw [d1 p (by omega), d2 p (by omega), d3 p (by omega), d4 p (by omega), d5 p (by omega)]; exact x4 p hp
  · rw [d6 p (by omega), d7 p (by omega)]; exact x5 p hp
  · rw [d8 _ (by omega)]; exact x6 x y hx hy
theorem GC.to2 {M M' : g_M} {g g0 : Nat} {a : Nat → Nat} (c : GC M M' g g0) (v : V1 a) (h : GX2 M g0 a) : GX2 M' g a := by
  obtain ⟨c1, c2, c3, d1, d2, d3, d4, d5, d6, d7, d8, d9, d10, d11⟩ := c
  obtain ⟨v1, v2, v3, v4, -⟩ := v
  obtain ⟨x1, x2⟩ := h
  refine ⟨fun x y hx hy => ?_, fun x p hx hp => ?_⟩
  · rw [d9 _ (by omega)]; exact x1 x y hx hy
  · rw [d10 _ (by omega), d11 _ (by omega)]; exact x2 x p hx hp
theorem TC.to {M M' : g_M} {g g0 : Nat} {a : Nat → Nat} (c : TC M M' g g0) (v : V2 a) (h : TX M g0 a) : TX M' g a := by
  obtain ⟨c1, c2, c3⟩ := c
  obtain ⟨-, -, -, -, -, -, -, -, -, v1, -⟩ := v
  obtain ⟨x1, x2, x3⟩ := h
  refine ⟨fun k hk => ?_, c3.trans x2, fun i hi => ?_⟩
  · rw [c1 k hk]; exact x1 k hk
  · rw [c2 i (by omega)]; exact x3 i hi
theorem LC.to {M M' : g_M} {g g0 n : Nat} {a : Nat → Nat} (c : LC M M' g g0) (v : V1 a) (v3 : V3 n a) (h : LX M g0 a) : LX M' g a := by
  obtain ⟨c1, c2, c3, c4, c5, c6, -⟩ := c
  obtain ⟨-, -, -, q1, -⟩ := v
  obtain ⟨-, -, q2, q3⟩ := v3
  obtain ⟨x1, x2, x3, x4⟩ := h
  refine ⟨c5.trans x1, c6.trans x2, fun k hk => ?_, fun i hi => ?_⟩
  · rw [c1 k (by omega), c2 k (by omega), c3 k (by omega)]; exact x3 k hk
  · rw [c4 i (by omega)]; exact x4 i hi
theorem WC.to {M M' : g_M} {w w0 n : Nat} {a : Nat → Nat} (c : WC M M' w w0) (v : VV n a) (h : RX M w0 a) : RX M' w a :=
  ⟨c.1.to1 v.1 h.1, c.1.to2 v.1 h.2.1, c.2.1.to v.2.1 h.2.2.1, c.2.2.1.to v.1 v.2.2 h.2.2.2.1, c.2.2.2.trans h.2.2.2.2⟩
/-- the reference's copying loops -/
theorem cp_it (f g : Nat → Int32) : ∀ n k, k < n → g_it (fun i s => upd s i (f i)) n 0 g k = f k := by
  intro n
  induction n with
  | zero => intro k hk; omega
  | succ n ih =>
    intro k hk
    rw [g_it_succ, Nat.zero_add]
    unfold upd
    by_cases h : k = n
    · simp [h]
    · simp only [h, if_false]; exact ih k (by omega)
theorem p_image {d n : Nat} {M : g_M} (hd : 5 ≤ d) (I : Inv n M) : g_pair d k_X9_image k_X10_image [] M (Inv (n + 1)) := by
  obtain ⟨a, hv, hX, hM, hO, hI⟩ := I
  refine g_m (by omega) 40 (fun e he => ?_)
  refine x_wcopy (by omega) (Or.inl ⟨rfl, rfl⟩) (fun M1 f1 c1 => ?_)
  refine ⟨Or.inr rfl, ⟨_, rfl, ?_⟩⟩
  have hX1 : RX M1 1 a := hX.fr (fun c h1 h2 => f1 c (by omega))
  have hX2 : RX M1 23 a := c1.to hv hX
  have hM1 : RM M1 84 a := hM.fr (f1 84 (by omega))
  generalize hN : g_ms M1 0 (upd (M1 0) 14 1) = N
  have eN : ∀ c, c ≠ 0 → N c = M1 c := fun c hc => by rw [← hN]; exact g_ms_n hc
  have eM : ∀ c, c ≠ 0 → (c < 23 ∨ 43 < c) → N c = M c := fun c hc h => (eN c hc).trans (f1 c (by omega))
  have hMN : RM N 84 a := hM1.fr (eN 84 (by decide))
  show g_cal d k_X10_image [.ref 82] N _
  refine g_m (by omega) 2 (fun e he => ?_)
  have pl : some (Value.int (N 2 0)) = some (Value.int (M1 2 0)) := by rw [eN 2 (by decide)]
  refine g_loop (fun i f => g_Run (g_cal e) (g_mt S0 k_X10_image) (fun v2 M2 => v2 = some (.int (N 2 0)) ∧ Inv (n + 1) M2) 2 [.ref 82, .int (nI i)] [] (g_ms N 85 f)) (fun _ _ => True) (fun i s => upd s i (N 84 i)) 154 ?_ (fun _ _ _ _ => trivial) 154 0 (N 85) (by omega) trivial (fun _ => ?_) |> fun z => by rw [g_ms_self] at z; exact z
  · intro i f hi _ hR
    have hR' : g_Run (g_cal e) (g_mt S0 k_X10_image) (fun v2 M2 => v2 = some (.int (N 2 0)) ∧ Inv (n + 1) M2) 2 [.ref 82, .int (nI i + 1)] [] (g_ms (g_ms N 85 f) 85 (upd ((g_ms N 85 f) 85) i ((g_ms N 85 f) 84 i))) := by
      rw [g_ms_ms, g_ms_s, g_ms_n (by decide : (84 : Nat) ≠ 85), ← nI_succ]; exact hR
    exact g_go_ 20 (b_ge rfl (show (154 : Int32) = nI 154 from rfl) (by omega) (by decide) (fun z => by omega) (fun _ => ⟨i, rfl, by omega, i, rfl, by omega, g_to hR' _ rfl⟩))
  · refine g_go_ 20 (b_ge rfl (show (154 : Int32) = nI 154 from rfl) (by decide) (by decide) (fun _ => ⟨Or.inr rfl, 0, rfl, by decide, ?_⟩) (fun z => by omega))
    have cp := cp_it (N 84) (N 85) 154
    generalize g_it (fun i s => upd s i (N 84 i)) 154 0 (N 85) = f at cp ⊢
    have e2 : ∀ c, c ≠ 85 → c ≠ 82 → (g_ms (g_ms N 85 f) 82 (upd ((g_ms N 85 f) 82) 4 1)) c = N c := fun c h1 h2 => by rw [g_ms_n h2, g_ms_n h1]
    refine ⟨congrArg (fun z => some (Value.int z)) ?_, a, hv.mono, hX1.fr (fun c h1 h2 => ?_), hMN.fr rfl, ?_, fun _ => ⟨a, hv.mono, hX2.fr (fun c h1 h2 => ?_), fun k hk => ?_⟩⟩
    · show N 84 0 = N 2 0
      rw [hMN 0 (by decide), eN 2 (by decide)]; exact hX1.1.1.symm
    · rw [e2 c (by omega) (by omega), eN c (by omega)]
    · obtain ⟨o1, o2, o3, o4, o5⟩ := hO
      have n13 : N 0 13 = M 0 13 := by rw [← hN]; show M1 0 13 = M 0 13; rw [f1 0 (by omega)]
      have n14 : N 0 14 = 1 := by rw [← hN]; rfl
      unfold OX
      rw [e2 67 (by decide) (by decide), e2 68 (by decide) (by decide), e2 87 (by decide) (by decide), e2 0 (by decide) (by decide), e2 80 (by decide) (by decide), e2 106 (by decide) (by decide), e2 81 (by decide) (by decide), e2 83 (by decide) (by decide)]
      show (∃ m, m ≤ 64 ∧ N 67 2 = nI m ∧ N 82 7 = nI m ∧ _) ∧ (∃ m, m ≤ 8 ∧ N 0 13 = nI m ∧ N 82 37 = nI m ∧ _) ∧ _ ∧ N 0 14 = 1 ∧ _
      rw [n13, n14, eM 67 (by decide) (by omega), eM 82 (by decide) (by omega), eM 68 (by decide) (by omega), eM 87 (by decide) (by omega), eM 80 (by decide) (by omega), eM 106 (by decide) (by omega), eM 81 (by decide) (by omega), eM 83 (by decide) (by omega)]
      exact ⟨o1, o2, o3, rfl, Or.inr rfl⟩
    · rw [e2 c (by omega) (by omega), eN c (by omega)]
    · show f k = _
      rw [cp k hk]; exact hMN k hk
theorem p_on {d n : Nat} {M : g_M} (hd : 5 ≤ d) (I : Inv n M) : g_pair d k_X9_on k_X10_on [] M (Inv (n + 1)) := by
  have I0 := I
  obtain ⟨a, hv, hX, hM, hO, hI⟩ := I
  obtain ⟨o1, o2, o3, o4, o5⟩ := hO
  refine g_m (by omega) 40 (fun e he => ?_)
  show ((¬ M 0 14 = 0) → _) ∧ (M 0 14 = 0 → _)
  rcases o5 with z | z
  · rw [z]
    refine b_nf rfl (x_refuse (by omega) 3 (by decide) (by decide) ⟨_, rfl, ?_⟩)
    refine g_m (by omega) 40 (fun e he => ?_)
    show ((¬ M 82 4 = 0) → _) ∧ (M 82 4 = 0 → _)
    rw [← o4, z]
    exact b_nf rfl (m_refuse (by omega) 3 (by decide) (by decide) (e_ref I0 (by decide)))
  · rw [z]
    refine b_nt (by decide) (x_wcopy (by omega) (Or.inr ⟨rfl, rfl⟩) (fun M1 f1 c1 => ⟨_, rfl, ?_⟩))
    obtain ⟨b, bv, bX, bM⟩ := hI z
    have hX1 : RX M1 1 b := c1.to bv bX
    have hX2 : RX M1 23 b := bX.fr (fun c h1 h2 => f1 c (by omega))
    have hM1 : RM M1 85 b := bM.fr (f1 85 (by omega))
    refine g_m (by omega) 40 (fun e he => ?_)
    show ((¬ M1 82 4 = 0) → _) ∧ (M1 82 4 = 0 → _)
    rw [f1 82 (by omega), ← o4, z]
    refine b_nt (by decide) ?_
    have key : g_Run (g_cal e) (g_mt S0 k_X10_on) (fun v2 M2 => v2 = some (.int (M1 2 0)) ∧ Inv (n + 1) M2) 16 [.ref 82, .int (nI 0)] [] (g_ms M1 84 (M1 84)) := by
      refine g_loop (fun i f => g_Run (g_cal e) (g_mt S0 k_X10_on) (fun v2 M2 => v2 = some (.int (M1 2 0)) ∧ Inv (n + 1) M2) 16 [.ref 82, .int (nI i)] [] (g_ms M1 84 f)) (fun _ _ => True) (fun i s => upd s i (M1 85 i)) 154 ?_ (fun _ _ _ _ => trivial) 154 0 (M1 84) (by omega) trivial (fun _ => ?_)
      · intro i f hi _ hR
        have hR' : g_Run (g_cal e) (g_mt S0 k_X10_on) (fun v2 M2 => v2 = some (.int (M1 2 0)) ∧ Inv (n + 1) M2) 16 [.ref 82, .int (nI i + 1)] [] (g_ms (g_ms M1 84 f) 84 (upd ((g_ms M1 84 f) 84) i ((g_ms M1 84 f) 85 i))) := by
          rw [g_ms_ms, g_ms_s, g_ms_n (by decide : (85 : Nat) ≠ 84), ← nI_succ]; exact hR
        exact g_go_ 20 (b_ge rfl (show (154 : Int32) = nI 154 from rfl) (by omega) (by decide) (fun z => by omega) (fun _ => ⟨i, rfl, by omega, i, rfl, by omega, g_to hR' _ rfl⟩))
      · refine g_go_ 20 (b_ge rfl (show (154 : Int32) = nI 154 from rfl) (by decide) (by decide) (fun _ => ⟨0, rfl, by decide, ?_⟩) (fun z => by omega))
        have cp := cp_it (M1 85) (M1 84) 154
        generalize g_it (fun i s => upd s i (M1 85 i)) 154 0 (M1 84) = f at cp ⊢
        have e2 : ∀ c, c ≠ 84 → (g_ms M1 84 f) c = M1 c := fun c h1 => g_ms_n h1
        refine ⟨congrArg (fun z => some (Value.int z)) ?_, b, bv.mono, hX1.fr (fun c h1 h2 => e2 c (by omega)), fun k hk => ?_, ?_, fun _ => ⟨b, bv.mono, hX2.fr (fun c h1 h2 => e2 c (by omega)), hM1.fr (e2 85 (by decide))⟩⟩
        · show f 0 = M1 2 0
          rw [cp 0 (by decide), hM1 0 (by decide)]; exact hX1.1.1.symm
        · show f k = _
          rw [cp k hk]; exact hM1 k hk
        · unfold OX
          rw [e2 67 (by decide), e2 68 (by decide), e2 87 (by decide), e2 0 (by decide), e2 80 (by decide), e2 106 (by decide), e2 81 (by decide), e2 83 (by decide), e2 82 (by decide), f1 67 (by omega), f1 68 (by omega), f1 87 (by omega), f1 0 (by omega), f1 80 (by omega), f1 106 (by omega), f1 81 (by omega), f1 83 (by omega), f1 82 (by omega)]
          exact ⟨o1, o2, o3, o4, Or.inr z⟩
    rw [g_ms_self] at key
    exact g_to key _ rfl
