/-! ===== small methods of both sides; the frame of Inv ===== -/
def inB (p n : Int32) : Bool := !decide (p < 0) && decide (p < n)
def inP (p n : Int32) : Bool := decide (0 < p) && decide (p < n)
def wth (v l m : Int32) : Int32 := if v < l then -4 else if m < v then -6 else 0
theorem inB_cases (p : Int32) {n : Nat} (hn : n < 2 ^ 31) : inB p (nI n) = false ∨ ∃ j, j < n ∧ p = nI j ∧ inB p (nI n) = true := by
  rcases pk_ix p hn with h | h | ⟨j, hj, rfl⟩
  · left; simp [inB, h]
  · left; simp [inB, Int32.not_lt.mpr h]
  · right; exact ⟨j, hj, rfl, by simp [inB, nI_pos (show j < 2 ^ 31 by omega), nI_lt hj hn]⟩
theorem inB_in {j n : Nat} (h : j < n) (hn : n < 2 ^ 31) : inB (nI j) (nI n) = true := by simp [inB, nI_pos (show j < 2 ^ 31 by omega), nI_lt h hn]
theorem inP_cases (p : Int32) {n : Nat} (hn : n < 2 ^ 31) : inP p (nI n) = false ∨ ∃ j, 0 < j ∧ j < n ∧ p = nI j ∧ inP p (nI n) = true := by
  rcases pk_ix p hn with h | h | ⟨j, hj, rfl⟩
  · left
    have : ¬ 0 < p := by intro h2; rw [Int32.lt_iff_toInt_lt] at h h2; omega
    simp [inP, this]
  · left; simp [inP, Int32.not_lt.mpr h]
  · by_cases h0 : j = 0
    · left; subst h0; simp [inP]; intro h; exact absurd h (by decide)
    · right; exact ⟨j, by omega, hj, rfl, by simp [inP, nI_lt hj hn]; exact nI_lt (a := 0) (by omega) (by omega)⟩
theorem inP_eq (p n : Int32) : (decide (0 < p) && inB p n) = inP p n := by
  unfold inP inB
  by_cases h : (0 : Int32) < p
  · have h2 : ¬ p < 0 := by intro h2; rw [Int32.lt_iff_toInt_lt] at h h2; omega
    simp [h, h2]
  · simp [h]
theorem x_refuse {d : Nat} {M : g_M} {c : Int32} {Q : g_R} (hd : 1 ≤ d) (j : Nat) (hc : -c = nI j) (hj : j < 7) (h : Q (some (.int c)) (g_ms M 81 (upd (M 81) j (M 81 j + 1)))) : g_cal d k_X9_refuse [.ref 0, .int c] M Q := by
  refine g_m hd 20 (fun e he => ?_)
  exact ⟨j, hc, hj, j, hc, hj, h⟩
theorem m_refuse {d : Nat} {M : g_M} {c : Int32} {Q : g_R} (hd : 1 ≤ d) (j : Nat) (hc : -c = nI j) (hj : j < 7) (h : Q (some (.int c)) (g_ms M 83 (upd (M 83) j (M 83 j + 1)))) : g_cal d k_X10_refuse [.ref 82, .int c] M Q := by
  refine g_m hd 20 (fun e he => ?_)
  exact ⟨j, hc, hj, j, hc, hj, h⟩
theorem x_isPlace {d : Nat} {M : g_M} {p : Int32} {Q : g_R} (hd : 1 ≤ d) (h : Q (some (.int (bI (inB p (M 2 0))))) M) : g_cal d k_X1_isPlace [.ref 2, .int p] M Q := by
  refine g_m hd 40 (fun e he => ?_)
  unfold inB at h
  refine ⟨fun h1 => ?_, fun h1 => ⟨fun h2 => ?_, fun h2 => ?_⟩⟩
  · simp only [h1] at h; exact ⟨rfl, h⟩
  · simp only [h1, Int32.not_lt.mpr h2] at h; exact ⟨rfl, h⟩
  · simp only [h1, Int32.not_le.mp h2] at h; exact ⟨rfl, h⟩
theorem x_isHider {d : Nat} {M : g_M} {p : Int32} {Q : g_R} (hd : 1 ≤ d) (h : Q (some (.int (bI (inB p (M 2 2))))) M) : g_cal d k_X1_isHider [.ref 2, .int p] M Q := by
  refine g_m hd 40 (fun e he => ?_)
  unfold inB at h
  refine ⟨fun h1 => ?_, fun h1 => ⟨fun h2 => ?_, fun h2 => ?_⟩⟩
  · simp only [h1] at h; exact ⟨rfl, h⟩
  · simp only [h1, Int32.not_lt.mpr h2] at h; exact ⟨rfl, h⟩
  · simp only [h1, Int32.not_le.mp h2] at h; exact ⟨rfl, h⟩
theorem x_isHid {d : Nat} {M : g_M} {p : Int32} {Q : g_R} (hd : 1 ≤ d) (h : Q (some (.int (bI (inP p (M 2 0))))) M) : g_cal d k_X1_isHidingPlace [.ref 2, .int p] M Q := by
  refine g_m hd 40 (fun e he => ?_)
  unfold inP at h
  refine ⟨fun h1 => ?_, fun h1 => ⟨fun h2 => ?_, fun h2 => ?_⟩⟩
  · simp only [Int32.not_lt.mpr h1] at h; exact ⟨rfl, h⟩
  · simp only [Int32.not_le.mp h1, Int32.not_lt.mpr h2] at h; exact ⟨rfl, h⟩
  · simp only [Int32.not_le.mp h1, Int32.not_le.mp h2] at h; exact ⟨rfl, h⟩
theorem m_isIn {d : Nat} {M : g_M} {p n : Int32} {Q : g_R} (hd : 1 ≤ d) (h : Q (some (.int (bI (inB p n)))) M) : g_cal d k_X10_isIn [.int p, .int n] M Q := by
  refine g_m hd 40 (fun e he => ?_)
  unfold inB at h
  refine ⟨fun h1 => ?_, fun h1 => ⟨fun h2 => ?_, fun h2 => ?_⟩⟩
  · simp only [h1] at h; exact ⟨rfl, h⟩
  · simp only [h1, Int32.not_lt.mpr h2] at h; exact ⟨rfl, h⟩
  · simp only [h1, Int32.not_le.mp h2] at h; exact ⟨rfl, h⟩
theorem m_within {d : Nat} {M : g_M} {v l m : Int32} {Q : g_R} (hd : 1 ≤ d) (h : Q (some (.int (wth v l m))) M) : g_cal d k_X10_within [.int v, .int l, .int m] M Q := by
  refine g_m hd 40 (fun e he => ?_)
  unfold wth at h
  refine ⟨fun h1 => ⟨fun h2 => ?_, fun h2 => ?_⟩, fun h1 => ?_⟩
  · rw [if_neg (Int32.not_lt.mpr h1), if_neg (Int32.not_lt.mpr h2)] at h; exact h
  · rw [if_neg (Int32.not_lt.mpr h1), if_pos (Int32.not_le.mp h2)] at h; exact h
  · rw [if_pos (Int32.not_le.mp h1)] at h; exact h
theorem m_isPlace {d : Nat} {M : g_M} {p : Int32} {Q : g_R} (hd : 2 ≤ d) (h : Q (some (.int (bI (inB p (M 84 0))))) M) : g_cal d k_X10_isPlace [.ref 82, .int p] M Q := by
  refine g_m (by omega) 40 (fun e he => ?_)
  exact ⟨0, rfl, by decide, m_isIn (by omega) ⟨bI_nar _, h⟩⟩
theorem m_isHider {d : Nat} {M : g_M} {p : Int32} {Q : g_R} (hd : 2 ≤ d) (h : Q (some (.int (bI (inB p (M 84 2))))) M) : g_cal d k_X10_isHider [.ref 82, .int p] M Q := by
  refine g_m (by omega) 40 (fun e he => ?_)
  exact ⟨2, rfl, by decide, m_isIn (by omega) ⟨bI_nar _, h⟩⟩
theorem m_isRoom {d : Nat} {M : g_M} {p : Int32} {Q : g_R} (hd : 3 ≤ d) (h : Q (some (.int (bI (inP p (M 84 0))))) M) : g_cal d k_X10_isRoom [.ref 82, .int p] M Q := by
  refine g_m (by omega) 40 (fun e he => ?_)
  rw [← inP_eq] at h
  refine ⟨fun h1 => ?_, fun h1 => m_isPlace (by omega) (b_z (fun h2 => ?_) (fun h2 => ?_))⟩
  · simp only [Int32.not_lt.mpr h1] at h; exact ⟨rfl, h⟩
  · simp only [h2, Bool.and_false] at h; exact ⟨rfl, h⟩
  · simp only [h2, Int32.not_le.mp h1] at h; exact ⟨rfl, h⟩
theorem m_get {d : Nat} {M : g_M} {p k : Int32} {Q : g_R} (hd : 1 ≤ d) (j i : Nat) (hp : p = nI j) (hk : k = nI i) (hj : j < 8) (hi : i < 5) (h : Q (some (.int (M 84 (16 + 5 * j + i)))) M) : g_cal d k_X10_get [.ref 82, .int p, .int k] M Q := by
  refine g_m hd 40 (fun e he => ?_)
  exact ⟨16 + 5 * j + i, ia (ia rfl (im rfl hp)) hk, by omega, h⟩
theorem m_setOf {d : Nat} {M : g_M} {k : Int32} {Q : g_R} (hd : 1 ≤ d) (i : Nat) (hk : k = nI i) (hi : i < 7) (h : Q (some (.int (M 84 (9 + i)))) M) : g_cal d k_X10_setOf [.ref 82, .int k] M Q := by
  refine g_m hd 40 (fun e he => ?_)
  exact ⟨9 + i, ia rfl hk, by omega, h⟩
theorem m_becomes {d : Nat} {M : g_M} {k v : Int32} {Q : g_R} (hd : 1 ≤ d) (i : Nat) (hk : k = nI i) (hi : i < 154) (h : Q (some (.int (M 84 i))) (g_ms M 84 (upd (M 84) i v))) : g_cal d k_X10_becomes [.ref 82, .int k, .int v] M Q := by
  refine g_m hd 40 (fun e he => ?_)
  exact ⟨i, hk, hi, i, hk, hi, h⟩
/-- what Inv looks at -/
def g_kp (c : Nat) : Bool := (decide (1 ≤ c) && decide (c ≤ 21)) || (decide (23 ≤ c) && decide (c ≤ 43)) || c == 0 || c == 68 || c == 80 || c == 81 || c == 83 || c == 84 || c == 85 || c == 87 || c == 106
def Sm (M M' : g_M) : Prop := (∀ c, g_kp c = true → M' c = M c) ∧ M' 82 7 = M 82 7 ∧ M' 82 37 = M 82 37 ∧ M' 82 4 = M 82 4 ∧ M' 67 2 = M 67 2
theorem Sm.rf (M : g_M) : Sm M M := ⟨fun _ _ => rfl, rfl, rfl, rfl, rfl⟩
theorem Sm.tr {M M' M'' : g_M} (h : Sm M M') (h2 : Sm M' M'') : Sm M M'' := ⟨fun c hc => (h2.1 c hc).trans (h.1 c hc), h2.2.1.trans h.2.1, h2.2.2.1.trans h.2.2.1, h2.2.2.2.1.trans h.2.2.2.1, h2.2.2.2.2.trans h.2.2.2.2⟩
theorem Sm.ms {M : g_M} {c : Nat} {f : Nat → Int32} (h : g_kp c = false) (h2 : c ≠ 82) (h3 : c ≠ 67) : Sm M (g_ms M c f) := by
  refine ⟨fun k hk => g_ms_n (fun z => by rw [z] at hk; rw [hk] at h; cases h), ?_, ?_, ?_, ?_⟩ <;> rw [g_ms_n (by omega)]
theorem Sm.RX1 {M M' : g_M} {a : Nat → Nat} (h : Sm M M') (hx : RX M 1 a) : RX M' 1 a := hx.fr (fun c h1 h2 => h.1 c (by simp [g_kp]; omega))
theorem Sm.RX2 {M M' : g_M} {a : Nat → Nat} (h : Sm M M') (hx : RX M 23 a) : RX M' 23 a := hx.fr (fun c h1 h2 => h.1 c (by simp [g_kp]; omega))
theorem Sm.ox {M M' : g_M} (h : Sm M M') (hx : OX M) : OX M' := by
  obtain ⟨h1, h2, h3, h4, h5⟩ := h
  unfold OX at hx ⊢
  rw [h1 0 rfl, h1 68 rfl, h1 80 rfl, h1 81 rfl, h1 83 rfl, h1 87 rfl, h1 106 rfl, h2, h3, h4, h5]
  exact hx
theorem Inv.fr {n : Nat} {M M' : g_M} (h : Inv n M) (hs : Sm M M') : Inv n M' := by
  obtain ⟨a, hV, hX, hM, hO, hI⟩ := h
  refine ⟨a, hV, hs.RX1 hX, hM.fr (hs.1 84 rfl), hs.ox hO, fun z => ?_⟩
  rw [hs.1 0 rfl] at z
  obtain ⟨b, h1, h2, h3⟩ := hI z
  exact ⟨b, h1, hs.RX2 h2, h3.fr (hs.1 85 rfl)⟩
theorem VV.mono {n : Nat} {a : Nat → Nat} (h : VV n a) : VV (n + 1) a := ⟨h.1, h.2.1, by have := h.2.2.1; exact ⟨by omega, h.2.2.2⟩⟩
theorem Inv.up {n : Nat} {M : g_M} (h : Inv n M) : Inv (n + 1) M := by
  obtain ⟨a, hV, hX, hM, hO, hI⟩ := h
  refine ⟨a, hV.mono, hX, hM, hO, fun z => ?_⟩
  obtain ⟨b, h1, h2⟩ := hI z
  exact ⟨b, h1.mono, h2⟩
/-- both refuse -/
def rfs (M : g_M) (j : Nat) : g_M := g_ms (g_ms M 81 (upd (M 81) j (M 81 j + 1))) 83 (upd (M 83) j (M 83 j + 1))
theorem Inv.ref {n : Nat} {M : g_M} (h : Inv n M) (j : Nat) (hj : j < 7) : Inv (n + 1) (rfs M j) := by
  obtain ⟨a, hV, hX, hM, hO, hI⟩ := h.up
  have e : ∀ c, c ≠ 81 → c ≠ 83 → rfs M j c = M c := fun c h1 h2 => by unfold rfs; rw [g_ms_n h2, g_ms_n h1]
  refine ⟨a, hV, hX.fr (fun c h1 h2 => e c (by omega) (by omega)), hM.fr (e 84 (by decide) (by decide)), ?_, fun z => ?_⟩
  · obtain ⟨o1, o2, o3, o4, o5⟩ := hO
    unfold OX
    rw [e 67 (by decide) (by decide), e 82 (by decide) (by decide), e 68 (by decide) (by decide), e 87 (by decide) (by decide), e 0 (by decide) (by decide), e 80 (by decide) (by decide), e 106 (by decide) (by decide)]
    refine ⟨o1, o2, fun i hi => ?_, o4, o5⟩
    unfold rfs
    rw [g_ms_n (by decide : (81 : Nat) ≠ 83), g_ms_s, g_ms_s]
    unfold upd
    by_cases z : i = j
    · simp only [z, if_true]; rw [o3 j hj]
    · simp only [z, if_false]; exact o3 i hi
  · rw [e 0 (by decide) (by decide)] at z
    obtain ⟨b, h1, h2, h3⟩ := hI z
    exact ⟨b, h1, h2.fr (fun c h1 h2 => e c (by omega) (by omega)), h3.fr (e 85 (by decide) (by decide))⟩
