theorem lkc_eq {a : Nat → Nat} {s : RS} (b2 : a 2 ≤ 8) (h : ∀ k, s.lk k = true → k < a 2) (p : Nat) : cnt (fun k => s.lk k && decide (s.wh k = p)) (a 2) = lkc s p := by
  unfold lkc
  have : ∀ m, cnt (fun k => s.lk k && decide (s.wh k = p)) (a 2 + m) = cnt (fun k => s.lk k && decide (s.wh k = p)) (a 2) := by
    intro m
    induction m with
    | zero => rfl
    | succ m ih =>
      rw [← ih]
      refine cnt_f ?_
      show (s.lk (a 2 + m) && _) = false
      by_cases z : s.lk (a 2 + m) = true
      · have := h _ z; omega
      · rw [show s.lk (a 2 + m) = false from Bool.not_eq_true _ ▸ z, Bool.false_and]
  have t := this (8 - a 2)
  rw [show a 2 + (8 - a 2) = 8 by omega] at t
  exact t.symm
theorem aft_lt {a : Nat → Nat} (v : V1 a) (v2 : V2 a) {z : Int32} (h8 : a 8 < 65000) (k : Nat) : aft a z k < 65536 := by
  obtain ⟨p1, p2, p3, p4, p5, p6⟩ := ply_ok v v2 z
  have b2 : a 2 ≤ 8 := v.2.2.2.1
  have b0 : a 0 ≤ 8 := v.2.1
  have bk : a k < 65536 := v.2.2.2.2.1 k
  have w : ∀ h, (ply a z).wh h < 65536 ∧ (ply a z).ho h < 65536 ∧ (ply a z).wn h < 65536 := by
    intro h
    by_cases c : h < a 2
    · have := p1 h c; omega
    · have := p5 h c; omega
  unfold aft
  split
  · omega
  · split
    · omega
    · split
      · omega
      · split
        · omega
        · split
          · omega
          · split
            · split
              · exact (w _).1
              · split
                · exact (w _).2.1
                · exact (w _).2.2
            · split
              · split
                · rename_i c; have := p3 _ c; omega
                · omega
              · split
                · omega
                · exact bk
theorem aft_vv {n : Nat} {a : Nat → Nat} (hv : VV n a) (hn : n < 1000) (z : Int32) : VV (n + 1) (aft a z) := by
  obtain ⟨v, v2, v3⟩ := hv
  obtain ⟨p1, p2, p3, p4, p5, p6⟩ := ply_ok v v2 z
  have b2 : a 2 ≤ 8 := v.2.2.2.1
  have b0 : a 0 ≤ 8 := v.2.1
  have lt := aft_lt v v2 (z := z) (by have := v3.1; omega)
  have e : ∀ {k}, (k < 4 ∨ (9 ≤ k ∧ k < 21) ∨ (56 ≤ k ∧ k < 122)) → aft a z k = a k := fun h => aft_lo h
  refine ⟨?_, v2.co (fun k hk => e (by omega)), ?_⟩
  · obtain ⟨u1, u2, u3, u4, u5, u6, u7, u8, u9, u10, u11, u12⟩ := v
    refine ⟨by rw [e (by omega)]; exact u1, by rw [e (by omega)]; exact u2, by rw [e (by omega)]; exact u3, by rw [e (by omega)]; exact u4, lt, fun p hp => ?_, by rw [e (by omega)]; exact u7, by rw [e (by omega)]; exact u8, by rw [e (by omega)]; exact u9, by rw [e (by omega)]; exact u10, fun h hh => ?_, fun i hi => ?_⟩
    · rw [e (by omega)] at hp
      have q := u6 p hp
      have r0 := aft_pl (a := a) (z := z) (p := p) (j := 0) (by omega) (by omega) (by omega)
      have r1 := aft_pl (a := a) (z := z) (p := p) (j := 1) (by omega) (by omega) (by omega)
      have r2 := aft_pl (a := a) (z := z) (p := p) (j := 2) (by omega) (by omega) (by omega)
      have r4 := aft_pl (a := a) (z := z) (p := p) (j := 4) (by omega) (by omega) (by omega)
      rw [show 16 + 5 * p + 0 = 16 + 5 * p by omega] at r0
      rw [show 16 + 5 * p + 1 = 17 + 5 * p by omega] at r1
      rw [show 16 + 5 * p + 2 = 18 + 5 * p by omega] at r2
      rw [show 16 + 5 * p + 4 = 20 + 5 * p by omega] at r4
      rw [r0, r1, r2, r4, show aft a z 0 = a 0 from e (by omega)]
      refine ⟨q.1, q.2.1, q.2.2.1, ?_, q.2.2.2.2.1, q.2.2.2.2.2⟩
      by_cases c : 1 ≤ p
      · rw [aft_tm hp (by omega) c]; omega
      · rw [e (by omega)]; exact q.2.2.2.1
    · rw [e (by omega)] at hh
      rw [e (by omega), e (by omega)]
      exact u11 h hh
    · rw [e (by omega)] at hi
      rw [e (by omega), e (by omega), e (by omega), e (by omega)]
      exact u12 i hi
  · have e8 : aft a z 8 = a 8 + 1 := rfl
    have e4 : aft a z 4 = 1 := rfl
    have e5 : aft a z 5 = a 2 := rfl
    have e6 : aft a z 6 = (ply a z).cn := rfl
    refine ⟨by rw [e8]; have := v3.1; omega, by rw [e8, e4, if_neg (by omega)], by rw [e5, e (by omega)]; exact Nat.le_refl _, by rw [e6]; omega⟩
def PD (N : g_M) (a : Nat → Nat) (z : Int32) (D : Nat → Prop) : Prop := ∀ k, k < 154 → (D k → N 84 k = nI (aft a z k)) ∧ (¬ D k → N 84 k = nI (a k))
theorem PD.st {N : g_M} {a : Nat → Nat} {z : Int32} {D D' : Nat → Prop} {k0 : Nat} {x : Int32} (h : PD N a z D) (hx : x = nI (aft a z k0)) (hD : ∀ k, D' k ↔ (D k ∨ k = k0)) : PD (g_ms N 84 (upd (N 84) k0 x)) a z D' := by
  intro k hk
  rw [g_ms_s]
  unfold upd
  by_cases e : k = k0
  · subst e
    rw [if_pos rfl]
    exact ⟨fun _ => hx, fun q => absurd ((hD k).mpr (Or.inr rfl)) q⟩
  · rw [if_neg e]
    refine ⟨fun q => (h k hk).1 ?_, fun q => (h k hk).2 (fun q2 => q ((hD k).mpr (Or.inl q2)))⟩
    rcases (hD k).mp q with q | q
    · exact q
    · exact absurd q e
