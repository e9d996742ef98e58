/-! ===== bestRule ===== -/
theorem hwm_le (a : Nat → Nat) (s : RS) (w : Nat) : hwm a s w ≤ a 2 := cnt_le _ _
theorem fnd_le (a : Nat → Nat) (m : Nat) (z : Int32) (b2 : a 2 ≤ 8) : fnd a m z ≤ 8 * m := by
  unfold fnd
  exact g_it_J (fun i s => s ≤ 8 * i) (fndF a z) m (fun i s _ hs => by unfold fndF; have := hwm_le a (ply a (z + nI i)) 0; omega) m 0 0 (by omega) (Nat.le_refl _)
def brF (f : Nat → Nat) (r : Nat) (s : Nat × Nat) : Nat × Nat := if f r < s.2 then (r, f r) else s
theorem rl_v {a : Nat → Nat} (v : V1 a) (v2 : V2 a) {r : Nat} (hr : r ≤ 4) : V1 (aup a 12 r) ∧ V2 (aup a 12 r) :=
  ⟨v.co (aup_lt v.2.2.2.2.1 (by omega)) (fun k hk => aup_n (by omega)), v2.set (k := 3) (u := r) (by decide) (Nat.zero_le _) hr⟩
theorem rl_cw {M M' : g_M} {a : Nat → Nat} {r : Nat} (v : V1 a) (v2 : V2 a) (g1 : GX1 M 2 a) (g2 : GX2 M 2 a) (tx : TX M 57 a) (e : ∀ c, 2 ≤ c → c ≤ 13 → M' c = M c) (e57 : M' 57 = M 57) (e59 : M' 59 = M 59) (e58 : ∀ k, k < 7 → M' 58 k = if k = 3 then nI r else M 58 k) : CW M' 57 (aup a 12 r) := by
  refine ⟨g1.co v (fun c h1 h2 => e c (by omega) (by omega)) (aup_n (by omega)) (aup_n (by omega)) (aup_n (by omega)) (fun k h1 h2 => aup_n (by omega)), g2.co v (fun c h1 h2 => e c (by omega) (by omega)) (aup_n (by omega)) (aup_n (by omega)) (aup_n (by omega)) (fun k h1 h2 => aup_n (by omega)) (fun p hp => aup_n (by omega)), ?_⟩
  obtain ⟨t1, t2, t3⟩ := tx
  refine ⟨fun k hk => ?_, ?_, fun i hi => ?_⟩
  · show M' 58 k = _
    rw [e58 k hk]
    by_cases c : k = 3
    · subst c; rw [if_pos rfl]; rw [aup_s]
    · rw [if_neg c, aup_n (by omega)]; exact t1 k hk
  · rw [e57, aup_n (by omega)]; exact t2
  · rw [aup_n (by omega)] at hi
    show M' 59 i = _
    rw [e59, aup_n (by omega)]; exact t3 i hi
