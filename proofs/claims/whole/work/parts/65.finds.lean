/-! ===== finds of trial rounds ===== -/
def fndF (a : Nat → Nat) (z : Int32) (i s : Nat) : Nat := s + hwm a (ply a (z + nI i)) 0
def fnd (a : Nat → Nat) (m : Nat) (z : Int32) : Nat := g_it (fndF a z) m 0 0
theorem x_finds {d m : Nat} {M : g_M} {Q : g_R} {a : Nat → Nat} {z : Int32} (hd : 7 ≤ d) (v : V1 a) (v2 : V2 a) (w : CW M 57 a) (hm : m ≤ 5) (h : ∀ M', Fx 60 M M' → Q (some (.int (nI (fnd a m z)))) M') : g_cal d k_X9_findsOfTrial [.ref 0, .int (nI m), .int z] M Q := by
  have b2 : a 2 ≤ 8 := v.2.2.2.1
  refine g_m (by omega) 5 (fun e he => ?_)
  have loop : ∀ k i s N, i + k = m → Fx 60 M N → g_it (fndF a z) k i s = fnd a m z → g_Run (g_cal e) (g_mt S0 k_X9_findsOfTrial) Q 5 [.ref 0, .int (nI m), .int z, .int (nI s), .int (nI i)] [] N := by
    intro k
    induction k with
    | zero =>
      intro i s N hi fx hk
      have hk' : s = fnd a m z := hk
      subst hk'
      exact g_go_ 20 (b_ge rfl rfl (by omega) (by omega) (fun _ => h N fx) (fun y => by omega))
    | succ k ih =>
      intro i s N hi fx hk
      obtain ⟨p1, -⟩ := ply_ok v v2 (z + nI i)
      refine g_go_ 40 (b_ge rfl rfl (by omega) (by omega) (fun y => by omega) (fun _ => ?_))
      refine x_play (r := 60) (tt := 57) (by omega) (Or.inr rfl) (Or.inr rfl) v v2 (w.fr (Or.inr rfl) (Or.inr rfl) fx) (fun M1 f1 c1 c7 => ?_)
      refine x_howMany (w := 0) (by omega) (Or.inr rfl) b2 (fun h hh => by have := (p1 h hh).2.1; omega) c1 (by decide) ?_
      have hR := ih (i + 1) (fndF a z i s) M1 (by omega) (fx.tr f1) hk
      unfold fndF at hR
      rw [nI_succ, ← nI_add] at hR
      exact g_to hR _ rfl
  exact g_to (loop m 0 0 M (by omega) (Fx.rf 60 M) rfl) _ rfl
theorem Fp.rf (M : g_M) : Fp M M := ⟨fun _ _ _ _ _ => rfl, fun _ _ => rfl⟩
theorem Fp.tr {M M' M'' : g_M} (h : Fp M M') (h2 : Fp M' M'') : Fp M M'' := ⟨fun c a1 a2 a3 a4 => (h2.1 c a1 a2 a3 a4).trans (h.1 c a1 a2 a3 a4), fun j hj => (h2.2 j hj).trans (h.2 j hj)⟩
theorem m_finds {d m : Nat} {M : g_M} {Q : g_R} {a : Nat → Nat} {z : Int32} (hd : 7 ≤ d) (v : V1 a) (v2 : V2 a) (hM : RM M 84 a) (hm : m ≤ 5) (h : ∀ M', Fp M M' → Q (some (.int (nI (fnd a m z)))) M') : g_cal d k_X10_findsBy [.ref 82, .int (nI m), .int z] M Q := by
  have b2 : a 2 ≤ 8 := v.2.2.2.1
  refine g_m (by omega) 5 (fun e he => ?_)
  have loop : ∀ k i s N, i + k = m → Fp M N → g_it (fndF a z) k i s = fnd a m z → g_Run (g_cal e) (g_mt S0 k_X10_findsBy) Q 5 [.ref 82, .int (nI m), .int z, .int (nI s), .int (nI i)] [] N := by
    intro k
    induction k with
    | zero =>
      intro i s N hi fx hk
      have hk' : s = fnd a m z := hk
      subst hk'
      exact g_go_ 20 (b_ge rfl rfl (by omega) (by omega) (fun _ => h N fx) (fun y => by omega))
    | succ k ih =>
      intro i s N hi fx hk
      obtain ⟨p1, -⟩ := ply_ok v v2 (z + nI i)
      refine g_go_ 40 (b_ge rfl rfl (by omega) (by omega) (fun y => by omega) (fun _ => ?_))
      refine m_plays (by omega) v v2 (hM.fr (fx.1 84 (by decide) (by decide) (by decide) (by decide))) (fun M1 f1 f2 f3 f4 => ?_)
      refine m_howMany (w := 0) (by omega) b2 (fun h hh => by have := (p1 h hh).2.1; omega) f2.b2 f3 (by decide) ?_
      have hR := ih (i + 1) (fndF a z i s) M1 (by omega) (fx.tr f1) hk
      unfold fndF at hR
      rw [nI_succ, ← nI_add] at hR
      exact g_to hR _ rfl
  exact g_to (loop m 0 0 M (by omega) (Fp.rf M) rfl) _ rfl
