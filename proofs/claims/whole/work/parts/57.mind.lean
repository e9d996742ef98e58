/-! ===== mind ===== -/
def hwm (a : Nat → Nat) (s : RS) (w : Nat) : Nat := cnt (fun h => decide (s.ho h = w)) (a 2)
theorem x_howMany {d r w : Nat} {M : g_M} {Q : g_R} {a : Nat → Nat} {s : RS} (hd : 1 ≤ d) (hr : r = 17 ∨ r = 60) (b2 : a 2 ≤ 8) (bo : ∀ h, h < a 2 → s.ho h ≤ 4) (cs : CS M r a (a 2) s) (hw : w ≤ 4) (h : Q (some (.int (nI (hwm a s w)))) M) : g_cal d k_X4_howMany [.ref r, .int (nI w)] M Q := by
  obtain ⟨s5, s6, s9, s8, sr, sc⟩ := cs
  unfold hwm at h
  rw [← cnt_it] at h
  rcases hr with rfl | rfl
  all_goals
    refine g_m hd 4 (fun e he => ?_)
    refine g_to (k := k_X4_howMany) (L := [.ref _, .int (nI w), .int (nI 0), .int (nI 0)]) (pc := 4) ?_ _ rfl
    refine g_loop (fun i n => g_Run (g_cal e) (g_mt S0 k_X4_howMany) Q 4 [.ref _, .int (nI w), .int (nI n), .int (nI i)] [] M) (fun _ _ => True) (fun h n => n + if decide (s.ho h = w) = true then 1 else 0) (a 2) ?_ (fun _ _ _ _ => trivial) (a 2) 0 0 (by omega) trivial (fun _ => ?_)
    · intro i n hi _ hR
      obtain ⟨w1, w2, -, -⟩ := sr i hi
      have bi := bo i hi
      rw [nI_succ, ← nI_add] at hR
      refine g_go_ 40 (b_ge rfl s5 (by omega) (by omega) (fun z => by omega) (fun _ => ⟨i, rfl, by omega, ?_⟩))
      rw [w2]
      refine b_ne rfl rfl (by omega) (by omega) (fun z => ?_) (fun z => ?_)
      · rw [if_neg (by rw [decide_eq_false z]; decide)] at hR
        exact g_to hR _ rfl
      · rw [if_pos (decide_eq_true z)] at hR
        exact g_to hR _ rfl
    · exact g_go_ 40 (b_ge rfl s5 (by omega) (by omega) (fun _ => h) (fun z => by omega))
theorem m_howMany {d w : Nat} {M : g_M} {Q : g_R} {a : Nat → Nat} {s : RS} (hd : 1 ≤ d) (b2 : a 2 ≤ 8) (bo : ∀ h, h < a 2 → s.ho h ≤ 4) (m2 : M 84 2 = nI (a 2)) (hS : MS M s) (hw : w ≤ 4) (h : Q (some (.int (nI (hwm a s w)))) M) : g_cal d k_X10_howMany [.ref 82, .int (nI w)] M Q := by
  have sr := hS.2.2.1
  unfold hwm at h
  rw [← cnt_it] at h
  refine g_m hd 4 (fun e he => ?_)
  refine g_to (k := k_X10_howMany) (L := [.ref 82, .int (nI w), .int (nI 0), .int (nI 0)]) (pc := 4) ?_ _ rfl
  refine g_loop (fun i n => g_Run (g_cal e) (g_mt S0 k_X10_howMany) Q 4 [.ref 82, .int (nI w), .int (nI n), .int (nI i)] [] M) (fun _ _ => True) (fun h n => n + if decide (s.ho h = w) = true then 1 else 0) (a 2) ?_ (fun _ _ _ _ => trivial) (a 2) 0 0 (by omega) trivial (fun _ => ?_)
  · intro i n hi _ hR
    obtain ⟨w1, w2, -, -⟩ := sr i (by omega)
    have bi := bo i hi
    rw [nI_succ, ← nI_add] at hR
    refine g_go_ 40 ⟨2, rfl, by decide, ?_⟩
    rw [m2]
    refine b_ge rfl rfl (by omega) (by omega) (fun z => by omega) (fun _ => ⟨i, rfl, by omega, ?_⟩)
    rw [w2]
    refine b_ne rfl rfl (by omega) (by omega) (fun z => ?_) (fun z => ?_)
    · rw [if_neg (by rw [decide_eq_false z]; decide)] at hR
      exact g_to hR _ rfl
    · rw [if_pos (decide_eq_true z)] at hR
      exact g_to hR _ rfl
  · refine g_go_ 40 ⟨2, rfl, by decide, ?_⟩
    rw [m2]
    exact b_ge rfl rfl (by omega) (by omega) (fun _ => h) (fun z => by omega)
/-- how a round ended -/
theorem ply_ok {a : Nat → Nat} (v : V1 a) (v2 : V2 a) (z : Int32) : (∀ h, h < a 2 → (ply a z).wh h < a 0 ∧ (ply a z).ho h ≤ 2 ∧ (ply a z).wn h ≤ 900) ∧ (ply a z).cn ≤ a 2 ∧ (∀ i, i < (ply a z).cn → (ply a z).ca i < a 2) ∧ (∀ h, (ply a z).lk h = true → h < a 2 ∧ 1 ≤ (ply a z).wh h) ∧ (∀ h, ¬ h < a 2 → (ply a z).wh h = 0 ∧ (ply a z).ho h = 0 ∧ (ply a z).wn h = 0) ∧ plt a z ≤ 900 := by
  have b14 : a 14 ≤ 900 := v2.2.2.2.2.2.2.2.1
  obtain ⟨R, T⟩ := plyR_ri v v2 (a 14) 0 (sec a 0 (hide a z)) (by omega) (ri_sec v v2 (by omega) ((HI.all v z).ri v))
  have T' : (plyR a z).1 ≤ a 14 := T
  have R' : RI a ((plyR a z).1 + 1) (plyR a z).2 := R
  unfold ply plt
  generalize (plyR a z).1 = t at *
  generalize (plyR a z).2 = s at *
  obtain ⟨i1, i2, i3, i4, i5, i6, i7, i8, i9⟩ := R'
  refine ⟨fun h hh => ?_, by show s.cn ≤ a 2; omega, i3, fun h hl => ⟨(i8 h hl).1, (i8 h hl).2.1⟩, fun h hh => ?_, by omega⟩
  · obtain ⟨j1, j2, j3, j4, j5⟩ := i1 h hh
    show s.wh h < a 0 ∧ (if h < a 2 ∧ 3 ≤ s.ho h then 2 else s.ho h) ≤ 2 ∧ (if h < a 2 ∧ 3 ≤ s.ho h then t else s.wn h) ≤ 900
    refine ⟨j1, ?_, ?_⟩
    · split <;> omega
    · split <;> omega
  · show s.wh h = 0 ∧ (if h < a 2 ∧ 3 ≤ s.ho h then 2 else s.ho h) = 0 ∧ (if h < a 2 ∧ 3 ≤ s.ho h then t else s.wn h) = 0
    rw [if_neg (fun y => hh y.1), if_neg (fun y => hh y.1)]
    exact i9 h hh
theorem Fx.sm {M M' : g_M} (h : Fx 60 M M') : Sm M M' := by
  refine ⟨fun c hc => h c (fun z => by rw [z] at hc; exact absurd hc (by decide)) ?_, ?_, ?_, ?_, ?_⟩
  · simp [g_kp] at hc; omega
  · rw [h 82 (by decide) (by decide)]
  · rw [h 82 (by decide) (by decide)]
  · rw [h 82 (by decide) (by decide)]
  · rw [h 67 (by decide) (by decide)]
theorem Fp.sm {M M' : g_M} (h : Fp M M') : Sm M M' := by
  refine ⟨fun c hc => h.1 c ?_ ?_ ?_ ?_, h.2 7 (by decide), h.2 37 (by decide), h.2 4 (by decide), by rw [h.1 67 (by decide) (by decide) (by decide) (by decide)]⟩
  · intro z; rw [z] at hc; exact absurd hc (by decide)
  · intro z; rw [z] at hc; exact absurd hc (by decide)
  · intro z; rw [z] at hc; exact absurd hc (by decide)
  · simp [g_kp] at hc; omega
theorem p_mind {d n : Nat} {M : g_M} {z w : Int32} (hd : 9 ≤ d) (I : Inv n M) : g_pair d k_X9_mind k_X10_mind [.int z, .int w] M (Inv (n + 1)) := by
  have I0 := I
  obtain ⟨a, ⟨v, v2, -⟩, ⟨g1, g2, tx, -⟩, hM, -⟩ := I
  have b2 : a 2 ≤ 8 := v.2.2.2.1
  obtain ⟨p1, p2, p3, p4, p5, p6⟩ := ply_ok v v2 z
  have bo : ∀ h, h < a 2 → (ply a z).ho h ≤ 4 := fun h hh => by have := (p1 h hh).2.1; omega
  have bad : inB w 4 = false → g_cal d k_X10_mind [.ref 82, .int z, .int w] (g_ms M 81 (upd (M 81) 2 (M 81 2 + 1))) (fun v2 M2 => v2 = some (.int (-2)) ∧ Inv (n + 1) M2) := by
    intro hw
    refine g_m (by omega) 60 (fun e he => m_isIn (by omega) ?_)
    rw [hw]
    exact b_nf rfl (m_refuse (by omega) 2 (by decide) (by decide) (e_ref I0 (by decide)))
  have hu1 : inB w 4 = true ↔ ¬ w < 0 ∧ w ≤ 3 := by
    unfold inB
    rw [Bool.and_eq_true, Bool.not_eq_true', decide_eq_false_iff_not, decide_eq_true_iff, Int32.lt_iff_toInt_lt, Int32.lt_iff_toInt_lt, Int32.le_iff_toInt_le, show (4 : Int32).toInt = 4 from by decide, show (3 : Int32).toInt = 3 from by decide]
    omega
  have nou : (w < 0 ∨ ¬ w ≤ 3) → inB w 4 = false := by
    intro h
    by_cases hb : inB w 4 = true
    · obtain ⟨h1, h2⟩ := hu1.mp hb
      rcases h with h | h
      · exact absurd h h1
      · exact absurd h2 h
    · exact Bool.not_eq_true _ ▸ hb
  refine g_m (by omega) 60 (fun e he => ⟨fun h1 => ?_, fun h1 => ⟨fun h2 => ?_, fun h2 => ?_⟩⟩)
  · exact x_refuse (by omega) 2 (by decide) (by decide) ⟨_, rfl, bad (nou (Or.inl h1))⟩
  · have hub := hu1.mpr ⟨h1, h2⟩
    obtain ⟨k, hk, rfl⟩ := nI_of2 (M := 3) (n := 3) (by decide) (x := w) h1 h2
    refine x_play (r := 60) (tt := 14) (by omega) (Or.inr rfl) (Or.inl rfl) v v2 ⟨g1, g2, tx⟩ (fun M1 f1 c1 c7 => ?_)
    have I1 := I0.fr f1.sm
    have hM1 : RM M1 84 a := hM.fr (f1 84 (by decide) (by decide))
    have md : ∀ r, r = (if k = 3 then nI (plt a z) else nI (hwm a (ply a z) k)) → g_cal d k_X10_mind [.ref 82, .int z, .int (nI k)] M1 (fun v2 M2 => v2 = some (.int r) ∧ Inv (n + 1) M2) := by
      intro r hr
      refine g_m (by omega) 60 (fun e he => m_isIn (by omega) ?_)
      rw [hub]
      refine b_nt (by decide) (m_plays (by omega) v v2 hM1 (fun N q1 q2 q3 q4 => ?_))
      have I2 := (I1.fr q1.sm).up
      refine b_ne rfl (show (3 : Int32) = nI 3 from rfl) (by omega) (by decide) (fun y => ?_) (fun y => ?_)
      · rw [if_neg y] at hr
        exact m_howMany (by omega) b2 bo q2.b2 q3 (by omega) ⟨by rw [hr], I2⟩
      · rw [if_pos y] at hr
        refine ⟨?_, I2⟩
        rw [hr, ← q4]
    match k, hk with
    | 0, _ => exact g_sw_of 68 (by decide) (x_howMany (w := 0) (by omega) (Or.inr rfl) b2 bo c1 (by decide) ⟨_, rfl, md _ rfl⟩)
    | 1, _ => exact g_sw_of 77 (by decide) (x_howMany (w := 1) (by omega) (Or.inr rfl) b2 bo c1 (by decide) ⟨_, rfl, md _ rfl⟩)
    | 2, _ => exact g_sw_of 86 (by decide) (x_howMany (w := 2) (by omega) (Or.inr rfl) b2 bo c1 (by decide) ⟨_, rfl, md _ rfl⟩)
    | 3, _ => exact g_sw_of 95 (by decide) ⟨_, rfl, md _ c7⟩
  · exact x_refuse (by omega) 2 (by decide) (by decide) ⟨_, rfl, bad (nou (Or.inr h2))⟩
