/-! ===== the start: both are made ===== -/
theorem xl_7 : Cond.classLink R_law 7 "InTheGarden" ∈ g_tbl := g_in1 21 rfl rfl
theorem xl_9 : Cond.methodLink R_law 9 ⟨"InTheGarden", "<init>", "()V"⟩ ∈ g_tbl := g_in1 23 rfl rfl
theorem xl_10 : Cond.classLink R_law 10 "InTheGardenModel" ∈ g_tbl := g_in5 13 rfl rfl
theorem xl_12 : Cond.methodLink R_law 12 ⟨"InTheGardenModel", "<init>", "()V"⟩ ∈ g_tbl := g_in5 15 rfl rfl
set_option maxRecDepth 100000 in
set_option maxHeartbeats 4000000 in
theorem s_join (cA : Nat → ClassId) (μ1 μ2 : Nat → Nat) (M1 M2 : g_M) : g_wld cA μ1 M1 S_9 ++ g_wld cA μ2 M2 S_10 = g_wld cA (g_kt 82 μ1 (fun a => μ2 (a - 82))) (g_kt 82 M1 (fun a => M2 (a - 82))) S0 := by
  rw [g_wld_eq, g_wld_eq, g_wld_eq]
  rfl
theorem s_inv {μ1 μ2 : Nat → Nat} {M1 M2 : g_M} (h1 : iP9 μ1 M1) (h2 : iP10 μ2 M2) : Inv 0 (g_kt 82 M1 (fun a => M2 (a - 82))) := by
  obtain ⟨M, lo, m82, m83, m84, hM⟩ : ∃ M : g_M, (∀ a, a < 82 → M a = M1 a) ∧ M 82 = M2 0 ∧ M 83 = M2 1 ∧ M 84 = M2 2 ∧ M = g_kt 82 M1 (fun a => M2 (a - 82)) := by
    refine ⟨g_kt 82 M1 (fun a => M2 (a - 82)), fun a ha => ?_, rfl, rfl, rfl, rfl⟩
    show cond (Nat.ble 82 a) _ _ = _
    rw [show Nat.ble 82 a = false from by
      cases h : Nat.ble 82 a with
      | false => rfl
      | true => exact absurd (Nat.le_of_ble_eq_true h) (by omega)]
    rfl
  rw [← hM]
  clear hM
  obtain ⟨r1, r2, r3, r4, r5⟩ := h1
  obtain ⟨q1, q2, q3⟩ := h2
  have n0 : (0 : Int32) = nI 0 := nI_0.symm
  have e67 : M 67 2 = nI 0 := by rw [lo 67 (by decide), r2, n0]
  have e13 : M 0 13 = nI 0 := by rw [lo 0 (by decide), r3, n0]
  have e14 : M 0 14 = 0 := by rw [lo 0 (by decide), r4]
  refine ⟨a0, ⟨a0_v1, by unfold V2; decide, by unfold V3; decide⟩, r1.fr (fun c _ hc => lo c (by omega)), fun k hk => by rw [m84]; exact q1 k hk, ⟨⟨0, by decide, e67, by rw [m82, q2, n0], fun i hi => absurd hi (by omega)⟩, ⟨0, by decide, e13, by rw [m82, q2, n0], fun i hi => absurd hi (by omega)⟩, fun i _ => by rw [lo 81 (by decide), r5, m83, q3], by rw [e14, m82, q2], Or.inl e14⟩, fun z => ?_⟩
  rw [e14] at z
  exact absurd z (by decide)
theorem s_fs9 : ∀ j, j < 15 → defaultValue (gY9 j) = vp_V [.null, .null, .null, .null, .null, .null, .null, .null, .null, .null, .null, .null, .null, .int 0, .int 0] j := (fun j hj => by rcases (show j = 0 ∨ j = 1 ∨ j = 2 ∨ j = 3 ∨ j = 4 ∨ j = 5 ∨ j = 6 ∨ j = 7 ∨ j = 8 ∨ j = 9 ∨ j = 10 ∨ j = 11 ∨ j = 12 ∨ j = 13 ∨ j = 14 by omega) with rfl | rfl | rfl | rfl | rfl | rfl | rfl | rfl | rfl | rfl | rfl | rfl | rfl | rfl | rfl <;> rfl)
theorem s_fs10 : ∀ j, j < 38 → defaultValue (gY10 j) = vp_V [.null, .null, .null, .null, .int 0, .null, .null, .int 0, .int 0, .null, .null, .null, .null, .null, .null, .null, .null, .int 0, .int 0, .int 0, .int 0, .int 0, .int 0, .int 0, .int 0, .int 0, .null, .null, .null, .null, .null, .null, .null, .int 0, .null, .null, .null, .int 0] j := (fun j hj => by rcases (show j = 0 ∨ j = 1 ∨ j = 2 ∨ j = 3 ∨ j = 4 ∨ j = 5 ∨ j = 6 ∨ j = 7 ∨ j = 8 ∨ j = 9 ∨ j = 10 ∨ j = 11 ∨ j = 12 ∨ j = 13 ∨ j = 14 ∨ j = 15 ∨ j = 16 ∨ j = 17 ∨ j = 18 ∨ j = 19 ∨ j = 20 ∨ j = 21 ∨ j = 22 ∨ j = 23 ∨ j = 24 ∨ j = 25 ∨ j = 26 ∨ j = 27 ∨ j = 28 ∨ j = 29 ∨ j = 30 ∨ j = 31 ∨ j = 32 ∨ j = 33 ∨ j = 34 ∨ j = 35 ∨ j = 36 ∨ j = 37 by omega) with rfl | rfl | rfl | rfl | rfl | rfl | rfl | rfl | rfl | rfl | rfl | rfl | rfl | rfl | rfl | rfl | rfl | rfl | rfl | rfl | rfl | rfl | rfl | rfl | rfl | rfl | rfl | rfl | rfl | rfl | rfl | rfl | rfl | rfl | rfl | rfl | rfl | rfl <;> rfl)
set_option maxHeartbeats 4000000 in
/-- YOUR PART: from the entry, for every script of at most 320 ints, the law comes to its end with true -/
theorem whole_start {p : Program} {e : Env} {s : State} {m : MethodId} {below : List Frame} {meth : Method} {c : Code} (l : Launch) (hflags : l.flags = flags0) {b L : Nat} {xs : Nat → Int32} (hL : L ≤ 320) (C0 : lw_At p s m meth c b L xs) : W p l e room_1 s m #[Value.ref b] below meth c s.heap [] 0 0 (lw_Z below #[Value.ref b] s) (entryFrame m ([Value.ref b] : List Value).toArray 4) := by
  obtain ⟨hx, hb, hr, hml, hown, hts, hX, hbl, hlocks, hgv⟩ := C0
  have hg : ∀ w ∈ g_tbl, w.before #[Value.ref b] s = true := fun w hw => hts w (List.mem_filter.mp hw).1
  obtain ⟨D, cA, hK⟩ := s_known hg
  obtain ⟨ξ, hE⟩ := s_ext hgv hts
  have C : i_Cx R_law code 4 p s m #[Value.ref b] c D cA ξ (fun q => s.heap.size ≤ q) := ⟨hx, hb, hml, hown, hg, hK, fun _ h => h, hE⟩
  have hS : va_S (fun q : Nat => s.heap.size ≤ q) s.heap s.heap [] := va_S.rf
  have hP : va_P D g_cls [] s.heap := fun k q h => by simp at h
  have hD : va_D (fun q : Nat => s.heap.size ≤ q) [] := ⟨fun i j p q h => by simp at h, fun k q h => by simp at h⟩
  have hl := lv_entry ([.ref b]) (n := 4) (Nat.le_of_ble_eq_true rfl)
  rw [lg_entry_eq]
  generalize (lg_sl ([.ref b]) ++ List.replicate (4 - (lg_sl ([.ref b])).length) Slot.unset).toArray = ls at hl ⊢
  have hl : lv_has ls 4 [(0, .ref b)] := hl
  refine i_make (pc := 0) (rest := []) C hl.1 iK9 ⟨rfl, rfl, by decide +kernel, nc_9, ni_9, xl_7, nt_9, xl_9, nm_9⟩ (c_init9 l D cA ξ) s_fs9 hP hD hS (Nat.le_of_ble_eq_true rfl) (Nat.le_of_ble_eq_true rfl) (Nat.le_of_ble_eq_true rfl) (Nat.le_of_ble_eq_true rfl) (Nat.le_of_ble_eq_true rfl) (show decode code 0 = .ok (.new 7, 3) by decide +kernel) (show decode code 3 = .ok (.dup, 1) by decide +kernel) (show decode code 4 = .ok (.invokespecial 9, 3) by decide +kernel) (fun μ1 M1 H locs h1 hP hD hS => ?_)
  refine lv_astore_n (lv' := [(1, .ref (μ1 0)), (0, .ref b)]) hx hb (show decode code 7 = .ok (.astore_n 1, 1) by decide +kernel) rfl hl (by decide) rfl (fun ls hl => ?_)
  refine i_make (pc := 8) (rest := []) C hl.1 iK10 ⟨rfl, rfl, by decide +kernel, nc_10, ni_10, xl_10, nt_10, xl_12, nm_10⟩ (c_init10 l D cA ξ) s_fs10 hP hD hS (Nat.le_of_ble_eq_true rfl) (Nat.le_of_ble_eq_true rfl) (Nat.le_of_ble_eq_true rfl) (Nat.le_of_ble_eq_true rfl) (Nat.le_of_ble_eq_true rfl) (show decode code 8 = .ok (.new 10, 3) by decide +kernel) (show decode code 11 = .ok (.dup, 1) by decide +kernel) (show decode code 12 = .ok (.invokespecial 12, 3) by decide +kernel) (fun μ2 M2 H locs h2 hP hD hS => ?_)
  refine lv_astore_n (lv' := [(2, .ref (μ2 0)), (1, .ref (μ1 0)), (0, .ref b)]) hx hb (show decode code 15 = .ok (.astore_n 2, 1) by decide +kernel) rfl hl (by decide) rfl (fun ls hl => ?_)
  refine lv_iconst (v := nI (5 * 0)) hx hb (show decode code 16 = .ok (.iconst 0, 1) by decide +kernel) (by decide +kernel) ?_
  refine lv_istore_n (lv' := [(3, .int (nI (5 * 0))), (2, .ref (μ2 0)), (1, .ref (μ1 0)), (0, .ref b)]) hx hb (show decode code 17 = .ok (.istore_n 3, 1) by decide +kernel) rfl hl (by decide) rfl (fun ls hl => ?_)
  rw [List.nil_append, s_join] at hP hD
  have I := s_inv h1 h2
  obtain ⟨μ, m0, m82, hμ⟩ : ∃ μ : Nat → Nat, μ 0 = μ1 0 ∧ μ 82 = μ2 0 ∧ μ = g_kt 82 μ1 (fun a => μ2 (a - 82)) := ⟨g_kt 82 μ1 (fun a => μ2 (a - 82)), rfl, rfl, rfl⟩
  rw [← hμ] at hP hD
  rw [← m0, ← m82] at hl
  exact law_loop ⟨hx, hb, hml, hown, hg, hK, hE, hX, hbl⟩ hL hr hlocks (Nat.le_of_ble_eq_true rfl) (Nat.le_of_ble_eq_true rfl) (L + 1) 0 _ H locs ls (by omega) (by omega) I hP hD hS (lv_sub hl [3, 2, 1, 0] rfl)
