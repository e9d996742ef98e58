/-! ===== the start: what is known ===== -/
theorem s_arr {args : Array Value} {s : State} {ty : FieldType} (hty : ∀ C, ty ≠ .object C) (h : (Cond.arrayClass ty).before args s = true) : ∃ cB : ClassId, ArrOfT s cB ty ∧ va_RA s cB ty := by
  obtain ⟨cB, kA, comp, h1, h2, h3⟩ := Cond.arrayClass_spec h
  refine ⟨cB, fun n z => ⟨fun k h => (by cases h), kA, h2, comp, h3⟩, ?_⟩
  cases ty with
  | object C => exact absurd rfl (hty C)
  | _ => exact h1
theorem s_known {args : Array Value} {s : State} (hts : ∀ w ∈ g_tbl, w.before args s = true) : ∃ (D : va_G) (cA : Nat → ClassId), va_K D g_cls (g_tys cA) s := by
  obtain ⟨c0, i0, k0⟩ := u_known (C := gR0) (T := gT0) (N := 6) (n := 6) hts gI0 (hts _ nt_0)
  obtain ⟨c1, i1, k1⟩ := u_known (C := gR1) (T := gT1) (N := 14) (n := 14) hts gI1 (hts _ nt_1)
  obtain ⟨c2, i2, k2⟩ := u_known (C := gR2) (T := gT2) (N := 2) (n := 2) hts gI2 (hts _ nt_2)
  obtain ⟨c3, i3, k3⟩ := u_known (C := gR3) (T := gT3) (N := 4) (n := 4) hts gI3 (hts _ nt_3)
  obtain ⟨c4, i4, k4⟩ := u_known (C := gR4) (T := gT4) (N := 10) (n := 10) hts gI4 (hts _ nt_4)
  obtain ⟨c5, i5, k5⟩ := u_known (C := gR5) (T := gT5) (N := 5) (n := 5) hts gI5 (hts _ nt_5)
  obtain ⟨c6, i6, k6⟩ := u_known (C := gR6) (T := gT6) (N := 1) (n := 1) hts gI6 (hts _ nt_6)
  obtain ⟨c7, i7, k7⟩ := u_known (C := gR7) (T := gT7) (N := 3) (n := 3) hts gI7 (hts _ nt_7)
  obtain ⟨c8, i8, k8⟩ := u_known (C := gR8) (T := gT8) (N := 4) (n := 4) hts gI8 (hts _ nt_8)
  obtain ⟨c9, i9, k9⟩ := u_known (C := gR9) (T := gT9) (N := 15) (n := 15) hts gI9 (hts _ nt_9)
  obtain ⟨c10, i10, k10⟩ := u_known (C := gR10) (T := gT10) (N := 38) (n := 38) hts gI10 (hts _ nt_10)
  obtain ⟨cI, a1, a2⟩ := s_arr (ty := .int) (fun C h => by cases h) (hts _ na_int)
  obtain ⟨cB, b1, b2⟩ := s_arr (ty := .boolean) (fun C h => by cases h) (hts _ na_bool)
  refine ⟨(fun k => match k with | 0 => c0 | 1 => c1 | 2 => c2 | 3 => c3 | 4 => c4 | 5 => c5 | 6 => c6 | 7 => c7 | 8 => c8 | 9 => c9 | _ => c10, fun k => match k with | 0 => i0 | 1 => i1 | 2 => i2 | 3 => i3 | 4 => i4 | 5 => i5 | 6 => i6 | 7 => i7 | 8 => i8 | 9 => i9 | _ => i10), fun k => match k with | 0 => cI | _ => cB, ?_, ?_⟩
  · intro k q hq
    match k, hq with
    | 0, hq => have e : (gR0, gT0, 6) = q := Option.some.inj hq; subst e; exact k0
    | 1, hq => have e : (gR1, gT1, 14) = q := Option.some.inj hq; subst e; exact k1
    | 2, hq => have e : (gR2, gT2, 2) = q := Option.some.inj hq; subst e; exact k2
    | 3, hq => have e : (gR3, gT3, 4) = q := Option.some.inj hq; subst e; exact k3
    | 4, hq => have e : (gR4, gT4, 10) = q := Option.some.inj hq; subst e; exact k4
    | 5, hq => have e : (gR5, gT5, 5) = q := Option.some.inj hq; subst e; exact k5
    | 6, hq => have e : (gR6, gT6, 1) = q := Option.some.inj hq; subst e; exact k6
    | 7, hq => have e : (gR7, gT7, 3) = q := Option.some.inj hq; subst e; exact k7
    | 8, hq => have e : (gR8, gT8, 4) = q := Option.some.inj hq; subst e; exact k8
    | 9, hq => have e : (gR9, gT9, 15) = q := Option.some.inj hq; subst e; exact k9
    | 10, hq => have e : (gR10, gT10, 38) = q := Option.some.inj hq; subst e; exact k10
    | k + 11, hq => exact absurd hq (by simp [g_cls])
  · intro k q hq
    match k, hq with
    | 0, hq => have e : (cI, FieldType.int) = q := Option.some.inj hq; subst e; exact ⟨a1, a2⟩
    | 1, hq => have e : (cB, FieldType.boolean) = q := Option.some.inj hq; subst e; exact ⟨b1, b2⟩
    | k + 2, hq => exact absurd hq (by simp [g_tys])
/-- what the Statement gives of the start, in parts -/
def s_fl : List Cond := flatC (Jvm.Cond.and given_1 narrow_1)
theorem qsl_1 : Cond.laysStatic "InTheGarden" "SETTING_FIRST" "[I" ∈ lw_tbl := List.mem_append_right _ (List.mem_of_getElem? (i := 130) (by decide +kernel))
theorem qsl_2 : Cond.laysStatic "InTheGarden" "SETTING_LEAST" "[I" ∈ lw_tbl := List.mem_append_right _ (List.mem_of_getElem? (i := 605) (by decide +kernel))
theorem qsl_3 : Cond.laysStatic "InTheGarden" "SETTING_MOST" "[I" ∈ lw_tbl := List.mem_append_right _ (List.mem_of_getElem? (i := 607) (by decide +kernel))
theorem qsl_4 : Cond.laysStatic "java/lang/String" "COMPACT_STRINGS" "Z" ∈ lw_tbl := List.mem_append_right _ (List.mem_of_getElem? (i := 416) (by decide +kernel))
theorem qsl_5 : Cond.laysStatic "jdk/internal/util/Preconditions" "SIOOBE_FORMATTER" "Ljava/util/function/BiFunction;" ∈ lw_tbl := List.mem_append_right _ (List.mem_of_getElem? (i := 432) (by decide +kernel))
theorem qsi_0 : Cond.initialized "InTheGarden" ∈ lw_tbl := List.mem_append_right _ (List.mem_of_getElem? (i := 1) (by decide +kernel))
theorem qsi_1 : Cond.initialized "java/lang/String" ∈ lw_tbl := List.mem_append_right _ (List.mem_of_getElem? (i := 14) (by decide +kernel))
theorem qsi_2 : Cond.initialized "jdk/internal/util/Preconditions" ∈ lw_tbl := List.mem_append_right _ (List.mem_of_getElem? (i := 16) (by decide +kernel))
theorem qss_0 : Cond.stringRef "InTheGarden$Reader" 65 "KDT;" ∈ lw_tbl := List.mem_append_right _ (List.mem_of_getElem? (i := 398) (by decide +kernel))
theorem qss_1 : Cond.stringRef "InTheGarden$Reader" 67 "DD,N;" ∈ lw_tbl := List.mem_append_right _ (List.mem_of_getElem? (i := 399) (by decide +kernel))
theorem qss_2 : Cond.stringRef "InTheGarden$Reader" 69 "DD;" ∈ lw_tbl := List.mem_append_right _ (List.mem_of_getElem? (i := 400) (by decide +kernel))
theorem qss_3 : Cond.stringRef "InTheGarden$Reader" 71 "N,D;" ∈ lw_tbl := List.mem_append_right _ (List.mem_of_getElem? (i := 401) (by decide +kernel))
theorem qss_4 : Cond.stringRef "InTheGarden$Reader" 73 "" ∈ lw_tbl := List.mem_append_right _ (List.mem_of_getElem? (i := 402) (by decide +kernel))
theorem qss_5 : Cond.stringRef "InTheGarden$Reader" 83 "pksgmnhd" ∈ lw_tbl := List.mem_append_right _ (List.mem_of_getElem? (i := 467) (by decide +kernel))
theorem qsn_0 : Cond.methodLinkNest "InTheGarden$Garden" 72 ⟨"InTheGarden", "hasBit", "(II)Z"⟩ "InTheGarden" ∈ lw_tbl := List.mem_append_right _ (List.mem_of_getElem? (i := 557) (by decide +kernel))
theorem qsn_1 : Cond.methodLinkNest "InTheGarden$Round" 104 ⟨"InTheGarden", "hasBit", "(II)Z"⟩ "InTheGarden" ∈ lw_tbl := List.mem_append_right _ (List.mem_of_getElem? (i := 668) (by decide +kernel))
theorem qsn_2 : Cond.methodLinkNest "InTheGarden$Sight" 52 ⟨"InTheGarden", "hasBit", "(II)Z"⟩ "InTheGarden" ∈ lw_tbl := List.mem_append_right _ (List.mem_of_getElem? (i := 822) (by decide +kernel))
theorem qsn_3 : Cond.fieldLinkNest "InTheGarden$Told" 18 "InTheGarden" "SETTING_FIRST" "[I" "InTheGarden" ∈ lw_tbl := List.mem_append_right _ (List.mem_of_getElem? (i := 129) (by decide +kernel))
def s_tm (k : Nat) : Term := .static "InTheGarden" (match k with | 1 => "SETTING_FIRST" | 2 => "SETTING_LEAST" | _ => "SETTING_MOST") "[I"
def s_k (i : Nat) : Nat := [65, 67, 69, 71, 73, 83].getD i 0
def s_str (i : Nat) : Term := .string "InTheGarden$Reader" (s_k i)
def s_val (i : Nat) : Term := .field (s_str i) "java/lang/String" "value" "[B"
theorem qsa_1 : Cond.arrayOf (s_tm 1) .int ∈ s_fl := by decide +kernel
theorem qsb_1 : Cond.eq (.length (s_tm 1)) (.int (Int32.ofNat 7)) ∈ s_fl := by decide +kernel
theorem qsc_1 : ∀ j, j < 7 → Cond.eq (.elem (s_tm 1) (.int (Int32.ofNat j))) (.int ((g_st 1).getD j 0)) ∈ s_fl := by decide +kernel
theorem qsa_2 : Cond.arrayOf (s_tm 2) .int ∈ s_fl := by decide +kernel
theorem qsb_2 : Cond.eq (.length (s_tm 2)) (.int (Int32.ofNat 7)) ∈ s_fl := by decide +kernel
theorem qsc_2 : ∀ j, j < 7 → Cond.eq (.elem (s_tm 2) (.int (Int32.ofNat j))) (.int ((g_st 2).getD j 0)) ∈ s_fl := by decide +kernel
theorem qsa_3 : Cond.arrayOf (s_tm 3) .int ∈ s_fl := by decide +kernel
theorem qsb_3 : Cond.eq (.length (s_tm 3)) (.int (Int32.ofNat 7)) ∈ s_fl := by decide +kernel
theorem qsc_3 : ∀ j, j < 7 → Cond.eq (.elem (s_tm 3) (.int (Int32.ofNat j))) (.int ((g_st 3).getD j 0)) ∈ s_fl := by decide +kernel
theorem qsd_1 : Cond.eq (.static "java/lang/String" "COMPACT_STRINGS" "Z") (.int 1) ∈ s_fl := by decide +kernel
theorem qsd_2 : Cond.isRef (.static "jdk/internal/util/Preconditions" "SIOOBE_FORMATTER" "Ljava/util/function/BiFunction;") ∈ s_fl := by decide +kernel
theorem qse_1 : ∀ i, i < 6 → Cond.exactly (s_str i) "java/lang/String" ∈ s_fl := by decide +kernel
theorem qse_2 : ∀ i, i < 6 → Cond.eq (.field (s_str i) "java/lang/String" "coder" "B") (.int 0) ∈ s_fl := by decide +kernel
theorem qse_3 : ∀ i, i < 6 → Cond.arrayOf (s_val i) .byte ∈ s_fl := by decide +kernel
theorem qse_4 : ∀ i, i < 6 → Cond.eq (.length (s_val i)) (.int (Int32.ofNat (g_len.getD i 0))) ∈ s_fl := by decide +kernel
theorem qse_5 : ∀ i, i < 6 → ∀ j, j < g_len.getD i 0 → Cond.eq (.elem (s_val i) (.int (Int32.ofNat j))) (.int ((g_byt.getD i []).getD j 0)) ∈ s_fl := by decide +kernel
theorem qse_6 : ∀ i, i < 6 → ∀ j, j < 6 → i ≠ j → (Cond.not (Cond.eq (s_str i) (s_str j)) ∈ s_fl ∨ Cond.not (Cond.eq (s_str j) (s_str i)) ∈ s_fl) := by decide +kernel
theorem qse_7 : ∀ i, i < 6 → g_len.getD i 0 < 2 ^ 31 := by decide +kernel
theorem s_ext {args : Array Value} {s : State} (hgv : (Jvm.Cond.and given_1 narrow_1).before args s = true) (hts : ∀ w ∈ lw_tbl, w.before args s = true) : ∃ ξ : Nat → Nat, g_ext ξ (fun q => s.heap.size ≤ q) s s.heap := by
  have hs : ∀ w ∈ s_fl, w.before args s = true := flat_of_before _ hgv
  have hA : ∀ a : Nat, a < s.heap.size → ¬ (fun q : Nat => s.heap.size ≤ q) a := fun a h => Nat.not_le.mpr h
  obtain ⟨t1, e1, T1⟩ := va_Tof (tm := s_tm 1) (ty := .int) (N := 7) (f := fun j => .int ((g_st 1).getD j 0)) (by decide) (hs _ qsa_1) (va_eqt (hs _ qsb_1)) (fun j hj => va_eqt (hs _ (qsc_1 j hj))) hA
  obtain ⟨t2, e2, T2⟩ := va_Tof (tm := s_tm 2) (ty := .int) (N := 7) (f := fun j => .int ((g_st 2).getD j 0)) (by decide) (hs _ qsa_2) (va_eqt (hs _ qsb_2)) (fun j hj => va_eqt (hs _ (qsc_2 j hj))) hA
  obtain ⟨t3, e3, T3⟩ := va_Tof (tm := s_tm 3) (ty := .int) (N := 7) (f := fun j => .int ((g_st 3).getD j 0)) (by decide) (hs _ qsa_3) (va_eqt (hs _ qsb_3)) (fun j hj => va_eqt (hs _ (qsc_3 j hj))) hA
  have Z1 := va_Zof (hts _ qsl_1) (hts _ qsi_0) e1 hA
  have Z2 := va_Zof (hts _ qsl_2) (hts _ qsi_0) e2 hA
  have Z3 := va_Zof (hts _ qsl_3) (hts _ qsi_0) e3 hA
  have Z4 := va_Zof (hts _ qsl_4) (hts _ qsi_1) (va_eqt (hs _ qsd_1)) hA
  have Z5 := va_Zqof (hts _ qsl_5) (hts _ qsi_2) (hs _ qsd_2) hA
  obtain ⟨adK, adV, hV, hT⟩ := vk_Sof (tm := s_str) (byt := g_byt) qse_7 (fun i hi => hs _ (qse_1 i hi)) (fun i hi => hs _ (qse_2 i hi)) (fun i hi => hs _ (qse_3 i hi)) (fun i hi => hs _ (qse_4 i hi)) (fun i hi j hj => hs _ (qse_5 i hi j hj)) (fun i j hi hj hij => (qse_6 i hi j hj hij).imp (hs _) (hs _)) hA
  obtain ⟨t40, Z6⟩ : ∃ t40, va_Z "jdk/internal/util/Preconditions" "SIOOBE_FORMATTER" "Ljava/util/function/BiFunction;" .null (fun q => s.heap.size ≤ q) s s.heap ∨ va_Z "jdk/internal/util/Preconditions" "SIOOBE_FORMATTER" "Ljava/util/function/BiFunction;" (.ref t40) (fun q => s.heap.size ≤ q) s s.heap := by
    rcases Z5 with h | ⟨t, h⟩
    · exact ⟨0, Or.inl h⟩
    · exact ⟨t, Or.inr h⟩
  obtain ⟨ξ, x1, x2, x3, x4, xk, xv⟩ : ∃ ξ : Nat → Nat, ξ 1 = t1 ∧ ξ 2 = t2 ∧ ξ 3 = t3 ∧ ξ 40 = t40 ∧ (∀ i, i < 6 → ξ (10 + i) = adK i) ∧ (∀ i, i < 6 → ξ (20 + i) = adV i) := by
    refine ⟨fun k => if k = 1 then t1 else if k = 2 then t2 else if k = 3 then t3 else if k = 40 then t40 else if k < 20 then adK (k - 10) else adV (k - 20), rfl, rfl, rfl, rfl, fun i hi => ?_, fun i hi => ?_⟩
    · show (if 10 + i = 1 then t1 else if 10 + i = 2 then t2 else if 10 + i = 3 then t3 else if 10 + i = 40 then t40 else if 10 + i < 20 then adK (10 + i - 10) else adV (10 + i - 20)) = _
      rw [if_neg (by omega), if_neg (by omega), if_neg (by omega), if_neg (by omega), if_pos (by omega), Nat.add_sub_cancel_left]
    · show (if 20 + i = 1 then t1 else if 20 + i = 2 then t2 else if 20 + i = 3 then t3 else if 20 + i = 40 then t40 else if 20 + i < 20 then adK (20 + i - 10) else adV (20 + i - 20)) = _
      rw [if_neg (by omega), if_neg (by omega), if_neg (by omega), if_neg (by omega), if_neg (by omega), Nat.add_sub_cancel_left]
  have tx : ∀ i, i < 6 → (s_str i).eval args s none [] s = some (.ref (ξ (10 + i))) := fun i hi => by rw [xk i hi]; exact hT i hi
  refine ⟨ξ, ?_, ?_, ?_, ?_, ?_, ?_, Z4, ?_, ⟨fun i hi => ?_, fun i j hi hj h => ?_⟩, vk_R.of (hts _ qss_0) (tx 0 (by decide)), vk_R.of (hts _ qss_1) (tx 1 (by decide)), vk_R.of (hts _ qss_2) (tx 2 (by decide)), vk_R.of (hts _ qss_3) (tx 3 (by decide)), vk_R.of (hts _ qss_4) (tx 4 (by decide)), vk_R.of (hts _ qss_5) (tx 5 (by decide)), va_Nw.of rfl (hts _ qsn_0), va_Nw.of rfl (hts _ qsn_1), va_Nw.of rfl (hts _ qsn_2), va_Nw.of rfl (hts _ qsn_3)⟩
  · rw [x1]; exact T1
  · rw [x2]; exact T2
  · rw [x3]; exact T3
  · rw [x1]; exact Z1
  · rw [x2]; exact Z2
  · rw [x3]; exact Z3
  · rw [x4]; exact Z6
  · show va_O "java/lang/String" (ξ (10 + i)) _ s s.heap ∧ va_OF "java/lang/String" "coder" "B" (.int 0) (ξ (10 + i)) _ s s.heap ∧ va_OF "java/lang/String" "value" "[B" (.ref (ξ (20 + i))) (ξ (10 + i)) _ s s.heap ∧ va_T .byte (ξ (20 + i)) _ _ _ s s.heap
    rw [xk i hi, xv i hi]
    exact hV.1 i hi
  · have h : ξ (10 + i) = ξ (10 + j) := h
    rw [xk i hi, xk j hj] at h
    exact hV.2 i j hi hj h
