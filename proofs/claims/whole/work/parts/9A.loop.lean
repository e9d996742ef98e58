/-! ===== the law: its loop ===== -/
theorem and31 (x : Int32) : ∃ j, j < 32 ∧ x &&& 31 = nI j := by
  refine ⟨x.toBitVec.toNat % 32, Nat.mod_lt _ (by decide), ?_⟩
  apply Int32.toBitVec_inj.mp
  apply BitVec.eq_of_toNat_eq
  rw [Int32.toBitVec_and, BitVec.toNat_and]
  have e : x.toBitVec.toNat &&& (2 ^ 5 - 1) = x.toBitVec.toNat % 2 ^ 5 := Nat.and_two_pow_sub_one_eq_mod _ 5
  show x.toBitVec.toNat &&& 31 = (BitVec.ofNat 32 (x.toBitVec.toNat % 32)).toNat
  rw [BitVec.toNat_ofNat]
  have e2 : x.toBitVec.toNat &&& 31 = x.toBitVec.toNat % 32 := e
  rw [e2]
  omega
theorem l_more {L i : Nat} (hL : L ≤ 320) (hi : i ≤ L) (h : ¬ nI L - 5 < nI i) : i + 5 ≤ L := by
  rcases Nat.lt_or_ge L 5 with q | q
  · exfalso
    apply h
    have : ∀ L, L < 5 → (nI L - 5 < 0) := by decide +kernel
    exact Int32.lt_of_lt_of_le (this L q) (nI_pos' (by omega))
  · obtain ⟨k, rfl⟩ : ∃ k, L = k + 5 := ⟨L - 5, by omega⟩
    have e : nI (k + 5) - 5 = nI k := by
      rw [← nI_add]
      show nI k + 5 - 5 = nI k
      exact Int32.add_sub_cancel _ _
    rw [e] at h
    rcases Nat.lt_or_ge k i with z | z
    · exact absurd (nI_lt z (by omega)) h
    · omega
theorem l_switch : decode code 32 = .ok (.tableswitch 1076 0 29 #[136, 199, 212, 245, 278, 311, 344, 377, 410, 473, 516, 549, 572, 605, 638, 661, 694, 707, 720, 733, 786, 829, 862, 905, 958, 991, 1014, 1027, 1040, 1053], 136) := by decide +kernel
section LAWLOOP
variable {p : Program} {l : Launch} {e : Env} {s : State} {m : MethodId} {below : List Frame} {meth : Method} {c : Code} {cells slots : Nat}
variable {b L : Nat} {xs : Nat → Int32} {D : va_G} {cA : Nat → ClassId} {μ ξ : Nat → Nat}
set_option maxHeartbeats 4000000 in
theorem law_loop (C : l_Cx p s m c b L xs D cA ξ) (hL : L ≤ 320) (hr : meth.sig.returnType = ret) (hlocks : meth.locks = false) (hcl : cells ≤ 600000) (hsl : slots ≤ 7302250) (N : Nat) : ∀ (n : Nat) (M : g_M) (H : Heap) (locs : List Loc) (ls : Array Slot), L + 1 ≤ 5 * n + N → 5 * n ≤ L → Inv n M → va_P D g_cls (g_wld cA μ M S0) H → va_D (fun q => s.heap.size ≤ q) (g_wld cA μ M S0) → va_S (fun q => s.heap.size ≤ q) s.heap H locs → lv_has ls 4 [(0, .ref b), (1, .ref (μ 0)), (2, .ref (μ 82)), (3, .int (nI (5 * n)))] → W p l e room_1 s m #[Value.ref b] below meth c H locs cells slots (lw_Z below #[Value.ref b] s) (F0 m 18 ls []) := by
  induction N with
  | zero =>
    intro n M H locs ls h1 h2
    exact absurd h2 (by omega)
  | succ N ih =>
    intro n M H locs ls h1 h2 I hP hD hS hl
    have hx := C.1
    have hb := C.2.1
    have hX := C.2.2.2.2.2.2.2.1
    have hbl := C.2.2.2.2.2.2.2.2
    refine lv_iload_n hx hb (show decode code 18 = .ok (.iload_n 3, 1) by decide +kernel) rfl (lv_at hl 3 rfl) ?_
    refine lv_aload_n hx hb (show decode code 19 = .ok (.aload_n 0, 1) by decide +kernel) rfl (lv_at hl 0 rfl) ?_
    refine va_slen hx hb hX hbl (Nat.not_le.mpr hbl) hS (show decode code 20 = .ok (.arraylength, 1) by decide +kernel) ?_
    refine lv_iconst (v := 5) hx hb (show decode code 21 = .ok (.iconst 5, 1) by decide +kernel) (by decide) ?_
    refine lv_isub hx hb (show decode code 22 = .ok (.isub, 1) by decide +kernel) ?_
    refine lv_icmp_gt (tgt := 1114) hx hb (show decode code 23 = .ok (.if_icmp .gt 1091, 3) by decide +kernel) (by decide) (fun _ => ?_) (fun hc => ?_)
    · refine lv_iconst (v := 1) hx hb (show decode code 1114 = .ok (.iconst 1, 1) by decide +kernel) (by decide) ?_
      refine va_forget (fun q hq => hS.2.2 q hq) ?_
      refine W.widen (k := 600000) (n := 7302250) hcl hsl ?_
      exact lw_ret hx hb hr hlocks (show decode code 1115 = .ok (.ireturn, 1) by decide +kernel)
    have hi : 5 * n + 5 ≤ L := l_more hL h2 hc
    have kk : ∀ (M' : g_M) (H1 : Heap) (locs1 : List Loc), Inv (n + 1) M' → va_P D g_cls (g_wld cA μ M' S0) H1 → va_D (fun q => s.heap.size ≤ q) (g_wld cA μ M' S0) → va_S (fun q => s.heap.size ≤ q) s.heap H1 locs1 → W p l e room_1 s m #[Value.ref b] below meth c H1 locs1 cells slots (lw_Z below #[Value.ref b] s) (F0 m 1108 ls []) := by
      intro M2 H2 locs2 I2 hP2 hD2 hS2
      refine lv_iinc (v := nI (5 * (n + 1))) (lv' := [(3, .int (nI (5 * (n + 1)))), (0, .ref b), (1, .ref (μ 0)), (2, .ref (μ 82))]) hx hb (show decode code 1108 = .ok (.iinc 3 5, 3) by decide +kernel) hl (k := 3) rfl (by rw [show 5 * (n + 1) = 5 * n + 5 by omega, ← nI_add]; rfl) (by decide) rfl (fun ls hl => ?_)
      refine lv_goto (tgt := 18) hx hb (show decode code 1111 = .ok (.goto (-1093), 3) by decide +kernel) (by decide) ?_
      exact ih (n + 1) M2 H2 locs2 ls (by omega) (by omega) I2 hP2 hD2 hS2 (lv_sub hl [1, 2, 3, 0] rfl)
    refine lv_aload_n hx hb (show decode code 26 = .ok (.aload_n 0, 1) by decide +kernel) rfl (lv_at hl 0 rfl) ?_
    refine lv_iload_n hx hb (show decode code 27 = .ok (.iload_n 3, 1) by decide +kernel) rfl (lv_at hl 3 rfl) ?_
    refine va_sld hx hb hX hbl (Nat.not_le.mpr hbl) hS (vp_in_nI (by omega) (by omega)) (show decode code 28 = .ok (.iaload, 1) by decide +kernel) ?_
    refine lv_bipush (v := 31) hx hb (show decode code 29 = .ok (.bipush 31, 2) by decide +kernel) (by decide +kernel) ?_
    refine lv_iand hx hb (show decode code 31 = .ok (.iand, 1) by decide +kernel) ?_
    obtain ⟨j, hj, ej⟩ := and31 (xs (nI (5 * n)).toNatClampNeg)
    rw [ej]
    clear ej ih hX
    have hn : n < 1000 := by omega
    rcases (show j = 0 ∨ j = 1 ∨ j = 2 ∨ j = 3 ∨ j = 4 ∨ j = 5 ∨ j = 6 ∨ j = 7 ∨ j = 8 ∨ j = 9 ∨ j = 10 ∨ j = 11 ∨ j = 12 ∨ j = 13 ∨ j = 14 ∨ j = 15 ∨ j = 16 ∨ j = 17 ∨ j = 18 ∨ j = 19 ∨ j = 20 ∨ j = 21 ∨ j = 22 ∨ j = 23 ∨ j = 24 ∨ j = 25 ∨ j = 26 ∨ j = 27 ∨ j = 28 ∨ j = 29 ∨ j = 30 ∨ j = 31 by omega) with rfl | rfl | rfl | rfl | rfl | rfl | rfl | rfl | rfl | rfl | rfl | rfl | rfl | rfl | rfl | rfl | rfl | rfl | rfl | rfl | rfl | rfl | rfl | rfl | rfl | rfl | rfl | rfl | rfl | rfl | rfl | rfl
    · exact lv_tableIn (x := nI 0) (off := 136) (tgt := 168) hx hb l_switch (by decide +kernel) (by decide +kernel) (by decide +kernel) (by decide) (lw_c0 C hl hi hL hn I hP hD hS hcl hsl kk)
    · exact lv_tableIn (x := nI 1) (off := 199) (tgt := 231) hx hb l_switch (by decide +kernel) (by decide +kernel) (by decide +kernel) (by decide) (lw_c1 C hl hi hL hn I hP hD hS hcl hsl kk)
    · exact lv_tableIn (x := nI 2) (off := 212) (tgt := 244) hx hb l_switch (by decide +kernel) (by decide +kernel) (by decide +kernel) (by decide) (lw_c2 C hl hi hL hn I hP hD hS hcl hsl kk)
    · exact lv_tableIn (x := nI 3) (off := 245) (tgt := 277) hx hb l_switch (by decide +kernel) (by decide +kernel) (by decide +kernel) (by decide) (lw_c3 C hl hi hL hn I hP hD hS hcl hsl kk)
    · exact lv_tableIn (x := nI 4) (off := 278) (tgt := 310) hx hb l_switch (by decide +kernel) (by decide +kernel) (by decide +kernel) (by decide) (lw_c4 C hl hi hL hn I hP hD hS hcl hsl kk)
    · exact lv_tableIn (x := nI 5) (off := 311) (tgt := 343) hx hb l_switch (by decide +kernel) (by decide +kernel) (by decide +kernel) (by decide) (lw_c5 C hl hi hL hn I hP hD hS hcl hsl kk)
    · exact lv_tableIn (x := nI 6) (off := 344) (tgt := 376) hx hb l_switch (by decide +kernel) (by decide +kernel) (by decide +kernel) (by decide) (lw_c6 C hl hi hL hn I hP hD hS hcl hsl kk)
    · exact lv_tableIn (x := nI 7) (off := 377) (tgt := 409) hx hb l_switch (by decide +kernel) (by decide +kernel) (by decide +kernel) (by decide) (lw_c7 C hl hi hL hn I hP hD hS hcl hsl kk)
    · exact lv_tableIn (x := nI 8) (off := 410) (tgt := 442) hx hb l_switch (by decide +kernel) (by decide +kernel) (by decide +kernel) (by decide) (lw_c8 C hl hi hL hn I hP hD hS hcl hsl kk)
    · exact lv_tableIn (x := nI 9) (off := 473) (tgt := 505) hx hb l_switch (by decide +kernel) (by decide +kernel) (by decide +kernel) (by decide) (lw_c9 C hl hi hL hn I hP hD hS hcl hsl kk)
    · exact lv_tableIn (x := nI 10) (off := 516) (tgt := 548) hx hb l_switch (by decide +kernel) (by decide +kernel) (by decide +kernel) (by decide) (lw_c10 C hl hi hL hn I hP hD hS hcl hsl kk)
    · exact lv_tableIn (x := nI 11) (off := 549) (tgt := 581) hx hb l_switch (by decide +kernel) (by decide +kernel) (by decide +kernel) (by decide) (lw_c11 C hl hi hL hn I hP hD hS hcl hsl kk)
    · exact lv_tableIn (x := nI 12) (off := 572) (tgt := 604) hx hb l_switch (by decide +kernel) (by decide +kernel) (by decide +kernel) (by decide) (lw_c12 C hl hi hL hn I hP hD hS hcl hsl kk)
    · exact lv_tableIn (x := nI 13) (off := 605) (tgt := 637) hx hb l_switch (by decide +kernel) (by decide +kernel) (by decide +kernel) (by decide) (lw_c13 C hl hi hL hn I hP hD hS hcl hsl kk)
    · exact lv_tableIn (x := nI 14) (off := 638) (tgt := 670) hx hb l_switch (by decide +kernel) (by decide +kernel) (by decide +kernel) (by decide) (lw_c14 C hl hi hL hn I hP hD hS hcl hsl kk)
    · exact lv_tableIn (x := nI 15) (off := 661) (tgt := 693) hx hb l_switch (by decide +kernel) (by decide +kernel) (by decide +kernel) (by decide) (lw_c15 C hl hi hL hn I hP hD hS hcl hsl kk)
    · exact lv_tableIn (x := nI 16) (off := 694) (tgt := 726) hx hb l_switch (by decide +kernel) (by decide +kernel) (by decide +kernel) (by decide) (lw_c16 C hl hi hL hn I hP hD hS hcl hsl kk)
    · exact lv_tableIn (x := nI 17) (off := 707) (tgt := 739) hx hb l_switch (by decide +kernel) (by decide +kernel) (by decide +kernel) (by decide) (lw_c17 C hl hi hL hn I hP hD hS hcl hsl kk)
    · exact lv_tableIn (x := nI 18) (off := 720) (tgt := 752) hx hb l_switch (by decide +kernel) (by decide +kernel) (by decide +kernel) (by decide) (lw_c18 C hl hi hL hn I hP hD hS hcl hsl kk)
    · exact lv_tableIn (x := nI 19) (off := 733) (tgt := 765) hx hb l_switch (by decide +kernel) (by decide +kernel) (by decide +kernel) (by decide) (lw_c19 C hl hi hL hn I hP hD hS hcl hsl kk)
    · exact lv_tableIn (x := nI 20) (off := 786) (tgt := 818) hx hb l_switch (by decide +kernel) (by decide +kernel) (by decide +kernel) (by decide) (lw_c20 C hl hi hL hn I hP hD hS hcl hsl kk)
    · exact lv_tableIn (x := nI 21) (off := 829) (tgt := 861) hx hb l_switch (by decide +kernel) (by decide +kernel) (by decide +kernel) (by decide) (lw_c21 C hl hi hL hn I hP hD hS hcl hsl kk)
    · exact lv_tableIn (x := nI 22) (off := 862) (tgt := 894) hx hb l_switch (by decide +kernel) (by decide +kernel) (by decide +kernel) (by decide) (lw_c22 C hl hi hL hn I hP hD hS hcl hsl kk)
    · exact lv_tableIn (x := nI 23) (off := 905) (tgt := 937) hx hb l_switch (by decide +kernel) (by decide +kernel) (by decide +kernel) (by decide) (lw_c23 C hl hi hL hn I hP hD hS hcl hsl kk)
    · exact lv_tableIn (x := nI 24) (off := 958) (tgt := 990) hx hb l_switch (by decide +kernel) (by decide +kernel) (by decide +kernel) (by decide) (lw_c24 C hl hi hL hn I hP hD hS hcl hsl kk)
    · exact lv_tableIn (x := nI 25) (off := 991) (tgt := 1023) hx hb l_switch (by decide +kernel) (by decide +kernel) (by decide +kernel) (by decide) (lw_c25 C hl hi hL hn I hP hD hS hcl hsl kk)
    · exact lv_tableIn (x := nI 26) (off := 1014) (tgt := 1046) hx hb l_switch (by decide +kernel) (by decide +kernel) (by decide +kernel) (by decide) (lw_c26 C hl hi hL hn I hP hD hS hcl hsl kk)
    · exact lv_tableIn (x := nI 27) (off := 1027) (tgt := 1059) hx hb l_switch (by decide +kernel) (by decide +kernel) (by decide +kernel) (by decide) (lw_c27 C hl hi hL hn I hP hD hS hcl hsl kk)
    · exact lv_tableIn (x := nI 28) (off := 1040) (tgt := 1072) hx hb l_switch (by decide +kernel) (by decide +kernel) (by decide +kernel) (by decide) (lw_c28 C hl hi hL hn I hP hD hS hcl hsl kk)
    · exact lv_tableIn (x := nI 29) (off := 1053) (tgt := 1085) hx hb l_switch (by decide +kernel) (by decide +kernel) (by decide +kernel) (by decide) (lw_c29 C hl hi hL hn I hP hD hS hcl hsl kk)
    · exact lv_tableOut (x := nI 30) (tgt := 1108) hx hb l_switch (by decide +kernel) (by decide) (kk M H locs I.up hP hD hS)
    · exact lv_tableOut (x := nI 31) (tgt := 1108) hx hb l_switch (by decide +kernel) (by decide) (kk M H locs I.up hP hD hS)
end LAWLOOP
