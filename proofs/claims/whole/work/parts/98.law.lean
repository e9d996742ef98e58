/-! THE CLAIM OUT OF ONE WALK OF THE LAW'S BODY. Your part is whole_start (and what it stands on); all else here is the same for every law, but numbers. -/
def R_law : String := "InTheGardenLaw"
def lw_P (b : Addr) (xs : List Int32) (args : Array Value) (s : State) : Prop := args = #[.ref b] ∧ s.IntsAt b xs ∧ xs.length ≤ 320 ∧ (Jvm.Cond.and given_1 narrow_1).before args s = true
def lw_Q (_ : Array Value) (s : State) (o : Outcome) (t : State) : Prop := o = .returned (some (.int 1)) ∧ Framed s o t [] 600000 7302250
def lw_Z (below : List Frame) (a : Array Value) (s : State) : State → Prop := fun t => ∃ o, t.status = .running ∧ Ended t below o ∧ lw_Q a s o t
/-- the law's own end, with 1 on the stack, nothing written that was there before, its room as the claim has it -/
theorem lw_ret {p : Program} {l : Launch} {e : Env} {s : State} {m : MethodId} {below : List Frame} {meth : Method} {c : Code} {b : Nat} (hx : p.tables.exec = Jvm.exec) (hb : c.code = code) (hr : meth.sig.returnType = ret) (hlocks : meth.locks = false) {pc : Nat} {H : Heap} {ls : Array Slot} (hdg : decode code pc = .ok (.ireturn, 1)) : W p l e room_1 s m #[Value.ref b] below meth c H [] 600000 7302250 (lw_Z below #[Value.ref b] s) (F0 m pc ls [.int 1]) := by
  intro T hT X
  obtain ⟨fs, hret, hrun, hended, hW, hframe⟩ := X.leave (v := some (.int 1)) (hlocks := hlocks) (fun h => by rw [hr] at h; cases h)
  have hmeth' : T.vm.method? m = some meth := X.method'
  refine ⟨T.setFrames fs, ?_, .returned (some (.int 1)), hrun, hended, rfl, ⟨_, rfl⟩, hW, hframe⟩
  jvm_step X.here [X.here.top, hx, hb, hdg, hmeth', hr, ret, narrow_b1]
  (try refine ⟨rfl, ?_⟩); (try refine ⟨rfl, ?_⟩)
  first | (intro acts; rw [hret _ acts rfl rfl rfl]) | rw [hret _ _ rfl rfl rfl]
  exact Steps.refl _
/-- what holds at the law's entry: the machine, the code, the tables' words (any of lw_tbl by 'hts w (by decide +kernel)'), the script of L ints xs at the cell b, what the Statement gives of the start (any of its parts by flat_of_before) -/
def lw_At (p : Program) (s : State) (m : MethodId) (meth : Method) (c : Code) (b L : Nat) (xs : Nat → Int32) : Prop :=
  p.tables.exec = Jvm.exec ∧ c.code = code ∧ meth.sig.returnType = ret ∧ c.maxLocals = 4 ∧ s.vm.findClass R_law = some m.cls ∧ (∀ w ∈ lw_tbl, w.before #[Value.ref b] s = true) ∧ va_X b L xs s s.heap ∧ b < s.heap.size ∧ meth.locks = false ∧ (Jvm.Cond.and given_1 narrow_1).before #[Value.ref b] s = true
/-! ===== the law's body: its steps ===== -/
def l_Cx (p : Program) (s : State) (m : MethodId) (c : Code) (b L : Nat) (xs : Nat → Int32) (D : va_G) (cA : Nat → ClassId) (ξ : Nat → Nat) : Prop :=
  p.tables.exec = Jvm.exec ∧ c.code = code ∧ c.maxLocals = 4 ∧ s.vm.findClass R_law = some m.cls ∧ (∀ w ∈ g_tbl, w.before #[Value.ref b] s = true) ∧ va_K D g_cls (g_tys cA) s ∧ g_ext ξ (fun q => s.heap.size ≤ q) s s.heap ∧ va_X b L xs s s.heap ∧ b < s.heap.size
section LAW
variable {p : Program} {l : Launch} {e : Env} {s : State} {m : MethodId} {below : List Frame} {meth : Method} {c : Code} {H : Heap} {locs : List Loc} {cells slots : Nat} {Q : State → Prop}
variable {b L : Nat} {xs : Nat → Int32} {D : va_G} {cA : Nat → ClassId} {μ ξ : Nat → Nat} {pc : Nat} {ls : Array Slot} {rest : List Value} {o1 o2 i : Nat}
/-- a number of the script -/
theorem l_arg (C : l_Cx p s m c b L xs D cA ξ) (hl : lv_has ls 4 [(0, .ref b), (1, .ref o1), (2, .ref o2), (3, .int (nI i))]) (hS : va_S (fun q => s.heap.size ≤ q) s.heap H locs) (hi : i + 5 ≤ L) (hL : L ≤ 320) (j : Nat) (hj : j < 5) {jz : Int} (hjz : Int32.ofInt jz = nI j) (d0 : decode code pc = .ok (.aload_n 0, 1)) (d1 : decode code (pc + 1) = .ok (.iload_n 3, 1)) (d2 : decode code (pc + 2) = .ok (.iconst jz, 1)) (d3 : decode code (pc + 3) = .ok (.iadd, 1)) (d4 : decode code (pc + 4) = .ok (.iaload, 1))
    (kk : W p l e room_1 s m #[Value.ref b] below meth c H locs cells slots Q (F0 m (pc + 5) ls (.int (xs (i + j)) :: rest))) : W p l e room_1 s m #[Value.ref b] below meth c H locs cells slots Q (F0 m pc ls rest) := by
  obtain ⟨hx, hb, hml, hown, hts, hK, hE, hX, hbl⟩ := C
  refine lv_aload_n hx hb d0 rfl (lv_at hl 0 rfl) ?_
  refine lv_iload_n hx hb d1 rfl (lv_at hl 3 rfl) ?_
  refine lv_iconst (v := nI j) hx hb d2 hjz ?_
  refine lv_iadd hx hb d3 ?_
  rw [nI_add]
  refine va_sld hx hb hX hbl (Nat.not_le.mpr hbl) hS (vp_in_nI (by omega) (by omega)) d4 ?_
  rw [nI_clamp (by omega)]
  exact kk
/-- a call on one of the two -/
theorem l_call (C : l_Cx p s m c b L xs D cA ξ) {k n idx ci N : Nat} {Cn : String} {T : u_T} {M : g_M} {F : g_R} {bs st0 : List Value} {a : Nat} {ps : List (Option Nat)} (hc : g_cls[ci]? = some (Cn, T, N)) (hcw : g_cw g_mi k n) (hw : Cond.methodLink R_law idx (g_mi k).1 ∈ g_tbl) (hi : Cond.instanceMethod (g_mi k).1 ∈ g_tbl) (hs : Cond.selects Cn (g_mi k).1 (g_mi k).1 ∈ g_tbl) (h : g_cal 60 k (.ref a :: bs) M F) (ha : a < S0.1) (ho : S0.2 a = .inr (ci, ps)) (hlen : bs.length = n) (hsz : ls.size = 4) (hr : (rest.map fun v => v.category).sum ≤ 8)
    (hP : va_P D g_cls (g_wld cA μ M S0) H) (hD : va_D (fun q => s.heap.size ≤ q) (g_wld cA μ M S0)) (hS : va_S (fun q => s.heap.size ≤ q) s.heap H locs) (hcl : cells ≤ 600000) (hsl : slots ≤ 7302250) (hst : st0 = (bs.map (g_cv μ ξ)).reverse ++ .ref (μ a) :: rest) (hdg : decode code pc = .ok (.invokevirtual idx, 3))
    (kk : ∀ (v : Option Value) (M' : g_M) (H1 : Heap) (locs1 : List Loc), F v M' → va_P D g_cls (g_wld cA μ M' S0) H1 → va_D (fun q => s.heap.size ≤ q) (g_wld cA μ M' S0) → va_S (fun q => s.heap.size ≤ q) s.heap H1 locs1 → W p l e room_1 s m #[Value.ref b] below meth c H1 locs1 cells slots Q (F0 m (pc + 3) ls ((v.map (g_cv μ ξ)).toList ++ rest))) : W p l e room_1 s m #[Value.ref b] below meth c H locs cells slots Q (F0 m pc ls st0) := by
  obtain ⟨hx, hb, hml, hown, hts, hK, hE, hX, hbl⟩ := C
  obtain ⟨d', hd', hMet⟩ := g_sound (g_prg S0) l D cA μ ξ 60 _ _ _ _ h
  have e' : d' = 59 := by omega
  subst e'
  have he := g_wld_at (cA := cA) (μ := μ) (M := M) ha
  rw [ho] at he
  have hrun := hMet H.size
  refine g_callK (va_runV (As := bs.map (g_cv μ ξ)) (b := μ a) (rest := rest) (n := n) ⟨hx, hb, hml, hown, hts⟩ hrun ⟨callB_of n hts (g_good hcw) rfl rfl rfl (hts _ hcw.2.1) (hts _ hw) hcw.2.2.1 ⟨by decide, by show 8 + ((g_mi k).2.2.1 + 11) + (50 * 59 + 50) ≤ 84000; have := hcw.2.2.2; omega⟩, hts _ hi, hts _ hs⟩ ⟨g_blind, va_recv hK hP hc he, fun U hU hW => g_preAt hK hP hD hS (fun _ h => h) hE U hU hW⟩ rfl (by rw [List.length_map]; exact hlen) hsz hst (lv_room hr) hdg ⟨by show cells + 0 ≤ 600000; omega, by show slots + 0 ≤ 7302250; omega⟩) hS (g_free hD hS (fun _ h => h)) kk
end LAW
