/-! ===== contracts of the small machine, and what holds within a method ===== -/
def g_len : List Nat := [4, 5, 3, 4, 0, 8]
def g_byt : List (List Int32) := [[75, 68, 84, 59], [68, 68, 44, 78, 59], [68, 68, 59], [78, 44, 68, 59], [], [112, 107, 115, 103, 109, 110, 104, 100]]
def g_st (i : Nat) : List Int32 := match i with
  | 1 => [40, 0, 5, 0, 0, 300, 1]
  | 2 => [1, 0, 0, 0, 0, 10, 0]
  | _ => [99, 50, 60, 4, 1, 900, 9]
/-- the external arrays: 1, 2, 3 the tables of settings; 20 .. 25 the bytes of the texts -/
def g_x0 : g_X := fun k => cond (Nat.ble 20 k) (cond (Nat.ble 26 k) none (some (g_len.getD (k - 20) 0, fun j => (g_byt.getD (k - 20) []).getD j 0))) (cond (Nat.ble 1 k) (cond (Nat.ble k 3) (some (7, fun j => (g_st k).getD j 0)) none) none)
def g_ext (ξ : Nat → Nat) (A : Nat → Prop) (U : State) (H : Heap) : Prop :=
  va_T .int (ξ 1) 7 (fun j => .int ((g_st 1).getD j 0)) A U H ∧ va_T .int (ξ 2) 7 (fun j => .int ((g_st 2).getD j 0)) A U H ∧ va_T .int (ξ 3) 7 (fun j => .int ((g_st 3).getD j 0)) A U H ∧
  va_Z "InTheGarden" "SETTING_FIRST" "[I" (.ref (ξ 1)) A U H ∧ va_Z "InTheGarden" "SETTING_LEAST" "[I" (.ref (ξ 2)) A U H ∧ va_Z "InTheGarden" "SETTING_MOST" "[I" (.ref (ξ 3)) A U H ∧
  va_Z "java/lang/String" "COMPACT_STRINGS" "Z" (.int 1) A U H ∧ (va_Z "jdk/internal/util/Preconditions" "SIOOBE_FORMATTER" "Ljava/util/function/BiFunction;" .null A U H ∨ va_Z "jdk/internal/util/Preconditions" "SIOOBE_FORMATTER" "Ljava/util/function/BiFunction;" (.ref (ξ 40)) A U H) ∧
  vk_S 6 g_len g_byt (fun i => ξ (10 + i)) (fun i => ξ (20 + i)) A U H ∧
  vk_R "InTheGarden$Reader" 65 "KDT;" (ξ 10) U ∧ vk_R "InTheGarden$Reader" 67 "DD,N;" (ξ 11) U ∧ vk_R "InTheGarden$Reader" 69 "DD;" (ξ 12) U ∧ vk_R "InTheGarden$Reader" 71 "N,D;" (ξ 13) U ∧ vk_R "InTheGarden$Reader" 73 "" (ξ 14) U ∧ vk_R "InTheGarden$Reader" 83 "pksgmnhd" (ξ 15) U ∧
  va_Nw (.methodLinkNest "InTheGarden$Garden" 72 ⟨"InTheGarden", "hasBit", "(II)Z"⟩ "InTheGarden") U ∧ va_Nw (.methodLinkNest "InTheGarden$Round" 104 ⟨"InTheGarden", "hasBit", "(II)Z"⟩ "InTheGarden") U ∧ va_Nw (.methodLinkNest "InTheGarden$Sight" 52 ⟨"InTheGarden", "hasBit", "(II)Z"⟩ "InTheGarden") U ∧ va_Nw (.fieldLinkNest "InTheGarden$Told" 18 "InTheGarden" "SETTING_FIRST" "[I" "InTheGarden") U
theorem g_ext.warm {ξ : Nat → Nat} {A : Nat → Prop} {u U : State} {H : Heap} (hW : u.WarmedH U.vm) (h : g_ext ξ A u H) : g_ext ξ A U H := by
  obtain ⟨h1, h2, h3, h4, h5, h6, h7, h8, h9, r1, r2, r3, r4, r5, r6, n1, n2, n3, n4⟩ := h
  refine ⟨va_T.moved hW.alike h1, va_T.moved hW.alike h2, va_T.moved hW.alike h3, va_Z.moved hW.alike h4, va_Z.moved hW.alike h5, va_Z.moved hW.alike h6, va_Z.moved hW.alike h7, ?_, vk_S.moved hW.alike h9, vk_R.warm hW r1, vk_R.warm hW r2, vk_R.warm hW r3, vk_R.warm hW r4, vk_R.warm hW r5, vk_R.warm hW r6, va_Nw.warmM hW n1, va_Nw.warmM hW n2, va_Nw.warmM hW n3, va_Nw.warmF hW n4⟩
  rcases h8 with h | h
  · exact Or.inl (va_Z.moved hW.alike h)
  · exact Or.inr (va_Z.moved hW.alike h)
theorem g_ext.same {ξ : Nat → Nat} {A : Nat → Prop} {u U : State} {H : Heap} (hv : U.vm = u.vm) (h : g_ext ξ A u H) : g_ext ξ A U H := by
  obtain ⟨h1, h2, h3, h4, h5, h6, h7, h8, h9, r1, r2, r3, r4, r5, r6, n1, n2, n3, n4⟩ := h
  have al : u.vm.Alike U.vm := by rw [hv]; exact Vm.Alike.refl u.vm
  refine ⟨va_T.moved al h1, va_T.moved al h2, va_T.moved al h3, va_Z.moved al h4, va_Z.moved al h5, va_Z.moved al h6, va_Z.moved al h7, ?_, vk_S.moved al h9, vk_R.same hv r1, vk_R.same hv r2, vk_R.same hv r3, vk_R.same hv r4, vk_R.same hv r5, vk_R.same hv r6, va_Nw.same rfl hv.symm n1, va_Nw.same rfl hv.symm n2, va_Nw.same rfl hv.symm n3, va_Nw.same rfl hv.symm n4⟩
  rcases h8 with h | h
  · exact Or.inl (va_Z.moved al h)
  · exact Or.inr (va_Z.moved al h)
theorem g_ext.kept {ξ : Nat → Nat} {A : Nat → Prop} {U : State} {H H1 : Heap} (h : g_ext ξ A U H) (hq : ∀ a : Nat, a < H.size → ¬ A a → H1[a]? = H[a]?) : g_ext ξ A U H1 := by
  obtain ⟨h1, h2, h3, h4, h5, h6, h7, h8, h9, r⟩ := h
  refine ⟨h1.kept hq, h2.kept hq, h3.kept hq, h4.kept hq, h5.kept hq, h6.kept hq, h7.kept hq, ?_, h9.kept hq, r⟩
  rcases h8 with h | h
  · exact Or.inl (h.kept hq)
  · exact Or.inr (h.kept hq)
theorem g_ext.narrow {ξ : Nat → Nat} {A B : Nat → Prop} {U : State} {H : Heap} (h : g_ext ξ A U H) (hAB : ∀ q, B q → A q) : g_ext ξ B U H := by
  obtain ⟨h1, h2, h3, h4, h5, h6, h7, h8, h9, r⟩ := h
  refine ⟨h1.narrow hAB, h2.narrow hAB, h3.narrow hAB, h4.narrow hAB, h5.narrow hAB, h6.narrow hAB, h7.narrow hAB, ?_, h9.narrow hAB, r⟩
  rcases h8 with h | h
  · exact Or.inl (h.narrow hAB)
  · exact Or.inr (h.narrow hAB)
/-- room for d calls one in another, and one frame for what the JDK does by itself -/
def g_rm (d : Nat) : Room := { frames := d + 1, cells := 0, slots := 0, locals := 50 * d + 50 }
abbrev g_MI : Type := Nat → MethodName × ByteArray × Nat × Option FieldType
def g_ws (mi : g_MI) (k : Nat) : List Cond := .code (mi k).1 (mi k).2.1 (mi k).2.2.1 (mi k).2.2.2 :: g_tbl
def g_pre (sh : g_Sh) (D : va_G) (cA : Nat → ClassId) (μ ξ : Nat → Nat) (as : List Value) (M : g_M) (sz : Nat) : Array Value → State → Prop :=
  va_Pc (as.map (g_cv μ ξ)) (fun U => U.heap.size = sz ∧ va_P D g_cls (g_wld cA μ M sh) U.heap ∧ va_K D g_cls (g_tys cA) U ∧ va_D (fun _ => True) (g_wld cA μ M sh) ∧ g_ext ξ (va_A (g_wld cA μ M sh) sz) U U.heap)
def g_post (sh : g_Sh) (D : va_G) (cA : Nat → ClassId) (μ ξ : Nat → Nat) (Q : g_R) (A : Nat → Prop) : Array Value → State → Outcome → State → Prop := fun _ st oc t =>
  (∃ (v : Option Value) (M' : g_M), oc = .returned (v.map (g_cv μ ξ)) ∧ Q v M' ∧ va_P D g_cls (g_wld cA μ M' sh) t.heap ∧ va_K D g_cls (g_tys cA) t ∧ va_D A (g_wld cA μ M' sh)) ∧ va_F A st t
def g_Snd (sh : g_Sh) (mi : g_MI) (l : Launch) (D : va_G) (cA : Nat → ClassId) (μ ξ : Nat → Nat) (cal : g_C) (d : Nat) : Prop :=
  ∀ k as M Q, cal k as M Q → ∃ d', d = d' + 1 ∧ ∀ sz, Met l (mi k).1 (g_ws mi k) (g_rm d') (g_pre sh D cA μ ξ as M sz) (g_post sh D cA μ ξ Q (va_A (g_wld cA μ M sh) sz)) 0 0 (va_A (g_wld cA μ M sh) sz)
def g_Cx (sh : g_Sh) (mi : g_MI) (own : String) (cc : ByteArray) (nL : Nat) (rt : Option FieldType) (p : Program) (l : Launch) (R : Room) (s : State) (m : MethodId) (args : Array Value) (meth : Method) (c : Code) (D : va_G) (cA : Nat → ClassId) (μ ξ : Nat → Nat) (A : Nat → Prop) (d : Nat) (cal : g_C) : Prop :=
  p.tables.exec = Jvm.exec ∧ c.code = cc ∧ c.maxLocals = nL ∧ s.vm.findClass own = some m.cls ∧ (∀ w ∈ g_tbl, w.before args s = true) ∧ meth.sig.returnType = rt ∧ meth.locks = false ∧ va_K D g_cls (g_tys cA) s ∧ (∀ q, s.heap.size ≤ q → A q) ∧ g_ext ξ A s s.heap ∧ R = g_rm d ∧ g_Snd sh mi l D cA μ ξ cal d
/-- the machine comes to the method's end from each state that K allows -/
def g_Wk (sh : g_Sh) (nL : Nat) (p : Program) (l : Launch) (e : Env) (R : Room) (s : State) (m : MethodId) (args : Array Value) (below : List Frame) (meth : Method) (c : Code) (D : va_G) (cA : Nat → ClassId) (μ ξ : Nat → Nat) (A : Nat → Prop) (Q : g_R) (pc : Nat) (P : List Value → List Value → g_M → Prop) : Prop :=
  ∀ (L st : List Value) (M : g_M) (H : Heap) (locs : List Loc) (ls : Array Slot), P L st M → va_P D g_cls (g_wld cA μ M sh) H → va_D A (g_wld cA μ M sh) → va_S A s.heap H locs → g_lr μ ξ ls nL L →
    W p l e R s m args below meth c H locs 0 0 (MQ below (g_post sh D cA μ ξ Q A) args s 0 0 A) (F0 m pc ls (st.map (g_cv μ ξ)))
def g_ok (sh : g_Sh) (mi : g_MI) (own : String) (cc : ByteArray) (nL : Nat) (rt : Option FieldType) (pc : Nat) (op : g_Op) : Prop :=
  g_mono op ∧ ∀ (p : Program) (l : Launch) (e : Env) (R : Room) (s : State) (m : MethodId) (args : Array Value) (below : List Frame) (meth : Method) (c : Code) (D : va_G) (cA : Nat → ClassId) (μ ξ : Nat → Nat) (A : Nat → Prop) (d : Nat) (cal : g_C) (Q : g_R) (K : g_K),
    g_Cx sh mi own cc nL rt p l R s m args meth c D cA μ ξ A d cal → (∀ pc, g_Wk sh nL p l e R s m args below meth c D cA μ ξ A Q pc (K pc)) → g_Wk sh nL p l e R s m args below meth c D cA μ ξ A Q pc (op cal K Q)
def g_tok (sh : g_Sh) (mi : g_MI) (own : String) (cc : ByteArray) (nL : Nat) (rt : Option FieldType) (tb : Nat → Option g_Op) : Prop := ∀ pc op, tb pc = some op → g_ok sh mi own cc nL rt pc op
theorem g_tok.node {sh : g_Sh} {mi : g_MI} {own : String} {cc : ByteArray} {nL : Nat} {rt : Option FieldType} {n : Nat} {f g : Nat → Option g_Op} (hf : g_tok sh mi own cc nL rt f) (hg : g_tok sh mi own cc nL rt g) : g_tok sh mi own cc nL rt (g_node n f g) := by
  intro pc op h
  unfold g_node at h
  cases e : Nat.ble n pc with
  | true => rw [e] at h; exact hg pc op h
  | false => rw [e] at h; exact hf pc op h
theorem g_tok.leaf {sh : g_Sh} {mi : g_MI} {own : String} {cc : ByteArray} {nL : Nat} {rt : Option FieldType} {q : Nat} {op : g_Op} (h : g_ok sh mi own cc nL rt q op) : g_tok sh mi own cc nL rt (g_leaf q op) := by
  intro pc op' h'
  unfold g_leaf at h'
  cases e : Nat.beq pc q with
  | true =>
    rw [e] at h'
    have e1 : pc = q := Nat.eq_of_beq_eq_true e
    have e2 : op = op' := Option.some.inj h'
    rw [e1, ← e2]
    exact h
  | false => rw [e] at h'; cases h'
theorem g_tok.mono {sh : g_Sh} {mi : g_MI} {own : String} {cc : ByteArray} {nL : Nat} {rt : Option FieldType} {tb : Nat → Option g_Op} (h : g_tok sh mi own cc nL rt tb) : g_tbm tb := fun pc op e => (h pc op e).1
/-- a method's body: from its run, its contract -/
theorem g_body {sh : g_Sh} {mi : g_MI} {own : String} {cc : ByteArray} {nL : Nat} {rt : Option FieldType} {tb : Nat → Option g_Op} (ht : g_tok sh mi own cc nL rt tb)
    {p : Program} {l : Launch} {e : Env} {R : Room} {s : State} {m : MethodId} {args : Array Value} {below : List Frame} {meth : Method} {c : Code} {D : va_G} {cA : Nat → ClassId} {μ ξ : Nat → Nat} {A : Nat → Prop} {d : Nat} {cal : g_C} {Q : g_R}
    (C : g_Cx sh mi own cc nL rt p l R s m args meth c D cA μ ξ A d cal) (pc : Nat) : g_Wk sh nL p l e R s m args below meth c D cA μ ξ A Q pc (g_Run cal tb Q pc) := by
  intro L st M H locs ls h hP hD hS hl
  refine h (fun pc L st M => ∀ (H : Heap) (locs : List Loc) (ls : Array Slot), va_P D g_cls (g_wld cA μ M sh) H → va_D A (g_wld cA μ M sh) → va_S A s.heap H locs → g_lr μ ξ ls nL L → W p l e R s m args below meth c H locs 0 0 (MQ below (g_post sh D cA μ ξ Q A) args s 0 0 A) (F0 m pc ls (st.map (g_cv μ ξ)))) ?_ H locs ls hP hD hS hl
  intro pc L st M h
  unfold g_F at h
  cases e1 : tb pc with
  | none => rw [e1] at h; exact False.elim h
  | some op =>
    rw [e1] at h
    intro H locs ls hP hD hS hl
    exact (ht pc op e1).2 p l e R s m args below meth c D cA μ ξ A d cal Q _ C (fun pc L st M H locs ls hk hP hD hS hl => hk H locs ls hP hD hS hl) L st M H locs ls h hP hD hS hl
/-- the whole program: every method's table keeps to its code -/
def g_prog (sh : g_Sh) (mi : g_MI) (mt : Nat → Nat → Option g_Op) (nl : Nat → Nat) : Prop :=
  ∀ k, g_tok sh mi (mi k).1.cls (mi k).2.1 (mi k).2.2.1 (mi k).2.2.2 (mt k) ∧ nl k = (mi k).2.2.1 ∧ plainName (mi k).1.cls = true
theorem g_prog.mono {sh : g_Sh} {mi : g_MI} {mt : Nat → Nat → Option g_Op} {nl : Nat → Nat} (h : g_prog sh mi mt nl) : ∀ k, g_tbm (mt k) := fun k => (h k).1.mono
theorem g_sound {sh : g_Sh} {mi : g_MI} {mt : Nat → Nat → Option g_Op} {nl : Nat → Nat} (hp : g_prog sh mi mt nl) (l : Launch) (D : va_G) (cA : Nat → ClassId) (μ ξ : Nat → Nat) : ∀ d, g_Snd sh mi l D cA μ ξ (g_Cal mt nl d) d := by
  intro d
  induction d with
  | zero => intro k as M Q h; exact False.elim h
  | succ d ih =>
    intro k as M Q h
    refine ⟨d, rfl, fun sz => ?_⟩
    obtain ⟨ht, hn, hpl⟩ := hp k
    refine Met.ofW (cc := (mi k).2.1) (maxL := (mi k).2.2.1) (ret := (mi k).2.2.2) hpl rfl ?_
    intro p e s m args below meth c s₁ B hml hv
    obtain ⟨rfl, hsz, hP, hK, hD0, hE⟩ := hv
    have hts := atoms_spec (ws := g_ws mi k) B.pre
    subst hsz
    have hD := hD0.self (sz := s.heap.size)
    obtain ⟨L, h1, h2, h3, h4⟩ := g_ent_spec as (nl k) _ h
    rw [lg_entry_eq]
    have h3' : (lg_sl (as.map (g_cv μ ξ))).length ≤ (mi k).2.2.1 := by
      have e1 : ∀ vs : List Value, (lg_sl (vs.map (g_cv μ ξ))).length = (lg_sl vs).length := by
        intro vs
        induction vs with
        | nil => rfl
        | cons v vs ih =>
          simp only [lg_sl, List.map_cons, List.flatMap_cons, List.length_append] at ih ⊢
          rw [ih, g_cat]
          split <;> rfl
      rw [e1, ← hn]; exact h3
    have hl := lv_entry (as.map (g_cv μ ξ)) (n := (mi k).2.2.1) h3'
    have hlr : g_lr μ ξ _ (mi k).2.2.1 L := g_lr.of hl (by omega) (fun i v e hv => by have := h4 0 i v μ ξ e hv; rwa [Nat.zero_add] at this)
    exact g_body ht (d := d) (cal := g_Cal mt nl d) ⟨B.exec, B.bytes, hml, findClass_of_methodNamed B.named, fun w hw => hts w (List.mem_cons_of_mem _ hw), B.returns, B.notSynchronized, hK, fun q h => Or.inr h, hE, rfl, ih⟩ 0 L [] M s.heap [] _ h1 hP hD va_S.rf hlr
