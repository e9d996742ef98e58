/-! ===== constructors: their steps ===== -/
section CTOR
variable {p : Program} {l : Launch} {e : Env} {R : Room} {s : State} {m : MethodId} {args : Array Value} {below : List Frame} {meth : Method} {c : Code} {H : Heap} {locs : List Loc} {cells slots : Nat} {Q : State → Prop}
variable {own : String} {cc : ByteArray} {nL : Nat} {D : va_G} {cA : Nat → ClassId} {ξ : Nat → Nat} {A : Nat → Prop} {pc : Nat} {ls : Array Slot} {rest : List Value} {ws wr : va_W}
def i_Cx (own : String) (cc : ByteArray) (nL : Nat) (p : Program) (s : State) (m : MethodId) (args : Array Value) (c : Code) (D : va_G) (cA : Nat → ClassId) (ξ : Nat → Nat) (A : Nat → Prop) : Prop :=
  p.tables.exec = Jvm.exec ∧ c.code = cc ∧ c.maxLocals = nL ∧ s.vm.findClass own = some m.cls ∧ (∀ w ∈ g_tbl, w.before args s = true) ∧ va_K D g_cls (g_tys cA) s ∧ (∀ q, s.heap.size ≤ q → A q) ∧ g_ext ξ A s s.heap
theorem i_cA {tys : List (ClassId × FieldType)} {cB : ClassId} (h1 : va_K D g_cls (g_tys cA) s) (h2 : va_K D g_cls (tys ++ [(cB, .int)]) s) : cB = cA 0 := by
  have e1 : s.vm.findClass ("[" ++ FieldType.int.toString) = some (cA 0) := (h1.2 0 _ rfl).2
  have e2 : s.vm.findClass ("[" ++ FieldType.int.toString) = some cB := (h2.2 tys.length (cB, .int) (by simp)).2
  exact (Option.some.inj (e1.symm.trans e2)).symm
theorem i_cB {tys : List (ClassId × FieldType)} {cB : ClassId} (h1 : va_K D g_cls (g_tys cA) s) (h2 : va_K D g_cls (tys ++ [(cB, .boolean)]) s) : cB = cA 1 := by
  have e1 : s.vm.findClass ("[" ++ FieldType.boolean.toString) = some (cA 1) := (h1.2 1 _ rfl).2
  have e2 : s.vm.findClass ("[" ++ FieldType.boolean.toString) = some cB := (h2.2 tys.length (cB, .boolean) (by simp)).2
  exact (Option.some.inj (e1.symm.trans e2)).symm
/-- a new row of ints -/
theorem i_newi (C : i_Cx own cc nL p s m args c D cA ξ A) (hw : Cond.arrayClass .int ∈ g_tbl) (hP : va_P D g_cls ws H) (hD : va_D A ws) (hS : va_S A s.heap H locs) {n : Int32} {N : Nat} (hn : ¬ n < 0) (hN : n.toNatClampNeg = N) (hbytes : N * componentBytes .int ≤ 536870912) (hcells : cells + 1 ≤ R.cells) (hslots : slots + N ≤ R.slots) (hdg : decode cc pc = .ok (.newarray .int, 2))
    (kk : ∀ (q : Nat) (H1 : Heap), va_P D g_cls (ws ++ [(q, .inl (cA 0, N, .inl (fun _ => 0)))]) H1 → va_D A (ws ++ [(q, .inl (cA 0, N, .inl (fun _ => 0)))]) → va_S A s.heap H1 locs → W p l e R s m args below meth c H1 locs (cells + 1) (slots + N) Q (F0 m (pc + 2) ls (.ref q :: rest))) : W p l e R s m args below meth c H locs cells slots Q (F0 m pc ls (.int n :: rest)) := by
  obtain ⟨hx, hb, hml, hown, hts, hK, hA, hE⟩ := C
  refine va_newa (atype := .int) (a0 := (N, .inl (fun _ => 0))) hx hb (hts _ hw) rfl hK hP hD hS hA (fun cA => rfl) hn hN hbytes hcells hslots hdg (fun q cB H1 hK1 hP1 hD1 hS1 => ?_)
  have e := i_cA hK hK1
  subst e
  exact kk q H1 hP1 hD1 hS1
theorem i_newb (C : i_Cx own cc nL p s m args c D cA ξ A) (hw : Cond.arrayClass .boolean ∈ g_tbl) (hP : va_P D g_cls ws H) (hD : va_D A ws) (hS : va_S A s.heap H locs) {n : Int32} {N : Nat} (hn : ¬ n < 0) (hN : n.toNatClampNeg = N) (hbytes : N * componentBytes .boolean ≤ 536870912) (hcells : cells + 1 ≤ R.cells) (hslots : slots + N ≤ R.slots) (hdg : decode cc pc = .ok (.newarray .boolean, 2))
    (kk : ∀ (q : Nat) (H1 : Heap), va_P D g_cls (ws ++ [(q, .inl (cA 1, N, .inl (fun _ => 0)))]) H1 → va_D A (ws ++ [(q, .inl (cA 1, N, .inl (fun _ => 0)))]) → va_S A s.heap H1 locs → W p l e R s m args below meth c H1 locs (cells + 1) (slots + N) Q (F0 m (pc + 2) ls (.ref q :: rest))) : W p l e R s m args below meth c H locs cells slots Q (F0 m pc ls (.int n :: rest)) := by
  obtain ⟨hx, hb, hml, hown, hts, hK, hA, hE⟩ := C
  refine va_newa (atype := .boolean) (a0 := (N, .inl (fun _ => 0))) hx hb (hts _ hw) rfl hK hP hD hS hA (fun cA => rfl) hn hN hbytes hcells hslots hdg (fun q cB H1 hK1 hP1 hD1 hS1 => ?_)
  have e := i_cB hK hK1
  subst e
  exact kk q H1 hP1 hD1 hS1
theorem va_nd_of : ∀ (l : List Nat), l.Nodup → va_nd l = true
  | [], _ => rfl
  | a :: l, h => by
    have h1 := List.nodup_cons.mp h
    simp only [va_nd, Bool.and_eq_true, decide_eq_true_eq]
    exact ⟨h1.1, va_nd_of l h1.2⟩
/-- a class of ours, as its constructor needs it -/
def i_cl (own : String) (ci : Nat) (T : u_T) (N : Nat) (ty0 : Nat → FieldType) : Prop := g_cls[ci]? = some (own, T, N) ∧ (∀ w ∈ u_ws own T N, w ∈ g_tbl) ∧ (∀ k, k < N → parseFieldDescriptor (T k).2.2.1 = some (ty0 k)) ∧ (∀ a, a < N → ∀ b, b < N → a ≠ b → (T a).2.1 ≠ (T b).2.1)
/-- a final field of the object that is made: it stands first in its world -/
theorem i_putF (C : i_Cx own cc nL p s m args c D cA ξ A) (hin : meth.name = "<init>") {ci N k idx h0 : Nat} {T : u_T} {ty0 : Nat → FieldType} (K : i_cl own ci T N ty0) {fs : List Value} {v : Value} (hk : k < N) (hlk : Cond.fieldLink own idx own (T k).2.1 (T k).2.2.1 ∈ g_tbl) (hfin : (T k).2.2.2 = true) (hdecl : (T k).1 = own) (hn : narrow (ty0 k) v = v) (hfit : fits (ty0 k) v = true) (hlen : k < fs.length) (hP : va_P D g_cls ((h0, .inr (ci, fs)) :: wr) H) (hD : va_D A ((h0, .inr (ci, fs)) :: wr)) (hS : va_S A s.heap H locs) (hdg : decode cc pc = .ok (.putfield idx, 3))
    (kk : ∀ (H1 : Heap) (locs1 : List Loc), va_P D g_cls ((h0, .inr (ci, fs.set k v)) :: wr) H1 → va_D A ((h0, .inr (ci, fs.set k v)) :: wr) → va_S A s.heap H1 locs1 → W p l e R s m args below meth c H1 locs1 cells slots Q (F0 m (pc + 3) ls rest)) : W p l e R s m args below meth c H locs cells slots Q (F0 m pc ls (v :: .ref h0 :: rest)) := by
  obtain ⟨hx, hb, hml, hown, hts, hK, hA, hE⟩ := C
  obtain ⟨k1, k2, k3, k4⟩ := K
  exact va_putF (D := D) (cl := g_cls) (ci := ci) hx hb hts k2 ty0 k3 k4 hown hK hP hD hS 0 rfl k1 k hk (hts _ hlk) (fun _ h9 => by rw [hdecl] at h9; exact h9) hfin hin hdecl (k3 k hk) hn hfit hlen hdg kk
/-- a number of it -/
theorem i_put (C : i_Cx own cc nL p s m args c D cA ξ A) {ci N k idx h0 : Nat} {T : u_T} {ty0 : Nat → FieldType} (K : i_cl own ci T N ty0) {fs : List Value} {v : Value} (hk : k < N) (hlk : Cond.fieldLink own idx own (T k).2.1 (T k).2.2.1 ∈ g_tbl) (hfin : (T k).2.2.2 = false) (hdecl : (T k).1 = own) (hn : narrow (ty0 k) v = v) (hfit : fits (ty0 k) v = true) (hlen : k < fs.length) (hP : va_P D g_cls ((h0, .inr (ci, fs)) :: wr) H) (hD : va_D A ((h0, .inr (ci, fs)) :: wr)) (hS : va_S A s.heap H locs) (hdg : decode cc pc = .ok (.putfield idx, 3))
    (kk : ∀ (H1 : Heap) (locs1 : List Loc), va_P D g_cls ((h0, .inr (ci, fs.set k v)) :: wr) H1 → va_D A ((h0, .inr (ci, fs.set k v)) :: wr) → va_S A s.heap H1 locs1 → W p l e R s m args below meth c H1 locs1 cells slots Q (F0 m (pc + 3) ls rest)) : W p l e R s m args below meth c H locs cells slots Q (F0 m pc ls (v :: .ref h0 :: rest)) := by
  obtain ⟨hx, hb, hml, hown, hts, hK, hA, hE⟩ := C
  obtain ⟨k1, k2, k3, k4⟩ := K
  exact va_put (D := D) (cl := g_cls) (ci := ci) hx hb hts k2 ty0 k3 k4 hown hK hP hD hS 0 rfl k1 k hk (hts _ hlk) (fun _ h9 => by rw [hdecl] at h9; exact h9) hfin (k3 k hk) hn hfit hlen hdg kk
/-- the first two instructions of each -/
theorem i_begin (C : i_Cx own cc nL p s m args c D cA ξ A) {h0 idx : Nat} (hl : lv_has ls nL [(0, .ref h0)]) (hw : Cond.methodLink own idx objectInit ∈ g_tbl) (hw2 : Cond.instanceMethod objectInit ∈ g_tbl) (hw3 : Cond.code objectInit ⟨#[0xb1]⟩ 1 none ∈ g_tbl) (hF : 1 ≤ R.frames) (hL : 12 ≤ R.locals) (d0 : decode cc 0 = .ok (.aload_n 0, 1)) (d1 : decode cc 1 = .ok (.invokespecial idx, 3))
    (kk : W p l e R s m args below meth c H locs cells slots Q (F0 m 4 ls [])) : W p l e R s m args below meth c H locs cells slots Q (F0 m 0 ls []) := by
  obtain ⟨hx, hb, hml, hown, hts, hK, hA, hE⟩ := C
  refine lv_aload_n hx hb d0 rfl (lv_at hl 0 rfl) ?_
  refine W.objInit hx hb hown (hts _ hw) (hts _ hw2) (hts _ hw3) rfl (by rw [hml]; exact hl.1) rfl d1 hF (by show 2 * 0 + 0 + 12 ≤ _; omega) ?_
  exact W.eq (g2 := F0 m 4 ls []) rfl kk
/-- a row of ints in a final field -/
theorem i_arr (C : i_Cx own cc nL p s m args c D cA ξ A) (hin : meth.name = "<init>") {h0 pc2 idx ci Nf k N : Nat} {n : Int32} {T : u_T} {ty0 : Nat → FieldType} {fs : List Value} (hl : lv_has ls nL [(0, .ref h0)]) (K : i_cl own ci T Nf ty0) (hw : Cond.arrayClass .int ∈ g_tbl) (hP : va_P D g_cls ((h0, .inr (ci, fs)) :: wr) H) (hD : va_D A ((h0, .inr (ci, fs)) :: wr)) (hS : va_S A s.heap H locs) (d0 : decode cc pc = .ok (.aload_n 0, 1))
    (hpush : W p l e R s m args below meth c H locs cells slots Q (F0 m pc2 ls [.int n, .ref h0]) → W p l e R s m args below meth c H locs cells slots Q (F0 m (pc + 1) ls [.ref h0])) (d2 : decode cc pc2 = .ok (.newarray .int, 2)) (d3 : decode cc (pc2 + 2) = .ok (.putfield idx, 3)) (hn : ¬ n < 0) (hN : n.toNatClampNeg = N) (hbytes : N * componentBytes .int ≤ 536870912) (hcells : cells + 1 ≤ R.cells) (hslots : slots + N ≤ R.slots)
    (hk : k < Nf) (hlk : Cond.fieldLink own idx own (T k).2.1 (T k).2.2.1 ∈ g_tbl) (hfin : (T k).2.2.2 = true) (hdecl : (T k).1 = own) (hty : ty0 k = .array .int) (hlen : k < fs.length)
    (kk : ∀ (q : Nat) (H1 : Heap) (locs1 : List Loc), va_P D g_cls ((h0, .inr (ci, fs.set k (.ref q))) :: (wr ++ [(q, .inl (cA 0, N, .inl (fun _ => 0)))])) H1 → va_D A ((h0, .inr (ci, fs.set k (.ref q))) :: (wr ++ [(q, .inl (cA 0, N, .inl (fun _ => 0)))])) → va_S A s.heap H1 locs1 → W p l e R s m args below meth c H1 locs1 (cells + 1) (slots + N) Q (F0 m (pc2 + 5) ls [])) : W p l e R s m args below meth c H locs cells slots Q (F0 m pc ls []) := by
  have C0 := C
  obtain ⟨hx, hb, hml, hown, hts, hK, hA, hE⟩ := C
  refine lv_aload_n hx hb d0 rfl (lv_at hl 0 rfl) (hpush ?_)
  refine i_newi C0 hw hP hD hS hn hN hbytes hcells hslots d2 (fun q H1 hP1 hD1 hS1 => ?_)
  exact i_putF C0 hin K (v := .ref q) hk hlk hfin hdecl (by rw [hty]; rfl) (by rw [hty]; rfl) hlen hP1 hD1 hS1 d3 (fun H2 locs2 hP2 hD2 hS2 => kk q H2 locs2 hP2 hD2 hS2)
theorem i_arrb (C : i_Cx own cc nL p s m args c D cA ξ A) (hin : meth.name = "<init>") {h0 pc2 idx ci Nf k N : Nat} {n : Int32} {T : u_T} {ty0 : Nat → FieldType} {fs : List Value} (hl : lv_has ls nL [(0, .ref h0)]) (K : i_cl own ci T Nf ty0) (hw : Cond.arrayClass .boolean ∈ g_tbl) (hP : va_P D g_cls ((h0, .inr (ci, fs)) :: wr) H) (hD : va_D A ((h0, .inr (ci, fs)) :: wr)) (hS : va_S A s.heap H locs) (d0 : decode cc pc = .ok (.aload_n 0, 1))
    (hpush : W p l e R s m args below meth c H locs cells slots Q (F0 m pc2 ls [.int n, .ref h0]) → W p l e R s m args below meth c H locs cells slots Q (F0 m (pc + 1) ls [.ref h0])) (d2 : decode cc pc2 = .ok (.newarray .boolean, 2)) (d3 : decode cc (pc2 + 2) = .ok (.putfield idx, 3)) (hn : ¬ n < 0) (hN : n.toNatClampNeg = N) (hbytes : N * componentBytes .boolean ≤ 536870912) (hcells : cells + 1 ≤ R.cells) (hslots : slots + N ≤ R.slots)
    (hk : k < Nf) (hlk : Cond.fieldLink own idx own (T k).2.1 (T k).2.2.1 ∈ g_tbl) (hfin : (T k).2.2.2 = true) (hdecl : (T k).1 = own) (hty : ty0 k = .array .boolean) (hlen : k < fs.length)
    (kk : ∀ (q : Nat) (H1 : Heap) (locs1 : List Loc), va_P D g_cls ((h0, .inr (ci, fs.set k (.ref q))) :: (wr ++ [(q, .inl (cA 1, N, .inl (fun _ => 0)))])) H1 → va_D A ((h0, .inr (ci, fs.set k (.ref q))) :: (wr ++ [(q, .inl (cA 1, N, .inl (fun _ => 0)))])) → va_S A s.heap H1 locs1 → W p l e R s m args below meth c H1 locs1 (cells + 1) (slots + N) Q (F0 m (pc2 + 5) ls [])) : W p l e R s m args below meth c H locs cells slots Q (F0 m pc ls []) := by
  have C0 := C
  obtain ⟨hx, hb, hml, hown, hts, hK, hA, hE⟩ := C
  refine lv_aload_n hx hb d0 rfl (lv_at hl 0 rfl) (hpush ?_)
  refine i_newb C0 hw hP hD hS hn hN hbytes hcells hslots d2 (fun q H1 hP1 hD1 hS1 => ?_)
  exact i_putF C0 hin K (v := .ref q) hk hlk hfin hdecl (by rw [hty]; rfl) (by rw [hty]; rfl) hlen hP1 hD1 hS1 d3 (fun H2 locs2 hP2 hD2 hS2 => kk q H2 locs2 hP2 hD2 hS2)
end CTOR
/-- a constructor's contract -/
def i_pre (D : va_G) (cA : Nat → ClassId) (ξ : Nat → Nat) (h0 ci : Nat) (fs : List Value) (sz : Nat) : Array Value → State → Prop := va_Pc [.ref h0] (fun U => U.heap.size = sz ∧ va_P D g_cls [(h0, .inr (ci, fs))] U.heap ∧ va_K D g_cls (g_tys cA) U ∧ va_D (fun _ => True) [(h0, .inr (ci, fs))] ∧ g_ext ξ (va_A [(h0, .inr (ci, fs))] sz) U U.heap)
def i_post (D : va_G) (cA : Nat → ClassId) (h0 : Nat) (sh : g_Sh) (P : (Nat → Nat) → g_M → Prop) (A : Nat → Prop) : Array Value → State → Outcome → State → Prop := va_Qv (fun u : (Nat → Nat) × g_M => u.1 0 = h0 ∧ P u.1 u.2) (fun u t => va_P D g_cls (g_wld cA u.1 u.2 sh) t.heap ∧ va_K D g_cls (g_tys cA) t ∧ va_D A (g_wld cA u.1 u.2 sh)) A
def i_met (l : Launch) (D : va_G) (cA : Nat → ClassId) (ξ : Nat → Nat) (y : MethodName) (b : ByteArray) (fr lo mc ms ci : Nat) (fs : List Value) (sh : g_Sh) (P : (Nat → Nat) → g_M → Prop) : Prop :=
  ∀ h0 sz, Met l y (.code y b 1 none :: g_tbl) { frames := fr, cells := mc, slots := ms, locals := lo } (i_pre D cA ξ h0 ci fs sz) (i_post D cA h0 sh P (va_A [(h0, .inr (ci, fs))] sz)) mc ms (va_A [(h0, .inr (ci, fs))] sz)
section CTOR2
variable {p : Program} {l : Launch} {e : Env} {R : Room} {s : State} {m : MethodId} {args : Array Value} {below : List Frame} {meth : Method} {c : Code} {H : Heap} {locs : List Loc} {cells slots : Nat} {Q : State → Prop}
variable {own : String} {cc : ByteArray} {nL : Nat} {D : va_G} {cA : Nat → ClassId} {ξ : Nat → Nat} {A : Nat → Prop} {pc : Nat} {ls : Array Slot} {rest : List Value} {ws wr : va_W}
/-- what a made object's words are -/
def i_cw (y : MethodName) (b : ByteArray) (C : String) (own : String) (ix1 ix2 N : Nat) : Prop := y.cls = C ∧ y.name = "<init>" ∧ (y.cls ≠ "java/lang/invoke/MethodHandle" ∧ y.cls ≠ "java/lang/invoke/VarHandle" ∧ (parseMethodDescriptor y.desc).map (fun d => d.parameters.length) = some 0) ∧ Cond.code y b 1 none ∈ g_tbl ∧ Cond.initialized C ∈ g_tbl ∧ Cond.classLink own ix1 C ∈ g_tbl ∧ Cond.instantiable C N ∈ g_tbl ∧ Cond.methodLink own ix2 y ∈ g_tbl ∧ Cond.instanceMethod y ∈ g_tbl
/-- new, dup, its constructor -/
theorem i_make (C : i_Cx own cc nL p s m args c D cA ξ A) {ci N ix1 ix2 fr lo mc ms : Nat} {Cn : String} {T : u_T} {ty0 : Nat → FieldType} {fs : List Value} {y : MethodName} {b : ByteArray} {sh : g_Sh} {P : (Nat → Nat) → g_M → Prop} (hsz : ls.size = nL) (K : i_cl Cn ci T N ty0) (hy : i_cw y b Cn own ix1 ix2 N) (hM : i_met l D cA ξ y b fr lo mc ms ci fs sh P) (hfs : ∀ j, j < N → defaultValue (ty0 j) = vp_V fs j) (hP : va_P D g_cls ws H) (hD : va_D A ws) (hS : va_S A s.heap H locs) (hc1 : cells + 1 + mc ≤ R.cells) (hc2 : slots + N + ms ≤ R.slots) (hr1 : fr + 1 ≤ R.frames) (hr2 : 8 + (1 + 11) + lo ≤ R.locals) (hrest : ((Value.ref 0 :: rest).map fun v => v.category).sum ≤ 8)
    (d0 : decode cc pc = .ok (.new ix1, 3)) (d1 : decode cc (pc + 3) = .ok (.dup, 1)) (d2 : decode cc (pc + 4) = .ok (.invokespecial ix2, 3))
    (kk : ∀ (μ : Nat → Nat) (M : g_M) (H1 : Heap) (locs1 : List Loc), P μ M → va_P D g_cls (ws ++ g_wld cA μ M sh) H1 → va_D A (ws ++ g_wld cA μ M sh) → va_S A s.heap H1 locs1 → W p l e R s m args below meth c H1 locs1 (cells + 1 + mc) (slots + N + ms) Q (F0 m (pc + 7) ls (.ref (μ 0) :: rest))) : W p l e R s m args below meth c H locs cells slots Q (F0 m pc ls rest) := by
  obtain ⟨hx, hb, hml, hown, hts, hK, hA, hE⟩ := C
  obtain ⟨k1, k2, k3, k4⟩ := K
  obtain ⟨y1, y2, y3, y4, y5, y6, y7, y8, y9⟩ := hy
  refine va_new (ci := ci) (fs := fs) (C := Cn) (T := T) (N := N) hx hb hts k2 ty0 k3 hown (hts _ y6) (hts _ y7) (hts _ y5) hK hP hD hS hA k1 hfs (by omega) (by omega) d0 (fun q0 H hP hD hS => ?_)
  refine lv_dup hx hb d1 rfl ?_
  have iC : [ws.length].map (fun i => (ws ++ [(q0, (.inr (ci, fs) : va_E))])[i]?) = [(q0, (.inr (ci, fs) : va_E))].map some := by simp
  have iR : (List.range ws.length).map (fun i => (ws ++ [(q0, (.inr (ci, fs) : va_E))])[i]?) = ws.map some := by
    apply List.ext_getElem?
    intro i
    by_cases h : i < ws.length
    · simp [h, List.getElem?_append_left]
    · simp [h]
  have hPc := hP.sub (ws' := [(q0, (.inr (ci, fs) : va_E))]) [ws.length] (by simp)
  have hDc := hD.sub (ws' := [(q0, (.inr (ci, fs) : va_E))]) [ws.length] (by simp [va_nd]) iC
  have hFc := va_free (wc := [(q0, (.inr (ci, fs) : va_E))]) hD hS hA [ws.length] iC
  have hG : GoodIn g_tbl (Cond.code y b 1 none :: g_tbl) := fun w hw => by
    rcases List.mem_cons.mp hw with rfl | hw
    · exact g_tbl_good _ y4
    · exact g_tbl_good _ hw
  refine va_callv (va_runI (As := []) (rest := .ref q0 :: rest) ⟨hx, hb, hml, hown, hts⟩ (hM q0 H.size) (cwI 0 hts hG rfl rfl rfl (by rw [y1]; exact hts _ y5) (hts _ y8) (hts _ y9) y2 y3 ⟨hr1, hr2⟩) ⟨fun a U g mk q => by
      obtain ⟨q0, q1, qP, qK, qD, qE⟩ := q
      exact ⟨q0, q1, qP, va_K.moved (u := U) (U := U.calling g mk a) (Vm.Alike.refl U.vm) qK, qD, g_ext.same (u := U) (U := U.calling g mk a) rfl qE⟩, fun U hU hW => ⟨rfl, by rw [hU], by rw [hU]; exact hPc, va_K.moved hW.alike hK, hDc.weaken (fun _ _ _ _ => trivial), by rw [hU]; exact ((hE.kept hS.2.1).warm hW).narrow hFc⟩⟩ rfl rfl hsz rfl (lv_room hrest) d2 ⟨hc1, hc2⟩) hS (fun q _ h => hFc q h) hFc (fun u t H1 locs1 ht hvm hw hB hz1 hk1 hS1 => ?_)
  obtain ⟨hP1, hK1, hD1⟩ := hB
  rw [ht] at hP1
  obtain ⟨hP2, hD2⟩ := va_join (wr := ws) (w1 := g_wld cA u.1 u.2 sh) hP hD [ws.length] (List.range ws.length) iC iR (va_nd_of _ List.nodup_range) (fun i hi h => by simp at hi h; omega) hk1 hFc hP1 hD1
  have hq := kk u.1 u.2 H1 locs1 hw.2 hP2 hD2 hS1
  rw [hw.1] at hq
  exact hq
end CTOR2
