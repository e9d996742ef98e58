/-! ===== constructors: more steps; the start ===== -/
def a0 (k : Nat) : Nat := if k = 0 then 1 else if k = 9 then 40 else if k = 11 then 5 else if k = 14 then 300 else if k = 15 then 1 else if k = 16 then 8 else if k = 20 then 1 else 0
theorem a0_lt (k : Nat) : a0 k < 65536 := by
  unfold a0
  repeat' split
  all_goals decide
theorem a0_v1 : V1 a0 := by
  refine ⟨by decide, by decide, by decide, by decide, a0_lt, fun p hp => ?_, by decide, by decide, by decide, by decide, fun h hh => ?_, fun i hi => ?_⟩
  · have e : a0 0 = 1 := by decide
    have : p = 0 := by omega
    subst this
    decide
  · have e : a0 2 = 0 := by decide
    omega
  · have e : a0 1 = 0 := by decide
    omega
theorem a0_wy (x y : Nat) : wy a0 x y = 0 := by
  unfold wy
  rw [show a0 1 = 0 from by decide]
  rfl
section CTOR3
variable {p : Program} {l : Launch} {e : Env} {R : Room} {s : State} {m : MethodId} {args : Array Value} {below : List Frame} {meth : Method} {c : Code} {H : Heap} {locs : List Loc} {cells slots : Nat} {Q : State → Prop}
variable {own : String} {cc : ByteArray} {nL : Nat} {D : va_G} {cA : Nat → ClassId} {ξ : Nat → Nat} {A : Nat → Prop} {pc : Nat} {ls : Array Slot} {rest : List Value} {ws wr : va_W}
/-- a number into a row that stands in a field -/
theorem i_sto (C : i_Cx own cc nL p s m args c D cA ξ A) {h0 pc3 idx ci Nf k q0 q N : Nat} {i v : Int32} {T : u_T} {ty0 : Nat → FieldType} {fs : List Value} {f : Nat → Int32} (hl : lv_has ls nL [(0, .ref h0)]) (K : i_cl own ci T Nf ty0) (hP : va_P D g_cls ((h0, .inr (ci, fs)) :: wr) H) (hD : va_D A ((h0, .inr (ci, fs)) :: wr)) (hS : va_S A s.heap H locs) (d0 : decode cc pc = .ok (.aload_n 0, 1)) (hlk : Cond.fieldLink own idx own (T k).2.1 (T k).2.2.1 ∈ g_tbl) (d1 : decode cc (pc + 1) = .ok (.getfield idx, 3))
    (hpush : W p l e R s m args below meth c H locs cells slots Q (F0 m pc3 ls [.int v, .int i, .ref q]) → W p l e R s m args below meth c H locs cells slots Q (F0 m (pc + 4) ls [.ref q])) (d4 : decode cc pc3 = .ok (.iastore, 1)) (hdecl : (T k).1 = own) (hv : fs[k]? = some (.ref q)) (he : ((h0, .inr (ci, fs)) :: wr)[q0]? = some (q, .inl (cA 0, N, .inl f))) (ht : (g_tys cA)[0]? = some (cA 0, .int)) (hk : k < Nf) (hin : vp_in i N)
    (kk : ∀ (H1 : Heap) (locs1 : List Loc), va_P D g_cls (((h0, .inr (ci, fs)) :: wr).set q0 (q, .inl (cA 0, N, .inl (upd f i.toNatClampNeg v)))) H1 → va_D A (((h0, .inr (ci, fs)) :: wr).set q0 (q, .inl (cA 0, N, .inl (upd f i.toNatClampNeg v)))) → va_S A s.heap H1 locs1 → W p l e R s m args below meth c H1 locs1 cells slots Q (F0 m (pc3 + 1) ls [])) : W p l e R s m args below meth c H locs cells slots Q (F0 m pc ls []) := by
  obtain ⟨hx, hb, hml, hown, hts, hK, hA, hE⟩ := C
  obtain ⟨k1, k2, k3, k4⟩ := K
  refine lv_aload_n hx hb d0 rfl (lv_at hl 0 rfl) ?_
  refine va_get (D := D) (cl := g_cls) (ci := ci) hx hb hts k2 hown hK hP 0 rfl k1 k hk (hts _ hlk) (fun _ h9 => by rw [hdecl] at h9; exact h9) hv d1 (hpush ?_)
  exact va_iast hx hb hK hP hD hS q0 0 he ht hin d4 kk
/-- a table's numbers, copied into a row of ours -/
theorem i_copyT {cc : ByteArray} (hexec : p.tables.exec = Jvm.exec) (hb : c.code = cc) (hml : c.maxLocals = ls.size) {own : String} {index : Nat} (hown : s.vm.findClass own = some m.cls) (hlink : (Cond.methodLink own index arraycopyName).before args s = true) (hnat : (Cond.native arraycopyName).before args s = true) (hstat : (Cond.static arraycopyName).before args s = true) (hini : (Cond.initialized "java/lang/System").before args s = true)
    {tys : List (ClassId × FieldType)} {cl : List vw_C} (hK : va_K D cl tys s) (hP : va_P D cl ws H) (hD : va_D A ws) (hS : va_S A s.heap H locs) {b0 n0 a : Nat} {f : Nat → Int32} (hX : va_T .int b0 n0 (fun j => .int (f j)) A s s.heap) (q1 t1 : Nat) {c1 : ClassId} {n1 : Nat} {g : Nat → Int32} (ha1 : ws[q1]? = some (a, .inl (c1, n1, .inl g))) (ht1 : tys[t1]? = some (c1, .int))
    {n : Int32} (h3 : ¬ n < 0) (h4 : n.toNatClampNeg ≤ n0) (h5 : n.toNatClampNeg ≤ n1)
    (hframes : 1 ≤ R.frames) (hlocals : (rest.map fun v => v.category).sum + (nativeFrameWords "java/lang/System" "arraycopy" 5 + 11) ≤ R.locals) (hdg : decode cc pc = .ok (.invokestatic index, 3))
    (kk : ∀ (H1 : Heap) (locs1 : List Loc), va_P D cl (ws.set q1 (a, .inl (c1, n1, .inl (va_cpy f g 0 0 n.toNatClampNeg)))) H1 → va_D A (ws.set q1 (a, .inl (c1, n1, .inl (va_cpy f g 0 0 n.toNatClampNeg)))) → va_S A s.heap H1 locs1 → W p l e R s m args below meth c H1 locs1 cells slots Q (F0 m (pc + 3) ls rest)) : W p l e R s m args below meth c H locs cells slots Q (F0 m pc ls (.int n :: .int 0 :: .ref a :: .int 0 :: .ref b0 :: rest)) := by
  have z0 : (0 : Int32).toNatClampNeg = 0 := by decide
  have zi : (0 : Int32).toInt = 0 := by decide
  have nn : n.toInt = (n.toNatClampNeg : Int) := by
    have h := Int32.le_iff_toInt_le.mp (Int32.not_lt.mp h3)
    rw [zi] at h
    show n.toInt = ((n.toInt.toNat : Nat) : Int)
    omega
  intro T hT X
  obtain ⟨src, u1, ⟨u6, k0, hk0, cm0, hkk0⟩, u3, u4, -, u5, u7⟩ := hX
  have w0 : H[b0]? = some src := (hS.2.1 b0 (Array.getElem?_eq_some_iff.mp u1).1 u7).trans u1
  have w1 : H[a]? = some (vp_cell c1 (n1, .inl g)) := hP q1 _ ha1
  obtain ⟨-, k1, hk1, cm1, hkk1⟩ := (hK.2 t1 _ ht1).1 n1 (fun j => .int (g j))
  obtain ⟨vm', X', step⟩ := X.arraycopy hexec hown hlink hnat hstat hini (src := b0) (dst := a) (cs := src) (cd := vp_cell c1 (n1, .inl g)) (srcPos := 0) (destPos := 0) (n := n) (by rw [hT]; exact w0) (by rw [hT]; exact w1)
    u6 (fun _ h => by cases h) u3 (fun h => by cases h) hk0 hk1 hkk0 hkk1 (by simp [refKind]) (by decide) (by decide) h3
    (by rw [zi, nn]; omega)
    (by rw [zi, nn]; show ¬ _ > ((arrV c1 n1 (fun j => .int (g j))).slots.size : Int); rw [arrV_size]; omega)
    (fun vm₁ _ i hi => by
      have q : src.slots.getD ((0 : Int32).toNatClampNeg + i) .null = .int (f ((0 : Int32).toNatClampNeg + i)) := by
        rw [Array.getD_eq_getD_getElem?, u5 _ (by rw [z0]; omega)]
        rfl
      exact ⟨by rw [q]; rfl, by rw [q]; exact trivial⟩)
    (g := F0 m pc ls (.int n :: .int 0 :: .ref a :: .int 0 :: .ref b0 :: rest)) rfl (by rw [hml]) (rest := rest) rfl (by rw [hb]; exact hdg) hframes (by show 2 * 0 + _ + _ ≤ _; omega)
  have e1 : copied src (vp_cell c1 (n1, .inl g)) 0 0 n = vp_cell c1 (n1, .inl (va_cpy f g 0 0 n.toNatClampNeg)) := va_copiedX (fun z => .int z) src c1 f g u5 (by rw [z0]; omega)
  rw [e1] at X' step
  generalize hcell : vp_cell c1 (n1, .inl (va_cpy f g 0 0 n.toNatClampNeg)) = cell at X' step
  have hl : a < H.size := (Array.getElem?_eq_some_iff.mp w1).1
  have hheap : ((T.setVm vm').setCell a cell).heap = H.setIfInBounds a cell := by rw [← hT]; rfl
  have oq : ∀ q : Nat, q ≠ a → (H.setIfInBounds a cell)[q]? = H[q]? := fun q hq => by simp [Array.getElem?_setIfInBounds, Ne.symm hq]
  have os : (H.setIfInBounds a cell)[a]? = some cell := by simp [Array.getElem?_setIfInBounds, hl]
  obtain ⟨t, a1, b1⟩ := kk _ _ (hP.set hD ha1 (show (H.setIfInBounds a cell)[a]? = some (vp_cell _ _) by rw [os, ← hcell]) oq) (hD.set ha1) ⟨by simp; exact hS.1, fun q g1 g2 => (oq q (fun e => g2 (by rw [e]; exact hD.2 q1 _ ha1))).trans (hS.2.1 q g1 g2), fun q hq => by
      rcases List.mem_append.mp hq with h | h
      · exact hS.2.2 q h
      · obtain ⟨z, -, hz⟩ := List.mem_map.mp h
        rw [← hz]
        exact hD.2 q1 _ ha1⟩ _ hheap X'
  exact ⟨t, step t a1, b1⟩
variable {sh : g_Sh} {μ : Nat → Nat}
/-- a call of the small machine's, wherever cells have been made -/
theorem g_callK {M : g_M} {Q1 : g_R} {st0 : List Value} {a : Array Value} (hr : va_Run p l e R s m args below meth c H locs cells slots 0 0 (F0 m pc ls st0) rest (g_post sh D cA μ ξ Q1 (va_A (g_wld cA μ M sh) H.size) a) (va_A (g_wld cA μ M sh) H.size))
    (hS : va_S A s.heap H locs) (hf : ∀ q, va_A (g_wld cA μ M sh) H.size q → A q)
    (kk : ∀ (v : Option Value) (M' : g_M) (H1 : Heap) (locs1 : List Loc), Q1 v M' → va_P D g_cls (g_wld cA μ M' sh) H1 → va_D A (g_wld cA μ M' sh) → va_S A s.heap H1 locs1 → W p l e R s m args below meth c H1 locs1 cells slots Q (F0 m (pc + 3) ls ((v.map (g_cv μ ξ)).toList ++ rest))) :
    W p l e R s m args below meth c H locs cells slots Q (F0 m pc ls st0) := by
  intro T hT X
  obtain ⟨v, st₀, t, T', L, h0, X', hL, e1, e2, ⟨⟨v', M', hv, hp, hPt, hKt, hDt⟩, hz, hk⟩, st⟩ := hr T hT X
  cases hv
  rw [h0] at hz hk
  obtain ⟨t2, a1, b1⟩ := kk v' M' T'.heap (locs ++ L) hp (by rw [e1]; exact hPt) (hDt.weaken (fun _ q _ h => hf q.1 h))
    ⟨Nat.le_trans hS.1 (by rw [e1]; exact hz), fun q h1 h2 => by rw [e1, hk q (Nat.lt_of_lt_of_le h1 hS.1) (fun z => h2 (hf q z))]; exact hS.2.1 q h1 h2, fun q hq => by
      rcases List.mem_append.mp hq with h | h
      · exact hS.2.2 q h
      · exact hf _ (hL q h)⟩ T' rfl X'
  exact ⟨t2, st t2 a1, b1⟩
end CTOR3
def iP0 (_ : Nat → Nat) (M : g_M) : Prop := ∀ a k, M a k = 0
def iP1 (_ : Nat → Nat) (M : g_M) : Prop := GX1 M 0 a0 ∧ GX2 M 0 a0
def iP7 (_ : Nat → Nat) (M : g_M) : Prop := TX M 0 a0
def iP8 (_ : Nat → Nat) (M : g_M) : Prop := RX M 0 a0
def iP9 (_ : Nat → Nat) (M : g_M) : Prop := RX M 1 a0 ∧ M 67 2 = 0 ∧ M 0 13 = 0 ∧ M 0 14 = 0 ∧ ∀ i, M 81 i = 0
def iP10 (_ : Nat → Nat) (M : g_M) : Prop := (∀ k, k < 154 → M 2 k = nI (a0 k)) ∧ (∀ k, M 0 k = 0) ∧ ∀ k, M 1 k = 0
/-- the world of a shape, cell by cell -/
def g_fls (μ : Nat → Nat) (f : Nat → Int32) : Nat → List (Option Nat) → List Value
  | _, [] => []
  | i, p :: ps => g_fl μ f i p :: g_fls μ f (i + 1) ps
def g_clx (cA : Nat → ClassId) (μ : Nat → Nat) (f : Nat → Int32) : g_SC → va_E
  | .inl (kd, n) => .inl (cA kd, (n, .inl f))
  | .inr (ci, ps) => .inr (ci, g_fls μ f 0 ps)
def g_wl (cA : Nat → ClassId) (μ : Nat → Nat) (M : g_M) (sh : Nat → g_SC) : Nat → Nat → va_W
  | 0, _ => []
  | n + 1, a => (μ a, g_clx cA μ (M a) (sh a)) :: g_wl cA μ M sh n (a + 1)
theorem g_fls_eq (μ : Nat → Nat) (f : Nat → Int32) (ps : List (Option Nat)) : ps.mapIdx (g_fl μ f) = g_fls μ f 0 ps := by
  have key : ∀ (ps : List (Option Nat)) (i k : Nat), (g_fls μ f i ps)[k]? = (ps[k]?).map (g_fl μ f (i + k)) := by
    intro ps
    induction ps with
    | nil => intro i k; simp [g_fls]
    | cons p ps ih =>
      intro i k
      cases k with
      | zero => simp [g_fls]
      | succ k => rw [g_fls, List.getElem?_cons_succ, List.getElem?_cons_succ, ih, show i + 1 + k = i + (k + 1) by omega]
  apply List.ext_getElem?
  intro k
  rw [key, List.getElem?_mapIdx, Nat.zero_add]
theorem g_wld_eq (cA : Nat → ClassId) (μ : Nat → Nat) (M : g_M) (sh : g_Sh) : g_wld cA μ M sh = g_wl cA μ M sh.2 sh.1 0 := by
  have e : ∀ c f, g_cell cA μ f c = g_clx cA μ f c := by
    intro c f
    cases c with
    | inl q => rfl
    | inr q => show (Sum.inr (q.1, q.2.mapIdx (g_fl μ f)) : va_E) = .inr (q.1, g_fls μ f 0 q.2); rw [g_fls_eq]
  have key : ∀ n a k, (g_wl cA μ M sh.2 n a)[k]? = if k < n then some (μ (a + k), g_cell cA μ (M (a + k)) (sh.2 (a + k))) else none := by
    intro n
    induction n with
    | zero => intro a k; simp [g_wl]
    | succ n ih =>
      intro a k
      cases k with
      | zero => simp [g_wl, e]
      | succ k =>
        rw [g_wl, List.getElem?_cons_succ, ih, show a + 1 + k = a + (k + 1) by omega]
        by_cases h : k < n
        · rw [if_pos h, if_pos (by omega)]
        · rw [if_neg h, if_neg (by omega)]
  apply List.ext_getElem?
  intro k
  rw [key, Nat.zero_add]
  by_cases h : k < sh.1
  · rw [if_pos h, g_wld_at h]
  · rw [if_neg h]
    simp [g_wld, h]
def g_kt {α : Type} (n : Nat) (f g : Nat → α) : Nat → α := fun a => cond (Nat.ble n a) (g a) (f a)
