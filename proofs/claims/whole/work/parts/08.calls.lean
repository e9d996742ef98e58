/-! ===== calls, statics, what the JDK does by itself ===== -/
section GCALL
variable {p : Program} {l : Launch} {e : Env} {R : Room} {s : State} {m : MethodId} {args : Array Value} {below : List Frame} {meth : Method} {c : Code} {H : Heap} {locs : List Loc} {Q : State → Prop}
variable {sh : g_Sh} {D : va_G} {cA : Nat → ClassId} {μ ξ : Nat → Nat} {A : Nat → Prop}
/-- behind a call: what came back holds, the rest is as it was -/
theorem g_call {M : g_M} {Q1 : g_R} {pc : Nat} {ls : Array Slot} {st0 rest : List Value} {a : Array Value} (hr : va_Run p l e R s m args below meth c H locs 0 0 0 0 (F0 m pc ls st0) rest (g_post sh D cA μ ξ Q1 (va_A (g_wld cA μ M sh) H.size) a) (va_A (g_wld cA μ M sh) H.size))
    (hS : va_S A s.heap H locs) (hf : ∀ q, va_A (g_wld cA μ M sh) H.size q → A q)
    (kk : ∀ (v : Option Value) (M' : g_M) (H1 : Heap) (locs1 : List Loc), Q1 v M' → va_P D g_cls (g_wld cA μ M' sh) H1 → va_D A (g_wld cA μ M' sh) → va_S A s.heap H1 locs1 → W p l e R s m args below meth c H1 locs1 0 0 Q (F0 m (pc + 3) ls ((v.map (g_cv μ ξ)).toList ++ rest))) :
    W p l e R s m args below meth c H locs 0 0 Q (F0 m pc ls st0) := by
  intro T hT X
  obtain ⟨v, st₀, t, T', L, h0, X', hL, e1, e2, ⟨⟨v', M', hv, hp, hPt, hKt, hDt⟩, hz, hk⟩, st⟩ := hr T hT X
  cases hv
  rw [h0] at hz hk
  obtain ⟨t2, a1, b1⟩ := kk v' M' T'.heap (locs ++ L) hp (by rw [e1]; exact hPt) (hDt.weaken (fun _ q _ h => hf q.1 h))
    ⟨Nat.le_trans hS.1 (by rw [e1]; exact hz), fun q h1 h2 => by rw [e1, hk q (Nat.lt_of_lt_of_le h1 hS.1) (fun z => h2 (hf q z))]; exact hS.2.1 q h1 h2, fun q hq => by
      rcases List.mem_append.mp hq with h | h
      · exact hS.2.2 q h
      · exact hf _ (hL q h)⟩ T' rfl X'
  exact ⟨t2, st t2 a1, b1⟩
theorem g_free {M : g_M} {A0 : Nat → Prop} (hD : va_D A0 (g_wld cA μ M sh)) (hS : va_S A0 s.heap H locs) (hA : ∀ q, s.heap.size ≤ q → A0 q) : ∀ q, va_A (g_wld cA μ M sh) H.size q → A0 q := by
  intro q h
  rcases h with ⟨k, e, h⟩ | h
  · exact hD.2 k (q, e) h
  · exact hA q (Nat.le_trans hS.1 h)
theorem g_blind {as : List Value} {M : g_M} {sz : Nat} : FrameBlind (g_pre sh D cA μ ξ as M sz) := by
  intro a U g mk q
  obtain ⟨q0, q1, qP, qK, qD, qE⟩ := q
  exact ⟨q0, q1, qP, va_K.moved (u := U) (U := U.calling g mk a) (Vm.Alike.refl U.vm) qK, qD, g_ext.same (u := U) (U := U.calling g mk a) rfl qE⟩
theorem g_preAt {as : List Value} {M : g_M} (hKk : va_K D g_cls (g_tys cA) s) (hP : va_P D g_cls (g_wld cA μ M sh) H) (hD : va_D A (g_wld cA μ M sh)) (hS : va_S A s.heap H locs) (hA : ∀ q, s.heap.size ≤ q → A q) (hE : g_ext ξ A s s.heap) (U : State) (hU : U.heap = H) (hW : s.WarmedH U.vm) : g_pre sh D cA μ ξ as M H.size (as.map (g_cv μ ξ)).toArray U :=
  ⟨rfl, by rw [hU], by rw [hU]; exact hP, va_K.moved hW.alike hKk, hD.weaken (fun _ _ _ _ => trivial), by rw [hU]; exact ((hE.kept hS.2.1).warm hW).narrow (g_free hD hS hA)⟩
end GCALL
section OKC
variable {sh : g_Sh} {mi : g_MI} {own : String} {cc : ByteArray} {nL : Nat} {rt : Option FieldType} {pc : Nat}
/-- what is known of a callee's words -/
def g_cw (mi : g_MI) (k n : Nat) : Prop := Cond.code (mi k).1 (mi k).2.1 (mi k).2.2.1 (mi k).2.2.2 ∈ g_tbl ∧ Cond.initialized (mi k).1.cls ∈ g_tbl ∧ ((mi k).1.cls ≠ "java/lang/invoke/MethodHandle" ∧ (mi k).1.cls ≠ "java/lang/invoke/VarHandle" ∧ (parseMethodDescriptor (mi k).1.desc).map (fun d => d.parameters.length) = some n) ∧ (mi k).2.2.1 ≤ 31
theorem g_good {k n : Nat} (h : g_cw mi k n) : GoodIn g_tbl (g_ws mi k) := by
  intro w hw
  rcases List.mem_cons.mp hw with rfl | hw
  · exact g_tbl_good _ h.1
  · exact g_tbl_good _ hw
theorem g_callB {k n idx d' : Nat} {s : State} {args : Array Value} (h : g_cw mi k n) (hts : ∀ w ∈ g_tbl, w.before args s = true) (hw : Cond.methodLink own idx (mi k).1 ∈ g_tbl) : CallB (g_rm (d' + 1)) s args own idx (mi k).1 (mi k).2.1 (mi k).2.2.1 (mi k).2.2.2 (g_ws mi k) (g_rm d') 0 0 n :=
  callB_of n hts (g_good h) rfl rfl rfl (hts _ h.2.1) (hts _ hw) h.2.2.1 ⟨by show d' + 1 + 1 ≤ d' + 1 + 1; omega, by show 8 + ((mi k).2.2.1 + 11) + (50 * d' + 50) ≤ 50 * (d' + 1) + 50; have := h.2.2.2; omega⟩
theorem ok_callV_core {ci k n idx N : Nat} {C : String} {T : u_T} (hd : decode cc pc = .ok (.invokevirtual idx, 3)) (hc : g_cls[ci]? = some (C, T, N)) (hcw : g_cw mi k n) (hw : Cond.methodLink own idx (mi k).1 ∈ g_tbl) (hi : Cond.instanceMethod (mi k).1 ∈ g_tbl) (hs : Cond.selects C (mi k).1 (mi k).1 ∈ g_tbl)
    {p : Program} {l : Launch} {e : Env} {R : Room} {s : State} {m : MethodId} {args : Array Value} {below : List Frame} {meth : Method} {c : Code} {D : va_G} {cA : Nat → ClassId} {μ ξ : Nat → Nat} {A : Nat → Prop} {d : Nat} {cal : g_C} {Q : g_R} {F : Option Value → g_M → Prop} (hC : g_Cx sh mi own cc nL rt p l R s m args meth c D cA μ ξ A d cal)
    {L st : List Value} {M : g_M} {H : Heap} {locs : List Loc} {ls : Array Slot} {vs r : List Value} {a : Nat} {bs : List Value} (e1 : st = vs ++ r) (e2 : vs.length = n + 1) (e3 : vs.reverse ++ [] = .ref a :: bs) (ho : ∃ ps, a < sh.1 ∧ sh.2 a = .inr (ci, ps)) (hwd : Nat.ble (g_wd r) 8 = true) (h : cal k (vs.reverse ++ []) M F)
    (hP : va_P D g_cls (g_wld cA μ M sh) H) (hD : va_D A (g_wld cA μ M sh)) (hS : va_S A s.heap H locs) (hl : g_lr μ ξ ls nL L)
    (kk : ∀ (v : Option Value) (M' : g_M) (H1 : Heap) (locs1 : List Loc), F v M' → va_P D g_cls (g_wld cA μ M' sh) H1 → va_D A (g_wld cA μ M' sh) → va_S A s.heap H1 locs1 → W p l e R s m args below meth c H1 locs1 0 0 (MQ below (g_post sh D cA μ ξ Q A) args s 0 0 A) (F0 m (pc + 3) ls ((v.map (g_cv μ ξ)).toList ++ r.map (g_cv μ ξ)))) :
    W p l e R s m args below meth c H locs 0 0 (MQ below (g_post sh D cA μ ξ Q A) args s 0 0 A) (F0 m pc ls (st.map (g_cv μ ξ))) := by
  obtain ⟨hx, hb, hml, hown, hts, hr, hlk, hKk, hA, hE, rfl, hSn⟩ := hC
  obtain ⟨d', rfl, hM⟩ := hSn k _ M _ h
  obtain ⟨ps, ho1, ho2⟩ := ho
  have he := g_wld_at (cA := cA) (μ := μ) (M := M) ho1
  rw [ho2] at he
  rw [List.append_nil] at e3 h hM
  have e4 : (vs.map (g_cv μ ξ)) = (bs.map (g_cv μ ξ)).reverse ++ [.ref (μ a)] := by
    have : vs = bs.reverse ++ [.ref a] := by
      have := congrArg List.reverse e3
      simpa using this
    rw [this]
    simp [g_cv]
  have hM := hM H.size
  rw [e3] at hM
  refine g_call (va_runV (As := bs.map (g_cv μ ξ)) (b := μ a) (rest := r.map (g_cv μ ξ)) ⟨hx, hb, hml, hown, hts⟩ hM ⟨g_callB hcw hts hw, hts _ hi, hts _ hs⟩ ⟨g_blind, va_recv hKk hP hc he, fun U hU hW => g_preAt hKk hP hD hS hA hE U hU hW⟩ rfl ?_ hl.1 ?_ (lv_room ?_) hd ⟨Nat.zero_le _, Nat.zero_le _⟩) hS (g_free hD hS hA) kk
  · have := congrArg List.length e3
    simp at this
    simp; omega
  · show st.map (g_cv μ ξ) = _
    rw [e1, List.map_append, e4]
    simp
  · rw [g_wd_eq]
    exact Nat.le_of_ble_eq_true hwd
theorem ok_callS_core {k n idx : Nat} (hd : decode cc pc = .ok (.invokestatic idx, 3)) (hcw : g_cw mi k n)
    (hw : Cond.methodLink own idx (mi k).1 ∈ g_tbl ∨ ∃ host, ∀ (ξ : Nat → Nat) (A : Nat → Prop) (U : State) (H : Heap), g_ext ξ A U H → va_Nw (.methodLinkNest own idx (mi k).1 host) U) (hi : Cond.static (mi k).1 ∈ g_tbl)
    {p : Program} {l : Launch} {e : Env} {R : Room} {s : State} {m : MethodId} {args : Array Value} {below : List Frame} {meth : Method} {c : Code} {D : va_G} {cA : Nat → ClassId} {μ ξ : Nat → Nat} {A : Nat → Prop} {d : Nat} {cal : g_C} {Q : g_R} {F : Option Value → g_M → Prop} (hC : g_Cx sh mi own cc nL rt p l R s m args meth c D cA μ ξ A d cal)
    {L st : List Value} {M : g_M} {H : Heap} {locs : List Loc} {ls : Array Slot} {vs r : List Value} (e1 : st = vs ++ r) (e2 : vs.length = n) (hwd : Nat.ble (g_wd r) 8 = true) (h : cal k (vs.reverse ++ []) M F)
    (hP : va_P D g_cls (g_wld cA μ M sh) H) (hD : va_D A (g_wld cA μ M sh)) (hS : va_S A s.heap H locs) (hl : g_lr μ ξ ls nL L)
    (kk : ∀ (v : Option Value) (M' : g_M) (H1 : Heap) (locs1 : List Loc), F v M' → va_P D g_cls (g_wld cA μ M' sh) H1 → va_D A (g_wld cA μ M' sh) → va_S A s.heap H1 locs1 → W p l e R s m args below meth c H1 locs1 0 0 (MQ below (g_post sh D cA μ ξ Q A) args s 0 0 A) (F0 m (pc + 3) ls ((v.map (g_cv μ ξ)).toList ++ r.map (g_cv μ ξ)))) :
    W p l e R s m args below meth c H locs 0 0 (MQ below (g_post sh D cA μ ξ Q A) args s 0 0 A) (F0 m pc ls (st.map (g_cv μ ξ))) := by
  obtain ⟨hx, hb, hml, hown, hts, hr, hlk, hKk, hA, hE, rfl, hSn⟩ := hC
  obtain ⟨d', rfl, hM⟩ := hSn k _ M _ h
  rw [List.append_nil] at h hM
  have hM := hM H.size
  have q1 : ((vs.reverse).map (g_cv μ ξ)).length = n := by simp [e2]
  have q2 : (F0 m pc ls (st.map (g_cv μ ξ))).stack = ((vs.reverse).map (g_cv μ ξ)).reverse ++ r.map (g_cv μ ξ) := by
    show st.map (g_cv μ ξ) = _
    rw [e1, List.map_append]
    simp
  have q3 : 2 * (F0 m pc ls (st.map (g_cv μ ξ))).monitorRoom + ((r.map (g_cv μ ξ)).map fun v => v.category).sum ≤ 8 := lv_room (by rw [g_wd_eq]; exact Nat.le_of_ble_eq_true hwd)
  rcases hw with hw | ⟨host, hw⟩
  · exact g_call (va_runS (As := (vs.reverse).map (g_cv μ ξ)) (rest := r.map (g_cv μ ξ)) ⟨hx, hb, hml, hown, hts⟩ hM ⟨g_callB hcw hts hw, hts _ hi⟩ ⟨g_blind, fun U hU hW => g_preAt hKk hP hD hS hA hE U hU hW⟩ rfl q1 hl.1 q2 q3 hd ⟨Nat.zero_le _, Nat.zero_le _⟩) hS (g_free hD hS hA) kk
  · have hcn : va_CN (g_rm (d' + 1)) s args own idx (mi k).1 host (mi k).2.1 (mi k).2.2.1 (mi k).2.2.2 (g_ws mi k) (g_rm d') 0 0 n :=
      va_cnB n hts (g_good hcw) rfl rfl rfl (hw ξ A s s.heap hE) (hts _ hcw.2.1) hcw.2.2.1 ⟨by show d' + 1 + 1 ≤ d' + 1 + 1; omega, by show 8 + ((mi k).2.2.1 + 11) + (50 * d' + 50) ≤ 50 * (d' + 1) + 50; have := hcw.2.2.2; omega⟩
    exact g_call (va_runSN (As := (vs.reverse).map (g_cv μ ξ)) (rest := r.map (g_cv μ ξ)) ⟨hx, hb, hml, hown, hts⟩ hM ⟨hcn, hts _ hi, trivial⟩ ⟨g_blind, fun U hU hW => g_preAt hKk hP hD hS hA hE U hU hW⟩ rfl q1 hl.1 q2 q3 hd ⟨Nat.zero_le _, Nat.zero_le _⟩) hS (g_free hD hS hA) kk
theorem ok_callV {ci k n idx N : Nat} {C : String} {T : u_T} (hd : decode cc pc = .ok (.invokevirtual idx, 3)) (hc : g_cls[ci]? = some (C, T, N)) (hcw : g_cw mi k n) (hw : Cond.methodLink own idx (mi k).1 ∈ g_tbl) (hi : Cond.instanceMethod (mi k).1 ∈ g_tbl) (hs : Cond.selects C (mi k).1 (mi k).1 ∈ g_tbl) : g_ok sh mi own cc nL rt pc (o_callV sh ci k (n + 1) (pc + 3)) := by
  refine ⟨?_, ?_⟩
  · intro cal P P' Q Q' L st M hcm hP hQ h
    refine g_pop_mono _ _ _ _ _ (fun as r z => ?_) h
    split at z
    · exact g_ob_mono (g_cond_mono (fun z => hcm _ _ _ _ _ (fun v N z => by cases v with
        | none => exact z
        | some x => exact hP _ _ _ _ z) z)) z
    · exact z.elim
  · intro p l e R s m args below meth c D cA μ ξ A d cal Q K C hK L st M H locs ls h hP hD hS hl
    obtain ⟨vs, r, e1, e2, h⟩ := g_pop_spec _ _ _ _ h
    split at h
    · rename_i a bs e3
      obtain ⟨ps, o1, o2, h⟩ := g_ob_spec h
      obtain ⟨h1, h⟩ := g_cond_spec h
      refine ok_callV_core hd hc hcw hw hi hs C e1 e2 e3 ⟨ps, o1, o2⟩ h1 h hP hD hS hl (fun v M' H1 locs1 hF hP1 hD1 hS1 => ?_)
      cases v with
      | none => exact False.elim hF
      | some x => exact hK _ _ _ _ _ _ _ hF hP1 hD1 hS1 hl
    · exact h.elim
theorem ok_callVv {ci k n idx N : Nat} {C : String} {T : u_T} (hd : decode cc pc = .ok (.invokevirtual idx, 3)) (hc : g_cls[ci]? = some (C, T, N)) (hcw : g_cw mi k n) (hw : Cond.methodLink own idx (mi k).1 ∈ g_tbl) (hi : Cond.instanceMethod (mi k).1 ∈ g_tbl) (hs : Cond.selects C (mi k).1 (mi k).1 ∈ g_tbl) : g_ok sh mi own cc nL rt pc (o_callVv sh ci k (n + 1) (pc + 3)) := by
  refine ⟨?_, ?_⟩
  · intro cal P P' Q Q' L st M hcm hP hQ h
    refine g_pop_mono _ _ _ _ _ (fun as r z => ?_) h
    split at z
    · exact g_ob_mono (g_cond_mono (fun z => hcm _ _ _ _ _ (fun v N z => by cases v with
        | none => exact hP _ _ _ _ z
        | some x => exact z) z)) z
    · exact z.elim
  · intro p l e R s m args below meth c D cA μ ξ A d cal Q K C hK L st M H locs ls h hP hD hS hl
    obtain ⟨vs, r, e1, e2, h⟩ := g_pop_spec _ _ _ _ h
    split at h
    · rename_i a bs e3
      obtain ⟨ps, o1, o2, h⟩ := g_ob_spec h
      obtain ⟨h1, h⟩ := g_cond_spec h
      refine ok_callV_core hd hc hcw hw hi hs C e1 e2 e3 ⟨ps, o1, o2⟩ h1 h hP hD hS hl (fun v M' H1 locs1 hF hP1 hD1 hS1 => ?_)
      cases v with
      | none => exact hK _ _ _ _ _ _ _ hF hP1 hD1 hS1 hl
      | some x => exact False.elim hF
    · exact h.elim
theorem ok_callS {k n idx : Nat} (hd : decode cc pc = .ok (.invokestatic idx, 3)) (hcw : g_cw mi k n) (hw : Cond.methodLink own idx (mi k).1 ∈ g_tbl ∨ ∃ host, ∀ (ξ : Nat → Nat) (A : Nat → Prop) (U : State) (H : Heap), g_ext ξ A U H → va_Nw (.methodLinkNest own idx (mi k).1 host) U) (hi : Cond.static (mi k).1 ∈ g_tbl) : g_ok sh mi own cc nL rt pc (o_callS k n (pc + 3)) := by
  refine ⟨?_, ?_⟩
  · intro cal P P' Q Q' L st M hcm hP hQ h
    refine g_pop_mono _ _ _ _ _ (fun as r z => ?_) h
    exact g_cond_mono (fun z => hcm _ _ _ _ _ (fun v N z => by cases v with
        | none => exact z
        | some x => exact hP _ _ _ _ z) z) z
  · intro p l e R s m args below meth c D cA μ ξ A d cal Q K C hK L st M H locs ls h hP hD hS hl
    obtain ⟨vs, r, e1, e2, h⟩ := g_pop_spec _ _ _ _ h
    obtain ⟨h1, h⟩ := g_cond_spec h
    refine ok_callS_core hd hcw hw hi C e1 e2 h1 h hP hD hS hl (fun v M' H1 locs1 hF hP1 hD1 hS1 => ?_)
    cases v with
    | none => exact False.elim hF
    | some x => exact hK _ _ _ _ _ _ _ hF hP1 hD1 hS1 hl
theorem ok_callSv {k n idx : Nat} (hd : decode cc pc = .ok (.invokestatic idx, 3)) (hcw : g_cw mi k n) (hw : Cond.methodLink own idx (mi k).1 ∈ g_tbl ∨ ∃ host, ∀ (ξ : Nat → Nat) (A : Nat → Prop) (U : State) (H : Heap), g_ext ξ A U H → va_Nw (.methodLinkNest own idx (mi k).1 host) U) (hi : Cond.static (mi k).1 ∈ g_tbl) : g_ok sh mi own cc nL rt pc (o_callSv k n (pc + 3)) := by
  refine ⟨?_, ?_⟩
  · intro cal P P' Q Q' L st M hcm hP hQ h
    refine g_pop_mono _ _ _ _ _ (fun as r z => ?_) h
    exact g_cond_mono (fun z => hcm _ _ _ _ _ (fun v N z => by cases v with
        | none => exact hP _ _ _ _ z
        | some x => exact z) z) z
  · intro p l e R s m args below meth c D cA μ ξ A d cal Q K C hK L st M H locs ls h hP hD hS hl
    obtain ⟨vs, r, e1, e2, h⟩ := g_pop_spec _ _ _ _ h
    obtain ⟨h1, h⟩ := g_cond_spec h
    refine ok_callS_core hd hcw hw hi C e1 e2 h1 h hP hD hS hl (fun v M' H1 locs1 hF hP1 hD1 hS1 => ?_)
    cases v with
    | none => exact hK _ _ _ _ _ _ _ hF hP1 hD1 hS1 hl
    | some x => exact False.elim hF
theorem ok_callX {k n idx : Nat} (hd : decode cc pc = .ok (.invokevirtual idx, 3)) (hcw : g_cw mi k n) (hw : Cond.methodLink own idx (mi k).1 ∈ g_tbl) (hi : Cond.instanceMethod (mi k).1 ∈ g_tbl) (hs : Cond.selects "java/lang/String" (mi k).1 (mi k).1 ∈ g_tbl) : g_ok sh mi own cc nL rt pc (o_callX 10 16 k (n + 1) (pc + 3)) := by
  refine ⟨?_, ?_⟩
  · intro cal P P' Q Q' L st M hcm hP hQ h
    refine g_pop_mono _ _ _ _ _ (fun as r z => ?_) h
    split at z
    · exact g_cond_mono (g_cond_mono (g_cond_mono (fun z => hcm _ _ _ _ _ (fun v N z => by cases v with
        | none => exact z
        | some x => exact hP _ _ _ _ z) z))) z
    · exact z.elim
  · intro p l e R s m args below meth c D cA μ ξ A d cal Q K C hK L st M H locs ls h hP hD hS hl
    obtain ⟨vs, r, e1, e2, h⟩ := g_pop_spec _ _ _ _ h
    split at h
    · rename_i a bs e3
      obtain ⟨o1, h⟩ := g_cond_spec h
      obtain ⟨o2, h⟩ := g_cond_spec h
      obtain ⟨hwd, h⟩ := g_cond_spec h
      obtain ⟨hx, hb, hml, hown, hts, hr, hlk, hKk, hA, hE, rfl, hSn⟩ := C
      obtain ⟨d', rfl, hM⟩ := hSn k _ M _ h
      have o1 := Nat.le_of_ble_eq_true o1
      have o2 := Nat.le_of_ble_eq_true o2
      rw [List.append_nil] at e3 h hM
      have e4 : (vs.map (g_cv μ ξ)) = (bs.map (g_cv μ ξ)).reverse ++ [.ref (ξ a)] := by
        have : vs = bs.reverse ++ [.retAddr a] := by
          have := congrArg List.reverse e3
          simpa using this
        rw [this]
        simp [g_cv]
      have hM := hM H.size
      rw [e3] at hM
      have hrecv : ∃ cell : Cell, H[ξ a]? = some cell ∧ cell.vm.isStatics = false ∧ s.vm.findClass "java/lang/String" = some cell.cls := by
        have := vk_recv (i := a - 10) hE.2.2.2.2.2.2.2.2.1 (by omega) hS
        rw [show 10 + (a - 10) = a by omega] at this
        exact this
      refine g_call (va_runV (C := "java/lang/String") (As := bs.map (g_cv μ ξ)) (b := ξ a) (rest := r.map (g_cv μ ξ)) ⟨hx, hb, hml, hown, hts⟩ hM ⟨g_callB hcw hts hw, hts _ hi, hts _ hs⟩ ⟨g_blind, hrecv, fun U hU hW => g_preAt hKk hP hD hS hA hE U hU hW⟩ rfl ?_ hl.1 ?_ (lv_room ?_) hd ⟨Nat.zero_le _, Nat.zero_le _⟩) hS (g_free hD hS hA) (fun v M' H1 locs1 hF hP1 hD1 hS1 => ?_)
      · have := congrArg List.length e3
        simp at this
        simp; omega
      · show st.map (g_cv μ ξ) = _
        rw [e1, List.map_append, e4]
        simp
      · rw [g_wd_eq]
        exact Nat.le_of_ble_eq_true hwd
      · cases v with
        | none => exact False.elim hF
        | some x => exact hK _ _ _ _ _ _ _ hF hP1 hD1 hS1 hl
    · exact h.elim
/-! what the JDK does by itself: copies, the greater, the less; statics -/
theorem ok_copy {idx : Nat} (hd : decode cc pc = .ok (.invokestatic idx, 3)) (h1 : Cond.methodLink own idx arraycopyName ∈ g_tbl) (h2 : Cond.native arraycopyName ∈ g_tbl) (h3 : Cond.static arraycopyName ∈ g_tbl) (h4 : Cond.initialized "java/lang/System" ∈ g_tbl) : g_ok sh mi own cc nL rt pc (o_copy sh (pc + 3)) := by
  refine ⟨?_, ?_⟩
  · intro cal P P' Q Q' L st M hc hP hQ h
    unfold o_copy at h ⊢
    split at h
    · exact g_ar_mono (fun n z => g_ar_mono (fun n ⟨s', d', n', z1, z2, z3, z4, z5, z⟩ => ⟨s', d', n', z1, z2, z3, z4, z5, g_cond_mono (hP _ _ _ _) z⟩) z) h
    · exact h.elim
  · intro p l e R s m args below meth c D cA μ ξ A d cal Q K C hK L st M H locs ls h hP hD hS hl
    obtain ⟨hx, hb, hml, hown, hts, hr, hlk, hKk, hA, hE, rfl, hSn⟩ := C
    unfold o_copy at h
    split at h
    · rename_i n dp a sp b r
      obtain ⟨n0, b1, b2, b3, h⟩ := g_ar_spec h
      obtain ⟨n1, a1, a2, a3, s', d', n', rfl, rfl, rfl, c4, c5, h⟩ := g_ar_spec h
      obtain ⟨hwd, h⟩ := g_cond_spec h
      have w1 := nI_clamp (n := s') (by omega)
      have w2 := nI_clamp (n := d') (by omega)
      have w3 := nI_clamp (n := n') (by omega)
      have hb1 := g_wld_at (cA := cA) (μ := μ) (M := M) b1
      rw [b2] at hb1
      have ha1 := g_wld_at (cA := cA) (μ := μ) (M := M) a1
      rw [a2] at ha1
      have eq : (Sum.inl (cA 0, n1, .inl (va_cpy (M b) (M a) (nI s').toNatClampNeg (nI d').toNatClampNeg (nI n').toNatClampNeg)) : va_E) = g_cell cA μ (va_cpy (M b) (M a) s' d' n') (sh.2 a) := by
        rw [a2, w1, w2, w3]
        rfl
      refine va_copyi hx hb (hml.trans hl.1.symm) hown (hts _ h1) (hts _ h2) (hts _ h3) (hts _ h4) hKk hP hD hS b a 0 0 hb1 ha1 rfl rfl rfl (nI_pos (by omega)) (nI_pos (by omega)) (nI_pos (by omega)) (by rw [w1, w3]; exact c4) (by rw [w2, w3]; exact c5) (fun i _ => rfl) (by show 1 ≤ d + 1; omega) ?_ hd (fun H1 locs1 hP1 hD1 hS1 => hK _ _ _ _ _ _ _ h (g_put_P a1 eq hP1) (g_put_D a1 eq hD1) hS1 hl)
      have hn : nativeFrameWords "java/lang/System" "arraycopy" 5 + 11 ≤ 40 := by decide +kernel
      show _ ≤ 50 * d + 50
      have hw := Nat.le_of_ble_eq_true hwd
      rw [← g_wd_eq μ ξ] at hw
      omega
    · exact h.elim
theorem ok_max {idx : Nat} (hd : decode cc pc = .ok (.invokestatic idx, 3)) (h1 : Cond.methodLink own idx Lib.Math.max.name ∈ g_tbl) (h2 : Cond.static Lib.Math.max.name ∈ g_tbl) (h3 : Cond.initialized "java/lang/Math" ∈ g_tbl) (h4 : Cond.code Lib.Math.max.name Lib.Math.max.code 2 (some .int) ∈ g_tbl) : g_ok sh mi own cc nL rt pc (o_max (pc + 3)) := by
  refine ⟨?_, ?_⟩
  · intro cal P P' Q Q' L st M hc hP hQ h
    unfold o_max at h ⊢
    split at h
    · exact g_cond_mono (hP _ _ _ _) h
    · exact h.elim
  · intro p l e R s m args below meth c D cA μ ξ A d cal Q K C hK L st M H locs ls h hP hD hS hl
    obtain ⟨hx, hb, hml, hown, hts, hr, hlk, hKk, hA, hE, rfl, hSn⟩ := C
    unfold o_max at h
    split at h
    · obtain ⟨hwd, h⟩ := g_cond_spec h
      refine va_mmax hx hb (hml.trans hl.1.symm) hown (hts _ h1) (hts _ h2) (hts _ h3) (hts _ h4) (by show 1 ≤ d + 1; omega) ?_ (Nat.zero_le _) (Nat.zero_le _) hd (hK _ _ _ _ _ _ _ h hP hD hS hl)
      show _ ≤ 50 * d + 50
      have hw := Nat.le_of_ble_eq_true hwd
      rw [← g_wd_eq μ ξ] at hw
      omega
    · exact h.elim
theorem ok_min {idx : Nat} (hd : decode cc pc = .ok (.invokestatic idx, 3)) (h1 : Cond.methodLink own idx Lib.Math.min.name ∈ g_tbl) (h2 : Cond.static Lib.Math.min.name ∈ g_tbl) (h3 : Cond.initialized "java/lang/Math" ∈ g_tbl) (h4 : Cond.code Lib.Math.min.name Lib.Math.min.code 2 (some .int) ∈ g_tbl) : g_ok sh mi own cc nL rt pc (o_min (pc + 3)) := by
  refine ⟨?_, ?_⟩
  · intro cal P P' Q Q' L st M hc hP hQ h
    unfold o_min at h ⊢
    split at h
    · exact g_cond_mono (hP _ _ _ _) h
    · exact h.elim
  · intro p l e R s m args below meth c D cA μ ξ A d cal Q K C hK L st M H locs ls h hP hD hS hl
    obtain ⟨hx, hb, hml, hown, hts, hr, hlk, hKk, hA, hE, rfl, hSn⟩ := C
    unfold o_min at h
    split at h
    · obtain ⟨hwd, h⟩ := g_cond_spec h
      refine va_mmin hx hb (hml.trans hl.1.symm) hown (hts _ h1) (hts _ h2) (hts _ h3) (hts _ h4) (by show 1 ≤ d + 1; omega) ?_ (Nat.zero_le _) (Nat.zero_le _) hd (hK _ _ _ _ _ _ _ h hP hD hS hl)
      show _ ≤ 50 * d + 50
      have hw := Nat.le_of_ble_eq_true hwd
      rw [← g_wd_eq μ ξ] at hw
      omega
    · exact h.elim
/-- a static whose value the start gives -/
theorem ok_gets {idx : Nat} {C n dd : String} {v : Value} (hd : decode cc pc = .ok (.getstatic idx, 3)) (hw : Cond.fieldLink own idx C n dd ∈ g_tbl) (hv : ∀ (ξ : Nat → Nat) (A : Nat → Prop) (U : State) (H : Heap), g_ext ξ A U H → ∀ μ, va_Z C n dd (g_cv μ ξ v) A U H) : g_ok sh mi own cc nL rt pc (o_push v (pc + 3)) := by
  refine ⟨?_, ?_⟩
  · intro cal P P' Q Q' L st M hc hP hQ h
    exact hP _ _ _ _ h
  · intro p l e R s m args below meth c D cA μ ξ A d cal Q K C hK L st M H locs ls h hP hD hS hl
    obtain ⟨hx, hb, hml, hown, hts, hr, hlk, hKk, hA, hE, rfl, hSn⟩ := C
    exact va_gets hx hb (hv ξ A s s.heap hE μ) hS hown (hts _ hw) (fun _ h => h) hd (hK _ _ _ _ _ _ _ h hP hD hS hl)
theorem ok_getsQ {idx : Nat} (hd : decode cc pc = .ok (.getstatic idx, 3)) (hw : Cond.fieldLink own idx "jdk/internal/util/Preconditions" "SIOOBE_FORMATTER" "Ljava/util/function/BiFunction;" ∈ g_tbl) : g_ok sh mi own cc nL rt pc (o_pushQ 40 (pc + 3)) := by
  refine ⟨?_, ?_⟩
  · intro cal P P' Q Q' L st M hc hP hQ h
    exact ⟨hP _ _ _ _ h.1, hP _ _ _ _ h.2⟩
  · intro p l e R s m args below meth c D cA μ ξ A d cal Q K C hK L st M H locs ls h hP hD hS hl
    obtain ⟨hx, hb, hml, hown, hts, hr, hlk, hKk, hA, hE, rfl, hSn⟩ := C
    rcases hE.2.2.2.2.2.2.2.1 with z | z
    · exact va_gets hx hb z hS hown (hts _ hw) (fun _ h => h) hd (hK _ _ _ _ _ _ _ h.1 hP hD hS hl)
    · exact va_gets hx hb z hS hown (hts _ hw) (fun _ h => h) hd (hK _ _ _ _ _ _ _ h.2 hP hD hS hl)
theorem ok_ldcS {idx k : Nat} {tx : String} (hd : decode cc pc = .ok (.ldc idx, 2)) (hv : ∀ (ξ : Nat → Nat) (A : Nat → Prop) (U : State) (H : Heap), g_ext ξ A U H → vk_R own idx tx (ξ k) U) : g_ok sh mi own cc nL rt pc (o_push (.retAddr k) (pc + 2)) := by
  refine ⟨?_, ?_⟩
  · intro cal P P' Q Q' L st M hc hP hQ h
    exact hP _ _ _ _ h
  · intro p l e R s m args below meth c D cA μ ξ A d cal Q K C hK L st M H locs ls h hP hD hS hl
    obtain ⟨hx, hb, hml, hown, hts, hr, hlk, hKk, hA, hE, rfl, hSn⟩ := C
    exact va_ldcS hx hb hown (hv ξ A s s.heap hE) hd (hK _ _ _ _ _ _ _ h hP hD hS hl)
def g_fval : Nat → Option Value := fun k => cond (Nat.ble 10 k) (cond (Nat.ble 16 k) none (some (.retAddr (k + 10)))) none
def g_fcod : Nat → Option Value := fun k => cond (Nat.ble 10 k) (cond (Nat.ble 16 k) none (some (.int 0))) none
theorem g_xfld_spec {f : Nat → Option Value} {nx : Nat} {cal : g_C} {K : g_K} {Q : g_R} {L st : List Value} {M : g_M} (h : o_xfld f nx cal K Q L st M) : ∃ k r v, st = .retAddr k :: r ∧ f k = some v ∧ K nx L (v :: r) M := by
  unfold o_xfld at h
  cases st with
  | nil => exact False.elim h
  | cons x r =>
    cases x with
    | retAddr k =>
      cases e : f k with
      | none => simp only [e] at h
      | some v => simp only [e] at h; exact ⟨k, r, v, rfl, e, h⟩
    | _ => exact False.elim h
theorem g_xfld_mono {f : Nat → Option Value} {nx : Nat} : g_mono (o_xfld f nx) := by
  intro cal P P' Q Q' L st M hc hP hQ h
  obtain ⟨k, r, v, rfl, e, h⟩ := g_xfld_spec h
  show (match f k with | some v => P' nx L (v :: r) M | none => False)
  rw [e]
  exact hP _ _ _ _ h
theorem ok_fval {idx : Nat} (hd : decode cc pc = .ok (.getfield idx, 3)) (hw : Cond.fieldLink own idx "java/lang/String" "value" "[B" ∈ g_tbl) : g_ok sh mi own cc nL rt pc (o_xfld g_fval (pc + 3)) := by
  refine ⟨g_xfld_mono, ?_⟩
  intro p l e R s m args below meth c D cA μ ξ A d cal Q K C hK L st M H locs ls h hP hD hS hl
  obtain ⟨hx, hb, hml, hown, hts, hr, hlk, hKk, hA, hE, rfl, hSn⟩ := C
  obtain ⟨k, r, v, rfl, e1, h⟩ := g_xfld_spec h
  unfold g_fval at e1
  cases e2 : Nat.ble 10 k with
  | false => rw [e2] at e1; cases e1
  | true =>
    cases e3 : Nat.ble 16 k with
    | true => rw [e2, e3] at e1; cases e1
    | false =>
      rw [e2, e3] at e1
      cases e1
      have g1 := Nat.le_of_ble_eq_true e2
      have g2 : k < 16 := by
        rcases Nat.lt_or_ge k 16 with q | q
        · exact q
        · rw [Nat.ble_eq_true_of_le q] at e3; cases e3
      have g3 := (hE.2.2.2.2.2.2.2.2.1.1 (k - 10) (by omega)).2.2.1
      dsimp only at g3
      rw [show 10 + (k - 10) = k by omega, show 20 + (k - 10) = k + 10 by omega] at g3
      exact vk_getf hx hb g3 hS hown (hts _ hw) (fun _ h => h) hd (hK _ _ _ _ _ _ _ h hP hD hS hl)
theorem ok_fcod {idx : Nat} (hd : decode cc pc = .ok (.getfield idx, 3)) (hw : Cond.fieldLink own idx "java/lang/String" "coder" "B" ∈ g_tbl) : g_ok sh mi own cc nL rt pc (o_xfld g_fcod (pc + 3)) := by
  refine ⟨g_xfld_mono, ?_⟩
  intro p l e R s m args below meth c D cA μ ξ A d cal Q K C hK L st M H locs ls h hP hD hS hl
  obtain ⟨hx, hb, hml, hown, hts, hr, hlk, hKk, hA, hE, rfl, hSn⟩ := C
  obtain ⟨k, r, v, rfl, e1, h⟩ := g_xfld_spec h
  unfold g_fcod at e1
  cases e2 : Nat.ble 10 k with
  | false => rw [e2] at e1; cases e1
  | true =>
    cases e3 : Nat.ble 16 k with
    | true => rw [e2, e3] at e1; cases e1
    | false =>
      rw [e2, e3] at e1
      cases e1
      have g1 := Nat.le_of_ble_eq_true e2
      have g2 : k < 16 := by
        rcases Nat.lt_or_ge k 16 with q | q
        · exact q
        · rw [Nat.ble_eq_true_of_le q] at e3; cases e3
      have g3 := (hE.2.2.2.2.2.2.2.2.1.1 (k - 10) (by omega)).2.1
      dsimp only at g3
      rw [show 10 + (k - 10) = k by omega] at g3
      exact vk_getf hx hb g3 hS hown (hts _ hw) (fun _ h => h) hd (hK _ _ _ _ _ _ _ h hP hD hS hl)
end OKC
