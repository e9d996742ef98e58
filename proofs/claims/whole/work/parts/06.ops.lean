/-! ===== each op keeps to its instruction ===== -/
theorem ok_iconst {sh : g_Sh} {mi : g_MI} {own : String} {cc : ByteArray} {nL : Nat} {rt : Option FieldType} {pc : Nat} {n : Int} {v : Int32} (hd : decode cc pc = .ok (.iconst n, 1)) (hv : Int32.ofInt n = v) : g_ok sh mi own cc nL rt pc (o_push (.int v) (pc + 1)) := by
  refine ⟨?_, ?_⟩
  · intro cal P P' Q Q' L st M hc hP hQ h
    unfold o_push at h ⊢
    exact hP _ _ _ _ h
  · intro p l e R s m args below meth c D cA μ ξ A d cal Q K C hK L st M H locs ls h hP hD hS hl
    obtain ⟨hx, hb, hml, hown, hts, hr, hlk, hKk, hA, hE, rfl, hSn⟩ := C
    unfold o_push at h
    exact lv_iconst hx hb hd hv (hK _ _ _ _ _ _ _ (h) hP hD hS hl)
theorem ok_bipush {sh : g_Sh} {mi : g_MI} {own : String} {cc : ByteArray} {nL : Nat} {rt : Option FieldType} {pc : Nat} {n : Int} {v : Int32} (hd : decode cc pc = .ok (.bipush n, 2)) (hv : (Int8.ofInt n).toInt32 = v) : g_ok sh mi own cc nL rt pc (o_push (.int v) (pc + 2)) := by
  refine ⟨?_, ?_⟩
  · intro cal P P' Q Q' L st M hc hP hQ h
    unfold o_push at h ⊢
    exact hP _ _ _ _ h
  · intro p l e R s m args below meth c D cA μ ξ A d cal Q K C hK L st M H locs ls h hP hD hS hl
    obtain ⟨hx, hb, hml, hown, hts, hr, hlk, hKk, hA, hE, rfl, hSn⟩ := C
    unfold o_push at h
    exact lv_bipush hx hb hd hv (hK _ _ _ _ _ _ _ (h) hP hD hS hl)
theorem ok_sipush {sh : g_Sh} {mi : g_MI} {own : String} {cc : ByteArray} {nL : Nat} {rt : Option FieldType} {pc : Nat} {n : Int} {v : Int32} (hd : decode cc pc = .ok (.sipush n, 3)) (hv : (Int16.ofInt n).toInt32 = v) : g_ok sh mi own cc nL rt pc (o_push (.int v) (pc + 3)) := by
  refine ⟨?_, ?_⟩
  · intro cal P P' Q Q' L st M hc hP hQ h
    unfold o_push at h ⊢
    exact hP _ _ _ _ h
  · intro p l e R s m args below meth c D cA μ ξ A d cal Q K C hK L st M H locs ls h hP hD hS hl
    obtain ⟨hx, hb, hml, hown, hts, hr, hlk, hKk, hA, hE, rfl, hSn⟩ := C
    unfold o_push at h
    exact lv_sipush hx hb hd hv (hK _ _ _ _ _ _ _ (h) hP hD hS hl)
theorem ok_ldc {sh : g_Sh} {mi : g_MI} {own : String} {cc : ByteArray} {nL : Nat} {rt : Option FieldType} {pc : Nat} {i : Nat} {v : Int32} (hd : decode cc pc = .ok (.ldc i, 2)) (hw : Cond.constant own i v ∈ g_tbl) : g_ok sh mi own cc nL rt pc (o_push (.int v) (pc + 2)) := by
  refine ⟨?_, ?_⟩
  · intro cal P P' Q Q' L st M hc hP hQ h
    unfold o_push at h ⊢
    exact hP _ _ _ _ h
  · intro p l e R s m args below meth c D cA μ ξ A d cal Q K C hK L st M H locs ls h hP hD hS hl
    obtain ⟨hx, hb, hml, hown, hts, hr, hlk, hKk, hA, hE, rfl, hSn⟩ := C
    unfold o_push at h
    exact lv_ldc hx hb hown (hts _ hw) hd (hK _ _ _ _ _ _ _ (h) hP hD hS hl)
theorem ok_ldc2 {sh : g_Sh} {mi : g_MI} {own : String} {cc : ByteArray} {nL : Nat} {rt : Option FieldType} {pc : Nat} {i : Nat} {v : Int64} (hd : decode cc pc = .ok (.ldc2_w i, 3)) (hw : Cond.constantLong own i v ∈ g_tbl) : g_ok sh mi own cc nL rt pc (o_push (.long v) (pc + 3)) := by
  refine ⟨?_, ?_⟩
  · intro cal P P' Q Q' L st M hc hP hQ h
    unfold o_push at h ⊢
    exact hP _ _ _ _ h
  · intro p l e R s m args below meth c D cA μ ξ A d cal Q K C hK L st M H locs ls h hP hD hS hl
    obtain ⟨hx, hb, hml, hown, hts, hr, hlk, hKk, hA, hE, rfl, hSn⟩ := C
    unfold o_push at h
    exact lv_ldc2 hx hb hown (hts _ hw) hd (hK _ _ _ _ _ _ _ (h) hP hD hS hl)
theorem ok_iload_n {sh : g_Sh} {mi : g_MI} {own : String} {cc : ByteArray} {nL : Nat} {rt : Option FieldType} {pc : Nat} {k : Fin 4} {i : Nat} (hd : decode cc pc = .ok (.iload_n k, 1)) (hi : (k : Nat) = i) : g_ok sh mi own cc nL rt pc (o_iload i (pc + 1)) := by
  refine ⟨?_, ?_⟩
  · intro cal P P' Q Q' L st M hc hP hQ h
    unfold o_iload at h ⊢
    split at h
    · exact hP _ _ _ _ h
    · exact h.elim
  · intro p l e R s m args below meth c D cA μ ξ A d cal Q K C hK L st M H locs ls h hP hD hS hl
    obtain ⟨hx, hb, hml, hown, hts, hr, hlk, hKk, hA, hE, rfl, hSn⟩ := C
    unfold o_iload at h
    split at h
    · rename_i x e
      exact lv_iload_n hx hb hd hi (hl.2.2.2 _ _ e (by simp)) (hK _ _ _ _ _ _ _ (h) hP hD hS hl)
    · exact h.elim
theorem ok_iload {sh : g_Sh} {mi : g_MI} {own : String} {cc : ByteArray} {nL : Nat} {rt : Option FieldType} {pc : Nat} {i : Nat} (hd : decode cc pc = .ok (.iload i, 2)) : g_ok sh mi own cc nL rt pc (o_iload i (pc + 2)) := by
  refine ⟨?_, ?_⟩
  · intro cal P P' Q Q' L st M hc hP hQ h
    unfold o_iload at h ⊢
    split at h
    · exact hP _ _ _ _ h
    · exact h.elim
  · intro p l e R s m args below meth c D cA μ ξ A d cal Q K C hK L st M H locs ls h hP hD hS hl
    obtain ⟨hx, hb, hml, hown, hts, hr, hlk, hKk, hA, hE, rfl, hSn⟩ := C
    unfold o_iload at h
    split at h
    · rename_i x e
      exact lv_iload hx hb hd (hl.2.2.2 _ _ e (by simp)) (hK _ _ _ _ _ _ _ (h) hP hD hS hl)
    · exact h.elim
theorem ok_lload_n {sh : g_Sh} {mi : g_MI} {own : String} {cc : ByteArray} {nL : Nat} {rt : Option FieldType} {pc : Nat} {k : Fin 4} {i : Nat} (hd : decode cc pc = .ok (.lload_n k, 1)) (hi : (k : Nat) = i) : g_ok sh mi own cc nL rt pc (o_lload i (pc + 1)) := by
  refine ⟨?_, ?_⟩
  · intro cal P P' Q Q' L st M hc hP hQ h
    unfold o_lload at h ⊢
    split at h
    · exact hP _ _ _ _ h
    · exact h.elim
  · intro p l e R s m args below meth c D cA μ ξ A d cal Q K C hK L st M H locs ls h hP hD hS hl
    obtain ⟨hx, hb, hml, hown, hts, hr, hlk, hKk, hA, hE, rfl, hSn⟩ := C
    unfold o_lload at h
    split at h
    · rename_i x e
      exact lv_lload_n hx hb hd hi (hl.2.2.2 _ _ e (by simp)) (hK _ _ _ _ _ _ _ (h) hP hD hS hl)
    · exact h.elim
theorem ok_lload {sh : g_Sh} {mi : g_MI} {own : String} {cc : ByteArray} {nL : Nat} {rt : Option FieldType} {pc : Nat} {i : Nat} (hd : decode cc pc = .ok (.lload i, 2)) : g_ok sh mi own cc nL rt pc (o_lload i (pc + 2)) := by
  refine ⟨?_, ?_⟩
  · intro cal P P' Q Q' L st M hc hP hQ h
    unfold o_lload at h ⊢
    split at h
    · exact hP _ _ _ _ h
    · exact h.elim
  · intro p l e R s m args below meth c D cA μ ξ A d cal Q K C hK L st M H locs ls h hP hD hS hl
    obtain ⟨hx, hb, hml, hown, hts, hr, hlk, hKk, hA, hE, rfl, hSn⟩ := C
    unfold o_lload at h
    split at h
    · rename_i x e
      exact lv_lload hx hb hd (hl.2.2.2 _ _ e (by simp)) (hK _ _ _ _ _ _ _ (h) hP hD hS hl)
    · exact h.elim
theorem ok_aload_n {sh : g_Sh} {mi : g_MI} {own : String} {cc : ByteArray} {nL : Nat} {rt : Option FieldType} {pc : Nat} {k : Fin 4} {i : Nat} (hd : decode cc pc = .ok (.aload_n k, 1)) (hi : (k : Nat) = i) : g_ok sh mi own cc nL rt pc (o_aload i (pc + 1)) := by
  refine ⟨?_, ?_⟩
  · intro cal P P' Q Q' L st M hc hP hQ h
    unfold o_aload at h ⊢
    split at h
    · exact hP _ _ _ _ h
    · exact hP _ _ _ _ h
    · exact h.elim
  · intro p l e R s m args below meth c D cA μ ξ A d cal Q K C hK L st M H locs ls h hP hD hS hl
    obtain ⟨hx, hb, hml, hown, hts, hr, hlk, hKk, hA, hE, rfl, hSn⟩ := C
    unfold o_aload at h
    split at h
    · rename_i x e
      exact lv_aload_n hx hb hd hi (hl.2.2.2 _ _ e (by simp)) (hK _ _ _ _ _ _ _ (h) hP hD hS hl)
    · rename_i x e
      exact lv_aload_n hx hb hd hi (hl.2.2.2 _ _ e (by simp)) (hK _ _ _ _ _ _ _ (h) hP hD hS hl)
    · exact h.elim
theorem ok_aload {sh : g_Sh} {mi : g_MI} {own : String} {cc : ByteArray} {nL : Nat} {rt : Option FieldType} {pc : Nat} {i : Nat} (hd : decode cc pc = .ok (.aload i, 2)) : g_ok sh mi own cc nL rt pc (o_aload i (pc + 2)) := by
  refine ⟨?_, ?_⟩
  · intro cal P P' Q Q' L st M hc hP hQ h
    unfold o_aload at h ⊢
    split at h
    · exact hP _ _ _ _ h
    · exact hP _ _ _ _ h
    · exact h.elim
  · intro p l e R s m args below meth c D cA μ ξ A d cal Q K C hK L st M H locs ls h hP hD hS hl
    obtain ⟨hx, hb, hml, hown, hts, hr, hlk, hKk, hA, hE, rfl, hSn⟩ := C
    unfold o_aload at h
    split at h
    · rename_i x e
      exact lv_aload hx hb hd (hl.2.2.2 _ _ e (by simp)) (hK _ _ _ _ _ _ _ (h) hP hD hS hl)
    · rename_i x e
      exact lv_aload hx hb hd (hl.2.2.2 _ _ e (by simp)) (hK _ _ _ _ _ _ _ (h) hP hD hS hl)
    · exact h.elim
theorem g_set_mono {i : Nat} {v : Value} {L : List Value} {k k' : List Value → Prop} (hk : ∀ q, k q → k' q) (h : g_set i v L k) : g_set i v L k' := by
  induction i generalizing L k k' with
  | zero => cases L with
    | nil => exact h
    | cons x r => exact hk _ h
  | succ i ih => cases i with
    | zero => match L, h with
      | [], h => exact h
      | [x], h => exact h
      | x :: y :: r, h => cases x <;> first | exact hk _ h | exact h
    | succ i => match L, h with
      | [], h => exact h
      | [x], h => exact h
      | x :: y :: r, h => exact ih (fun q => hk (x :: q)) h
theorem g_set2_mono {i : Nat} {v : Value} {L : List Value} {k k' : List Value → Prop} (hk : ∀ q, k q → k' q) (h : g_set2 i v L k) : g_set2 i v L k' := by
  induction i generalizing L k k' with
  | zero => match L, h with
    | [], h => exact h
    | [x], h => exact h
    | x :: y :: r, h => exact hk _ h
  | succ i ih => cases i with
    | zero => match L, h with
      | [], h => exact h
      | [x], h => exact h
      | [x, y], h => exact h
      | x :: y :: z :: r, h => cases x <;> first | exact hk _ h | exact h
    | succ i => match L, h with
      | [], h => exact h
      | [x], h => exact h
      | x :: y :: r, h => exact ih (fun q => hk (x :: q)) h
theorem ok_istore_n {sh : g_Sh} {mi : g_MI} {own : String} {cc : ByteArray} {nL : Nat} {rt : Option FieldType} {pc : Nat} {k : Fin 4} {i : Nat} (hd : decode cc pc = .ok (.istore_n k, 1)) (hi : (k : Nat) = i) : g_ok sh mi own cc nL rt pc (o_istore i (pc + 1)) := by
  refine ⟨?_, ?_⟩
  · intro cal P P' Q Q' L st M hc hP hQ h
    unfold o_istore at h ⊢
    split at h
    · exact g_set_mono (fun q => hP _ _ _ _) h
    · exact h.elim
  · intro p l e R s m args below meth c D cA μ ξ A d cal Q K C hK L st M H locs ls h hP hD hS hl
    obtain ⟨hx, hb, hml, hown, hts, hr, hlk, hKk, hA, hE, rfl, hSn⟩ := C
    unfold o_istore at h
    split at h
    · obtain ⟨L', h1, h2, h3, h4⟩ := g_set_spec _ _ _ _ h
      exact lv_istore_n hx hb hd hi hl.has (by have := hl.2.2.1; omega) rfl (fun ls' hl' => hK _ _ _ _ _ _ _ h1 hP hD hS (g_lr.st1 hl.2.2.1 h2 h4 hl'))
    · exact h.elim
theorem ok_istore {sh : g_Sh} {mi : g_MI} {own : String} {cc : ByteArray} {nL : Nat} {rt : Option FieldType} {pc : Nat} {i : Nat} (hd : decode cc pc = .ok (.istore i, 2)) : g_ok sh mi own cc nL rt pc (o_istore i (pc + 2)) := by
  refine ⟨?_, ?_⟩
  · intro cal P P' Q Q' L st M hc hP hQ h
    unfold o_istore at h ⊢
    split at h
    · exact g_set_mono (fun q => hP _ _ _ _) h
    · exact h.elim
  · intro p l e R s m args below meth c D cA μ ξ A d cal Q K C hK L st M H locs ls h hP hD hS hl
    obtain ⟨hx, hb, hml, hown, hts, hr, hlk, hKk, hA, hE, rfl, hSn⟩ := C
    unfold o_istore at h
    split at h
    · obtain ⟨L', h1, h2, h3, h4⟩ := g_set_spec _ _ _ _ h
      exact lv_istore hx hb hd  hl.has (by have := hl.2.2.1; omega) rfl (fun ls' hl' => hK _ _ _ _ _ _ _ h1 hP hD hS (g_lr.st1 hl.2.2.1 h2 h4 hl'))
    · exact h.elim
theorem ok_astore_n {sh : g_Sh} {mi : g_MI} {own : String} {cc : ByteArray} {nL : Nat} {rt : Option FieldType} {pc : Nat} {k : Fin 4} {i : Nat} (hd : decode cc pc = .ok (.astore_n k, 1)) (hi : (k : Nat) = i) : g_ok sh mi own cc nL rt pc (o_astore i (pc + 1)) := by
  refine ⟨?_, ?_⟩
  · intro cal P P' Q Q' L st M hc hP hQ h
    unfold o_astore at h ⊢
    split at h
    · exact g_set_mono (fun q => hP _ _ _ _) h
    · exact g_set_mono (fun q => hP _ _ _ _) h
    · exact h.elim
  · intro p l e R s m args below meth c D cA μ ξ A d cal Q K C hK L st M H locs ls h hP hD hS hl
    obtain ⟨hx, hb, hml, hown, hts, hr, hlk, hKk, hA, hE, rfl, hSn⟩ := C
    unfold o_astore at h
    split at h
    · obtain ⟨L', h1, h2, h3, h4⟩ := g_set_spec _ _ _ _ h
      exact lv_astore_n hx hb hd hi hl.has (by have := hl.2.2.1; omega) rfl (fun ls' hl' => hK _ _ _ _ _ _ _ h1 hP hD hS (g_lr.st1 hl.2.2.1 h2 h4 hl'))
    · obtain ⟨L', h1, h2, h3, h4⟩ := g_set_spec _ _ _ _ h
      exact lv_astore_n hx hb hd hi hl.has (by have := hl.2.2.1; omega) rfl (fun ls' hl' => hK _ _ _ _ _ _ _ h1 hP hD hS (g_lr.st1 hl.2.2.1 h2 h4 hl'))
    · exact h.elim
theorem ok_astore {sh : g_Sh} {mi : g_MI} {own : String} {cc : ByteArray} {nL : Nat} {rt : Option FieldType} {pc : Nat} {i : Nat} (hd : decode cc pc = .ok (.astore i, 2)) : g_ok sh mi own cc nL rt pc (o_astore i (pc + 2)) := by
  refine ⟨?_, ?_⟩
  · intro cal P P' Q Q' L st M hc hP hQ h
    unfold o_astore at h ⊢
    split at h
    · exact g_set_mono (fun q => hP _ _ _ _) h
    · exact g_set_mono (fun q => hP _ _ _ _) h
    · exact h.elim
  · intro p l e R s m args below meth c D cA μ ξ A d cal Q K C hK L st M H locs ls h hP hD hS hl
    obtain ⟨hx, hb, hml, hown, hts, hr, hlk, hKk, hA, hE, rfl, hSn⟩ := C
    unfold o_astore at h
    split at h
    · obtain ⟨L', h1, h2, h3, h4⟩ := g_set_spec _ _ _ _ h
      exact lv_astore hx hb hd  hl.has (by have := hl.2.2.1; omega) rfl (fun ls' hl' => hK _ _ _ _ _ _ _ h1 hP hD hS (g_lr.st1 hl.2.2.1 h2 h4 hl'))
    · obtain ⟨L', h1, h2, h3, h4⟩ := g_set_spec _ _ _ _ h
      exact lv_astore hx hb hd  hl.has (by have := hl.2.2.1; omega) rfl (fun ls' hl' => hK _ _ _ _ _ _ _ h1 hP hD hS (g_lr.st1 hl.2.2.1 h2 h4 hl'))
    · exact h.elim
theorem ok_lstore_n {sh : g_Sh} {mi : g_MI} {own : String} {cc : ByteArray} {nL : Nat} {rt : Option FieldType} {pc : Nat} {k : Fin 4} {i : Nat} (hd : decode cc pc = .ok (.lstore_n k, 1)) (hi : (k : Nat) = i) : g_ok sh mi own cc nL rt pc (o_lstore i (pc + 1)) := by
  refine ⟨?_, ?_⟩
  · intro cal P P' Q Q' L st M hc hP hQ h
    unfold o_lstore at h ⊢
    split at h
    · exact g_set2_mono (fun q => hP _ _ _ _) h
    · exact h.elim
  · intro p l e R s m args below meth c D cA μ ξ A d cal Q K C hK L st M H locs ls h hP hD hS hl
    obtain ⟨hx, hb, hml, hown, hts, hr, hlk, hKk, hA, hE, rfl, hSn⟩ := C
    unfold o_lstore at h
    split at h
    · obtain ⟨L', h1, h2, h3, h4⟩ := g_set2_spec _ _ _ _ h
      exact lv_lstore_n hx hb hd hi hl.has (by have := hl.2.2.1; omega) rfl (fun ls' hl' => hK _ _ _ _ _ _ _ h1 hP hD hS (g_lr.st2 hl.2.2.1 h2 h4 hl'))
    · exact h.elim
theorem ok_lstore {sh : g_Sh} {mi : g_MI} {own : String} {cc : ByteArray} {nL : Nat} {rt : Option FieldType} {pc : Nat} {i : Nat} (hd : decode cc pc = .ok (.lstore i, 2)) : g_ok sh mi own cc nL rt pc (o_lstore i (pc + 2)) := by
  refine ⟨?_, ?_⟩
  · intro cal P P' Q Q' L st M hc hP hQ h
    unfold o_lstore at h ⊢
    split at h
    · exact g_set2_mono (fun q => hP _ _ _ _) h
    · exact h.elim
  · intro p l e R s m args below meth c D cA μ ξ A d cal Q K C hK L st M H locs ls h hP hD hS hl
    obtain ⟨hx, hb, hml, hown, hts, hr, hlk, hKk, hA, hE, rfl, hSn⟩ := C
    unfold o_lstore at h
    split at h
    · obtain ⟨L', h1, h2, h3, h4⟩ := g_set2_spec _ _ _ _ h
      exact lv_lstore hx hb hd  hl.has (by have := hl.2.2.1; omega) rfl (fun ls' hl' => hK _ _ _ _ _ _ _ h1 hP hD hS (g_lr.st2 hl.2.2.1 h2 h4 hl'))
    · exact h.elim
theorem ok_iinc {sh : g_Sh} {mi : g_MI} {own : String} {cc : ByteArray} {nL : Nat} {rt : Option FieldType} {pc : Nat} {i : Nat} {n : Int} {v : Int32} (hd : decode cc pc = .ok (.iinc i n, 3)) (hv : Int32.ofInt n = v) : g_ok sh mi own cc nL rt pc (o_iinc i v (pc + 3)) := by
  refine ⟨?_, ?_⟩
  · intro cal P P' Q Q' L st M hc hP hQ h
    unfold o_iinc at h ⊢
    split at h
    · exact g_set_mono (fun q => hP _ _ _ _) h
    · exact h.elim
  · intro p l e R s m args below meth c D cA μ ξ A d cal Q K C hK L st M H locs ls h hP hD hS hl
    obtain ⟨hx, hb, hml, hown, hts, hr, hlk, hKk, hA, hE, rfl, hSn⟩ := C
    unfold o_iinc at h
    split at h
    · rename_i x e
      subst hv
      obtain ⟨L', h1, h2, h3, h4⟩ := g_set_spec _ _ _ _ h
      obtain ⟨k, hk⟩ := List.getElem?_of_mem (g_as_mem (μ := μ) (ξ := ξ).mpr ⟨_, e, by simp, rfl⟩)
      exact lv_iinc hx hb hd hl.has hk rfl (by have := hl.2.2.1; omega) rfl (fun ls' hl' => hK _ _ _ _ _ _ _ h1 hP hD hS (g_lr.st1 hl.2.2.1 h2 h4 hl'))
    · exact h.elim
theorem ok_iadd {sh : g_Sh} {mi : g_MI} {own : String} {cc : ByteArray} {nL : Nat} {rt : Option FieldType} {pc : Nat} (hd : decode cc pc = .ok (.iadd, 1)) : g_ok sh mi own cc nL rt pc (o_iadd (pc + 1)) := by
  refine ⟨?_, ?_⟩
  · intro cal P P' Q Q' L st M hc hP hQ h
    unfold o_iadd at h ⊢
    split at h
    · exact hP _ _ _ _ h
    · exact h.elim
  · intro p l e R s m args below meth c D cA μ ξ A d cal Q K C hK L st M H locs ls h hP hD hS hl
    obtain ⟨hx, hb, hml, hown, hts, hr, hlk, hKk, hA, hE, rfl, hSn⟩ := C
    unfold o_iadd at h
    split at h
    · exact lv_iadd hx hb hd (hK _ _ _ _ _ _ _ (h) hP hD hS hl)
    · exact h.elim
theorem ok_isub {sh : g_Sh} {mi : g_MI} {own : String} {cc : ByteArray} {nL : Nat} {rt : Option FieldType} {pc : Nat} (hd : decode cc pc = .ok (.isub, 1)) : g_ok sh mi own cc nL rt pc (o_isub (pc + 1)) := by
  refine ⟨?_, ?_⟩
  · intro cal P P' Q Q' L st M hc hP hQ h
    unfold o_isub at h ⊢
    split at h
    · exact hP _ _ _ _ h
    · exact h.elim
  · intro p l e R s m args below meth c D cA μ ξ A d cal Q K C hK L st M H locs ls h hP hD hS hl
    obtain ⟨hx, hb, hml, hown, hts, hr, hlk, hKk, hA, hE, rfl, hSn⟩ := C
    unfold o_isub at h
    split at h
    · exact lv_isub hx hb hd (hK _ _ _ _ _ _ _ (h) hP hD hS hl)
    · exact h.elim
theorem ok_imul {sh : g_Sh} {mi : g_MI} {own : String} {cc : ByteArray} {nL : Nat} {rt : Option FieldType} {pc : Nat} (hd : decode cc pc = .ok (.imul, 1)) : g_ok sh mi own cc nL rt pc (o_imul (pc + 1)) := by
  refine ⟨?_, ?_⟩
  · intro cal P P' Q Q' L st M hc hP hQ h
    unfold o_imul at h ⊢
    split at h
    · exact hP _ _ _ _ h
    · exact h.elim
  · intro p l e R s m args below meth c D cA μ ξ A d cal Q K C hK L st M H locs ls h hP hD hS hl
    obtain ⟨hx, hb, hml, hown, hts, hr, hlk, hKk, hA, hE, rfl, hSn⟩ := C
    unfold o_imul at h
    split at h
    · exact lv_imul hx hb hd (hK _ _ _ _ _ _ _ (h) hP hD hS hl)
    · exact h.elim
theorem ok_iand {sh : g_Sh} {mi : g_MI} {own : String} {cc : ByteArray} {nL : Nat} {rt : Option FieldType} {pc : Nat} (hd : decode cc pc = .ok (.iand, 1)) : g_ok sh mi own cc nL rt pc (o_iand (pc + 1)) := by
  refine ⟨?_, ?_⟩
  · intro cal P P' Q Q' L st M hc hP hQ h
    unfold o_iand at h ⊢
    split at h
    · exact hP _ _ _ _ h
    · exact h.elim
  · intro p l e R s m args below meth c D cA μ ξ A d cal Q K C hK L st M H locs ls h hP hD hS hl
    obtain ⟨hx, hb, hml, hown, hts, hr, hlk, hKk, hA, hE, rfl, hSn⟩ := C
    unfold o_iand at h
    split at h
    · exact lv_iand hx hb hd (hK _ _ _ _ _ _ _ (h) hP hD hS hl)
    · exact h.elim
theorem ok_ior {sh : g_Sh} {mi : g_MI} {own : String} {cc : ByteArray} {nL : Nat} {rt : Option FieldType} {pc : Nat} (hd : decode cc pc = .ok (.ior, 1)) : g_ok sh mi own cc nL rt pc (o_ior (pc + 1)) := by
  refine ⟨?_, ?_⟩
  · intro cal P P' Q Q' L st M hc hP hQ h
    unfold o_ior at h ⊢
    split at h
    · exact hP _ _ _ _ h
    · exact h.elim
  · intro p l e R s m args below meth c D cA μ ξ A d cal Q K C hK L st M H locs ls h hP hD hS hl
    obtain ⟨hx, hb, hml, hown, hts, hr, hlk, hKk, hA, hE, rfl, hSn⟩ := C
    unfold o_ior at h
    split at h
    · exact lv_ior hx hb hd (hK _ _ _ _ _ _ _ (h) hP hD hS hl)
    · exact h.elim
theorem ok_ixor {sh : g_Sh} {mi : g_MI} {own : String} {cc : ByteArray} {nL : Nat} {rt : Option FieldType} {pc : Nat} (hd : decode cc pc = .ok (.ixor, 1)) : g_ok sh mi own cc nL rt pc (o_ixor (pc + 1)) := by
  refine ⟨?_, ?_⟩
  · intro cal P P' Q Q' L st M hc hP hQ h
    unfold o_ixor at h ⊢
    split at h
    · exact hP _ _ _ _ h
    · exact h.elim
  · intro p l e R s m args below meth c D cA μ ξ A d cal Q K C hK L st M H locs ls h hP hD hS hl
    obtain ⟨hx, hb, hml, hown, hts, hr, hlk, hKk, hA, hE, rfl, hSn⟩ := C
    unfold o_ixor at h
    split at h
    · exact lv_ixor hx hb hd (hK _ _ _ _ _ _ _ (h) hP hD hS hl)
    · exact h.elim
theorem ok_ishl {sh : g_Sh} {mi : g_MI} {own : String} {cc : ByteArray} {nL : Nat} {rt : Option FieldType} {pc : Nat} (hd : decode cc pc = .ok (.ishl, 1)) : g_ok sh mi own cc nL rt pc (o_ishl (pc + 1)) := by
  refine ⟨?_, ?_⟩
  · intro cal P P' Q Q' L st M hc hP hQ h
    unfold o_ishl at h ⊢
    split at h
    · exact hP _ _ _ _ h
    · exact h.elim
  · intro p l e R s m args below meth c D cA μ ξ A d cal Q K C hK L st M H locs ls h hP hD hS hl
    obtain ⟨hx, hb, hml, hown, hts, hr, hlk, hKk, hA, hE, rfl, hSn⟩ := C
    unfold o_ishl at h
    split at h
    · exact lv_ishl hx hb hd (hK _ _ _ _ _ _ _ (h) hP hD hS hl)
    · exact h.elim
theorem ok_ishr {sh : g_Sh} {mi : g_MI} {own : String} {cc : ByteArray} {nL : Nat} {rt : Option FieldType} {pc : Nat} (hd : decode cc pc = .ok (.ishr, 1)) : g_ok sh mi own cc nL rt pc (o_ishr (pc + 1)) := by
  refine ⟨?_, ?_⟩
  · intro cal P P' Q Q' L st M hc hP hQ h
    unfold o_ishr at h ⊢
    split at h
    · exact hP _ _ _ _ h
    · exact h.elim
  · intro p l e R s m args below meth c D cA μ ξ A d cal Q K C hK L st M H locs ls h hP hD hS hl
    obtain ⟨hx, hb, hml, hown, hts, hr, hlk, hKk, hA, hE, rfl, hSn⟩ := C
    unfold o_ishr at h
    split at h
    · exact lv_ishr hx hb hd (hK _ _ _ _ _ _ _ (h) hP hD hS hl)
    · exact h.elim
theorem ok_land {sh : g_Sh} {mi : g_MI} {own : String} {cc : ByteArray} {nL : Nat} {rt : Option FieldType} {pc : Nat} (hd : decode cc pc = .ok (.land, 1)) : g_ok sh mi own cc nL rt pc (o_land (pc + 1)) := by
  refine ⟨?_, ?_⟩
  · intro cal P P' Q Q' L st M hc hP hQ h
    unfold o_land at h ⊢
    split at h
    · exact hP _ _ _ _ h
    · exact h.elim
  · intro p l e R s m args below meth c D cA μ ξ A d cal Q K C hK L st M H locs ls h hP hD hS hl
    obtain ⟨hx, hb, hml, hown, hts, hr, hlk, hKk, hA, hE, rfl, hSn⟩ := C
    unfold o_land at h
    split at h
    · exact lv_land hx hb hd (hK _ _ _ _ _ _ _ (h) hP hD hS hl)
    · exact h.elim
theorem ok_lor {sh : g_Sh} {mi : g_MI} {own : String} {cc : ByteArray} {nL : Nat} {rt : Option FieldType} {pc : Nat} (hd : decode cc pc = .ok (.lor, 1)) : g_ok sh mi own cc nL rt pc (o_lor (pc + 1)) := by
  refine ⟨?_, ?_⟩
  · intro cal P P' Q Q' L st M hc hP hQ h
    unfold o_lor at h ⊢
    split at h
    · exact hP _ _ _ _ h
    · exact h.elim
  · intro p l e R s m args below meth c D cA μ ξ A d cal Q K C hK L st M H locs ls h hP hD hS hl
    obtain ⟨hx, hb, hml, hown, hts, hr, hlk, hKk, hA, hE, rfl, hSn⟩ := C
    unfold o_lor at h
    split at h
    · exact lv_lor hx hb hd (hK _ _ _ _ _ _ _ (h) hP hD hS hl)
    · exact h.elim
theorem ok_iushr {sh : g_Sh} {mi : g_MI} {own : String} {cc : ByteArray} {nL : Nat} {rt : Option FieldType} {pc : Nat} (hd : decode cc pc = .ok (.iushr, 1)) : g_ok sh mi own cc nL rt pc (o_iushr (pc + 1)) := by
  refine ⟨?_, ?_⟩
  · intro cal P P' Q Q' L st M hc hP hQ h
    unfold o_iushr at h ⊢
    split at h
    · exact hP _ _ _ _ h
    · exact h.elim
  · intro p l e R s m args below meth c D cA μ ξ A d cal Q K C hK L st M H locs ls h hP hD hS hl
    obtain ⟨hx, hb, hml, hown, hts, hr, hlk, hKk, hA, hE, rfl, hSn⟩ := C
    unfold o_iushr at h
    split at h
    · exact lv_iushr hx hb hd rfl (hK _ _ _ _ _ _ _ (h) hP hD hS hl)
    · exact h.elim
theorem ok_lshl {sh : g_Sh} {mi : g_MI} {own : String} {cc : ByteArray} {nL : Nat} {rt : Option FieldType} {pc : Nat} (hd : decode cc pc = .ok (.lshl, 1)) : g_ok sh mi own cc nL rt pc (o_lshl (pc + 1)) := by
  refine ⟨?_, ?_⟩
  · intro cal P P' Q Q' L st M hc hP hQ h
    unfold o_lshl at h ⊢
    split at h
    · exact hP _ _ _ _ h
    · exact h.elim
  · intro p l e R s m args below meth c D cA μ ξ A d cal Q K C hK L st M H locs ls h hP hD hS hl
    obtain ⟨hx, hb, hml, hown, hts, hr, hlk, hKk, hA, hE, rfl, hSn⟩ := C
    unfold o_lshl at h
    split at h
    · exact lv_lshl hx hb hd rfl (hK _ _ _ _ _ _ _ (h) hP hD hS hl)
    · exact h.elim
theorem ok_lshr {sh : g_Sh} {mi : g_MI} {own : String} {cc : ByteArray} {nL : Nat} {rt : Option FieldType} {pc : Nat} (hd : decode cc pc = .ok (.lshr, 1)) : g_ok sh mi own cc nL rt pc (o_lshr (pc + 1)) := by
  refine ⟨?_, ?_⟩
  · intro cal P P' Q Q' L st M hc hP hQ h
    unfold o_lshr at h ⊢
    split at h
    · exact hP _ _ _ _ h
    · exact h.elim
  · intro p l e R s m args below meth c D cA μ ξ A d cal Q K C hK L st M H locs ls h hP hD hS hl
    obtain ⟨hx, hb, hml, hown, hts, hr, hlk, hKk, hA, hE, rfl, hSn⟩ := C
    unfold o_lshr at h
    split at h
    · exact lv_lshr hx hb hd rfl (hK _ _ _ _ _ _ _ (h) hP hD hS hl)
    · exact h.elim
theorem ok_lushr {sh : g_Sh} {mi : g_MI} {own : String} {cc : ByteArray} {nL : Nat} {rt : Option FieldType} {pc : Nat} (hd : decode cc pc = .ok (.lushr, 1)) : g_ok sh mi own cc nL rt pc (o_lushr (pc + 1)) := by
  refine ⟨?_, ?_⟩
  · intro cal P P' Q Q' L st M hc hP hQ h
    unfold o_lushr at h ⊢
    split at h
    · exact hP _ _ _ _ h
    · exact h.elim
  · intro p l e R s m args below meth c D cA μ ξ A d cal Q K C hK L st M H locs ls h hP hD hS hl
    obtain ⟨hx, hb, hml, hown, hts, hr, hlk, hKk, hA, hE, rfl, hSn⟩ := C
    unfold o_lushr at h
    split at h
    · exact lv_lushr hx hb hd rfl (hK _ _ _ _ _ _ _ (h) hP hD hS hl)
    · exact h.elim
theorem ok_i2l {sh : g_Sh} {mi : g_MI} {own : String} {cc : ByteArray} {nL : Nat} {rt : Option FieldType} {pc : Nat} (hd : decode cc pc = .ok (.i2l, 1)) : g_ok sh mi own cc nL rt pc (o_i2l (pc + 1)) := by
  refine ⟨?_, ?_⟩
  · intro cal P P' Q Q' L st M hc hP hQ h
    unfold o_i2l at h ⊢
    split at h
    · exact hP _ _ _ _ h
    · exact h.elim
  · intro p l e R s m args below meth c D cA μ ξ A d cal Q K C hK L st M H locs ls h hP hD hS hl
    obtain ⟨hx, hb, hml, hown, hts, hr, hlk, hKk, hA, hE, rfl, hSn⟩ := C
    unfold o_i2l at h
    split at h
    · exact lv_i2l hx hb hd rfl (hK _ _ _ _ _ _ _ (h) hP hD hS hl)
    · exact h.elim
theorem ok_l2i {sh : g_Sh} {mi : g_MI} {own : String} {cc : ByteArray} {nL : Nat} {rt : Option FieldType} {pc : Nat} (hd : decode cc pc = .ok (.l2i, 1)) : g_ok sh mi own cc nL rt pc (o_l2i (pc + 1)) := by
  refine ⟨?_, ?_⟩
  · intro cal P P' Q Q' L st M hc hP hQ h
    unfold o_l2i at h ⊢
    split at h
    · exact hP _ _ _ _ h
    · exact h.elim
  · intro p l e R s m args below meth c D cA μ ξ A d cal Q K C hK L st M H locs ls h hP hD hS hl
    obtain ⟨hx, hb, hml, hown, hts, hr, hlk, hKk, hA, hE, rfl, hSn⟩ := C
    unfold o_l2i at h
    split at h
    · exact lv_l2i hx hb hd rfl (hK _ _ _ _ _ _ _ (h) hP hD hS hl)
    · exact h.elim
theorem ok_i2c {sh : g_Sh} {mi : g_MI} {own : String} {cc : ByteArray} {nL : Nat} {rt : Option FieldType} {pc : Nat} (hd : decode cc pc = .ok (.i2c, 1)) : g_ok sh mi own cc nL rt pc (o_i2c (pc + 1)) := by
  refine ⟨?_, ?_⟩
  · intro cal P P' Q Q' L st M hc hP hQ h
    unfold o_i2c at h ⊢
    split at h
    · exact hP _ _ _ _ h
    · exact h.elim
  · intro p l e R s m args below meth c D cA μ ξ A d cal Q K C hK L st M H locs ls h hP hD hS hl
    obtain ⟨hx, hb, hml, hown, hts, hr, hlk, hKk, hA, hE, rfl, hSn⟩ := C
    unfold o_i2c at h
    split at h
    · exact lv_i2c hx hb hd rfl (hK _ _ _ _ _ _ _ (h) hP hD hS hl)
    · exact h.elim
theorem ok_i2b {sh : g_Sh} {mi : g_MI} {own : String} {cc : ByteArray} {nL : Nat} {rt : Option FieldType} {pc : Nat} (hd : decode cc pc = .ok (.i2b, 1)) : g_ok sh mi own cc nL rt pc (o_i2b (pc + 1)) := by
  refine ⟨?_, ?_⟩
  · intro cal P P' Q Q' L st M hc hP hQ h
    unfold o_i2b at h ⊢
    split at h
    · exact hP _ _ _ _ h
    · exact h.elim
  · intro p l e R s m args below meth c D cA μ ξ A d cal Q K C hK L st M H locs ls h hP hD hS hl
    obtain ⟨hx, hb, hml, hown, hts, hr, hlk, hKk, hA, hE, rfl, hSn⟩ := C
    unfold o_i2b at h
    split at h
    · exact lv_i2b hx hb hd rfl (hK _ _ _ _ _ _ _ (h) hP hD hS hl)
    · exact h.elim
theorem ok_ineg {sh : g_Sh} {mi : g_MI} {own : String} {cc : ByteArray} {nL : Nat} {rt : Option FieldType} {pc : Nat} (hd : decode cc pc = .ok (.ineg, 1)) : g_ok sh mi own cc nL rt pc (o_ineg (pc + 1)) := by
  refine ⟨?_, ?_⟩
  · intro cal P P' Q Q' L st M hc hP hQ h
    unfold o_ineg at h ⊢
    split at h
    · exact hP _ _ _ _ h
    · exact h.elim
  · intro p l e R s m args below meth c D cA μ ξ A d cal Q K C hK L st M H locs ls h hP hD hS hl
    obtain ⟨hx, hb, hml, hown, hts, hr, hlk, hKk, hA, hE, rfl, hSn⟩ := C
    unfold o_ineg at h
    split at h
    · exact lv_ineg hx hb hd (hK _ _ _ _ _ _ _ (h) hP hD hS hl)
    · exact h.elim
theorem ok_idiv {sh : g_Sh} {mi : g_MI} {own : String} {cc : ByteArray} {nL : Nat} {rt : Option FieldType} {pc : Nat} (hd : decode cc pc = .ok (.idiv, 1)) : g_ok sh mi own cc nL rt pc (o_idiv (pc + 1)) := by
  refine ⟨?_, ?_⟩
  · intro cal P P' Q Q' L st M hc hP hQ h
    unfold o_idiv at h ⊢
    split at h
    · exact ⟨h.1, hP _ _ _ _ h.2⟩
    · exact h.elim
  · intro p l e R s m args below meth c D cA μ ξ A d cal Q K C hK L st M H locs ls h hP hD hS hl
    obtain ⟨hx, hb, hml, hown, hts, hr, hlk, hKk, hA, hE, rfl, hSn⟩ := C
    unfold o_idiv at h
    split at h
    · exact lv_idiv hx hb hd h.1 (hK _ _ _ _ _ _ _ (h.2) hP hD hS hl)
    · exact h.elim
theorem ok_irem {sh : g_Sh} {mi : g_MI} {own : String} {cc : ByteArray} {nL : Nat} {rt : Option FieldType} {pc : Nat} (hd : decode cc pc = .ok (.irem, 1)) : g_ok sh mi own cc nL rt pc (o_irem (pc + 1)) := by
  refine ⟨?_, ?_⟩
  · intro cal P P' Q Q' L st M hc hP hQ h
    unfold o_irem at h ⊢
    split at h
    · exact ⟨h.1, hP _ _ _ _ h.2⟩
    · exact h.elim
  · intro p l e R s m args below meth c D cA μ ξ A d cal Q K C hK L st M H locs ls h hP hD hS hl
    obtain ⟨hx, hb, hml, hown, hts, hr, hlk, hKk, hA, hE, rfl, hSn⟩ := C
    unfold o_irem at h
    split at h
    · exact lv_irem hx hb hd h.1 (hK _ _ _ _ _ _ _ (h.2) hP hD hS hl)
    · exact h.elim
theorem ok_ldiv {sh : g_Sh} {mi : g_MI} {own : String} {cc : ByteArray} {nL : Nat} {rt : Option FieldType} {pc : Nat} (hd : decode cc pc = .ok (.ldiv, 1)) : g_ok sh mi own cc nL rt pc (o_ldiv (pc + 1)) := by
  refine ⟨?_, ?_⟩
  · intro cal P P' Q Q' L st M hc hP hQ h
    unfold o_ldiv at h ⊢
    split at h
    · exact ⟨h.1, hP _ _ _ _ h.2⟩
    · exact h.elim
  · intro p l e R s m args below meth c D cA μ ξ A d cal Q K C hK L st M H locs ls h hP hD hS hl
    obtain ⟨hx, hb, hml, hown, hts, hr, hlk, hKk, hA, hE, rfl, hSn⟩ := C
    unfold o_ldiv at h
    split at h
    · exact lv_ldiv hx hb hd h.1 (hK _ _ _ _ _ _ _ (h.2) hP hD hS hl)
    · exact h.elim
theorem ok_lrem {sh : g_Sh} {mi : g_MI} {own : String} {cc : ByteArray} {nL : Nat} {rt : Option FieldType} {pc : Nat} (hd : decode cc pc = .ok (.lrem, 1)) : g_ok sh mi own cc nL rt pc (o_lrem (pc + 1)) := by
  refine ⟨?_, ?_⟩
  · intro cal P P' Q Q' L st M hc hP hQ h
    unfold o_lrem at h ⊢
    split at h
    · exact ⟨h.1, hP _ _ _ _ h.2⟩
    · exact h.elim
  · intro p l e R s m args below meth c D cA μ ξ A d cal Q K C hK L st M H locs ls h hP hD hS hl
    obtain ⟨hx, hb, hml, hown, hts, hr, hlk, hKk, hA, hE, rfl, hSn⟩ := C
    unfold o_lrem at h
    split at h
    · exact lv_lrem hx hb hd h.1 (hK _ _ _ _ _ _ _ (h.2) hP hD hS hl)
    · exact h.elim
theorem ok_dup {sh : g_Sh} {mi : g_MI} {own : String} {cc : ByteArray} {nL : Nat} {rt : Option FieldType} {pc : Nat} (hd : decode cc pc = .ok (.dup, 1)) : g_ok sh mi own cc nL rt pc (o_dup (pc + 1)) := by
  refine ⟨?_, ?_⟩
  · intro cal P P' Q Q' L st M hc hP hQ h
    cases st with
    | nil => exact h
    | cons v r => cases v <;> first | exact hP _ _ _ _ h | exact h
  · intro p l e R s m args below meth c D cA μ ξ A d cal Q K C hK L st M H locs ls h hP hD hS hl
    obtain ⟨hx, hb, hml, hown, hts, hr, hlk, hKk, hA, hE, rfl, hSn⟩ := C
    cases st with
    | nil => exact False.elim h
    | cons v r => cases v <;> first | exact False.elim h | exact lv_dup hx hb hd rfl (hK _ _ _ _ _ _ _ (h) hP hD hS hl)
theorem ok_dup2 {sh : g_Sh} {mi : g_MI} {own : String} {cc : ByteArray} {nL : Nat} {rt : Option FieldType} {pc : Nat} (hd : decode cc pc = .ok (.dup2, 1)) : g_ok sh mi own cc nL rt pc (o_dup2 (pc + 1)) := by
  refine ⟨?_, ?_⟩
  · intro cal P P' Q Q' L st M hc hP hQ h
    unfold o_dup2 at h ⊢
    split at h
    · exact hP _ _ _ _ h
    · exact h.elim
  · intro p l e R s m args below meth c D cA μ ξ A d cal Q K C hK L st M H locs ls h hP hD hS hl
    obtain ⟨hx, hb, hml, hown, hts, hr, hlk, hKk, hA, hE, rfl, hSn⟩ := C
    unfold o_dup2 at h
    split at h
    · exact lv_dup2_11 hx hb hd rfl rfl (hK _ _ _ _ _ _ _ (h) hP hD hS hl)
    · exact h.elim
theorem ok_pop {sh : g_Sh} {mi : g_MI} {own : String} {cc : ByteArray} {nL : Nat} {rt : Option FieldType} {pc : Nat} (hd : decode cc pc = .ok (.pop, 1)) : g_ok sh mi own cc nL rt pc (o_pop (pc + 1)) := by
  refine ⟨?_, ?_⟩
  · intro cal P P' Q Q' L st M hc hP hQ h
    unfold o_pop at h ⊢
    split at h
    · exact hP _ _ _ _ h
    · exact h.elim
  · intro p l e R s m args below meth c D cA μ ξ A d cal Q K C hK L st M H locs ls h hP hD hS hl
    obtain ⟨hx, hb, hml, hown, hts, hr, hlk, hKk, hA, hE, rfl, hSn⟩ := C
    unfold o_pop at h
    split at h
    · exact lv_pop hx hb hd rfl (hK _ _ _ _ _ _ _ (h) hP hD hS hl)
    · exact h.elim
theorem ok_ic_eq {sh : g_Sh} {mi : g_MI} {own : String} {cc : ByteArray} {nL : Nat} {rt : Option FieldType} {pc : Nat} {off : Int} {t : Nat} (hd : decode cc pc = .ok (.if_icmp .eq off, 3)) (ht : (pc : Int) + off = (t : Int)) : g_ok sh mi own cc nL rt pc (o_ic_eq t (pc + 3)) := by
  refine ⟨?_, ?_⟩
  · intro cal P P' Q Q' L st M hc hP hQ h
    unfold o_ic_eq at h ⊢
    split at h
    · exact ⟨fun z => hP _ _ _ _ (h.1 z), fun z => hP _ _ _ _ (h.2 z)⟩
    · exact h.elim
  · intro p l e R s m args below meth c D cA μ ξ A d cal Q K C hK L st M H locs ls h hP hD hS hl
    obtain ⟨hx, hb, hml, hown, hts, hr, hlk, hKk, hA, hE, rfl, hSn⟩ := C
    unfold o_ic_eq at h
    split at h
    · exact lv_icmp_eq hx hb hd ht (fun z => hK _ _ _ _ _ _ _ (h.1 z) hP hD hS hl) (fun z => hK _ _ _ _ _ _ _ (h.2 z) hP hD hS hl)
    · exact h.elim
theorem ok_if_eq {sh : g_Sh} {mi : g_MI} {own : String} {cc : ByteArray} {nL : Nat} {rt : Option FieldType} {pc : Nat} {off : Int} {t : Nat} (hd : decode cc pc = .ok (.ifCond .eq off, 3)) (ht : (pc : Int) + off = (t : Int)) : g_ok sh mi own cc nL rt pc (o_if_eq t (pc + 3)) := by
  refine ⟨?_, ?_⟩
  · intro cal P P' Q Q' L st M hc hP hQ h
    unfold o_if_eq at h ⊢
    split at h
    · exact ⟨fun z => hP _ _ _ _ (h.1 z), fun z => hP _ _ _ _ (h.2 z)⟩
    · exact h.elim
  · intro p l e R s m args below meth c D cA μ ξ A d cal Q K C hK L st M H locs ls h hP hD hS hl
    obtain ⟨hx, hb, hml, hown, hts, hr, hlk, hKk, hA, hE, rfl, hSn⟩ := C
    unfold o_if_eq at h
    split at h
    · exact lv_if_eq hx hb hd ht (fun z => hK _ _ _ _ _ _ _ (h.1 z) hP hD hS hl) (fun z => hK _ _ _ _ _ _ _ (h.2 z) hP hD hS hl)
    · exact h.elim
theorem ok_ic_ne {sh : g_Sh} {mi : g_MI} {own : String} {cc : ByteArray} {nL : Nat} {rt : Option FieldType} {pc : Nat} {off : Int} {t : Nat} (hd : decode cc pc = .ok (.if_icmp .ne off, 3)) (ht : (pc : Int) + off = (t : Int)) : g_ok sh mi own cc nL rt pc (o_ic_ne t (pc + 3)) := by
  refine ⟨?_, ?_⟩
  · intro cal P P' Q Q' L st M hc hP hQ h
    unfold o_ic_ne at h ⊢
    split at h
    · exact ⟨fun z => hP _ _ _ _ (h.1 z), fun z => hP _ _ _ _ (h.2 z)⟩
    · exact h.elim
  · intro p l e R s m args below meth c D cA μ ξ A d cal Q K C hK L st M H locs ls h hP hD hS hl
    obtain ⟨hx, hb, hml, hown, hts, hr, hlk, hKk, hA, hE, rfl, hSn⟩ := C
    unfold o_ic_ne at h
    split at h
    · exact lv_icmp_ne hx hb hd ht (fun z => hK _ _ _ _ _ _ _ (h.1 z) hP hD hS hl) (fun z => hK _ _ _ _ _ _ _ (h.2 z) hP hD hS hl)
    · exact h.elim
theorem ok_if_ne {sh : g_Sh} {mi : g_MI} {own : String} {cc : ByteArray} {nL : Nat} {rt : Option FieldType} {pc : Nat} {off : Int} {t : Nat} (hd : decode cc pc = .ok (.ifCond .ne off, 3)) (ht : (pc : Int) + off = (t : Int)) : g_ok sh mi own cc nL rt pc (o_if_ne t (pc + 3)) := by
  refine ⟨?_, ?_⟩
  · intro cal P P' Q Q' L st M hc hP hQ h
    unfold o_if_ne at h ⊢
    split at h
    · exact ⟨fun z => hP _ _ _ _ (h.1 z), fun z => hP _ _ _ _ (h.2 z)⟩
    · exact h.elim
  · intro p l e R s m args below meth c D cA μ ξ A d cal Q K C hK L st M H locs ls h hP hD hS hl
    obtain ⟨hx, hb, hml, hown, hts, hr, hlk, hKk, hA, hE, rfl, hSn⟩ := C
    unfold o_if_ne at h
    split at h
    · exact lv_if_ne hx hb hd ht (fun z => hK _ _ _ _ _ _ _ (h.1 z) hP hD hS hl) (fun z => hK _ _ _ _ _ _ _ (h.2 z) hP hD hS hl)
    · exact h.elim
theorem ok_ic_lt {sh : g_Sh} {mi : g_MI} {own : String} {cc : ByteArray} {nL : Nat} {rt : Option FieldType} {pc : Nat} {off : Int} {t : Nat} (hd : decode cc pc = .ok (.if_icmp .lt off, 3)) (ht : (pc : Int) + off = (t : Int)) : g_ok sh mi own cc nL rt pc (o_ic_lt t (pc + 3)) := by
  refine ⟨?_, ?_⟩
  · intro cal P P' Q Q' L st M hc hP hQ h
    unfold o_ic_lt at h ⊢
    split at h
    · exact ⟨fun z => hP _ _ _ _ (h.1 z), fun z => hP _ _ _ _ (h.2 z)⟩
    · exact h.elim
  · intro p l e R s m args below meth c D cA μ ξ A d cal Q K C hK L st M H locs ls h hP hD hS hl
    obtain ⟨hx, hb, hml, hown, hts, hr, hlk, hKk, hA, hE, rfl, hSn⟩ := C
    unfold o_ic_lt at h
    split at h
    · exact lv_icmp_lt hx hb hd ht (fun z => hK _ _ _ _ _ _ _ (h.1 z) hP hD hS hl) (fun z => hK _ _ _ _ _ _ _ (h.2 z) hP hD hS hl)
    · exact h.elim
theorem ok_if_lt {sh : g_Sh} {mi : g_MI} {own : String} {cc : ByteArray} {nL : Nat} {rt : Option FieldType} {pc : Nat} {off : Int} {t : Nat} (hd : decode cc pc = .ok (.ifCond .lt off, 3)) (ht : (pc : Int) + off = (t : Int)) : g_ok sh mi own cc nL rt pc (o_if_lt t (pc + 3)) := by
  refine ⟨?_, ?_⟩
  · intro cal P P' Q Q' L st M hc hP hQ h
    unfold o_if_lt at h ⊢
    split at h
    · exact ⟨fun z => hP _ _ _ _ (h.1 z), fun z => hP _ _ _ _ (h.2 z)⟩
    · exact h.elim
  · intro p l e R s m args below meth c D cA μ ξ A d cal Q K C hK L st M H locs ls h hP hD hS hl
    obtain ⟨hx, hb, hml, hown, hts, hr, hlk, hKk, hA, hE, rfl, hSn⟩ := C
    unfold o_if_lt at h
    split at h
    · exact lv_if_lt hx hb hd ht (fun z => hK _ _ _ _ _ _ _ (h.1 z) hP hD hS hl) (fun z => hK _ _ _ _ _ _ _ (h.2 z) hP hD hS hl)
    · exact h.elim
theorem ok_ic_ge {sh : g_Sh} {mi : g_MI} {own : String} {cc : ByteArray} {nL : Nat} {rt : Option FieldType} {pc : Nat} {off : Int} {t : Nat} (hd : decode cc pc = .ok (.if_icmp .ge off, 3)) (ht : (pc : Int) + off = (t : Int)) : g_ok sh mi own cc nL rt pc (o_ic_ge t (pc + 3)) := by
  refine ⟨?_, ?_⟩
  · intro cal P P' Q Q' L st M hc hP hQ h
    unfold o_ic_ge at h ⊢
    split at h
    · exact ⟨fun z => hP _ _ _ _ (h.1 z), fun z => hP _ _ _ _ (h.2 z)⟩
    · exact h.elim
  · intro p l e R s m args below meth c D cA μ ξ A d cal Q K C hK L st M H locs ls h hP hD hS hl
    obtain ⟨hx, hb, hml, hown, hts, hr, hlk, hKk, hA, hE, rfl, hSn⟩ := C
    unfold o_ic_ge at h
    split at h
    · exact lv_icmp_ge hx hb hd ht (fun z => hK _ _ _ _ _ _ _ (h.1 z) hP hD hS hl) (fun z => hK _ _ _ _ _ _ _ (h.2 z) hP hD hS hl)
    · exact h.elim
theorem ok_if_ge {sh : g_Sh} {mi : g_MI} {own : String} {cc : ByteArray} {nL : Nat} {rt : Option FieldType} {pc : Nat} {off : Int} {t : Nat} (hd : decode cc pc = .ok (.ifCond .ge off, 3)) (ht : (pc : Int) + off = (t : Int)) : g_ok sh mi own cc nL rt pc (o_if_ge t (pc + 3)) := by
  refine ⟨?_, ?_⟩
  · intro cal P P' Q Q' L st M hc hP hQ h
    unfold o_if_ge at h ⊢
    split at h
    · exact ⟨fun z => hP _ _ _ _ (h.1 z), fun z => hP _ _ _ _ (h.2 z)⟩
    · exact h.elim
  · intro p l e R s m args below meth c D cA μ ξ A d cal Q K C hK L st M H locs ls h hP hD hS hl
    obtain ⟨hx, hb, hml, hown, hts, hr, hlk, hKk, hA, hE, rfl, hSn⟩ := C
    unfold o_if_ge at h
    split at h
    · exact lv_if_ge hx hb hd ht (fun z => hK _ _ _ _ _ _ _ (h.1 z) hP hD hS hl) (fun z => hK _ _ _ _ _ _ _ (h.2 z) hP hD hS hl)
    · exact h.elim
theorem ok_ic_gt {sh : g_Sh} {mi : g_MI} {own : String} {cc : ByteArray} {nL : Nat} {rt : Option FieldType} {pc : Nat} {off : Int} {t : Nat} (hd : decode cc pc = .ok (.if_icmp .gt off, 3)) (ht : (pc : Int) + off = (t : Int)) : g_ok sh mi own cc nL rt pc (o_ic_gt t (pc + 3)) := by
  refine ⟨?_, ?_⟩
  · intro cal P P' Q Q' L st M hc hP hQ h
    unfold o_ic_gt at h ⊢
    split at h
    · exact ⟨fun z => hP _ _ _ _ (h.1 z), fun z => hP _ _ _ _ (h.2 z)⟩
    · exact h.elim
  · intro p l e R s m args below meth c D cA μ ξ A d cal Q K C hK L st M H locs ls h hP hD hS hl
    obtain ⟨hx, hb, hml, hown, hts, hr, hlk, hKk, hA, hE, rfl, hSn⟩ := C
    unfold o_ic_gt at h
    split at h
    · exact lv_icmp_gt hx hb hd ht (fun z => hK _ _ _ _ _ _ _ (h.1 z) hP hD hS hl) (fun z => hK _ _ _ _ _ _ _ (h.2 z) hP hD hS hl)
    · exact h.elim
theorem ok_if_gt {sh : g_Sh} {mi : g_MI} {own : String} {cc : ByteArray} {nL : Nat} {rt : Option FieldType} {pc : Nat} {off : Int} {t : Nat} (hd : decode cc pc = .ok (.ifCond .gt off, 3)) (ht : (pc : Int) + off = (t : Int)) : g_ok sh mi own cc nL rt pc (o_if_gt t (pc + 3)) := by
  refine ⟨?_, ?_⟩
  · intro cal P P' Q Q' L st M hc hP hQ h
    unfold o_if_gt at h ⊢
    split at h
    · exact ⟨fun z => hP _ _ _ _ (h.1 z), fun z => hP _ _ _ _ (h.2 z)⟩
    · exact h.elim
  · intro p l e R s m args below meth c D cA μ ξ A d cal Q K C hK L st M H locs ls h hP hD hS hl
    obtain ⟨hx, hb, hml, hown, hts, hr, hlk, hKk, hA, hE, rfl, hSn⟩ := C
    unfold o_if_gt at h
    split at h
    · exact lv_if_gt hx hb hd ht (fun z => hK _ _ _ _ _ _ _ (h.1 z) hP hD hS hl) (fun z => hK _ _ _ _ _ _ _ (h.2 z) hP hD hS hl)
    · exact h.elim
theorem ok_ic_le {sh : g_Sh} {mi : g_MI} {own : String} {cc : ByteArray} {nL : Nat} {rt : Option FieldType} {pc : Nat} {off : Int} {t : Nat} (hd : decode cc pc = .ok (.if_icmp .le off, 3)) (ht : (pc : Int) + off = (t : Int)) : g_ok sh mi own cc nL rt pc (o_ic_le t (pc + 3)) := by
  refine ⟨?_, ?_⟩
  · intro cal P P' Q Q' L st M hc hP hQ h
    unfold o_ic_le at h ⊢
    split at h
    · exact ⟨fun z => hP _ _ _ _ (h.1 z), fun z => hP _ _ _ _ (h.2 z)⟩
    · exact h.elim
  · intro p l e R s m args below meth c D cA μ ξ A d cal Q K C hK L st M H locs ls h hP hD hS hl
    obtain ⟨hx, hb, hml, hown, hts, hr, hlk, hKk, hA, hE, rfl, hSn⟩ := C
    unfold o_ic_le at h
    split at h
    · exact lv_icmp_le hx hb hd ht (fun z => hK _ _ _ _ _ _ _ (h.1 z) hP hD hS hl) (fun z => hK _ _ _ _ _ _ _ (h.2 z) hP hD hS hl)
    · exact h.elim
theorem ok_if_le {sh : g_Sh} {mi : g_MI} {own : String} {cc : ByteArray} {nL : Nat} {rt : Option FieldType} {pc : Nat} {off : Int} {t : Nat} (hd : decode cc pc = .ok (.ifCond .le off, 3)) (ht : (pc : Int) + off = (t : Int)) : g_ok sh mi own cc nL rt pc (o_if_le t (pc + 3)) := by
  refine ⟨?_, ?_⟩
  · intro cal P P' Q Q' L st M hc hP hQ h
    unfold o_if_le at h ⊢
    split at h
    · exact ⟨fun z => hP _ _ _ _ (h.1 z), fun z => hP _ _ _ _ (h.2 z)⟩
    · exact h.elim
  · intro p l e R s m args below meth c D cA μ ξ A d cal Q K C hK L st M H locs ls h hP hD hS hl
    obtain ⟨hx, hb, hml, hown, hts, hr, hlk, hKk, hA, hE, rfl, hSn⟩ := C
    unfold o_if_le at h
    split at h
    · exact lv_if_le hx hb hd ht (fun z => hK _ _ _ _ _ _ _ (h.1 z) hP hD hS hl) (fun z => hK _ _ _ _ _ _ _ (h.2 z) hP hD hS hl)
    · exact h.elim
theorem ok_goto {sh : g_Sh} {mi : g_MI} {own : String} {cc : ByteArray} {nL : Nat} {rt : Option FieldType} {pc : Nat} {off : Int} {t : Nat} (hd : decode cc pc = .ok (.goto off, 3)) (ht : (pc : Int) + off = (t : Int)) : g_ok sh mi own cc nL rt pc (o_goto t) := by
  refine ⟨?_, ?_⟩
  · intro cal P P' Q Q' L st M hc hP hQ h
    unfold o_goto at h ⊢
    exact hP _ _ _ _ h
  · intro p l e R s m args below meth c D cA μ ξ A d cal Q K C hK L st M H locs ls h hP hD hS hl
    obtain ⟨hx, hb, hml, hown, hts, hr, hlk, hKk, hA, hE, rfl, hSn⟩ := C
    unfold o_goto at h
    exact lv_goto hx hb hd ht (hK _ _ _ _ _ _ _ (h) hP hD hS hl)
theorem g_sw_mono {d : Nat} {x : Int32} {k k' : Nat → Prop} (hk : ∀ t, k t → k' t) : ∀ ps : List (Int32 × Nat), g_sw ps d x k → g_sw ps d x k'
  | [], h => hk _ h
  | (c, t) :: r, h => ⟨fun z => hk _ (h.1 z), fun z => g_sw_mono hk r (h.2 z)⟩
def g_lsok (pc : Nat) : List (Int32 × Nat) → List (Int × Int) → Bool
  | [], [] => true
  | (c, t) :: ps, (a, o) :: l => decide (c.toInt = a) && decide ((pc : Int) + o = (t : Int)) && g_lsok pc ps l
  | _, _ => false
theorem g_ls_spec {pc d : Nat} {df : Int} (hdf : (pc : Int) + df = (d : Int)) {x : Int32} {k : Nat → Prop} : ∀ (ps : List (Int32 × Nat)) (l : List (Int × Int)), g_lsok pc ps l = true → g_sw ps d x k → ∃ off tgt, Op.lookupswitch.offset l df x.toInt = off ∧ (pc : Int) + off = ((tgt : Nat) : Int) ∧ k tgt
  | [], [], _, h => ⟨df, d, rfl, hdf, h⟩
  | [], _ :: _, e, _ => by cases e
  | _ :: _, [], e, _ => by cases e
  | (c, t) :: ps, (a, o) :: l, e, h => by
    simp only [g_lsok, Bool.and_eq_true, decide_eq_true_eq] at e
    by_cases z : x = c
    · refine ⟨o, t, ?_, e.1.2, h.1 z⟩
      rw [Op.lookupswitch.offset_cons, if_pos (by rw [z]; exact e.1.1.symm)]
    · obtain ⟨off, tgt, h1, h2, h3⟩ := g_ls_spec hdf ps l e.2 (h.2 z)
      exact ⟨off, tgt, by rw [lv_osw z e.1.1]; exact h1, h2, h3⟩
def g_tsok (pc : Nat) : Int → List (Int32 × Nat) → List Int → Bool
  | _, [], [] => true
  | lo, (c, t) :: ps, o :: l => decide (c.toInt = lo) && decide ((pc : Int) + o = (t : Int)) && g_tsok pc (lo + 1) ps l
  | _, _, _ => false
theorem g_ts_spec {pc d : Nat} {x : Int32} {k : Nat → Prop} : ∀ (ps : List (Int32 × Nat)) (lo : Int) (l : List Int), g_tsok pc lo ps l = true → g_sw ps d x k → (∃ (i : Nat) (o : Int) (t : Nat), x.toInt = lo + i ∧ l[i]? = some o ∧ (pc : Int) + o = (t : Int) ∧ k t) ∨ ((x.toInt < lo ∨ lo + l.length ≤ x.toInt) ∧ k d)
  | [], lo, [], _, h => Or.inr ⟨by simp; omega, h⟩
  | [], _, _ :: _, e, _ => by cases e
  | _ :: _, _, [], e, _ => by cases e
  | (c, t) :: ps, lo, o :: l, e, h => by
    simp only [g_tsok, Bool.and_eq_true, decide_eq_true_eq] at e
    by_cases z : x = c
    · exact Or.inl ⟨0, o, t, by rw [z, e.1.1]; simp, rfl, e.1.2, h.1 z⟩
    · have zz : ¬ x.toInt = lo := lv_neT z e.1.1
      rcases g_ts_spec ps (lo + 1) l e.2 (h.2 z) with ⟨i, o', t', h1, h2, h3, h4⟩ | ⟨h1, h2⟩
      · exact Or.inl ⟨i + 1, o', t', by rw [h1]; push_cast; omega, h2, h3, h4⟩
      · refine Or.inr ⟨?_, h2⟩
        simp only [List.length_cons]
        push_cast
        omega
theorem ok_lookup {sh : g_Sh} {mi : g_MI} {own : String} {cc : ByteArray} {nL : Nat} {rt : Option FieldType} {pc : Nat} {df : Int} {arr : Array (Int × Int)} {len d : Nat} {ps : List (Int32 × Nat)} (hd : decode cc pc = .ok (.lookupswitch df arr, len)) (hs : (arr.toList.zip (arr.toList.drop 1)).all (fun (a, next) => a.1 < next.1) = true) (hps : g_lsok pc ps arr.toList = true) (hdf : (pc : Int) + df = (d : Int)) : g_ok sh mi own cc nL rt pc (o_sw ps d) := by
  refine ⟨?_, ?_⟩
  · intro cal P P' Q Q' L st M hc hP hQ h
    unfold o_sw at h ⊢
    split at h
    · exact g_sw_mono (fun t => hP _ _ _ _) _ h
    · exact h.elim
  · intro p l e R s m args below meth c D cA μ ξ A d cal Q K C hK L st M H locs ls h hP hD hS hl
    obtain ⟨hx, hb, hml, hown, hts, hr, hlk, hKk, hA, hE, rfl, hSn⟩ := C
    unfold o_sw at h
    split at h
    · obtain ⟨off, tgt, h1, h2, h3⟩ := g_ls_spec hdf ps arr.toList hps h
      exact lv_lookup hx hb hd hs h1 h2 (hK _ _ _ _ _ _ _ (h3) hP hD hS hl)
    · exact h.elim
theorem ok_table {sh : g_Sh} {mi : g_MI} {own : String} {cc : ByteArray} {nL : Nat} {rt : Option FieldType} {pc : Nat} {df lo hi : Int} {offs : Array Int} {len d : Nat} {ps : List (Int32 × Nat)} (hd : decode cc pc = .ok (.tableswitch df lo hi offs, len)) (hps : g_tsok pc lo ps offs.toList = true) (hhi : lo + (offs.toList.length : Int) = hi + 1) (hdf : (pc : Int) + df = (d : Int)) : g_ok sh mi own cc nL rt pc (o_sw ps d) := by
  refine ⟨?_, ?_⟩
  · intro cal P P' Q Q' L st M hc hP hQ h
    unfold o_sw at h ⊢
    split at h
    · exact g_sw_mono (fun t => hP _ _ _ _) _ h
    · exact h.elim
  · intro p l e R s m args below meth c D cA μ ξ A d cal Q K C hK L st M H locs ls h hP hD hS hl
    obtain ⟨hx, hb, hml, hown, hts, hr, hlk, hKk, hA, hE, rfl, hSn⟩ := C
    unfold o_sw at h
    split at h
    · rcases g_ts_spec ps lo offs.toList hps h with ⟨i, o, t, h1, h2, h3, h4⟩ | ⟨h1, h2⟩
      · have hi2 : i < offs.toList.length := (List.getElem?_eq_some_iff.mp h2).1
        exact lv_tableIn hx hb hd (by omega) (by omega) (by rw [show (Int32.toInt _ - lo).toNat = i by omega, ← Array.getElem?_toList]; exact h2) h3 (hK _ _ _ _ _ _ _ (h4) hP hD hS hl)
      · exact lv_tableOut hx hb hd (by omega) hdf (hK _ _ _ _ _ _ _ (h2) hP hD hS hl)
    · exact h.elim
