/-! ===== ops on cells, calls, returns ===== -/
theorem g_fv_spec {sh : g_Sh} {ci k a : Nat} {M : g_M} {K : Value → Prop} (h : g_fv sh ci k a M K) : ∃ ps p, a < sh.1 ∧ sh.2 a = .inr (ci, ps) ∧ g_nth ps k = some p ∧ K (match p with | some q => .ref q | none => .int (M a k)) := by
  unfold g_fv at h
  cases e : Nat.ble (a + 1) sh.1 with
  | false => rw [e] at h; exact False.elim h
  | true =>
    rw [e] at h
    have ha : a < sh.1 := Nat.le_of_ble_eq_true e
    cases es : sh.2 a with
    | inl x => rw [es] at h; exact False.elim h
    | inr x =>
      obtain ⟨cj, ps⟩ := x
      rw [es] at h
      cases ec : Nat.beq ci cj with
      | false => simp only [cond, ec] at h
      | true =>
        simp only [cond, ec] at h
        have hc : ci = cj := Nat.eq_of_beq_eq_true ec
        subst hc
        cases en : g_nth ps k with
        | none => rw [en] at h; exact False.elim h
        | some p =>
          rw [en] at h
          refine ⟨ps, p, ha, rfl, en, ?_⟩
          cases p with
          | none => exact h
          | some q => exact h
theorem g_fn_spec {sh : g_Sh} {ci k a : Nat} {K : Prop} (h : g_fn sh ci k a K) : ∃ ps, a < sh.1 ∧ sh.2 a = .inr (ci, ps) ∧ g_nth ps k = some none ∧ K := by
  unfold g_fn at h
  cases e : Nat.ble (a + 1) sh.1 with
  | false => rw [e] at h; exact False.elim h
  | true =>
    rw [e] at h
    have ha : a < sh.1 := Nat.le_of_ble_eq_true e
    cases es : sh.2 a with
    | inl x => rw [es] at h; exact False.elim h
    | inr x =>
      obtain ⟨cj, ps⟩ := x
      rw [es] at h
      cases ec : Nat.beq ci cj with
      | false => simp only [cond, ec] at h
      | true =>
        simp only [cond, ec] at h
        have hc : ci = cj := Nat.eq_of_beq_eq_true ec
        subst hc
        cases en : g_nth ps k with
        | none => rw [en] at h; exact False.elim h
        | some p =>
          rw [en] at h
          cases p with
          | some q => exact False.elim h
          | none => exact ⟨ps, ha, rfl, en, h⟩
theorem g_ob_spec {sh : g_Sh} {ci a : Nat} {K : Prop} (h : g_ob sh ci a K) : ∃ ps, a < sh.1 ∧ sh.2 a = .inr (ci, ps) ∧ K := by
  unfold g_ob at h
  cases e : Nat.ble (a + 1) sh.1 with
  | false => rw [e] at h; exact False.elim h
  | true =>
    rw [e] at h
    have ha : a < sh.1 := Nat.le_of_ble_eq_true e
    cases es : sh.2 a with
    | inl x => rw [es] at h; exact False.elim h
    | inr x =>
      obtain ⟨cj, ps⟩ := x
      rw [es] at h
      cases ec : Nat.beq ci cj with
      | false => simp only [cond, ec] at h
      | true =>
        simp only [cond, ec] at h
        have hc : ci = cj := Nat.eq_of_beq_eq_true ec
        subst hc
        exact ⟨ps, ha, rfl, h⟩
theorem g_ar_spec {sh : g_Sh} {kd a : Nat} {K : Nat → Prop} (h : g_ar sh kd a K) : ∃ n, a < sh.1 ∧ sh.2 a = .inl (kd, n) ∧ n ≤ 65536 ∧ K n := by
  unfold g_ar at h
  cases e : Nat.ble (a + 1) sh.1 with
  | false => rw [e] at h; exact False.elim h
  | true =>
    rw [e] at h
    have ha : a < sh.1 := Nat.le_of_ble_eq_true e
    cases es : sh.2 a with
    | inr x => rw [es] at h; exact False.elim h
    | inl x =>
      obtain ⟨cj, n⟩ := x
      rw [es] at h
      cases ec : Nat.beq kd cj with
      | false => simp only [cond, ec] at h
      | true =>
        simp only [cond, ec] at h
        have hc : kd = cj := Nat.eq_of_beq_eq_true ec
        subst hc
        cases en : Nat.ble n 65536 with
        | false => rw [en] at h; exact False.elim h
        | true => rw [en] at h; exact ⟨n, ha, rfl, Nat.le_of_ble_eq_true en, h⟩
theorem g_fv_mono {sh : g_Sh} {ci k a : Nat} {M : g_M} {K K' : Value → Prop} (hk : ∀ v, K v → K' v) (h : g_fv sh ci k a M K) : g_fv sh ci k a M K' := by
  obtain ⟨ps, p, h1, h2, h3, h4⟩ := g_fv_spec h
  have e1 : Nat.ble (a + 1) sh.1 = true := Nat.ble_eq_true_of_le h1
  have e2 : Nat.beq ci ci = true := Nat.beq_refl ci
  unfold g_fv
  rw [e1, h2]
  simp only [cond, e2, h3]
  cases p with
  | none => exact hk _ h4
  | some q => exact hk _ h4
theorem g_fn_mono {sh : g_Sh} {ci k a : Nat} {K K' : Prop} (hk : K → K') (h : g_fn sh ci k a K) : g_fn sh ci k a K' := by
  obtain ⟨ps, h1, h2, h3, h4⟩ := g_fn_spec h
  have e1 : Nat.ble (a + 1) sh.1 = true := Nat.ble_eq_true_of_le h1
  have e2 : Nat.beq ci ci = true := Nat.beq_refl ci
  unfold g_fn
  rw [e1, h2]
  simp only [cond, e2, h3]
  exact hk h4
theorem g_ob_mono {sh : g_Sh} {ci a : Nat} {K K' : Prop} (hk : K → K') (h : g_ob sh ci a K) : g_ob sh ci a K' := by
  obtain ⟨ps, h1, h2, h4⟩ := g_ob_spec h
  have e1 : Nat.ble (a + 1) sh.1 = true := Nat.ble_eq_true_of_le h1
  have e2 : Nat.beq ci ci = true := Nat.beq_refl ci
  unfold g_ob
  rw [e1, h2]
  simp only [cond, e2]
  exact hk h4
theorem g_ar_mono {sh : g_Sh} {kd a : Nat} {K K' : Nat → Prop} (hk : ∀ n, K n → K' n) (h : g_ar sh kd a K) : g_ar sh kd a K' := by
  obtain ⟨n, h1, h2, h3, h4⟩ := g_ar_spec h
  have e1 : Nat.ble (a + 1) sh.1 = true := Nat.ble_eq_true_of_le h1
  have e2 : Nat.beq kd kd = true := Nat.beq_refl kd
  have e3 : Nat.ble n 65536 = true := Nat.ble_eq_true_of_le h3
  unfold g_ar
  rw [e1, h2]
  simp only [cond, e2, e3]
  exact hk n h4
theorem g_xa_spec {X : g_X} {k : Nat} {K : Nat → (Nat → Int32) → Prop} (h : g_xa X k K) : ∃ n f, X k = some (n, f) ∧ n ≤ 65536 ∧ K n f := by
  unfold g_xa at h
  cases e : X k with
  | none => rw [e] at h; exact False.elim h
  | some x =>
    rw [e] at h
    cases en : Nat.ble x.1 65536 with
    | false => simp only [en, cond] at h
    | true => simp only [en, cond] at h; exact ⟨x.1, x.2, rfl, Nat.le_of_ble_eq_true en, h⟩
theorem g_xa_mono {X : g_X} {k : Nat} {K K' : Nat → (Nat → Int32) → Prop} (hk : ∀ n f, K n f → K' n f) (h : g_xa X k K) : g_xa X k K' := by
  obtain ⟨n, f, h1, h3, h2⟩ := g_xa_spec h
  have e3 : Nat.ble n 65536 = true := Nat.ble_eq_true_of_le h3
  unfold g_xa
  rw [h1]
  simp only [e3, cond]
  exact hk n f h2
theorem g_cond_spec {b : Bool} {K : Prop} (h : cond b K False) : b = true ∧ K := by cases b with
  | true => exact ⟨rfl, h⟩
  | false => exact False.elim h
theorem g_cond_mono {b : Bool} {K K' : Prop} (hk : K → K') (h : cond b K False) : cond b K' False := by cases b with
  | true => exact hk h
  | false => exact h
theorem g_pop_spec : ∀ (n : Nat) (st as : List Value) (k : List Value → List Value → Prop), g_pop n st as k → ∃ vs r, st = vs ++ r ∧ vs.length = n ∧ k (vs.reverse ++ as) r := by
  intro n
  induction n with
  | zero => intro st as k h; exact ⟨[], st, rfl, rfl, h⟩
  | succ n ih =>
    intro st as k h
    cases st with
    | nil => exact False.elim h
    | cons v st =>
      obtain ⟨vs, r, h1, h2, h3⟩ := ih st (v :: as) k h
      exact ⟨v :: vs, r, by rw [h1]; rfl, by simp [h2], by simpa using h3⟩
theorem g_pop_mono : ∀ (n : Nat) (st as : List Value) (k k' : List Value → List Value → Prop), (∀ as r, k as r → k' as r) → g_pop n st as k → g_pop n st as k' := by
  intro n
  induction n with
  | zero => intro st as k k' hk h; exact hk _ _ h
  | succ n ih =>
    intro st as k k' hk h
    cases st with
    | nil => exact h
    | cons v st => exact ih st (v :: as) k k' hk h
/-- the world behind a store -/
theorem g_put_P {D : va_G} {cA : Nat → ClassId} {μ : Nat → Nat} {M : g_M} {sh : g_Sh} {a : Nat} {H : Heap} {f : Nat → Int32} {e : va_E} (ha : a < sh.1) (he : e = g_cell cA μ f (sh.2 a)) (h : va_P D g_cls ((g_wld cA μ M sh).set a (μ a, e)) H) : va_P D g_cls (g_wld cA μ (g_ms M a f) sh) H := by
  rw [he, g_wld_set ha] at h
  exact h
theorem g_put_D {A : Nat → Prop} {cA : Nat → ClassId} {μ : Nat → Nat} {M : g_M} {sh : g_Sh} {a : Nat} {f : Nat → Int32} {e : va_E} (ha : a < sh.1) (he : e = g_cell cA μ f (sh.2 a)) (h : va_D A ((g_wld cA μ M sh).set a (μ a, e))) : va_D A (g_wld cA μ (g_ms M a f) sh) := by
  rw [he, g_wld_set ha] at h
  exact h
section OKH
variable {sh : g_Sh} {mi : g_MI} {own : String} {cc : ByteArray} {nL : Nat} {rt : Option FieldType} {pc : Nat}
theorem ok_getf {ci k idx N : Nat} {C : String} {T : u_T} (hd : decode cc pc = .ok (.getfield idx, 3)) (hc : g_cls[ci]? = some (C, T, N)) (hin : ∀ w ∈ u_ws C T N, w ∈ g_tbl) (hk : k < N) (hw : Cond.fieldLink own idx (T k).1 (T k).2.1 (T k).2.2.1 ∈ g_tbl) : g_ok sh mi own cc nL rt pc (o_getf sh ci k (pc + 3)) := by
  refine ⟨?_, ?_⟩
  · intro cal P P' Q Q' L st M hc hP hQ h
    unfold o_getf at h ⊢
    split at h
    · exact g_fv_mono (fun v => hP _ _ _ _) h
    · exact h.elim
  · intro p l e R s m args below meth c D cA μ ξ A d cal Q K C hK L st M H locs ls h hP hD hS hl
    obtain ⟨hx, hb, hml, hown, hts, hr, hlk, hKk, hA, hE, rfl, hSn⟩ := C
    unfold o_getf at h
    split at h
    · rename_i a r
      obtain ⟨ps, p, h1, h2, h3, h4⟩ := g_fv_spec h
      have he := g_wld_at (cA := cA) (μ := μ) (M := M) h1
      rw [h2] at he
      refine va_get (D := D) (ci := ci) (v := g_fl μ (M a) k p) hx hb hts hin hown hKk hP a he hc k hk (hts _ hw) (fun _ h => h) (g_fl_at h3) hd ?_
      have h5 := hK _ _ _ _ _ _ _ h4 hP hD hS hl
      cases p with
      | none => exact h5
      | some q => exact h5
    · exact h.elim
theorem ok_putf {ci k idx N : Nat} {C : String} {T : u_T} {ty0 : Nat → FieldType} (hd : decode cc pc = .ok (.putfield idx, 3)) (hc : g_cls[ci]? = some (C, T, N)) (hin : ∀ w ∈ u_ws C T N, w ∈ g_tbl) (hty : ∀ k, k < N → parseFieldDescriptor (T k).2.2.1 = some (ty0 k)) (hnm : ∀ a, a < N → ∀ b, b < N → a ≠ b → (T a).2.1 ≠ (T b).2.1) (hk : k < N) (hw : Cond.fieldLink own idx (T k).1 (T k).2.1 (T k).2.2.1 ∈ g_tbl) (hfin : (T k).2.2.2 = false) (ht : ty0 k = .int) : g_ok sh mi own cc nL rt pc (o_putf sh ci k (pc + 3)) := by
  refine ⟨?_, ?_⟩
  · intro cal P P' Q Q' L st M hc hP hQ h
    unfold o_putf at h ⊢
    split at h
    · exact g_fn_mono (hP _ _ _ _) h
    · exact h.elim
  · intro p l e R s m args below meth c D cA μ ξ A d cal Q K C hK L st M H locs ls h hP hD hS hl
    obtain ⟨hx, hb, hml, hown, hts, hr, hlk, hKk, hA, hE, rfl, hSn⟩ := C
    unfold o_putf at h
    split at h
    · rename_i v a r
      obtain ⟨ps, h1, h2, h3, h4⟩ := g_fn_spec h
      have he := g_wld_at (cA := cA) (μ := μ) (M := M) h1
      rw [h2] at he
      have hl2 : k < (ps.mapIdx (g_fl μ (M a))).length := by
        rw [List.length_mapIdx]
        rw [g_nth_eq] at h3
        exact (List.getElem?_eq_some_iff.mp h3).1
      have eq : (Sum.inr (ci, (ps.mapIdx (g_fl μ (M a))).set k (.int v)) : va_E) = g_cell cA μ (upd (M a) k v) (sh.2 a) := by
        rw [h2, g_fl_set h3]
        rfl
      refine va_put (D := D) (ci := ci) (v := .int v) (ty := .int) hx hb hts hin ty0 hty hnm hown hKk hP hD hS a he hc k hk (hts _ hw) (fun _ h => h) hfin (by rw [hty k hk, ht]) (vp_nar_int v) rfl hl2 hd (fun H1 locs1 hP1 hD1 hS1 => ?_)
      exact hK _ _ _ _ _ _ _ h4 (g_put_P h1 eq hP1) (g_put_D h1 eq hD1) hS1 hl
    · exact h.elim
theorem ok_putz {ci k idx N : Nat} {C : String} {T : u_T} {ty0 : Nat → FieldType} (hd : decode cc pc = .ok (.putfield idx, 3)) (hc : g_cls[ci]? = some (C, T, N)) (hin : ∀ w ∈ u_ws C T N, w ∈ g_tbl) (hty : ∀ k, k < N → parseFieldDescriptor (T k).2.2.1 = some (ty0 k)) (hnm : ∀ a, a < N → ∀ b, b < N → a ≠ b → (T a).2.1 ≠ (T b).2.1) (hk : k < N) (hw : Cond.fieldLink own idx (T k).1 (T k).2.1 (T k).2.2.1 ∈ g_tbl) (hfin : (T k).2.2.2 = false) (ht : ty0 k = .boolean) : g_ok sh mi own cc nL rt pc (o_putz sh ci k (pc + 3)) := by
  refine ⟨?_, ?_⟩
  · intro cal P P' Q Q' L st M hc hP hQ h
    unfold o_putz at h ⊢
    split at h
    · exact g_fn_mono (fun z => ⟨z.1, hP _ _ _ _ z.2⟩) h
    · exact h.elim
  · intro p l e R s m args below meth c D cA μ ξ A d cal Q K C hK L st M H locs ls h hP hD hS hl
    obtain ⟨hx, hb, hml, hown, hts, hr, hlk, hKk, hA, hE, rfl, hSn⟩ := C
    unfold o_putz at h
    split at h
    · rename_i v a r
      obtain ⟨ps, h1, h2, h3, h4⟩ := g_fn_spec h
      have he := g_wld_at (cA := cA) (μ := μ) (M := M) h1
      rw [h2] at he
      have hl2 : k < (ps.mapIdx (g_fl μ (M a))).length := by
        rw [List.length_mapIdx]
        rw [g_nth_eq] at h3
        exact (List.getElem?_eq_some_iff.mp h3).1
      have eq : (Sum.inr (ci, (ps.mapIdx (g_fl μ (M a))).set k (.int v)) : va_E) = g_cell cA μ (upd (M a) k v) (sh.2 a) := by
        rw [h2, g_fl_set h3]
        rfl
      have hn : narrow .boolean (.int v) = .int v ∧ fits .boolean (.int v) = true := by
        rcases h4.1 with rfl | rfl <;> exact ⟨by decide, by decide⟩
      refine va_put (D := D) (ci := ci) (v := .int v) (ty := .boolean) hx hb hts hin ty0 hty hnm hown hKk hP hD hS a he hc k hk (hts _ hw) (fun _ h => h) hfin (by rw [hty k hk, ht]) hn.1 hn.2 hl2 hd (fun H1 locs1 hP1 hD1 hS1 => ?_)
      exact hK _ _ _ _ _ _ _ h4.2 (g_put_P h1 eq hP1) (g_put_D h1 eq hD1) hS1 hl
    · exact h.elim
theorem g_x0_int {k n : Nat} {f : Nat → Int32} (h : g_x0 k = some (n, f)) (hk : k < 20) {ξ : Nat → Nat} {A : Nat → Prop} {U : State} {H : Heap} (hE : g_ext ξ A U H) : va_T .int (ξ k) n (fun j => .int (f j)) A U H := by
  obtain ⟨h1, h2, h3, -⟩ := hE
  have hb : Nat.ble 20 k = false := by
    cases e : Nat.ble 20 k with
    | false => rfl
    | true => have := Nat.le_of_ble_eq_true e; omega
  unfold g_x0 at h
  rw [hb] at h
  by_cases k1 : k = 1
  · subst k1; cases h; exact h1
  · by_cases k2 : k = 2
    · subst k2; cases h; exact h2
    · by_cases k3 : k = 3
      · subst k3; cases h; exact h3
      · exfalso
        cases e1 : Nat.ble 1 k with
        | false => rw [e1] at h; cases h
        | true =>
          cases e2 : Nat.ble k 3 with
          | false => rw [e1, e2] at h; cases h
          | true =>
            have := Nat.le_of_ble_eq_true e1
            have := Nat.le_of_ble_eq_true e2
            omega
theorem g_x0_byte {k n : Nat} {f : Nat → Int32} (h : g_x0 k = some (n, f)) (hk : ¬ k < 20) {ξ : Nat → Nat} {A : Nat → Prop} {U : State} {H : Heap} (hE : g_ext ξ A U H) : va_T .byte (ξ k) n (fun j => .int (f j)) A U H := by
  obtain ⟨-, -, -, -, -, -, -, -, h1, -⟩ := hE
  have hb : Nat.ble 20 k = true := Nat.ble_eq_true_of_le (by omega)
  unfold g_x0 at h
  rw [hb] at h
  cases e : Nat.ble 26 k with
  | true => rw [e] at h; cases h
  | false =>
    rw [e] at h
    cases h
    have hk2 : k - 20 < 6 := by
      rcases Nat.lt_or_ge k 26 with q | q
      · omega
      · rw [Nat.ble_eq_true_of_le q] at e; cases e
    have h2 := (h1.1 (k - 20) hk2).2.2.2
    dsimp only at h2
    rw [show 20 + (k - 20) = k by omega] at h2
    exact h2
theorem ok_iald (hd : decode cc pc = .ok (.iaload, 1)) : g_ok sh mi own cc nL rt pc (o_iald sh (fun k => cond (Nat.ble 20 k) none (g_x0 k)) (pc + 1)) := by
  refine ⟨?_, ?_⟩
  · intro cal P P' Q Q' L st M hc hP hQ h
    unfold o_iald at h ⊢
    split at h
    · exact g_ar_mono (fun n ⟨j, z1, z2, z⟩ => ⟨j, z1, z2, hP _ _ _ _ z⟩) h
    · exact g_xa_mono (fun n f ⟨j, z1, z2, z⟩ => ⟨j, z1, z2, hP _ _ _ _ z⟩) h
    · exact h.elim
  · intro p l e R s m args below meth c D cA μ ξ A d cal Q K C hK L st M H locs ls h hP hD hS hl
    obtain ⟨hx, hb, hml, hown, hts, hr, hlk, hKk, hA, hE, rfl, hSn⟩ := C
    unfold o_iald at h
    split at h
    · rename_i i a r
      obtain ⟨n, h1, h2, hn, j, rfl, hj, h4⟩ := g_ar_spec h
      have he := g_wld_at (cA := cA) (μ := μ) (M := M) h1
      rw [h2] at he
      refine va_iald hx hb hKk hP a 0 he rfl (vp_in_nI hj (by omega)) hd ?_
      rw [nI_clamp (by omega)]
      exact hK _ _ _ _ _ _ _ h4 hP hD hS hl
    · rename_i i k r
      obtain ⟨n, f, h2, hn, j, rfl, hj, h4⟩ := g_xa_spec h
      cases e : Nat.ble 20 k with
      | true => simp only [e] at h2; cases h2
      | false =>
        simp only [e, cond] at h2
        have hk : k < 20 := by
          rcases Nat.lt_or_ge k 20 with q | q
          · exact q
          · rw [Nat.ble_eq_true_of_le q] at e; cases e
        refine va_ti hx hb (g_x0_int h2 hk hE) hS (vp_in_nI hj (by omega)) rfl hd ?_
        rw [nI_clamp (by omega)]
        exact hK _ _ _ _ _ _ _ h4 hP hD hS hl
    · exact h.elim
theorem ok_bald (hd : decode cc pc = .ok (.baload, 1)) : g_ok sh mi own cc nL rt pc (o_bald (fun k => cond (Nat.ble 20 k) (g_x0 k) none) (pc + 1)) := by
  refine ⟨?_, ?_⟩
  · intro cal P P' Q Q' L st M hc hP hQ h
    unfold o_bald at h ⊢
    split at h
    · exact g_xa_mono (fun n f ⟨j, z1, z2, z⟩ => ⟨j, z1, z2, hP _ _ _ _ z⟩) h
    · exact h.elim
  · intro p l e R s m args below meth c D cA μ ξ A d cal Q K C hK L st M H locs ls h hP hD hS hl
    obtain ⟨hx, hb, hml, hown, hts, hr, hlk, hKk, hA, hE, rfl, hSn⟩ := C
    unfold o_bald at h
    split at h
    · rename_i i k r
      obtain ⟨n, f, h2, hn, j, rfl, hj, h4⟩ := g_xa_spec h
      cases e : Nat.ble 20 k with
      | false => simp only [e] at h2; cases h2
      | true =>
        simp only [e, cond] at h2
        have hk : ¬ k < 20 := by have := Nat.le_of_ble_eq_true e; omega
        refine va_tb hx hb (g_x0_byte h2 hk hE) hS (vp_in_nI hj (by omega)) rfl hd ?_
        rw [nI_clamp (by omega)]
        exact hK _ _ _ _ _ _ _ h4 hP hD hS hl
    · exact h.elim
theorem ok_alen (hd : decode cc pc = .ok (.arraylength, 1)) : g_ok sh mi own cc nL rt pc (o_alen sh g_x0 (pc + 1)) := by
  refine ⟨?_, ?_⟩
  · intro cal P P' Q Q' L st M hc hP hQ h
    unfold o_alen at h ⊢
    split at h
    · exact g_ar_mono (fun n z => hP _ _ _ _ z) h
    · exact g_xa_mono (fun n f z => hP _ _ _ _ z) h
    · exact h.elim
  · intro p l e R s m args below meth c D cA μ ξ A d cal Q K C hK L st M H locs ls h hP hD hS hl
    obtain ⟨hx, hb, hml, hown, hts, hr, hlk, hKk, hA, hE, rfl, hSn⟩ := C
    unfold o_alen at h
    split at h
    · rename_i a r
      obtain ⟨n, h1, h2, hn, h4⟩ := g_ar_spec h
      have he := g_wld_at (cA := cA) (μ := μ) (M := M) h1
      rw [h2] at he
      exact va_alen (ty := .int) hx hb hKk hP a 0 he rfl rfl hd (hK _ _ _ _ _ _ _ h4 hP hD hS hl)
    · rename_i k r
      obtain ⟨n, f, h2, hn, h4⟩ := g_xa_spec h
      by_cases hk : k < 20
      · exact va_tlen hx hb (g_x0_int h2 hk hE) hS rfl hd (hK _ _ _ _ _ _ _ h4 hP hD hS hl)
      · exact va_tlen hx hb (g_x0_byte h2 hk hE) hS rfl hd (hK _ _ _ _ _ _ _ h4 hP hD hS hl)
    · exact h.elim
theorem ok_iast (hd : decode cc pc = .ok (.iastore, 1)) : g_ok sh mi own cc nL rt pc (o_iast sh (pc + 1)) := by
  refine ⟨?_, ?_⟩
  · intro cal P P' Q Q' L st M hc hP hQ h
    unfold o_iast at h ⊢
    split at h
    · exact g_ar_mono (fun n ⟨j, z1, z2, z⟩ => ⟨j, z1, z2, hP _ _ _ _ z⟩) h
    · exact h.elim
  · intro p l e R s m args below meth c D cA μ ξ A d cal Q K C hK L st M H locs ls h hP hD hS hl
    obtain ⟨hx, hb, hml, hown, hts, hr, hlk, hKk, hA, hE, rfl, hSn⟩ := C
    unfold o_iast at h
    split at h
    · rename_i v i a r
      obtain ⟨n, h1, h2, hn, j, rfl, hj, h4⟩ := g_ar_spec h
      have he := g_wld_at (cA := cA) (μ := μ) (M := M) h1
      rw [h2] at he
      have eq : (Sum.inl (cA 0, n, .inl (upd (M a) (nI j).toNatClampNeg v)) : va_E) = g_cell cA μ (upd (M a) j v) (sh.2 a) := by
        rw [h2, nI_clamp (by omega)]
        rfl
      exact va_iast hx hb hKk hP hD hS a 0 he rfl (vp_in_nI hj (by omega)) hd (fun H1 locs1 hP1 hD1 hS1 => hK _ _ _ _ _ _ _ h4 (g_put_P h1 eq hP1) (g_put_D h1 eq hD1) hS1 hl)
    · exact h.elim
theorem ok_zald (hd : decode cc pc = .ok (.baload, 1)) : g_ok sh mi own cc nL rt pc (o_zald sh (pc + 1)) := by
  refine ⟨?_, ?_⟩
  · intro cal P P' Q Q' L st M hc hP hQ h
    unfold o_zald at h ⊢
    split at h
    · exact g_ar_mono (fun n ⟨j, z1, z2, z⟩ => ⟨j, z1, z2, hP _ _ _ _ z⟩) h
    · exact h.elim
  · intro p l e R s m args below meth c D cA μ ξ A d cal Q K C hK L st M H locs ls h hP hD hS hl
    obtain ⟨hx, hb, hml, hown, hts, hr, hlk, hKk, hA, hE, rfl, hSn⟩ := C
    unfold o_zald at h
    split at h
    · rename_i i a r
      obtain ⟨n, h1, h2, hn, j, rfl, hj, h4⟩ := g_ar_spec h
      have he := g_wld_at (cA := cA) (μ := μ) (M := M) h1
      rw [h2] at he
      refine va_zald hx hb hKk hP a 1 he rfl (vp_in_nI hj (by omega)) hd ?_
      rw [nI_clamp (by omega)]
      exact hK _ _ _ _ _ _ _ h4 hP hD hS hl
    · exact h.elim
theorem ok_zast (hd : decode cc pc = .ok (.bastore, 1)) : g_ok sh mi own cc nL rt pc (o_zast sh (pc + 1)) := by
  refine ⟨?_, ?_⟩
  · intro cal P P' Q Q' L st M hc hP hQ h
    unfold o_zast at h ⊢
    split at h
    · exact g_ar_mono (fun n ⟨j, z1, z2, z3, z⟩ => ⟨j, z1, z2, z3, hP _ _ _ _ z⟩) h
    · exact h.elim
  · intro p l e R s m args below meth c D cA μ ξ A d cal Q K C hK L st M H locs ls h hP hD hS hl
    obtain ⟨hx, hb, hml, hown, hts, hr, hlk, hKk, hA, hE, rfl, hSn⟩ := C
    unfold o_zast at h
    split at h
    · rename_i v i a r
      obtain ⟨n, h1, h2, hn, j, rfl, hj, h5, h4⟩ := g_ar_spec h
      have he := g_wld_at (cA := cA) (μ := μ) (M := M) h1
      rw [h2] at he
      have hnv : vp_nar .boolean v = v := by rcases h5 with rfl | rfl <;> decide
      have eq : (Sum.inl (cA 1, n, .inl (upd (M a) (nI j).toNatClampNeg (vp_nar .boolean v))) : va_E) = g_cell cA μ (upd (M a) j v) (sh.2 a) := by
        rw [h2, hnv, nI_clamp (by omega)]
        rfl
      exact va_zast hx hb hKk hP hD hS a 1 he rfl (vp_in_nI hj (by omega)) hd (fun H1 locs1 hP1 hD1 hS1 => hK _ _ _ _ _ _ _ h4 (g_put_P h1 eq hP1) (g_put_D h1 eq hD1) hS1 hl)
    · exact h.elim
theorem ok_iret (hd : decode cc pc = .ok (.ireturn, 1)) (hrt : rt = some .int) : g_ok sh mi own cc nL rt pc o_iret := by
  refine ⟨?_, ?_⟩
  · intro cal P P' Q Q' L st M hc hP hQ h
    unfold o_iret at h ⊢
    split at h
    · exact hQ _ _ h
    · exact h.elim
  · intro p l e R s m args below meth c D cA μ ξ A d cal Q K C hK L st M H locs ls h hP hD hS hl
    obtain ⟨hx, hb, hml, hown, hts, hr, hlk, hKk, hA, hE, rfl, hSn⟩ := C
    unfold o_iret at h
    split at h
    · rename_i v
      exact W.iret (v := v) hx hb (hr.trans hrt) (fun t ht hW => ⟨⟨some (.int v), M, rfl, h, by rw [ht]; exact hP, va_K.moved hW.alike hKk, hD⟩, hS.F ht⟩) hS.2.2 hd hlk
    · exact h.elim
theorem ok_nret {ty : FieldType} (hd : decode cc pc = .ok (.ireturn, 1)) (hrt : rt = some ty) : g_ok sh mi own cc nL rt pc (o_nret ty) := by
  refine ⟨?_, ?_⟩
  · intro cal P P' Q Q' L st M hc hP hQ h
    unfold o_nret at h ⊢
    split at h
    · exact ⟨h.1, hQ _ _ h.2⟩
    · exact h.elim
  · intro p l e R s m args below meth c D cA μ ξ A d cal Q K C hK L st M H locs ls h hP hD hS hl
    obtain ⟨hx, hb, hml, hown, hts, hr, hlk, hKk, hA, hE, rfl, hSn⟩ := C
    unfold o_nret at h
    split at h
    · rename_i v
      exact W.zret (v := v) hx hb (hr.trans hrt) h.1 (fun t ht hW => ⟨⟨some (.int v), M, rfl, h.2, by rw [ht]; exact hP, va_K.moved hW.alike hKk, hD⟩, hS.F ht⟩) hS.2.2 hd hlk
    · exact h.elim
theorem ok_aret {n : String} (hd : decode cc pc = .ok (.areturn, 1)) (hrt : rt = some (.object n)) : g_ok sh mi own cc nL rt pc o_aret := by
  refine ⟨?_, ?_⟩
  · intro cal P P' Q Q' L st M hc hP hQ h
    unfold o_aret at h ⊢
    split at h
    · exact hQ _ _ h
    · exact h.elim
  · intro p l e R s m args below meth c D cA μ ξ A d cal Q K C hK L st M H locs ls h hP hD hS hl
    obtain ⟨hx, hb, hml, hown, hts, hr, hlk, hKk, hA, hE, rfl, hSn⟩ := C
    unfold o_aret at h
    split at h
    · rename_i v
      exact W.aret (v := .ref (ξ v)) hx hb (hr.trans hrt) (Or.inl ⟨n, rfl⟩) (Or.inr ⟨_, rfl⟩) (fun t ht hW => ⟨⟨some (.retAddr v), M, rfl, h, by rw [ht]; exact hP, va_K.moved hW.alike hKk, hD⟩, hS.F ht⟩) hS.2.2 hd hlk
    · exact h.elim
theorem ok_vret (hd : decode cc pc = .ok (.return_, 1)) (hrt : rt = none) : g_ok sh mi own cc nL rt pc o_vret := by
  refine ⟨?_, ?_⟩
  · intro cal P P' Q Q' L st M hc hP hQ h
    unfold o_vret at h ⊢
    split at h
    · exact hQ _ _ h
    · exact h.elim
  · intro p l e R s m args below meth c D cA μ ξ A d cal Q K C hK L st M H locs ls h hP hD hS hl
    obtain ⟨hx, hb, hml, hown, hts, hr, hlk, hKk, hA, hE, rfl, hSn⟩ := C
    unfold o_vret at h
    split at h
    · exact W.vret hx hb (hr.trans hrt) (fun t ht hW => ⟨⟨none, M, rfl, h, by rw [ht]; exact hP, va_K.moved hW.alike hKk, hD⟩, hS.F ht⟩) hS.2.2 hd hlk
    · exact h.elim
end OKH
