/-! ===== the small machine over the JVM: the world of a shape, the locals, contracts ===== -/
theorem g_cat (μ ξ : Nat → Nat) (v : Value) : (g_cv μ ξ v).category = v.category := by cases v <;> rfl
theorem g_wd_eq (μ ξ : Nat → Nat) : ∀ st : List Value, ((st.map (g_cv μ ξ)).map fun v => v.category).sum = g_wd st := by
  intro st
  induction st with
  | nil => rfl
  | cons v r ih =>
    rw [List.map_cons, List.map_cons, List.sum_cons, ih, g_cat]
    cases v <;> simp [g_wd, Value.category] <;> omega
def g_tys (cA : Nat → ClassId) : List (ClassId × FieldType) := [(cA 0, .int), (cA 1, .boolean)]
def g_fl (μ : Nat → Nat) (f : Nat → Int32) (k : Nat) (p : Option Nat) : Value := match p with
  | some q => .ref (μ q)
  | none => .int (f k)
def g_cell (cA : Nat → ClassId) (μ : Nat → Nat) (f : Nat → Int32) : g_SC → va_E
  | .inl (kd, n) => .inl (cA kd, (n, .inl f))
  | .inr (ci, ps) => .inr (ci, ps.mapIdx (g_fl μ f))
def g_wld (cA : Nat → ClassId) (μ : Nat → Nat) (M : g_M) (sh : g_Sh) : va_W := (List.range sh.1).map (fun a => (μ a, g_cell cA μ (M a) (sh.2 a)))
theorem g_wld_at {cA : Nat → ClassId} {μ : Nat → Nat} {M : g_M} {sh : g_Sh} {a : Nat} (h : a < sh.1) : (g_wld cA μ M sh)[a]? = some (μ a, g_cell cA μ (M a) (sh.2 a)) := by
  simp [g_wld, h]
theorem g_wld_set {cA : Nat → ClassId} {μ : Nat → Nat} {M : g_M} {sh : g_Sh} {a : Nat} (h : a < sh.1) (f : Nat → Int32) : (g_wld cA μ M sh).set a (μ a, g_cell cA μ f (sh.2 a)) = g_wld cA μ (g_ms M a f) sh := by
  apply List.ext_getElem?
  intro i
  by_cases hi : i = a
  · subst hi
    rw [List.getElem?_set_self (by simp [g_wld, h]), g_wld_at h]
    simp [g_ms]
  · rw [List.getElem?_set_ne (Ne.symm hi)]
    by_cases hl : i < sh.1
    · rw [g_wld_at hl, g_wld_at hl]
      simp [g_ms, hi]
    · simp [g_wld, hl]
theorem g_nth_eq : ∀ (ps : List (Option Nat)) (k : Nat), g_nth ps k = ps[k]? := by
  intro ps
  induction ps with
  | nil => intro k; simp [g_nth]
  | cons p r ih => intro k; cases k with
    | zero => simp [g_nth]
    | succ k => simp [g_nth, ih]
theorem g_fl_at {μ : Nat → Nat} {f : Nat → Int32} {ps : List (Option Nat)} {k : Nat} {p : Option Nat} (h : g_nth ps k = some p) : (ps.mapIdx (g_fl μ f))[k]? = some (g_fl μ f k p) := by
  rw [g_nth_eq] at h
  rw [List.getElem?_mapIdx, h]
  rfl
theorem g_fl_set {μ : Nat → Nat} {f : Nat → Int32} {ps : List (Option Nat)} {k : Nat} (h : g_nth ps k = some none) (v : Int32) : (ps.mapIdx (g_fl μ f)).set k (.int v) = ps.mapIdx (g_fl μ (upd f k v)) := by
  rw [g_nth_eq] at h
  have hl := (List.getElem?_eq_some_iff.mp h).1
  apply List.ext_getElem?
  intro i
  by_cases hi : i = k
  · subst hi
    rw [List.getElem?_set_self (by rw [List.length_mapIdx]; exact hl), List.getElem?_mapIdx, h]
    simp [g_fl, upd]
  · rw [List.getElem?_set_ne (Ne.symm hi), List.getElem?_mapIdx, List.getElem?_mapIdx]
    cases ps[i]? with
    | none => rfl
    | some p => cases p <;> simp [g_fl, upd, hi]
/-- the locals -/
def g_lr (μ ξ : Nat → Nat) (ls : Array Slot) (n : Nat) (L : List Value) : Prop := ls.size = n ∧ lv_wf ls ∧ L.length ≤ n ∧ ∀ i v, g_at L i = some v → v ≠ .null → ls[i]? = some (.val (g_cv μ ξ v))
theorem g_at_eq : ∀ (L : List Value) (k : Nat), g_at L k = L[k]? := by
  intro L
  induction L with
  | nil => intro k; simp [g_at]
  | cons p r ih => intro k; cases k with
    | zero => simp [g_at]
    | succ k => simp [g_at, ih]
/-- the listed form of the locals -/
def g_as (μ ξ : Nat → Nat) (L : List Value) : List (Nat × Value) := (List.range L.length).filterMap (fun i => match L[i]? with | some v => if v = .null then none else some (i, g_cv μ ξ v) | none => none)
theorem g_as_mem {μ ξ : Nat → Nat} {L : List Value} {j : Nat} {w : Value} : (j, w) ∈ g_as μ ξ L ↔ ∃ v, g_at L j = some v ∧ v ≠ .null ∧ w = g_cv μ ξ v := by
  simp only [g_as, List.mem_filterMap, List.mem_range, g_at_eq]
  constructor
  · rintro ⟨i, hi, h⟩
    cases e : L[i]? with
    | none => rw [e] at h; cases h
    | some v =>
      rw [e] at h
      by_cases hv : v = .null
      · simp [hv] at h
      · simp only [hv, if_false, Option.some.injEq, Prod.mk.injEq] at h
        obtain ⟨rfl, rfl⟩ := h
        exact ⟨v, e, hv, rfl⟩
  · rintro ⟨v, e, hv, rfl⟩
    refine ⟨j, (List.getElem?_eq_some_iff.mp e).1, ?_⟩
    rw [e]
    simp [hv]
theorem g_lr.has {μ ξ : Nat → Nat} {ls : Array Slot} {n : Nat} {L : List Value} (h : g_lr μ ξ ls n L) : lv_has ls n (g_as μ ξ L) := by
  refine ⟨h.1, h.2.1, fun q hq => ?_⟩
  obtain ⟨j, w⟩ := q
  obtain ⟨v, e, hv, rfl⟩ := g_as_mem.mp hq
  exact h.2.2.2 j v e hv
theorem g_lr.of {μ ξ : Nat → Nat} {ls : Array Slot} {n : Nat} {L : List Value} {l : List (Nat × Value)} (h : lv_has ls n l) (hl : L.length ≤ n) (hm : ∀ i v, g_at L i = some v → v ≠ .null → (i, g_cv μ ξ v) ∈ l) : g_lr μ ξ ls n L :=
  ⟨h.1, h.2.1, hl, fun i v e hv => h.2.2 (i, g_cv μ ξ v) (hm i v e hv)⟩
/-- what g_set does -/
theorem g_set_spec : ∀ (i : Nat) (v : Value) (L : List Value) (k : List Value → Prop), g_set i v L k → ∃ L', k L' ∧ L'.length = L.length ∧ i < L.length ∧ ∀ j w, g_at L' j = some w → w ≠ .null → (j = i ∧ w = v) ∨ (j ≠ i ∧ g_at L j = some w ∧ ¬ (j + 1 = i ∧ w.category = 2)) := by
  intro i
  induction i with
  | zero =>
    intro v L k h
    cases L with
    | nil => exact False.elim h
    | cons x r =>
      refine ⟨v :: r, h, rfl, by simp, fun j w e hw => ?_⟩
      cases j with
      | zero => left; exact ⟨rfl, (Option.some.inj e).symm⟩
      | succ j => right; exact ⟨by omega, e, by omega⟩
  | succ i ih =>
    intro v L k h
    cases i with
    | zero =>
      match L, h with
      | [], h => exact False.elim h
      | [x], h => exact False.elim h
      | x :: y :: r, h =>
        have key : ∀ x', k (x' :: v :: r) → (x' = .null ∨ (x' = x ∧ x.category = 1)) → ∃ L', k L' ∧ L'.length = (x :: y :: r).length ∧ 0 + 1 < (x :: y :: r).length ∧ ∀ j w, g_at L' j = some w → w ≠ .null → (j = 0 + 1 ∧ w = v) ∨ (j ≠ 0 + 1 ∧ g_at (x :: y :: r) j = some w ∧ ¬ (j + 1 = 0 + 1 ∧ w.category = 2)) := by
          intro x' hk hx
          refine ⟨x' :: v :: r, hk, rfl, by simp, fun j w e hw => ?_⟩
          match j, e with
          | 0, e =>
            have ew : x' = w := Option.some.inj e
            rcases hx with hx | ⟨hx, hc⟩
            · exact absurd (ew.symm.trans hx) hw
            · right
              rw [← ew, hx]
              exact ⟨by omega, rfl, fun z => by omega⟩
          | 1, e => left; exact ⟨rfl, (Option.some.inj e).symm⟩
          | j + 2, e => right; exact ⟨by omega, e, by omega⟩
        cases x with
        | long a => exact key _ h (Or.inl rfl)
        | double a => exact False.elim h
        | int a => exact key _ h (Or.inr ⟨rfl, rfl⟩)
        | float a => exact key _ h (Or.inr ⟨rfl, rfl⟩)
        | null => exact key _ h (Or.inr ⟨rfl, rfl⟩)
        | ref a => exact key _ h (Or.inr ⟨rfl, rfl⟩)
        | retAddr a => exact key _ h (Or.inr ⟨rfl, rfl⟩)
    | succ i =>
      match L, h with
      | [], h => exact False.elim h
      | [x], h => exact False.elim h
      | x :: y :: r, h =>
        obtain ⟨L', h1, h2, h3, h4⟩ := ih v (y :: r) (fun q => k (x :: q)) h
        refine ⟨x :: L', h1, by simp [h2], by simp at h3 ⊢; omega, fun j w e hw => ?_⟩
        cases j with
        | zero => right; exact ⟨by omega, e, by omega⟩
        | succ j =>
          rcases h4 j w e hw with ⟨a, b⟩ | ⟨a, b, c⟩
          · left; exact ⟨by omega, b⟩
          · right; exact ⟨by omega, b, fun z => c ⟨by omega, z.2⟩⟩
theorem g_set2_spec : ∀ (i : Nat) (v : Value) (L : List Value) (k : List Value → Prop), g_set2 i v L k → ∃ L', k L' ∧ L'.length = L.length ∧ i + 1 < L.length ∧ ∀ j w, g_at L' j = some w → w ≠ .null → (j = i ∧ w = v) ∨ (j ≠ i ∧ j ≠ i + 1 ∧ g_at L j = some w ∧ ¬ (j + 1 = i ∧ w.category = 2)) := by
  intro i
  induction i with
  | zero =>
    intro v L k h
    match L, h with
    | [], h => exact False.elim h
    | [x], h => exact False.elim h
    | x :: y :: r, h =>
      refine ⟨v :: .null :: r, h, rfl, by simp, fun j w e hw => ?_⟩
      match j, e with
      | 0, e => left; exact ⟨rfl, (Option.some.inj e).symm⟩
      | 1, e => exact absurd (Option.some.inj e).symm hw
      | j + 2, e => right; exact ⟨by omega, by omega, e, by omega⟩
  | succ i ih =>
    intro v L k h
    cases i with
    | zero =>
      match L, h with
      | [], h => exact False.elim h
      | [x], h => exact False.elim h
      | [x, y], h => exact False.elim h
      | x :: y :: z :: r, h =>
        have key : ∀ x', k (x' :: v :: .null :: r) → (x' = .null ∨ (x' = x ∧ x.category = 1)) → ∃ L', k L' ∧ L'.length = (x :: y :: z :: r).length ∧ 0 + 1 + 1 < (x :: y :: z :: r).length ∧ ∀ j w, g_at L' j = some w → w ≠ .null → (j = 0 + 1 ∧ w = v) ∨ (j ≠ 0 + 1 ∧ j ≠ 0 + 1 + 1 ∧ g_at (x :: y :: z :: r) j = some w ∧ ¬ (j + 1 = 0 + 1 ∧ w.category = 2)) := by
          intro x' hk hx
          refine ⟨x' :: v :: .null :: r, hk, rfl, by simp, fun j w e hw => ?_⟩
          match j, e with
          | 0, e =>
            have ew : x' = w := Option.some.inj e
            rcases hx with hx | ⟨hx, hc⟩
            · exact absurd (ew.symm.trans hx) hw
            · right
              rw [← ew, hx]
              exact ⟨by omega, by omega, rfl, fun z => by omega⟩
          | 1, e => left; exact ⟨rfl, (Option.some.inj e).symm⟩
          | 2, e => exact absurd (Option.some.inj e).symm hw
          | j + 3, e => right; exact ⟨by omega, by omega, e, by omega⟩
        cases x with
        | long a => exact key _ h (Or.inl rfl)
        | double a => exact False.elim h
        | int a => exact key _ h (Or.inr ⟨rfl, rfl⟩)
        | float a => exact key _ h (Or.inr ⟨rfl, rfl⟩)
        | null => exact key _ h (Or.inr ⟨rfl, rfl⟩)
        | ref a => exact key _ h (Or.inr ⟨rfl, rfl⟩)
        | retAddr a => exact key _ h (Or.inr ⟨rfl, rfl⟩)
    | succ i =>
      match L, h with
      | [], h => exact False.elim h
      | [x], h => exact False.elim h
      | x :: y :: r, h =>
        obtain ⟨L', h1, h2, h3, h4⟩ := ih v (y :: r) (fun q => k (x :: q)) h
        refine ⟨x :: L', h1, by simp [h2], by simp at h3 ⊢; omega, fun j w e hw => ?_⟩
        cases j with
        | zero => right; exact ⟨by omega, by omega, e, by omega⟩
        | succ j =>
          rcases h4 j w e hw with ⟨a, b⟩ | ⟨a, b, c, d⟩
          · left; exact ⟨by omega, b⟩
          · right; exact ⟨by omega, by omega, c, fun z => d ⟨by omega, z.2⟩⟩
/-- the locals behind a store of one slot, as the kit lists them -/
theorem g_lr.st1 {μ ξ : Nat → Nat} {ls : Array Slot} {n i : Nat} {v : Value} {L L' : List Value} (hl : L.length ≤ n) (hL : L'.length = L.length) (hs : ∀ j w, g_at L' j = some w → w ≠ .null → (j = i ∧ w = v) ∨ (j ≠ i ∧ g_at L j = some w ∧ ¬ (j + 1 = i ∧ w.category = 2)))
    (h : lv_has ls n ((i, g_cv μ ξ v) :: (g_as μ ξ L).filter (fun q => !(q.1 == i) && !(q.1 + 1 == i && q.2.category == 2)))) : g_lr μ ξ ls n L' := by
  refine g_lr.of h (by omega) (fun j w e hw => ?_)
  rcases hs j w e hw with ⟨rfl, rfl⟩ | ⟨a, b, c⟩
  · exact List.mem_cons_self
  · refine List.mem_cons_of_mem _ (List.mem_filter.mpr ⟨g_as_mem.mpr ⟨w, b, hw, rfl⟩, ?_⟩)
    rw [g_cat]
    simp only [Bool.and_eq_true, Bool.not_eq_true', beq_eq_false_iff_ne, ne_eq, Bool.and_eq_false_iff]
    refine ⟨a, ?_⟩
    by_cases z : j + 1 = i
    · right; exact fun z2 => c ⟨z, z2⟩
    · left; exact z
theorem g_lr.st2 {μ ξ : Nat → Nat} {ls : Array Slot} {n i : Nat} {v : Value} {L L' : List Value} (hl : L.length ≤ n) (hL : L'.length = L.length) (hs : ∀ j w, g_at L' j = some w → w ≠ .null → (j = i ∧ w = v) ∨ (j ≠ i ∧ j ≠ i + 1 ∧ g_at L j = some w ∧ ¬ (j + 1 = i ∧ w.category = 2)))
    (h : lv_has ls n ((i, g_cv μ ξ v) :: (g_as μ ξ L).filter (fun q => !(q.1 == i) && (!(q.1 == i + 1) && !(q.1 + 1 == i && q.2.category == 2))))) : g_lr μ ξ ls n L' := by
  refine g_lr.of h (by omega) (fun j w e hw => ?_)
  rcases hs j w e hw with ⟨rfl, rfl⟩ | ⟨a, b, c, d⟩
  · exact List.mem_cons_self
  · refine List.mem_cons_of_mem _ (List.mem_filter.mpr ⟨g_as_mem.mpr ⟨w, c, hw, rfl⟩, ?_⟩)
    rw [g_cat]
    simp only [Bool.and_eq_true, Bool.not_eq_true', beq_eq_false_iff_ne, ne_eq, Bool.and_eq_false_iff]
    refine ⟨a, b, ?_⟩
    by_cases z : j + 1 = i
    · right; exact fun z2 => d ⟨z, z2⟩
    · left; exact z
/-- the locals at a method's entry -/
theorem g_ent_spec : ∀ (as : List Value) (n : Nat) (k : List Value → Prop), g_ent as n k → ∃ L, k L ∧ L.length = n ∧ (lg_sl as).length ≤ n ∧ ∀ (b i : Nat) (w : Value) (μ ξ : Nat → Nat), g_at L i = some w → w ≠ .null → (b + i, g_cv μ ξ w) ∈ lv_args b (as.map (g_cv μ ξ)) := by
  intro as
  induction as with
  | nil =>
    intro n
    induction n with
    | zero => intro k h; exact ⟨[], h, rfl, by simp [lg_sl], fun b i w μ ξ e => by simp [g_at] at e⟩
    | succ n ih =>
      intro k h
      obtain ⟨L, h1, h2, h3, h4⟩ := ih (fun r => k (.null :: r)) h
      refine ⟨.null :: L, h1, by simp [h2], by simp [lg_sl], fun b i w μ ξ e hw => ?_⟩
      cases i with
      | zero => exact absurd (Option.some.inj e).symm hw
      | succ i =>
        have h5 := h4 b i w μ ξ e hw
        simp [lv_args] at h5
  | cons v vs ih =>
    intro n k h
    have one : ∀ (n' : Nat), n = n' + 1 → v.category = 1 → g_ent vs n' (fun r => k (v :: r)) → ∃ L, k L ∧ L.length = n ∧ (lg_sl (v :: vs)).length ≤ n ∧ ∀ (b i : Nat) (w : Value) (μ ξ : Nat → Nat), g_at L i = some w → w ≠ .null → (b + i, g_cv μ ξ w) ∈ lv_args b ((v :: vs).map (g_cv μ ξ)) := by
      intro n' hn hc h
      obtain ⟨L, h1, h2, h3, h4⟩ := ih n' (fun r => k (v :: r)) h
      have e1 : (lg_sl (v :: vs)).length = 1 + (lg_sl vs).length := by simp [lg_sl, hc]; omega
      refine ⟨v :: L, h1, by simp [h2, hn], by omega, fun b i w μ ξ e hw => ?_⟩
      simp only [List.map_cons, lv_args, g_cat, hc]
      cases i with
      | zero =>
        have : v = w := Option.some.inj e
        subst this
        simp
      | succ i =>
        refine List.mem_cons_of_mem _ ?_
        have h5 := h4 (b + 1) i w μ ξ e hw
        rw [show b + (i + 1) = b + 1 + i by omega]
        simpa using h5
    cases v with
    | int x => cases n with
      | zero => exact False.elim h
      | succ n => exact one n rfl rfl h
    | ref x => cases n with
      | zero => exact False.elim h
      | succ n => exact one n rfl rfl h
    | retAddr x => cases n with
      | zero => exact False.elim h
      | succ n => exact one n rfl rfl h
    | long x => match n, h with
      | 0, h => exact False.elim h
      | 1, h => exact False.elim h
      | n + 2, h =>
        obtain ⟨L, h1, h2, h3, h4⟩ := ih n (fun r => k (.long x :: .null :: r)) h
        have e1 : (lg_sl (.long x :: vs)).length = 2 + (lg_sl vs).length := by simp [lg_sl, Value.category]; omega
        refine ⟨.long x :: .null :: L, h1, by simp [h2], by omega, fun b i w μ ξ e hw => ?_⟩
        have hc : (Value.long x).category = 2 := rfl
        simp only [List.map_cons, lv_args, g_cat, hc, if_true]
        match i, e with
        | 0, e =>
          have : Value.long x = w := Option.some.inj e
          subst this
          simp
        | 1, e => exact absurd (Option.some.inj e).symm hw
        | i + 2, e =>
          refine List.mem_cons_of_mem _ ?_
          have h5 := h4 (b + 2) i w μ ξ e hw
          rw [show b + (i + 2) = b + 2 + i by omega]
          exact h5
    | float x => rcases n with _ | _ | n <;> exact False.elim h
    | double x => rcases n with _ | _ | n <;> exact False.elim h
    | null => cases n with
      | zero => exact False.elim h
      | succ n => exact one n rfl rfl h
