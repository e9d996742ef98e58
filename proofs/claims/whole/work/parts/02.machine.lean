/-! ===== the small machine: shapes of cells, ops, runs ===== -/
abbrev g_SC : Type := (Nat × Nat) ⊕ (Nat × List (Option Nat))
abbrev g_Sh : Type := Nat × (Nat → g_SC)
abbrev g_M : Type := Nat → Nat → Int32
abbrev g_K : Type := Nat → List Value → List Value → g_M → Prop
abbrev g_R : Type := Option Value → g_M → Prop
abbrev g_C : Type := Nat → List Value → g_M → g_R → Prop
abbrev g_Op : Type := g_C → g_K → g_R → List Value → List Value → g_M → Prop
abbrev g_X : Type := Nat → Option (Nat × (Nat → Int32))
def g_cv (μ ξ : Nat → Nat) : Value → Value
  | .ref i => .ref (μ i)
  | .retAddr k => .ref (ξ k)
  | v => v
def g_at : List Value → Nat → Option Value
  | [], _ => none
  | v :: _, 0 => some v
  | _ :: r, n + 1 => g_at r n
def g_nth : List (Option Nat) → Nat → Option (Option Nat)
  | [], _ => none
  | v :: _, 0 => some v
  | _ :: r, n + 1 => g_nth r n
def g_set : Nat → Value → List Value → (List Value → Prop) → Prop
  | 0, v, _ :: r, k => k (v :: r)
  | 1, v, x :: _ :: r, k => (match x with | .long _ => k (.null :: v :: r) | .double _ => False | _ => k (x :: v :: r))
  | n + 2, v, x :: y :: r, k => g_set (n + 1) v (y :: r) (fun q => k (x :: q))
  | _, _, _, _ => False
def g_set2 : Nat → Value → List Value → (List Value → Prop) → Prop
  | 0, v, _ :: _ :: r, k => k (v :: .null :: r)
  | 1, v, x :: _ :: _ :: r, k => (match x with | .long _ => k (.null :: v :: .null :: r) | .double _ => False | _ => k (x :: v :: .null :: r))
  | n + 2, v, x :: y :: r, k => g_set2 (n + 1) v (y :: r) (fun q => k (x :: q))
  | _, _, _, _ => False
def g_ms (M : g_M) (a : Nat) (f : Nat → Int32) : g_M := fun c => if c = a then f else M c
/-- words of an operand stack -/
def g_wd : List Value → Nat
  | [] => 0
  | .long _ :: r => g_wd r + 2
  | .double _ :: r => g_wd r + 2
  | _ :: r => g_wd r + 1
def g_pop : Nat → List Value → List Value → (List Value → List Value → Prop) → Prop
  | 0, st, as, k => k as st
  | n + 1, v :: st, as, k => g_pop n st (v :: as) k
  | _ + 1, [], _, _ => False
/-- an object of class ci, its field k: a pointer or a number -/
def g_fv (sh : g_Sh) (ci k a : Nat) (M : g_M) (K : Value → Prop) : Prop :=
  cond (Nat.ble (a + 1) sh.1) (match sh.2 a with
    | .inr (cj, ps) => cond (Nat.beq ci cj) (match g_nth ps k with | some (some q) => K (.ref q) | some none => K (.int (M a k)) | none => False) False
    | .inl _ => False) False
/-- an object of class ci whose field k is a number -/
def g_fn (sh : g_Sh) (ci k a : Nat) (K : Prop) : Prop :=
  cond (Nat.ble (a + 1) sh.1) (match sh.2 a with
    | .inr (cj, ps) => cond (Nat.beq ci cj) (match g_nth ps k with | some none => K | _ => False) False
    | .inl _ => False) False
/-- an object of class ci -/
def g_ob (sh : g_Sh) (ci a : Nat) (K : Prop) : Prop :=
  cond (Nat.ble (a + 1) sh.1) (match sh.2 a with | .inr (cj, _) => cond (Nat.beq ci cj) K False | .inl _ => False) False
/-- an array of kind kd, of length n -/
def g_ar (sh : g_Sh) (kd a : Nat) (K : Nat → Prop) : Prop :=
  cond (Nat.ble (a + 1) sh.1) (match sh.2 a with | .inl (kj, n) => cond (Nat.beq kd kj) (cond (Nat.ble n 65536) (K n) False) False | .inr _ => False) False
def g_xa (X : g_X) (k : Nat) (K : Nat → (Nat → Int32) → Prop) : Prop := match X k with | some (n, f) => cond (Nat.ble n 65536) (K n f) False | none => False
/-! ops -/
def o_push (v : Value) (nx : Nat) : g_Op := fun _ K _ L st M => K nx L (v :: st) M
def o_iload (i nx : Nat) : g_Op := fun _ K _ L st M => match g_at L i with | some (.int x) => K nx L (.int x :: st) M | _ => False
def o_lload (i nx : Nat) : g_Op := fun _ K _ L st M => match g_at L i with | some (.long x) => K nx L (.long x :: st) M | _ => False
def o_aload (i nx : Nat) : g_Op := fun _ K _ L st M => match g_at L i with | some (.ref x) => K nx L (.ref x :: st) M | some (.retAddr x) => K nx L (.retAddr x :: st) M | _ => False
def o_istore (i nx : Nat) : g_Op := fun _ K _ L st M => match st with | .int x :: r => g_set i (.int x) L (fun q => K nx q r M) | _ => False
def o_astore (i nx : Nat) : g_Op := fun _ K _ L st M => match st with | .ref x :: r => g_set i (.ref x) L (fun q => K nx q r M) | .retAddr x :: r => g_set i (.retAddr x) L (fun q => K nx q r M) | _ => False
def o_lstore (i nx : Nat) : g_Op := fun _ K _ L st M => match st with | .long x :: r => g_set2 i (.long x) L (fun q => K nx q r M) | _ => False
def o_iinc (i : Nat) (c : Int32) (nx : Nat) : g_Op := fun _ K _ L st M => match g_at L i with | some (.int x) => g_set i (.int (x + c)) L (fun q => K nx q st M) | _ => False
def o_iadd (nx : Nat) : g_Op := fun _ K _ L st M => match st with | .int y :: .int x :: r => K nx L (.int (x + y) :: r) M | _ => False
def o_isub (nx : Nat) : g_Op := fun _ K _ L st M => match st with | .int y :: .int x :: r => K nx L (.int (x - y) :: r) M | _ => False
def o_imul (nx : Nat) : g_Op := fun _ K _ L st M => match st with | .int y :: .int x :: r => K nx L (.int (x * y) :: r) M | _ => False
def o_iand (nx : Nat) : g_Op := fun _ K _ L st M => match st with | .int y :: .int x :: r => K nx L (.int (x &&& y) :: r) M | _ => False
def o_ior (nx : Nat) : g_Op := fun _ K _ L st M => match st with | .int y :: .int x :: r => K nx L (.int (x ||| y) :: r) M | _ => False
def o_ixor (nx : Nat) : g_Op := fun _ K _ L st M => match st with | .int y :: .int x :: r => K nx L (.int (x ^^^ y) :: r) M | _ => False
def o_ishl (nx : Nat) : g_Op := fun _ K _ L st M => match st with | .int y :: .int x :: r => K nx L (.int (x <<< (y &&& 31)) :: r) M | _ => False
def o_ishr (nx : Nat) : g_Op := fun _ K _ L st M => match st with | .int y :: .int x :: r => K nx L (.int (x >>> (y &&& 31)) :: r) M | _ => False
def o_iushr (nx : Nat) : g_Op := fun _ K _ L st M => match st with | .int y :: .int x :: r => K nx L (.int ((x.toUInt32 >>> (y.toUInt32 &&& Int32.toUInt32 31)).toInt32) :: r) M | _ => False
def o_idiv (nx : Nat) : g_Op := fun _ K _ L st M => match st with | .int y :: .int x :: r => ¬ y = 0 ∧ K nx L (.int (x / y) :: r) M | _ => False
def o_irem (nx : Nat) : g_Op := fun _ K _ L st M => match st with | .int y :: .int x :: r => ¬ y = 0 ∧ K nx L (.int (x - x / y * y) :: r) M | _ => False
def o_max (nx : Nat) : g_Op := fun _ K _ L st M => match st with | .int y :: .int x :: r => cond (Nat.ble (g_wd r) 8) (K nx L (.int (if x < y then y else x) :: r) M) False | _ => False
def o_min (nx : Nat) : g_Op := fun _ K _ L st M => match st with | .int y :: .int x :: r => cond (Nat.ble (g_wd r) 8) (K nx L (.int (if y < x then y else x) :: r) M) False | _ => False
def o_land (nx : Nat) : g_Op := fun _ K _ L st M => match st with | .long y :: .long x :: r => K nx L (.long (x &&& y) :: r) M | _ => False
def o_lor (nx : Nat) : g_Op := fun _ K _ L st M => match st with | .long y :: .long x :: r => K nx L (.long (x ||| y) :: r) M | _ => False
def o_ldiv (nx : Nat) : g_Op := fun _ K _ L st M => match st with | .long y :: .long x :: r => ¬ y = 0 ∧ K nx L (.long (x / y) :: r) M | _ => False
def o_lrem (nx : Nat) : g_Op := fun _ K _ L st M => match st with | .long y :: .long x :: r => ¬ y = 0 ∧ K nx L (.long (x - x / y * y) :: r) M | _ => False
def o_lshl (nx : Nat) : g_Op := fun _ K _ L st M => match st with | .int y :: .long x :: r => K nx L (.long (x <<< (y.toInt64 &&& 63)) :: r) M | _ => False
def o_lshr (nx : Nat) : g_Op := fun _ K _ L st M => match st with | .int y :: .long x :: r => K nx L (.long (x >>> (y.toInt64 &&& 63)) :: r) M | _ => False
def o_lushr (nx : Nat) : g_Op := fun _ K _ L st M => match st with | .int y :: .long x :: r => K nx L (.long ((x.toUInt64 >>> (y.toInt64.toUInt64 &&& Int64.toUInt64 63)).toInt64) :: r) M | _ => False
def o_ineg (nx : Nat) : g_Op := fun _ K _ L st M => match st with | .int x :: r => K nx L (.int (-x) :: r) M | _ => False
def o_i2l (nx : Nat) : g_Op := fun _ K _ L st M => match st with | .int x :: r => K nx L (.long (x.toInt64) :: r) M | _ => False
def o_l2i (nx : Nat) : g_Op := fun _ K _ L st M => match st with | .long x :: r => K nx L (.int (x.toInt32) :: r) M | _ => False
def o_i2c (nx : Nat) : g_Op := fun _ K _ L st M => match st with | .int x :: r => K nx L (.int ((x.toUInt32 % 65536).toInt32) :: r) M | _ => False
def o_i2b (nx : Nat) : g_Op := fun _ K _ L st M => match st with | .int x :: r => K nx L (.int (x.toInt8.toInt32) :: r) M | _ => False
def o_dup (nx : Nat) : g_Op := fun _ K _ L st M => match st with | v :: r => (match v with | .long _ => False | .double _ => False | _ => K nx L (v :: v :: r) M) | _ => False
def o_dup2 (nx : Nat) : g_Op := fun _ K _ L st M => match st with | .int i :: .ref a :: r => K nx L (.int i :: .ref a :: .int i :: .ref a :: r) M | _ => False
def o_pushQ (k nx : Nat) : g_Op := fun _ K _ L st M => K nx L (.null :: st) M ∧ K nx L (.retAddr k :: st) M
def o_pop (nx : Nat) : g_Op := fun _ K _ L st M => match st with | .int _ :: r => K nx L r M | _ => False
def o_ic_eq (t nx : Nat) : g_Op := fun _ K _ L st M => match st with | .int y :: .int x :: r => (x = y → K t L r M) ∧ (¬ x = y → K nx L r M) | _ => False
def o_ic_ne (t nx : Nat) : g_Op := fun _ K _ L st M => match st with | .int y :: .int x :: r => (¬ x = y → K t L r M) ∧ (x = y → K nx L r M) | _ => False
def o_ic_lt (t nx : Nat) : g_Op := fun _ K _ L st M => match st with | .int y :: .int x :: r => (x < y → K t L r M) ∧ (¬ x < y → K nx L r M) | _ => False
def o_ic_ge (t nx : Nat) : g_Op := fun _ K _ L st M => match st with | .int y :: .int x :: r => (y ≤ x → K t L r M) ∧ (¬ y ≤ x → K nx L r M) | _ => False
def o_ic_gt (t nx : Nat) : g_Op := fun _ K _ L st M => match st with | .int y :: .int x :: r => (y < x → K t L r M) ∧ (¬ y < x → K nx L r M) | _ => False
def o_ic_le (t nx : Nat) : g_Op := fun _ K _ L st M => match st with | .int y :: .int x :: r => (x ≤ y → K t L r M) ∧ (¬ x ≤ y → K nx L r M) | _ => False
def o_if_eq (t nx : Nat) : g_Op := fun _ K _ L st M => match st with | .int x :: r => (x = 0 → K t L r M) ∧ (¬ x = 0 → K nx L r M) | _ => False
def o_if_ne (t nx : Nat) : g_Op := fun _ K _ L st M => match st with | .int x :: r => (¬ x = 0 → K t L r M) ∧ (x = 0 → K nx L r M) | _ => False
def o_if_lt (t nx : Nat) : g_Op := fun _ K _ L st M => match st with | .int x :: r => (x < 0 → K t L r M) ∧ (¬ x < 0 → K nx L r M) | _ => False
def o_if_ge (t nx : Nat) : g_Op := fun _ K _ L st M => match st with | .int x :: r => (0 ≤ x → K t L r M) ∧ (¬ 0 ≤ x → K nx L r M) | _ => False
def o_if_gt (t nx : Nat) : g_Op := fun _ K _ L st M => match st with | .int x :: r => (0 < x → K t L r M) ∧ (¬ 0 < x → K nx L r M) | _ => False
def o_if_le (t nx : Nat) : g_Op := fun _ K _ L st M => match st with | .int x :: r => (x ≤ 0 → K t L r M) ∧ (¬ x ≤ 0 → K nx L r M) | _ => False
def o_goto (t : Nat) : g_Op := fun _ K _ L st M => K t L st M
def g_sw : List (Int32 × Nat) → Nat → Int32 → (Nat → Prop) → Prop
  | [], d, _, k => k d
  | (c, t) :: r, d, x, k => (x = c → k t) ∧ (¬ x = c → g_sw r d x k)
def o_sw (ps : List (Int32 × Nat)) (d : Nat) : g_Op := fun _ K _ L st M => match st with | .int x :: r => g_sw ps d x (fun t => K t L r M) | _ => False
def o_getf (sh : g_Sh) (ci k nx : Nat) : g_Op := fun _ K _ L st M => match st with | .ref a :: r => g_fv sh ci k a M (fun v => K nx L (v :: r) M) | _ => False
def o_putf (sh : g_Sh) (ci k nx : Nat) : g_Op := fun _ K _ L st M => match st with | .int v :: .ref a :: r => g_fn sh ci k a (K nx L r (g_ms M a (upd (M a) k v))) | _ => False
def o_putz (sh : g_Sh) (ci k nx : Nat) : g_Op := fun _ K _ L st M => match st with | .int v :: .ref a :: r => g_fn sh ci k a ((v = 0 ∨ v = 1) ∧ K nx L r (g_ms M a (upd (M a) k v))) | _ => False
def o_xfld (f : Nat → Option Value) (nx : Nat) : g_Op := fun _ K _ L st M => match st with | .retAddr k :: r => (match f k with | some v => K nx L (v :: r) M | none => False) | _ => False
def o_iald (sh : g_Sh) (X : g_X) (nx : Nat) : g_Op := fun _ K _ L st M => match st with
  | .int i :: .ref a :: r => g_ar sh 0 a (fun n => ∃ j, i = nI j ∧ j < n ∧ K nx L (.int (M a j) :: r) M)
  | .int i :: .retAddr k :: r => g_xa X k (fun n f => ∃ j, i = nI j ∧ j < n ∧ K nx L (.int (f j) :: r) M)
  | _ => False
def o_iast (sh : g_Sh) (nx : Nat) : g_Op := fun _ K _ L st M => match st with
  | .int v :: .int i :: .ref a :: r => g_ar sh 0 a (fun n => ∃ j, i = nI j ∧ j < n ∧ K nx L r (g_ms M a (upd (M a) j v)))
  | _ => False
def o_zald (sh : g_Sh) (nx : Nat) : g_Op := fun _ K _ L st M => match st with
  | .int i :: .ref a :: r => g_ar sh 1 a (fun n => ∃ j, i = nI j ∧ j < n ∧ K nx L (.int (M a j) :: r) M)
  | _ => False
def o_zast (sh : g_Sh) (nx : Nat) : g_Op := fun _ K _ L st M => match st with
  | .int v :: .int i :: .ref a :: r => g_ar sh 1 a (fun n => ∃ j, i = nI j ∧ j < n ∧ (v = 0 ∨ v = 1) ∧ K nx L r (g_ms M a (upd (M a) j v)))
  | _ => False
def o_bald (X : g_X) (nx : Nat) : g_Op := fun _ K _ L st M => match st with
  | .int i :: .retAddr k :: r => g_xa X k (fun n f => ∃ j, i = nI j ∧ j < n ∧ K nx L (.int (f j) :: r) M)
  | _ => False
def o_alen (sh : g_Sh) (X : g_X) (nx : Nat) : g_Op := fun _ K _ L st M => match st with
  | .ref a :: r => g_ar sh 0 a (fun n => K nx L (.int (Int32.ofNat n) :: r) M)
  | .retAddr k :: r => g_xa X k (fun n _ => K nx L (.int (Int32.ofNat n) :: r) M)
  | _ => False
def o_copy (sh : g_Sh) (nx : Nat) : g_Op := fun _ K _ L st M => match st with
  | .int n :: .int dp :: .ref a :: .int sp :: .ref b :: r => g_ar sh 0 b (fun n0 => g_ar sh 0 a (fun n1 => ∃ s' d' n', sp = nI s' ∧ dp = nI d' ∧ n = nI n' ∧ s' + n' ≤ n0 ∧ d' + n' ≤ n1 ∧ cond (Nat.ble (g_wd r) 8) (K nx L r (g_ms M a (va_cpy (M b) (M a) s' d' n'))) False))
  | _ => False
/-- a call with an answer: method k, n values taken; the receiver is of class ci -/
def o_callV (sh : g_Sh) (ci k n nx : Nat) : g_Op := fun cal K _ L st M => g_pop n st [] (fun as r => match as with
  | .ref a :: _ => g_ob sh ci a (cond (Nat.ble (g_wd r) 8) (cal k as M (fun v M' => match v with | some x => K nx L (x :: r) M' | none => False)) False)
  | _ => False)
def o_callVv (sh : g_Sh) (ci k n nx : Nat) : g_Op := fun cal K _ L st M => g_pop n st [] (fun as r => match as with
  | .ref a :: _ => g_ob sh ci a (cond (Nat.ble (g_wd r) 8) (cal k as M (fun v M' => match v with | some _ => False | none => K nx L r M')) False)
  | _ => False)
def o_callS (k n nx : Nat) : g_Op := fun cal K _ L st M => g_pop n st [] (fun as r => cond (Nat.ble (g_wd r) 8) (cal k as M (fun v M' => match v with | some x => K nx L (x :: r) M' | none => False)) False)
def o_callSv (k n nx : Nat) : g_Op := fun cal K _ L st M => g_pop n st [] (fun as r => cond (Nat.ble (g_wd r) 8) (cal k as M (fun v M' => match v with | some _ => False | none => K nx L r M')) False)
/-- a call on an external receiver (a String) -/
def o_callX (lo hi k n nx : Nat) : g_Op := fun cal K _ L st M => g_pop n st [] (fun as r => match as with
  | .retAddr a :: _ => cond (Nat.ble lo a) (cond (Nat.ble (a + 1) hi) (cond (Nat.ble (g_wd r) 8) (cal k as M (fun v M' => match v with | some x => K nx L (x :: r) M' | none => False)) False) False) False
  | _ => False)
def o_iret : g_Op := fun _ _ Q _ st M => match st with | [.int v] => Q (some (.int v)) M | _ => False
def o_nret (ty : FieldType) : g_Op := fun _ _ Q _ st M => match st with | [.int v] => narrow ty (.int v) = .int v ∧ Q (some (.int v)) M | _ => False
def o_aret : g_Op := fun _ _ Q _ st M => match st with | [.retAddr v] => Q (some (.retAddr v)) M | _ => False
def o_vret : g_Op := fun _ _ Q _ st M => match st with | [] => Q none M | _ => False
/-! code tables -/
def g_node (n : Nat) (f g : Nat → Option g_Op) : Nat → Option g_Op := fun pc => cond (Nat.ble n pc) (g pc) (f pc)
def g_leaf (p : Nat) (op : g_Op) : Nat → Option g_Op := fun pc => cond (Nat.beq pc p) (some op) none
/-! runs: the least predicate closed under the ops -/
def g_F (cal : g_C) (tb : Nat → Option g_Op) (Q : g_R) (P : g_K) : g_K := fun pc L st M => match tb pc with | some op => op cal P Q L st M | none => False
def g_Run (cal : g_C) (tb : Nat → Option g_Op) (Q : g_R) : g_K := fun pc L st M => ∀ P : g_K, (∀ pc L st M, g_F cal tb Q P pc L st M → P pc L st M) → P pc L st M
def g_wp (cal : g_C) (tb : Nat → Option g_Op) (Q : g_R) : Nat → Nat → List Value → List Value → g_M → Prop
  | 0, pc, L, st, M => g_Run cal tb Q pc L st M
  | n + 1, pc, L, st, M => match tb pc with | some op => op cal (g_wp cal tb Q n) Q L st M | none => False
def g_cmono (cal : g_C) : Prop := ∀ k as M (R R' : g_R), (∀ v N, R v N → R' v N) → cal k as M R → cal k as M R'
def g_mono (op : g_Op) : Prop := ∀ cal (P P' : g_K) (Q Q' : g_R) L st M, g_cmono cal → (∀ pc L st M, P pc L st M → P' pc L st M) → (∀ v N, Q v N → Q' v N) → op cal P Q L st M → op cal P' Q' L st M
def g_tbm (tb : Nat → Option g_Op) : Prop := ∀ pc op, tb pc = some op → g_mono op
theorem g_F_mono {cal : g_C} {tb : Nat → Option g_Op} {Q Q' : g_R} {P P' : g_K} (hc : g_cmono cal) (ht : g_tbm tb) (hP : ∀ pc L st M, P pc L st M → P' pc L st M) (hQ : ∀ v N, Q v N → Q' v N) {pc : Nat} {L st : List Value} {M : g_M} (h : g_F cal tb Q P pc L st M) : g_F cal tb Q' P' pc L st M := by
  unfold g_F at h ⊢
  cases e : tb pc with
  | none => rw [e] at h; exact h
  | some op => rw [e] at h; exact ht pc op e cal P P' Q Q' L st M hc hP hQ h
theorem g_fold {cal : g_C} {tb : Nat → Option g_Op} {Q : g_R} (hc : g_cmono cal) (ht : g_tbm tb) {pc : Nat} {L st : List Value} {M : g_M} (h : g_F cal tb Q (g_Run cal tb Q) pc L st M) : g_Run cal tb Q pc L st M := by
  intro P hP
  exact hP pc L st M (g_F_mono hc ht (fun pc L st M h => h P hP) (fun _ _ h => h) h)
theorem g_unfold {cal : g_C} {tb : Nat → Option g_Op} {Q : g_R} (hc : g_cmono cal) (ht : g_tbm tb) {pc : Nat} {L st : List Value} {M : g_M} (h : g_Run cal tb Q pc L st M) : g_F cal tb Q (g_Run cal tb Q) pc L st M :=
  h (fun pc L st M => g_F cal tb Q (g_Run cal tb Q) pc L st M) (fun pc L st M h => g_F_mono hc ht (fun pc L st M h => g_fold hc ht h) (fun _ _ h => h) h)
theorem g_Run_mono {cal : g_C} {tb : Nat → Option g_Op} {Q Q' : g_R} (hc : g_cmono cal) (ht : g_tbm tb) (hQ : ∀ v N, Q v N → Q' v N) {pc : Nat} {L st : List Value} {M : g_M} (h : g_Run cal tb Q pc L st M) : g_Run cal tb Q' pc L st M :=
  h (g_Run cal tb Q') (fun pc L st M h => g_fold hc ht (g_F_mono hc ht (fun _ _ _ _ h => h) hQ h))
theorem g_wp_iff {cal : g_C} {tb : Nat → Option g_Op} {Q : g_R} (hc : g_cmono cal) (ht : g_tbm tb) : ∀ (n pc : Nat) (L st : List Value) (M : g_M), g_wp cal tb Q n pc L st M ↔ g_Run cal tb Q pc L st M := by
  intro n
  induction n with
  | zero => intro pc L st M; exact Iff.rfl
  | succ n ih =>
    intro pc L st M
    constructor
    · intro h
      exact g_fold hc ht (g_F_mono hc ht (fun pc L st M h => (ih pc L st M).mp h) (fun _ _ h => h) (show g_F cal tb Q (g_wp cal tb Q n) pc L st M from h))
    · intro h
      exact (show g_F cal tb Q (g_wp cal tb Q n) pc L st M from g_F_mono hc ht (fun pc L st M h => (ih pc L st M).mpr h) (fun _ _ h => h) (g_unfold hc ht h))
/-! calls: by depth -/
def g_ent : List Value → Nat → (List Value → Prop) → Prop
  | [], 0, k => k []
  | [], n + 1, k => g_ent [] n (fun r => k (.null :: r))
  | .long x :: vs, n + 2, k => g_ent vs n (fun r => k (.long x :: .null :: r))
  | .int x :: vs, n + 1, k => g_ent vs n (fun r => k (.int x :: r))
  | .ref x :: vs, n + 1, k => g_ent vs n (fun r => k (.ref x :: r))
  | .retAddr x :: vs, n + 1, k => g_ent vs n (fun r => k (.retAddr x :: r))
  | .null :: vs, n + 1, k => g_ent vs n (fun r => k (.null :: r))
  | _, _, _ => False
theorem g_ent_mono : ∀ (as : List Value) (n : Nat) (k k' : List Value → Prop), (∀ L, k L → k' L) → g_ent as n k → g_ent as n k' := by
  intro as
  induction as with
  | nil =>
    intro n
    induction n with
    | zero => intro k k' h; exact h []
    | succ n ih => intro k k' h; exact ih _ _ (fun r => h _)
  | cons v vs ih =>
    intro n k k' h
    cases v with
    | int x => cases n with
      | zero => exact id
      | succ n => exact ih n _ _ (fun r => h _)
    | ref x => cases n with
      | zero => exact id
      | succ n => exact ih n _ _ (fun r => h _)
    | retAddr x => cases n with
      | zero => exact id
      | succ n => exact ih n _ _ (fun r => h _)
    | long x => match n with
      | 0 => exact id
      | 1 => exact id
      | n + 2 => exact ih n _ _ (fun r => h _)
    | float x => rcases n with _ | _ | n <;> exact id
    | double x => rcases n with _ | _ | n <;> exact id
    | null => cases n with
      | zero => exact id
      | succ n => exact ih n _ _ (fun r => h _)
def g_Cal (mt : Nat → Nat → Option g_Op) (nl : Nat → Nat) : Nat → g_C
  | 0, _, _, _, _ => False
  | d + 1, k, as, M, Q => g_ent as (nl k) (fun L => g_Run (g_Cal mt nl d) (mt k) Q 0 L [] M)
theorem g_Cal_mono {mt : Nat → Nat → Option g_Op} {nl : Nat → Nat} (ht : ∀ k, g_tbm (mt k)) : ∀ d, g_cmono (g_Cal mt nl d) := by
  intro d
  induction d with
  | zero => intro k as M R R' _ h; exact h
  | succ d ih => intro k as M R R' hR h; exact g_ent_mono _ _ _ _ (fun L h => g_Run_mono ih (ht k) hR h) h
theorem g_enter {mt : Nat → Nat → Option g_Op} {nl : Nat → Nat} (ht : ∀ k, g_tbm (mt k)) {d k : Nat} {as : List Value} {M : g_M} {Q : g_R} (n : Nat) {tb : Nat → Option g_Op} {m : Nat} (hb : mt k = tb) (hn : nl k = m) (h : g_ent as m (fun L => g_wp (g_Cal mt nl d) tb Q n 0 L [] M)) : g_Cal mt nl (d + 1) k as M Q := by
  subst hb; subst hn
  exact g_ent_mono _ _ _ _ (fun L h => (g_wp_iff (g_Cal_mono ht d) (ht k) n 0 L [] M).mp h) h
