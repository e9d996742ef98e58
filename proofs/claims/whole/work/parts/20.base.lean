/-! ===== numbers, loops ===== -/
theorem ia {x y : Int32} {a b : Nat} (hx : x = nI a) (hy : y = nI b) : x + y = nI (a + b) := by rw [hx, hy, nI_add]
theorem im {x y : Int32} {a b : Nat} (hx : x = nI a) (hy : y = nI b) : x * y = nI (a * b) := by rw [hx, hy, pk_mul]
theorem is {x y : Int32} {a b : Nat} (h : b ≤ a) (hx : x = nI a) (hy : y = nI b) : x - y = nI (a - b) := by rw [hx, hy, pk_sub h]
theorem idv {x y : Int32} {a b : Nat} (ha : a < 2 ^ 31) (h0 : 0 < b) (hb : b < 2 ^ 31) (hx : x = nI a) (hy : y = nI b) : x / y = nI (a / b) := by rw [hx, hy, pk_div ha h0 hb]
theorem irm {x y : Int32} {a b : Nat} (ha : a < 2 ^ 31) (h0 : 0 < b) (hb : b < 2 ^ 31) (hx : x = nI a) (hy : y = nI b) : x - x / y * y = nI (a % b) := by rw [hx, hy, pk_rem ha h0 hb]
theorem ile {x y : Int32} {a b : Nat} (hx : x = nI a) (hy : y = nI b) (ha : a < 2 ^ 31) (hb : b < 2 ^ 31) : x ≤ y ↔ a ≤ b := by rw [hx, hy, nI_leI ha hb]
theorem ilt {x y : Int32} {a b : Nat} (hx : x = nI a) (hy : y = nI b) (ha : a < 2 ^ 31) (hb : b < 2 ^ 31) : x < y ↔ a < b := by rw [hx, hy, nI_ltI ha hb]
theorem ieq {x y : Int32} {a b : Nat} (hx : x = nI a) (hy : y = nI b) (ha : a < 2 ^ 31) (hb : b < 2 ^ 31) : x = y ↔ a = b := by rw [hx, hy, nI_eq ha hb]
/-- branches on numbers that are Nats -/
theorem b_ge {x y : Int32} {a b : Nat} {A B : Prop} (hx : x = nI a) (hy : y = nI b) (ha : a < 2 ^ 31) (hb : b < 2 ^ 31) (t : b ≤ a → A) (f : a < b → B) : (y ≤ x → A) ∧ (¬ y ≤ x → B) :=
  ⟨fun h => t ((ile hy hx hb ha).mp h), fun h => f (Nat.not_le.mp (fun z => h ((ile hy hx hb ha).mpr z)))⟩
theorem b_le {x y : Int32} {a b : Nat} {A B : Prop} (hx : x = nI a) (hy : y = nI b) (ha : a < 2 ^ 31) (hb : b < 2 ^ 31) (t : a ≤ b → A) (f : b < a → B) : (x ≤ y → A) ∧ (¬ x ≤ y → B) := b_ge hy hx hb ha t f
theorem b_lt {x y : Int32} {a b : Nat} {A B : Prop} (hx : x = nI a) (hy : y = nI b) (ha : a < 2 ^ 31) (hb : b < 2 ^ 31) (t : a < b → A) (f : b ≤ a → B) : (x < y → A) ∧ (¬ x < y → B) :=
  ⟨fun h => t ((ilt hx hy ha hb).mp h), fun h => f (Nat.not_lt.mp (fun z => h ((ilt hx hy ha hb).mpr z)))⟩
theorem b_gt {x y : Int32} {a b : Nat} {A B : Prop} (hx : x = nI a) (hy : y = nI b) (ha : a < 2 ^ 31) (hb : b < 2 ^ 31) (t : b < a → A) (f : a ≤ b → B) : (y < x → A) ∧ (¬ y < x → B) := b_lt hy hx hb ha t f
theorem b_eq {x y : Int32} {a b : Nat} {A B : Prop} (hx : x = nI a) (hy : y = nI b) (ha : a < 2 ^ 31) (hb : b < 2 ^ 31) (t : a = b → A) (f : a ≠ b → B) : (x = y → A) ∧ (¬ x = y → B) :=
  ⟨fun h => t ((ieq hx hy ha hb).mp h), fun h => f (fun z => h ((ieq hx hy ha hb).mpr z))⟩
theorem b_ne {x y : Int32} {a b : Nat} {A B : Prop} (hx : x = nI a) (hy : y = nI b) (ha : a < 2 ^ 31) (hb : b < 2 ^ 31) (t : a ≠ b → A) (f : a = b → B) : (¬ x = y → A) ∧ (x = y → B) :=
  ⟨fun h => t (fun z => h ((ieq hx hy ha hb).mpr z)), fun h => f ((ieq hx hy ha hb).mp h)⟩
/-- a known branch -/
theorem b_t {c A B : Prop} (h : c) (a : A) : (c → A) ∧ (¬ c → B) := ⟨fun _ => a, fun z => absurd h z⟩
theorem b_f {c A B : Prop} (h : ¬ c) (b : B) : (c → A) ∧ (¬ c → B) := ⟨fun z => absurd z h, fun _ => b⟩
theorem b_nt {c A B : Prop} (h : ¬ c) (a : A) : (¬ c → A) ∧ (c → B) := ⟨fun _ => a, fun z => absurd z h⟩
theorem b_nf {c A B : Prop} (h : c) (b : B) : (¬ c → A) ∧ (c → B) := ⟨fun z => absurd h z, fun _ => b⟩
def g_it {S : Type} (F : Nat → S → S) : Nat → Nat → S → S
  | 0, _, s => s
  | k + 1, i, s => g_it F k (i + 1) (F i s)
theorem g_loop {S : Type} (R : Nat → S → Prop) (J : Nat → S → Prop) (F : Nat → S → S) (n : Nat) (hs : ∀ i s, i < n → J i s → R (i + 1) (F i s) → R i s) (hJ : ∀ i s, i < n → J i s → J (i + 1) (F i s)) : ∀ k i s, i + k = n → J i s → (J n (g_it F k i s) → R n (g_it F k i s)) → R i s := by
  intro k
  induction k with
  | zero =>
    intro i s h j r
    have e : i = n := by omega
    subst e
    exact r j
  | succ k ih =>
    intro i s h j r
    exact hs i s (by omega) j (ih (i + 1) (F i s) (by omega) (hJ i s (by omega) j) r)
theorem g_it_J {S : Type} (J : Nat → S → Prop) (F : Nat → S → S) (n : Nat) (hJ : ∀ i s, i < n → J i s → J (i + 1) (F i s)) : ∀ k i s, i + k = n → J i s → J n (g_it F k i s) := by
  intro k
  induction k with
  | zero =>
    intro i s h j
    have e : i = n := by omega
    subst e
    exact j
  | succ k ih => intro i s h j; exact ih (i + 1) (F i s) (by omega) (hJ i s (by omega) j)
theorem g_it_congr {S : Type} {F G : Nat → S → S} (J : Nat → S → Prop) {n : Nat} (h : ∀ i s, i < n → J i s → F i s = G i s) (hJ : ∀ i s, i < n → J i s → J (i + 1) (F i s)) : ∀ k i s, i + k = n → J i s → g_it F k i s = g_it G k i s := by
  intro k
  induction k with
  | zero => intro i s _ _; rfl
  | succ k ih =>
    intro i s e j
    show g_it F k (i + 1) (F i s) = g_it G k (i + 1) (G i s)
    rw [← h i s (by omega) j]
    exact ih (i + 1) (F i s) (by omega) (hJ i s (by omega) j)
theorem g_it_succ {S : Type} (F : Nat → S → S) : ∀ k i s, g_it F (k + 1) i s = F (i + k) (g_it F k i s) := by
  intro k
  induction k with
  | zero => intro i s; rfl
  | succ k ih =>
    intro i s
    show g_it F (k + 1) (i + 1) (F i s) = _
    rw [ih (i + 1) (F i s), show i + 1 + k = i + (k + 1) by omega]
    rfl
theorem g_ms_s (M : g_M) (a : Nat) (f : Nat → Int32) : g_ms M a f a = f := by simp [g_ms]
theorem g_ms_n {M : g_M} {a c : Nat} {f : Nat → Int32} (h : c ≠ a) : g_ms M a f c = M c := by simp [g_ms, h]
theorem g_ms_ms (M : g_M) (a : Nat) (f g : Nat → Int32) : g_ms (g_ms M a f) a g = g_ms M a g := by
  funext c
  unfold g_ms
  by_cases h : c = a <;> simp [h]
theorem g_ms_self (M : g_M) (a : Nat) : g_ms M a (M a) = M := by
  funext c
  unfold g_ms
  by_cases h : c = a <;> simp [h]
theorem g_ms_comm {M : g_M} {a b : Nat} {f g : Nat → Int32} (h : a ≠ b) : g_ms (g_ms M a f) b g = g_ms (g_ms M b g) a f := by
  funext c
  unfold g_ms
  by_cases h1 : c = a
  · by_cases h2 : c = b
    · exact absurd (h1.symm.trans h2) h
    · simp [h1, h]
  · by_cases h2 : c = b
    · subst h2
      simp [Ne.symm h]
    · simp [h1, h2]
theorem g_stop_ {d k n pc : Nat} {Q : g_R} {L st : List Value} {M : g_M} (h : g_Run (g_cal d) (g_mt S0 k) Q pc L st M) : g_wp (g_cal d) (g_mt S0 k) Q n pc L st M := (g_wp_iff (g_cm_ d) (g_tbm_ k) n pc L st M).mpr h
theorem g_go_ {d k pc : Nat} {Q : g_R} {L st : List Value} {M : g_M} (n : Nat) (h : g_wp (g_cal d) (g_mt S0 k) Q n pc L st M) : g_Run (g_cal d) (g_mt S0 k) Q pc L st M := (g_wp_iff (g_cm_ d) (g_tbm_ k) n pc L st M).mp h
theorem g_call_ {d k : Nat} {as : List Value} {M : g_M} {Q Q' : g_R} (h : g_cal d k as M Q') (hq : ∀ v N, Q' v N → Q v N) : g_cal d k as M Q := g_cm_ d k as M Q' Q hq h
/-- a method's contract, at any depth that is enough -/
theorem g_m {d k : Nat} {as : List Value} {M : g_M} {Q : g_R} (hd : 1 ≤ d) (n : Nat) (h : ∀ e, d = e + 1 → g_ent as (g_nl k) (fun L => g_wp (g_cal e) (g_mt S0 k) Q n 0 L [] M)) : g_cal d k as M Q := by
  obtain ⟨e, rfl⟩ : ∃ e, d = e + 1 := ⟨d - 1, by omega⟩
  exact g_in_ n rfl rfl (h e rfl)
/-- the run stands at a place whose run is known -/
theorem g_to {d k pc : Nat} {Q : g_R} {L st : List Value} {M : g_M} {G : Prop} (h : g_Run (g_cal d) (g_mt S0 k) Q pc L st M) (n : Nat) (e : g_wp (g_cal d) (g_mt S0 k) Q n pc L st M = G) : G := e ▸ g_stop_ h
def sw_look : List (Int32 × Nat) → Nat → Int32 → Nat
  | [], d, _ => d
  | (c, t) :: r, d, x => if x = c then t else sw_look r d x
theorem g_sw_of {d : Nat} {x : Int32} {k : Nat → Prop} : ∀ {ps : List (Int32 × Nat)} (t : Nat), sw_look ps d x = t → k t → g_sw ps d x k
  | [], t, h, hk => by rw [show d = t from h]; exact hk
  | (c, t0) :: r, t, h, hk => by
    refine ⟨fun z => ?_, fun z => ?_⟩
    · rw [sw_look, if_pos z] at h; rw [h]; exact hk
    · rw [sw_look, if_neg z] at h; exact g_sw_of t h hk
