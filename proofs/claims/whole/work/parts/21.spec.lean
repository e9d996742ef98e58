/-! ===== what both sides hold: one row of Nats ===== -/
def bI (b : Bool) : Int32 := cond b 1 0
theorem b_z {b : Bool} {A B : Prop} (f : b = false → A) (t : b = true → B) : (bI b = 0 → A) ∧ (¬ bI b = 0 → B) := by
  cases b with
  | false => exact ⟨fun _ => f rfl, fun h => absurd rfl h⟩
  | true => exact ⟨fun h => absurd h (by decide), fun _ => t rfl⟩
theorem b_nz {b : Bool} {A B : Prop} (t : b = true → A) (f : b = false → B) : (¬ bI b = 0 → A) ∧ (bI b = 0 → B) := by
  cases b with
  | false => exact ⟨fun h => absurd rfl h, fun _ => f rfl⟩
  | true => exact ⟨fun _ => t rfl, fun h => absurd h (by decide)⟩
theorem bI_nar (b : Bool) : narrow .boolean (.int (bI b)) = .int (bI b) := by cases b <;> decide
theorem bI_01 (b : Bool) : bI b = 0 ∨ bI b = 1 := by cases b <;> simp [bI]
/-- the way between two places: its seconds, 0 if there is none -/
def wyF (a : Nat → Nat) (x y : Nat) : Nat → Nat
  | 0 => 0
  | i + 1 => if (a (56 + 3 * i) = x ∧ a (57 + 3 * i) = y) ∨ (a (56 + 3 * i) = y ∧ a (57 + 3 * i) = x) then a (58 + 3 * i) else wyF a x y i
def wy (a : Nat → Nat) (x y : Nat) : Nat := wyF a x y (a 1)
def dr (a : Nat → Nat) (x y : Nat) : Nat := if x = y then 0 else if wy a x y = 0 then 100000 else wy a x y
def fwS (F : Nat → Nat → Nat) (k : Nat) : Nat → Nat → Nat := fun x y => if F x k + F k y < F x y then F x k + F k y else F x y
def fw (a : Nat → Nat) : Nat → Nat → Nat → Nat
  | 0 => dr a
  | k + 1 => fwS (fw a k) k
def ds (a : Nat → Nat) (x y : Nat) : Nat := fw a 8 x y
def cD (d : Nat) : Int32 := if d < 100000 then nI d else -9
/-- how long a hider walks, how long it runs -/
def pcd (a : Nat → Nat) (h p : Nat) : Nat := ds a p 0 * 10 / (a (99 + 2 * h) + 5)
def rno (a : Nat → Nat) (h p : Nat) : Nat := max 1 ((if a (16 + 5 * p) = 6 then 5 else 0) + pcd a h p)
/-- the state is as it must be -/
def V1 (a : Nat → Nat) : Prop := 1 ≤ a 0 ∧ a 0 ≤ 8 ∧ a 1 ≤ 14 ∧ a 2 ≤ 8 ∧ (∀ k, a k < 65536) ∧
  (∀ p, p < a 0 → a (16 + 5 * p) ≤ 8 ∧ a (17 + 5 * p) ≤ 9 ∧ a (18 + 5 * p) ≤ 99 ∧ a (19 + 5 * p) ≤ 99 ∧ a (20 + 5 * p) < 2 ^ (a 0) ∧ (a (20 + 5 * p)).testBit p = true) ∧ a 16 = 8 ∧ a 17 = 0 ∧ a 18 = 0 ∧ a 19 = 0 ∧
  (∀ h, h < a 2 → 2 ≤ a (98 + 2 * h) ∧ a (98 + 2 * h) ≤ 15 ∧ 1 ≤ a (99 + 2 * h) ∧ a (99 + 2 * h) ≤ 9) ∧
  (∀ i, i < a 1 → a (56 + 3 * i) < a 0 ∧ a (57 + 3 * i) < a 0 ∧ a (56 + 3 * i) ≠ a (57 + 3 * i) ∧ 1 ≤ a (58 + 3 * i) ∧ a (58 + 3 * i) ≤ 60)
def V2 (a : Nat → Nat) : Prop := 1 ≤ a 9 ∧ a 9 ≤ 99 ∧ a 10 ≤ 50 ∧ a 11 ≤ 60 ∧ a 12 ≤ 4 ∧ a 13 ≤ 1 ∧ 10 ≤ a 14 ∧ a 14 ≤ 900 ∧ a 15 ≤ 9 ∧ a 3 ≤ 8 ∧ (∀ i, i < a 3 → 1 ≤ a (114 + i) ∧ a (114 + i) < a 0)
def V3 (n : Nat) (a : Nat → Nat) : Prop := a 8 ≤ n ∧ a 4 = (if a 8 = 0 then 0 else 1) ∧ a 5 ≤ a 2 ∧ a 6 ≤ 8
def VV (n : Nat) (a : Nat → Nat) : Prop := V1 a ∧ V2 a ∧ V3 n a
/-- the component's garden at g, its told at t, its round at r, its world at w; the reference's row at s -/
def GX1 (M : g_M) (g : Nat) (a : Nat → Nat) : Prop := M g 0 = nI (a 0) ∧ M g 1 = nI (a 1) ∧ M g 2 = nI (a 2) ∧
  (∀ p, p < a 0 → M (g + 1) p = nI (a (16 + 5 * p)) ∧ M (g + 2) p = nI (a (17 + 5 * p)) ∧ M (g + 3) p = nI (a (18 + 5 * p)) ∧ M (g + 4) p = nI (a (19 + 5 * p)) ∧ M (g + 5) p = nI (a (20 + 5 * p))) ∧
  (∀ h, h < a 2 → M (g + 6) h = nI (a (98 + 2 * h)) ∧ M (g + 7) h = nI (a (99 + 2 * h))) ∧
  (∀ x y, x < 8 → y < 8 → M (g + 8) (x * 8 + y) = nI (wy a x y))
def GX2 (M : g_M) (g : Nat) (a : Nat → Nat) : Prop := (∀ x y, x < 8 → y < 8 → M (g + 9) (x * 8 + y) = cD (ds a x y)) ∧
  (∀ h p, h < a 2 → p < a 0 → M (g + 10) (h * 8 + p) = (if ds a p 0 < 100000 then nI (pcd a h p) else -9) ∧ M (g + 11) (h * 8 + p) = (if ds a p 0 < 100000 then nI (rno a h p) else -9))
def TX (M : g_M) (t : Nat) (a : Nat → Nat) : Prop := (∀ k, k < 7 → M (t + 1) k = nI (a (9 + k))) ∧ M t 2 = nI (a 3) ∧ (∀ i, i < a 3 → M (t + 2) i = nI (a (114 + i)))
def LX (M : g_M) (r : Nat) (a : Nat → Nat) : Prop := M r 5 = nI (a 5) ∧ M r 6 = nI (a 6) ∧ (∀ h, h < a 5 → M (r + 1) h = nI (a (122 + 3 * h)) ∧ M (r + 2) h = nI (a (123 + 3 * h)) ∧ M (r + 3) h = nI (a (124 + 3 * h))) ∧ (∀ i, i < a 6 → M (r + 4) i = nI (a (146 + i)))
def RX (M : g_M) (w : Nat) (a : Nat → Nat) : Prop := GX1 M (w + 1) a ∧ GX2 M (w + 1) a ∧ TX M (w + 13) a ∧ LX M (w + 16) a ∧ M w 3 = nI (a 8)
def RM (M : g_M) (s : Nat) (a : Nat → Nat) : Prop := ∀ k, k < 154 → M s k = nI (a k)
/-- tape, row, refusals, image or not -/
def OX (M : g_M) : Prop := (∃ n, n ≤ 64 ∧ M 67 2 = nI n ∧ M 82 7 = nI n ∧ ∀ i, i < n → ∃ c, c < 256 ∧ M 68 i = nI c ∧ M 87 i = nI c) ∧ (∃ n, n ≤ 8 ∧ M 0 13 = nI n ∧ M 82 37 = nI n ∧ ∀ i, i < n → M 80 i = M 106 i) ∧ (∀ i, i < 7 → M 81 i = M 83 i) ∧ M 0 14 = M 82 4 ∧ (M 0 14 = 0 ∨ M 0 14 = 1)
def Inv (n : Nat) (M : g_M) : Prop := ∃ a, VV n a ∧ RX M 1 a ∧ RM M 84 a ∧ OX M ∧ (M 0 14 = 1 → ∃ b, VV n b ∧ RX M 23 b ∧ RM M 85 b)
/-- one call of both -/
def g_pair (d kx km : Nat) (as : List Value) (M : g_M) (P : g_M → Prop) : Prop := g_cal d kx (.ref 0 :: as) M (fun v M1 => ∃ r, v = some (.int r) ∧ g_cal d km (.ref 82 :: as) M1 (fun v2 M2 => v2 = some (.int r) ∧ P M2))
theorem RX.fr {M M' : g_M} {w : Nat} {a : Nat → Nat} (h : RX M w a) (e : ∀ c, w ≤ c → c ≤ w + 20 → M' c = M c) : RX M' w a := by
  have e1 : ∀ c, c ≤ 20 → M' (w + c) = M (w + c) := fun c hc => e (w + c) (by omega) (by omega)
  have e0 := e1 0 (by omega)
  rw [Nat.add_zero] at e0
  unfold RX GX1 GX2 TX LX at h ⊢
  simp only [Nat.add_assoc] at h ⊢
  simp only [e0, e1 _ (by decide : 1 ≤ 20), e1 _ (by decide : 2 ≤ 20), e1 _ (by decide : 3 ≤ 20), e1 _ (by decide : 4 ≤ 20), e1 _ (by decide : 5 ≤ 20), e1 _ (by decide : 6 ≤ 20), e1 _ (by decide : 7 ≤ 20), e1 _ (by decide : 8 ≤ 20), e1 _ (by decide : 9 ≤ 20), e1 _ (by decide : 10 ≤ 20), e1 _ (by decide : 11 ≤ 20), e1 _ (by decide : 12 ≤ 20), e1 _ (by decide : 13 ≤ 20), e1 _ (by decide : 14 ≤ 20), e1 _ (by decide : 15 ≤ 20), e1 _ (by decide : 16 ≤ 20), e1 _ (by decide : 17 ≤ 20), e1 _ (by decide : 18 ≤ 20), e1 _ (by decide : 19 ≤ 20), e1 _ (by decide : 20 ≤ 20)] at h ⊢
  exact h
theorem RM.fr {M M' : g_M} {s : Nat} {a : Nat → Nat} (h : RM M s a) (e : M' s = M s) : RM M' s a := fun k hk => by rw [e]; exact h k hk
