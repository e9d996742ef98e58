/-! ===== bits; more calls that only look ===== -/
theorem sh31 : ∀ i, i < 32 → ((nI i &&& 31).toBitVec.smod 32).toNat = i := by decide +kernel
theorem n_shr {b i : Nat} (hb : b < 2 ^ 31) (hi : i < 32) : nI b >>> (nI i &&& 31) = nI (b / 2 ^ i) := pk_shrN hb _ i (sh31 i hi)
theorem n_shl {i : Nat} (hi : i < 32) : nI 1 <<< (nI i &&& 31) = nI (2 ^ i) := by
  have h : 2 ^ i < 2 ^ 32 := Nat.pow_lt_pow_right (by decide) hi
  rw [pk_shlN _ i (sh31 i hi) (by omega), Nat.one_mul]
theorem n_or (a b : Nat) : nI a ||| nI b = nI (a ||| b) := by
  apply Int32.toBitVec_inj.mp
  show BitVec.ofNat 32 a ||| BitVec.ofNat 32 b = BitVec.ofNat 32 (a ||| b)
  rw [BitVec.ofNat_or]
theorem n_and (a b : Nat) : nI a &&& nI b = nI (a &&& b) := by
  apply Int32.toBitVec_inj.mp
  show BitVec.ofNat 32 a &&& BitVec.ofNat 32 b = BitVec.ofNat 32 (a &&& b)
  rw [BitVec.ofNat_and]
theorem n_bit {b i : Nat} (hb : b < 2 ^ 31) (hi : i < 32) : (nI b >>> (nI i &&& 31)) &&& 1 = bI (b.testBit i) := by
  rw [n_shr hb hi, pk_andN (k := 1) (by have := Nat.div_le_self b (2 ^ i); omega) (by decide), Nat.testBit_eq_decide_div_mod_eq]
  have : b / 2 ^ i % 2 ^ 1 = 0 ∨ b / 2 ^ i % 2 ^ 1 = 1 := by omega
  rcases this with h | h
  · rw [h]; rfl
  · rw [h]; rfl
/-- a branch on a bit against 1 -/
theorem b_b1 {b : Bool} {A B : Prop} (f : b = false → A) (t : b = true → B) : (¬ bI b = 1 → A) ∧ (bI b = 1 → B) := by
  cases b with
  | false => exact ⟨fun _ => f rfl, fun h => absurd h (by decide)⟩
  | true => exact ⟨fun h => absurd rfl h, fun _ => t rfl⟩
theorem x_hasBit {d : Nat} {M : g_M} {x y : Int32} {Q : g_R} (hd : 1 ≤ d) (b i : Nat) (hx : x = nI b) (hy : y = nI i) (hb : b < 2 ^ 31) (hi : i < 32) (h : Q (some (.int (bI (b.testBit i)))) M) : g_cal d k_X9_hasBit [.int x, .int y] M Q := by
  subst hx; subst hy
  refine g_m hd 40 (fun e he => ?_)
  show ((¬ (nI b >>> (nI i &&& 31)) &&& 1 = 1) → _) ∧ _
  rw [n_bit hb hi]
  refine b_b1 (fun z => ?_) (fun z => ?_)
  · rw [z] at h; exact ⟨rfl, h⟩
  · rw [z] at h; exact ⟨rfl, h⟩
theorem m_seesOne {d : Nat} {M : g_M} {x y : Int32} {Q : g_R} (hd : 2 ≤ d) (j i v : Nat) (hx : x = nI j) (hy : y = nI i) (hj : j < 8) (hi : i < 32) (hv : M 84 (16 + 5 * j + 4) = nI v) (hb : v < 2 ^ 31) (h : Q (some (.int (bI (v.testBit i)))) M) : g_cal d k_X10_seesOne [.ref 82, .int x, .int y] M Q := by
  subst hx; subst hy
  refine g_m (by omega) 40 (fun e he => ?_)
  refine m_get (by omega) j 4 rfl rfl hj (by decide) ?_
  rw [hv]
  show ((¬ (nI v >>> (nI i &&& 31)) &&& 1 = 1) → _) ∧ _
  rw [n_bit hb hi]
  refine b_b1 (fun z => ?_) (fun z => ?_)
  · rw [z] at h; exact ⟨rfl, h⟩
  · rw [z] at h; exact ⟨rfl, h⟩
theorem p_sees {d n : Nat} {M : g_M} {p w : Int32} (hd : 5 ≤ d) (I : Inv n M) : g_pair d k_X9_sees k_X10_sees [.int p, .int w] M (Inv (n + 1)) := by
  have I0 := I
  obtain ⟨a, ⟨⟨v1, v2, v3, v4, v5, v6, -⟩, -⟩, ⟨⟨x1, x2, x3, x4, -⟩, -⟩, hM, -⟩ := I
  have m0 := hM 0 (by decide)
  refine g_m (by omega) 60 (fun e he => ?_)
  refine x_isPlace (by omega) ?_
  rw [x1]
  have bad : inB p (nI (a 0)) = false ∨ (inB p (nI (a 0)) = true ∧ inB w (nI (a 0)) = false) → g_cal d k_X10_sees [.ref 82, .int p, .int w] (g_ms M 81 (upd (M 81) 1 (M 81 1 + 1))) (fun v2 M2 => v2 = some (.int (-1)) ∧ Inv (n + 1) M2) := by
    intro hb
    refine g_m (by omega) 60 (fun e he => ?_)
    refine m_isPlace (by omega) ?_
    rw [g_ms_n (by decide : (84 : Nat) ≠ 81), m0]
    rcases hb with hp | ⟨hp, hw⟩
    · rw [hp]
      exact b_t rfl (m_refuse (by omega) 1 (by decide) (by decide) (e_ref I0 (by decide)))
    · rw [hp]
      refine b_f (by decide) (m_isPlace (by omega) ?_)
      rw [g_ms_n (by decide : (84 : Nat) ≠ 81), m0, hw]
      exact b_nf rfl (m_refuse (by omega) 1 (by decide) (by decide) (e_ref I0 (by decide)))
  rcases inB_cases p (show a 0 < 2 ^ 31 by omega) with hp | ⟨j, hj, rfl, hp⟩
  · rw [hp]
    exact b_t rfl (x_refuse (by omega) 1 (by decide) (by decide) ⟨_, rfl, bad (Or.inl hp)⟩)
  · rw [hp]
    refine b_f (by decide) (x_isPlace (by omega) ?_)
    rw [x1]
    rcases inB_cases w (show a 0 < 2 ^ 31 by omega) with hw | ⟨i, hi, rfl, hw⟩
    · rw [hw]
      exact b_nf rfl (x_refuse (by omega) 1 (by decide) (by decide) ⟨_, rfl, bad (Or.inr ⟨hp, hw⟩)⟩)
    · rw [hw]
      obtain ⟨y1, y2, y3, y4, y5⟩ := x4 j hj
      have hvb := v5 (20 + 5 * j)
      refine b_nt (by decide) ⟨j, rfl, by omega, x_hasBit (by omega) (a (20 + 5 * j)) i y5 rfl (by omega) (by omega) ?_⟩
      have md : ∀ b, (a (20 + 5 * j)).testBit i = b → g_cal d k_X10_sees [.ref 82, .int (nI j), .int (nI i)] M (fun v2 M2 => v2 = some (.int (bI b)) ∧ Inv (n + 1) M2) := by
        intro b hb
        refine g_m (by omega) 60 (fun e he => ?_)
        refine m_isPlace (by omega) ?_
        rw [m0, hp]
        refine b_f (by decide) (m_isPlace (by omega) ?_)
        rw [m0, hw]
        refine b_nt (by decide) (m_seesOne (by omega) j i (a (20 + 5 * j)) rfl rfl (by omega) (by omega) (by rw [hM _ (by omega)]; congr 2; omega) (by omega) ?_)
        rw [hb]
        exact b_z (fun z => by subst z; exact ⟨rfl, I0.up⟩) (fun z => by subst z; exact ⟨rfl, I0.up⟩)
      exact b_z (fun z => ⟨_, rfl, md false z⟩) (fun z => ⟨_, rfl, md true z⟩)
theorem p_hider {d n : Nat} {M : g_M} {p w : Int32} (hd : 5 ≤ d) (I : Inv n M) : g_pair d k_X9_hider k_X10_hider [.int p, .int w] M (Inv (n + 1)) := by
  have I0 := I
  obtain ⟨a, ⟨⟨v1, v2, v3, v4, v5, v6, -⟩, -⟩, ⟨⟨x1, x2, x3, x4, x5, -⟩, -⟩, hM, -⟩ := I
  have m0 := hM 2 (by decide)
  refine g_m (by omega) 60 (fun e he => ?_)
  refine x_isHider (by omega) ?_
  rw [x3]
  rcases inB_cases p (show a 2 < 2 ^ 31 by omega) with hp | ⟨j, hj, rfl, hp⟩
  · rw [hp]
    refine b_nf rfl (x_refuse (by omega) 1 (by decide) (by decide) ⟨_, rfl, ?_⟩)
    refine g_m (by omega) 60 (fun e he => ?_)
    refine m_isHider (by omega) ?_
    rw [g_ms_n (by decide : (84 : Nat) ≠ 81), m0, hp]
    exact b_nf rfl (m_refuse (by omega) 1 (by decide) (by decide) (e_ref I0 (by decide)))
  · rw [hp]
    obtain ⟨y1, y2⟩ := x5 j hj
    have mr : ∀ (r : Int32) (i : Nat), i < 2 → w = nI i → M 84 (98 + 2 * j + i) = r → g_cal d k_X10_hider [.ref 82, .int (nI j), .int w] M (fun v2 M2 => v2 = some (.int r) ∧ Inv (n + 1) M2) := by
      intro r i hi hw hr
      refine g_m (by omega) 60 (fun e he => ?_)
      refine m_isHider (by omega) ?_
      rw [m0, hp]
      refine b_nt (by decide) (m_isIn (by omega) ?_)
      rw [hw, show (2 : Int32) = nI 2 from rfl, inB_in hi (by decide)]
      exact b_f (by decide) ⟨98 + 2 * j + i, ia (ia rfl (im rfl rfl)) rfl, by omega, by rw [hr], I0.up⟩
    refine b_nt (by decide) ⟨fun h => ?_, fun h0 => ⟨fun h => ?_, fun h1 => ?_⟩⟩
    · exact ⟨j, rfl, by omega, _, rfl, mr _ 0 (by decide) h (by rw [y1]; exact hM _ (by omega))⟩
    · exact ⟨j, rfl, by omega, _, rfl, mr _ 1 (by decide) h (by rw [y2, hM _ (by omega)]; congr 2; omega)⟩
    · refine x_refuse (by omega) 2 (by decide) (by decide) ⟨_, rfl, ?_⟩
      refine g_m (by omega) 60 (fun e he => ?_)
      refine m_isHider (by omega) ?_
      rw [g_ms_n (by decide : (84 : Nat) ≠ 81), m0, hp]
      refine b_nt (by decide) (m_isIn (by omega) ?_)
      have hw : inB w 2 = false := by
        rcases inB_cases w (show 2 < 2 ^ 31 by decide) with z | ⟨i, hi, rfl, -⟩
        · exact z
        · match i, hi with
          | 0, _ => exact absurd rfl h0
          | 1, _ => exact absurd rfl h1
      rw [hw]
      exact b_t rfl (m_refuse (by omega) 2 (by decide) (by decide) (e_ref I0 (by decide)))
