/-! ===== seconds at which nothing happens ===== -/
def SQ (a : Nat → Nat) (t : Nat) (r : RS) : Prop := ∀ h, h < a 2 → r.ho h = 3 → ¬ rno a h (r.wh h) + a 11 < bck a t r
theorem bck_run (a : Nat → Nat) (t u b : Nat) (r : RS) : bck a t (runA a u b r) = bck a t r := rfl
theorem sq_sec (a : Nat → Nat) (t : Nat) (r : RS) : SQ a t (sec a t r) := by
  unfold sec
  generalize goA a t (homeA a t (lookA a t r)) = s
  intro h hh h3
  rw [bck_run]
  have hf : (runA a t (bck a t s) s).ho h = if runB a (bck a t s) s h = true then 4 else s.ho h := rfl
  rw [hf] at h3
  by_cases e : runB a (bck a t s) s h = true
  · rw [if_pos e] at h3; omega
  · rw [if_neg e] at h3
    intro w
    exact e (decide_eq_true ⟨hh, h3, w⟩)
theorem qt {a : Nat → Nat} {t u : Nat} {r : RS} (htu : t ≤ u) (hs : SQ a t r) (h1 : r.wk = true → u < r.mo) (h2 : r.wk = false → u < r.mo) (h3 : ∀ h, h < a 2 → r.ho h = 4 → r.cm h ≠ u) : sec a u r = r := by
  have l1 : lookA a u r = r := by
    unfold lookA
    rw [if_neg]
    intro w
    have := h1 w.1
    omega
  have l2 : homeA a u r = r := by
    unfold homeA
    exact g_it_J (fun _ s => s = r) _ (a 2) (fun i s hi hs => by
      subst hs
      unfold homeH
      rw [if_neg (fun w => h3 i hi w.1 w.2)]) (a 2) 0 r (by omega) rfl
  have l3 : goA a u r = r := by
    unfold goA
    rw [if_neg]
    intro w
    have := h2 w.1
    omega
  unfold sec
  rw [l1, l2, l3]
  have hb : bck a u r ≤ bck a t r := by unfold bck; split <;> omega
  have hn : ∀ h, ¬ runB a (bck a u r) r h = true := by
    intro h w
    obtain ⟨w1, w2, w3⟩ := of_decide_eq_true w
    exact hs h w1 w2 (by omega)
  unfold runA
  have e1 : (fun h => if runB a (bck a u r) r h = true then 4 else r.ho h) = r.ho := by funext h; rw [if_neg (hn h)]
  have e2 : (fun h => if runB a (bck a u r) r h = true then u + rno a h (r.wh h) else r.cm h) = r.cm := by funext h; rw [if_neg (hn h)]
  rw [e1, e2]
  rfl
theorem rnn_jump {a : Nat → Nat} : ∀ (m k t : Nat) (r : RS), outB a r = false → m + 1 ≤ k → (∀ u, t < u → u ≤ t + m → sec a u r = r) → rnn a k t r = rnn a (k - m - 1) (t + m + 1) (sec a (t + m + 1) r)
  | 0, k, t, r, ho, hk, _ => by
    obtain ⟨j, rfl⟩ : ∃ j, k = j + 1 := ⟨k - 1, by omega⟩
    rw [rnn, if_neg (by rw [ho]; decide)]
    rfl
  | m + 1, k, t, r, ho, hk, hq => by
    obtain ⟨j, rfl⟩ : ∃ j, k = j + 1 := ⟨k - 1, by omega⟩
    rw [rnn, if_neg (by rw [ho]; decide), hq (t + 1) (by omega) (by omega)]
    rw [rnn_jump m j (t + 1) r ho (by omega) (fun u h1 h2 => hq u (by omega) (by omega))]
    rw [show j + 1 - (m + 1) - 1 = j - m - 1 by omega, show t + 1 + m + 1 = t + (m + 1) + 1 by omega]
theorem rnn_out {a : Nat → Nat} {k t : Nat} {r : RS} (h : k = 0 ∨ outB a r = true) : rnn a k t r = (t, r) := by
  cases k with
  | zero => rfl
  | succ k =>
    rcases h with h | h
    · cases h
    · rw [rnn, if_pos h]
/-- the invariant goes over quiet seconds -/
theorem RI.go {a : Nat → Nat} {t u : Nat} {r : RS} (I : RI a t r) (h : u ≤ r.mo) : RI a u r := by
  obtain ⟨i1, i2, i3, i4, i5, i6, i7, i8, i9⟩ := I
  exact ⟨i1, i2, i3, i4, i5, fun z => ⟨(i6 z).1, (i6 z).2.1, h, (i6 z).2.2.2⟩, fun z => ⟨h, (i7 z).2⟩, i8, i9⟩
/-- how it ended -/
theorem plyR_ri {a : Nat → Nat} (v : V1 a) (v2 : V2 a) : ∀ k t r, t + k = a 14 → RI a (t + 1) r → RI a ((rnn a k t r).1 + 1) (rnn a k t r).2 ∧ (rnn a k t r).1 ≤ a 14
  | 0, t, r, h, I => ⟨I, by show t ≤ a 14; omega⟩
  | k + 1, t, r, h, I => by
    rw [rnn]
    have b : a 14 ≤ 900 := v2.2.2.2.2.2.2.2.1
    split
    · exact ⟨I, by show t ≤ a 14; omega⟩
    · exact plyR_ri v v2 k (t + 1) _ (by omega) (ri_sec v v2 (by omega) I)
