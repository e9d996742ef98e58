/-! ===== what holds all the time in a round ===== -/
theorem cnt_one {f g : Nat → Bool} {k : Nat} : ∀ {n : Nat}, (∀ i, i < n → i ≠ k → g i = true → f i = true) → cnt g n ≤ cnt f n + 1
  | 0, _ => by unfold cnt; omega
  | n + 1, h => by
    unfold cnt
    by_cases e : n = k
    · subst e
      have := cnt_mono (f := g) (g := f) (n := n) (fun i hi z => h i (by omega) (by omega) z)
      split <;> omega
    · have := cnt_one (k := k) (n := n) (fun i hi => h i (by omega))
      by_cases z : g n = true
      · rw [if_pos z, if_pos (h n (by omega) e z)]; omega
      · rw [if_neg z]; omega
def cntF (f : Nat → Bool) : Nat → Nat → Nat
  | 0, _ => 0
  | k + 1, p => (if f p = true then 1 else 0) + cntF f k (p + 1)
theorem cntF_it (f : Nat → Bool) : ∀ k p s, g_it (fun p s => s + if f p = true then 1 else 0) k p s = s + cntF f k p
  | 0, p, s => rfl
  | k + 1, p, s => by
    show g_it _ k (p + 1) (s + if f p = true then 1 else 0) = s + ((if f p = true then 1 else 0) + cntF f k (p + 1))
    rw [cntF_it f k (p + 1)]
    omega
theorem mny_eq (a : Nat → Nat) (h : Nat) (r : RS) : mny a h r = cntF (mayB a h r) (a 0 - 1) 1 := by unfold mny; rw [cntF_it]; omega
theorem cntF_le (f : Nat → Bool) : ∀ k p, cntF f k p ≤ k
  | 0, _ => Nat.le_refl _
  | k + 1, p => by unfold cntF; have := cntF_le f k (p + 1); split <;> omega
theorem nthF_ok (f : Nat → Bool) : ∀ k p l, l < cntF f k p → p ≤ nthF f k p l ∧ nthF f k p l < p + k ∧ f (nthF f k p l) = true
  | 0, p, l, h => by unfold cntF at h; omega
  | k + 1, p, l, h => by
    unfold cntF at h
    unfold nthF
    by_cases z : f p = true
    · rw [if_pos z] at h ⊢
      by_cases z2 : l = 0
      · rw [if_pos z2]; exact ⟨Nat.le_refl _, by omega, z⟩
      · rw [if_neg z2]
        have := nthF_ok f k (p + 1) (l - 1) (by omega)
        exact ⟨by omega, by omega, this.2.2⟩
    · rw [if_neg z] at h ⊢
      have := nthF_ok f k (p + 1) l (by omega)
      exact ⟨by omega, by omega, this.2.2⟩
theorem bst_ok (a : Nat → Nat) (h : Nat) (r : RS) : ∀ k p b, p + k = a 0 → 1 ≤ p → (b ≠ 0 → b < a 0 ∧ mayB a h r b = true) → (g_it (bstF a h r) k p b ≠ 0 → g_it (bstF a h r) k p b < a 0 ∧ mayB a h r (g_it (bstF a h r) k p b) = true) ∧ ((b ≠ 0 ∨ cntF (mayB a h r) k p ≠ 0) → g_it (bstF a h r) k p b ≠ 0)
  | 0, p, b, _, _, hb => ⟨hb, fun z => by rcases z with z | z; exact z; exact absurd rfl z⟩
  | k + 1, p, b, hk, hp, hb => by
    have ih := bst_ok a h r k (p + 1) (bstF a h r p b) (by omega) (by omega) (by
      intro z
      unfold bstF at z ⊢
      split
      · rename_i c; exact ⟨by omega, c.1⟩
      · rename_i c; rw [if_neg c] at z; exact hb z)
    refine ⟨ih.1, fun z => ih.2 ?_⟩
    by_cases c : mayB a h r p = true
    · left
      unfold bstF
      by_cases b0 : b = 0
      · rw [if_pos ⟨c, Or.inl b0⟩]; omega
      · split <;> omega
    · rcases z with z | z
      · left; unfold bstF; rw [if_neg (fun w => c w.1)]; exact z
      · right; unfold cntF at z; rw [if_neg c] at z; omega
theorem chs_ok {a : Nat → Nat} {h : Nat} {r : RS} (b1 : 1 ≤ a 0) (hw : 0 < h → r.ho (h - 1) = 3 → 1 ≤ r.wh (h - 1) ∧ r.wh (h - 1) < a 0) : (mny a h r = 0 → chs a h r = 0) ∧ (mny a h r ≠ 0 → 1 ≤ chs a h r ∧ chs a h r < a 0 ∧ mayB a h r (chs a h r) = true) := by
  unfold chs
  refine ⟨fun z => by rw [if_pos z], fun z => ?_⟩
  rw [if_neg z]
  split
  · rename_i c
    have := hw c.2.1 c.2.2.1
    exact ⟨this.1, this.2, c.2.2.2⟩
  · split
    · have hl : drw (nsd r.sd) (mny a h r) < mny a h r := Nat.mod_lt _ (by omega)
      rw [mny_eq] at hl
      have := nthF_ok (mayB a h r) (a 0 - 1) 1 _ hl
      rw [← mny_eq] at this
      exact ⟨this.1, by omega, this.2.2⟩
    · have := bst_ok a h r (a 0 - 1) 1 0 (by omega) (by omega) (fun w => absurd rfl w)
      have n0 := this.2 (Or.inr (by rw [← mny_eq]; exact z))
      have := this.1 n0
      unfold bst
      exact ⟨by omega, this.1, this.2⟩
/-- while they hide -/
def HI (a : Nat → Nat) (n : Nat) (r : RS) : Prop :=
  (∀ h, h < n → (r.ho h = 0 ∧ r.wn h = 0 ∧ r.wh h = 0) ∨ (r.ho h = 3 ∧ 1 ≤ r.wh h ∧ r.wh h < a 0 ∧ ds a (r.wh h) 0 < 100000)) ∧ (∀ h, n ≤ h → r.ho h = 0 ∧ r.wh h = 0) ∧ (∀ h, r.wn h = 0) ∧
  r.cn + opn a r ≤ n ∧ (∀ i, i < r.cn → r.ca i < n) ∧ (r.sp = 0 ∧ r.to = 0 ∧ r.mo = 0 ∧ r.pa = 0 ∧ r.wk = false) ∧ (∀ h, r.lk h = false) ∧ (∀ p, p < a 0 → hidN a r p ≤ a (17 + 5 * p))
theorem HI.hw {a : Nat → Nat} {n : Nat} {r : RS} (I : HI a n r) : 0 < n → r.ho (n - 1) = 3 → 1 ≤ r.wh (n - 1) ∧ r.wh (n - 1) < a 0 := by
  intro h0 h3
  rcases I.1 (n - 1) (by omega) with h | h
  · omega
  · exact ⟨h.2.1, h.2.2.1⟩
theorem HI.st {a : Nat → Nat} {n : Nat} {r : RS} (v : V1 a) (I : HI a n r) (hn : n < a 2) : HI a (n + 1) (hideH a n r) := by
  have ck := chs_ok (a := a) (h := n) (r := r) v.1 I.hw
  obtain ⟨i1, i2, i3, i4, i5, i6, i7, i8⟩ := I
  obtain ⟨z1, z2⟩ := i2 n (Nat.le_refl _)
  unfold hideH
  by_cases c : chs a n r = 0
  · rw [if_pos c]
    have eho : ∀ k, aup r.ho n 0 k = r.ho k := fun k => by
      by_cases e : k = n
      · rw [e, aup_s, z1]
      · rw [aup_n e]
    have ewn : ∀ k, aup r.wn n 0 k = 0 := fun k => by
      by_cases e : k = n
      · rw [e, aup_s]
      · rw [aup_n e, i3]
    refine ⟨fun h hh => ?_, fun h hh => ?_, fun h => ewn h, ?_, fun i hi => ?_, i6, i7, fun p hp => ?_⟩
    · show (aup r.ho n 0 h = 0 ∧ aup r.wn n 0 h = 0 ∧ r.wh h = 0) ∨ (aup r.ho n 0 h = 3 ∧ _)
      rw [eho, ewn]
      by_cases e : h = n
      · subst e; exact Or.inl ⟨z1, rfl, z2⟩
      · rcases i1 h (by omega) with w | w
        · exact Or.inl ⟨w.1, rfl, w.2.2⟩
        · exact Or.inr w
    · show aup r.ho n 0 h = 0 ∧ r.wh h = 0
      rw [eho]; exact i2 h (by omega)
    · show r.cn + 1 + cnt (fun k => decide (3 ≤ aup r.ho n 0 k)) (a 2) ≤ n + 1
      rw [cnt_congr (g := fun k => decide (3 ≤ r.ho k)) (fun i _ => by rw [eho])]
      unfold opn at i4
      omega
    · show aup r.ca r.cn n i < n + 1
      by_cases e : i = r.cn
      · rw [e, aup_s]; omega
      · rw [aup_n e]; have := i5 i (by have : i < r.cn + 1 := hi; omega); omega
    · rw [show hidN a (ctc n 0 (r.sSd (chd a n r))) p = hidN a r p from by
        rw [hidN_cnt, hidN_cnt]
        exact cnt_congr (fun i _ => by show decide (aup r.ho n 0 i = 3 ∧ r.wh i = p) = _; rw [eho])]
      exact i8 p hp
  · rw [if_neg c]
    have hm : mny a n r ≠ 0 := fun w => c (ck.1 w)
    obtain ⟨c1, c2, c3⟩ := ck.2 hm
    generalize chs a n r = q at *
    have m := of_decide_eq_true c3
    refine ⟨fun h hh => ?_, fun h hh => ?_, fun h => i3 h, ?_, fun i hi => ?_, i6, i7, fun p hp => ?_⟩
    · show (aup r.ho n 3 h = 0 ∧ r.wn h = 0 ∧ aup r.wh n q h = 0) ∨ (aup r.ho n 3 h = 3 ∧ 1 ≤ aup r.wh n q h ∧ aup r.wh n q h < a 0 ∧ ds a (aup r.wh n q h) 0 < 100000)
      by_cases e : h = n
      · rw [e, aup_s, aup_s]; exact Or.inr ⟨rfl, c1, c2, m.2.1⟩
      · rw [aup_n e, aup_n e]; exact i1 h (by omega)
    · show aup r.ho n 3 h = 0 ∧ aup r.wh n q h = 0
      rw [aup_n (by omega), aup_n (by omega)]; exact i2 h (by omega)
    · have := cnt_one (f := fun k => decide (3 ≤ r.ho k)) (g := fun k => decide (3 ≤ aup r.ho n 3 k)) (k := n) (n := a 2) (fun i hi hk hg => by rw [aup_n hk] at hg; exact hg)
      show r.cn + cnt (fun k => decide (3 ≤ aup r.ho n 3 k)) (a 2) ≤ n + 1
      unfold opn at i4
      omega
    · have := i5 i hi
      show r.ca i < n + 1
      omega
    · rw [show hidN a ((r.sSd (chd a n r)).sWhHo (aup r.wh n q) (aup r.ho n 3)) p = cnt (fun h => decide (aup r.ho n 3 h = 3 ∧ aup r.wh n q h = p)) (a 2) from hidN_cnt _ _ _]
      by_cases e : p = q
      · have := cnt_one (f := fun h => decide (r.ho h = 3 ∧ r.wh h = p)) (g := fun h => decide (aup r.ho n 3 h = 3 ∧ aup r.wh n q h = p)) (k := n) (n := a 2) (fun i hi hk hg => by rw [aup_n hk, aup_n hk] at hg; exact hg)
        rw [← hidN_cnt] at this
        rw [← e] at m
        omega
      · have := cnt_mono (g := fun h => decide (r.ho h = 3 ∧ r.wh h = p)) (f := fun h => decide (aup r.ho n 3 h = 3 ∧ aup r.wh n q h = p)) (n := a 2) (fun i hi hg => by
          have hg := of_decide_eq_true hg
          by_cases hk : i = n
          · rw [hk, aup_s, aup_s] at hg; exact absurd hg.2.symm e
          · rw [aup_n hk, aup_n hk] at hg; exact decide_eq_true hg)
        rw [← hidN_cnt] at this
        have := i8 p hp
        omega
theorem cnt_no {f : Nat → Bool} : ∀ {n : Nat}, (∀ i, i < n → f i = false) → cnt f n = 0
  | 0, _ => rfl
  | n + 1, h => by unfold cnt; rw [cnt_no (fun i hi => h i (by omega)), h n (by omega)]; rfl
theorem HI.z (a : Nat → Nat) (z : Int32) : HI a 0 (rs0 z) := by
  refine ⟨fun h hh => by omega, fun h _ => ⟨rfl, rfl⟩, fun _ => rfl, ?_, fun i hi => absurd hi (Nat.not_lt_zero _), ⟨rfl, rfl, rfl, rfl, rfl⟩, fun _ => rfl, fun p _ => ?_⟩
  · have : cnt (fun h => decide (3 ≤ (rs0 z).ho h)) (a 2) = 0 := cnt_no (fun _ _ => rfl)
    show 0 + cnt (fun h => decide (3 ≤ (rs0 z).ho h)) (a 2) ≤ 0
    omega
  · rw [hidN_cnt, cnt_no (f := fun h => decide ((rs0 z).ho h = 3 ∧ (rs0 z).wh h = p)) (fun _ _ => decide_eq_false (fun w => by have : (0 : Nat) = 3 := w.1; omega))]; omega
theorem HI.all {a : Nat → Nat} (v : V1 a) (z : Int32) : HI a (a 2) (hide a z) := g_it_J (fun n r => HI a n r) (hideH a) (a 2) (fun i r hi hr => hr.st v hi) (a 2) 0 (rs0 z) (by omega) (HI.z a z)
theorem HI.ri {a : Nat → Nat} {r : RS} (v : V1 a) (I : HI a (a 2) r) : RI a 0 r := by
  obtain ⟨i1, i2, i3, i4, i5, ⟨j1, j2, j3, j4, j5⟩, i7, i8⟩ := I
  have b1 := v.1
  refine ⟨fun h hh => ?_, i4, i5, ?_, by omega, (fun z => by rw [j5] at z; cases z), fun _ => ⟨by omega, by omega⟩, (fun h z => by rw [i7] at z; cases z), fun h hh => ?_⟩
  · rw [i3 h]
    rcases i1 h hh with w | w
    · rw [w.1, w.2.2]; exact ⟨by omega, by omega, fun z => by omega, by omega, fun z => by omega⟩
    · rw [w.1]; exact ⟨w.2.2.1, by omega, fun _ => ⟨w.2.1, w.2.2.2⟩, by omega, fun z => by omega⟩
  · rw [j1, ds_xx]; exact ⟨by omega, by omega⟩
  · rw [i3 h]; exact ⟨(i2 h (by omega)).2, (i2 h (by omega)).1, rfl⟩
/-! one second -/
theorem ri_lookS {s : Int32} {a : Nat → Nat} {t u h : Nat} {r : RS} (I : RI a t r) (hh : h < a 2) (hu : u ≤ 900) : RI a t (lookS s a u h r) := by
  unfold lookS
  split
  · rename_i c
    split
    · exact RI.sd I
    · have J : RI a t (ctc h u (r.sSd s)) := RI.ctc (r := r.sSd s) (RI.sd I) hh (by have : r.ho h = 3 := c.1; show 3 ≤ r.ho h; omega) hu
      obtain ⟨i1, i2, i3, i4, i5, i6, i7, i8, i9⟩ := J
      refine ⟨i1, i2, i3, i4, i5, i6, i7, fun k hk => ?_, i9⟩
      by_cases e : k = h
      · subst e
        refine ⟨hh, (I.1 k hh).2.2.1 (by omega) |>.1, ?_⟩
        show aup r.ho k 0 k < 3
        rw [aup_s]; omega
      · have hk' : (if k = h then true else r.lk k) = true := hk
        rw [if_neg e] at hk'
        exact i8 k hk'
  · exact I
theorem ri_lookH {a : Nat → Nat} {t u h : Nat} {r : RS} (I : RI a t r) (hh : h < a 2) (hu : u ≤ 900) : RI a t (lookH a u h r) := by
  unfold lookH
  exact ri_lookS I hh hu
theorem lookS_k (s : Int32) (a : Nat → Nat) (u h : Nat) (r : RS) : (lookS s a u h r).wk = r.wk ∧ (lookS s a u h r).sp = r.sp ∧ (lookS s a u h r).mo = r.mo ∧ (lookS s a u h r).to = r.to ∧ (lookS s a u h r).pa = r.pa := by
  unfold lookS
  split
  · split
    · exact ⟨rfl, rfl, rfl, rfl, rfl⟩
    · exact ⟨rfl, rfl, rfl, rfl, rfl⟩
  · exact ⟨rfl, rfl, rfl, rfl, rfl⟩
theorem lookH_k (a : Nat → Nat) (u h : Nat) (r : RS) : (lookH a u h r).wk = r.wk ∧ (lookH a u h r).sp = r.sp ∧ (lookH a u h r).mo = r.mo ∧ (lookH a u h r).to = r.to ∧ (lookH a u h r).pa = r.pa := by
  unfold lookH
  exact lookS_k _ a u h r
theorem ri_come {a : Nat → Nat} {t : Nat} {r : RS} (v2 : V2 a) (ht : t ≤ 900) (I : RI a t r) (hw : r.wk = true) : RI a t (r.sSk r.to r.to (t + a 15) r.pa false) := by
  obtain ⟨i1, i2, i3, i4, i5, i6, i7, i8, i9⟩ := I
  have := i6 hw
  have b := v2.2.2.2.2.2.2.2.2.1
  exact ⟨i1, i2, i3, ⟨this.1, this.2.1⟩, i5, (fun z => by cases z), fun _ => ⟨by show t ≤ t + a 15; omega, Or.inl (by show t + a 15 ≤ 970; omega)⟩, i8, i9⟩
/-- after she looked: if she is on a way, she does not come now -/
theorem ri_look {a : Nat → Nat} {t : Nat} {r : RS} (v2 : V2 a) (ht : t ≤ 900) (I : RI a t r) : RI a t (lookA a t r) ∧ ((lookA a t r).wk = true → t < (lookA a t r).mo) := by
  unfold lookA
  by_cases c : r.wk = true ∧ r.mo = t
  · rw [if_pos c]
    have := g_it_J (fun _ r => RI a t r ∧ r.wk = false) (lookH a t) (a 2) (fun i s hi hs => ⟨ri_lookH hs.1 hi ht, by rw [(lookH_k a t i s).1]; exact hs.2⟩) (a 2) 0 (r.sSk r.to r.to (t + a 15) r.pa false) (by omega) ⟨ri_come v2 ht I c.1, rfl⟩
    refine ⟨this.1, fun z => ?_⟩
    rw [this.2] at z; cases z
  · rw [if_neg c]
    refine ⟨I, fun z => ?_⟩
    have := (I.2.2.2.2.2.1 z).2.2.1
    have : r.mo ≠ t := fun w => c ⟨z, w⟩
    omega
theorem ri_home1 {a : Nat → Nat} {t u h : Nat} {r : RS} (I : RI a t r) (hh : h < a 2) (hu : u ≤ 900) (ho : 3 ≤ r.ho h) : RI a t (r.sHoWn (aup r.ho h 1) (aup r.wn h u)) := by
  obtain ⟨i1, i2, i3, i4, i5, i6, i7, i8, i9⟩ := I
  refine ⟨fun k hk => ?_, ?_, i3, i4, i5, i6, i7, fun k hk => ?_, fun k hk => ?_⟩
  · obtain ⟨j1, j2, j3, j4, j5⟩ := i1 k hk
    show r.wh k < a 0 ∧ aup r.ho h 1 k ≤ 4 ∧ (3 ≤ aup r.ho h 1 k → _) ∧ aup r.wn h u k ≤ 900 ∧ (aup r.ho h 1 k = 4 → _)
    by_cases e : k = h
    · subst e
      rw [aup_s, aup_s]
      exact ⟨j1, by omega, fun z => by omega, hu, fun z => by omega⟩
    · rw [aup_n e, aup_n e]
      exact ⟨j1, j2, j3, j4, j5⟩
  · have := cnt_off (f := fun h => decide (3 ≤ r.ho h)) (g := fun k => decide (3 ≤ aup r.ho h 1 k)) hh (decide_eq_true ho) (by rw [aup_s]; rfl) (fun i hi hn hg => by rw [aup_n hn] at hg; exact hg)
    show r.cn + cnt (fun k => decide (3 ≤ aup r.ho h 1 k)) (a 2) ≤ a 2
    unfold opn at i2
    omega
  · obtain ⟨k1, k2, k3⟩ := i8 k hk
    refine ⟨k1, k2, ?_⟩
    show aup r.ho h 1 k < 3
    by_cases e : k = h
    · rw [e, aup_s]; omega
    · rw [aup_n e]; exact k3
  · have e : k ≠ h := by omega
    show r.wh k = 0 ∧ aup r.ho h 1 k = 0 ∧ aup r.wn h u k = 0
    rw [aup_n e, aup_n e]; exact i9 k hk
theorem ri_free {a : Nat → Nat} {t u : Nat} {r : RS} (I : RI a t r) (hu : u ≤ 900) : RI a t (free a u r) := by
  obtain ⟨i1, i2, i3, i4, i5, i6, i7, i8, i9⟩ := I
  have hf : ∀ k, (free a u r).ho k = if k < a 2 ∧ r.ho k = 0 then 1 else r.ho k := fun k => rfl
  have hg : ∀ k, (free a u r).wn k = if k < a 2 ∧ r.ho k = 0 then u else r.wn k := fun k => rfl
  refine ⟨fun k hk => ?_, ?_, i3, i4, i5, i6, i7, fun k hk => ?_, fun k hk => ?_⟩
  · obtain ⟨j1, j2, j3, j4, j5⟩ := i1 k hk
    rw [hf, hg]
    by_cases e : k < a 2 ∧ r.ho k = 0
    · rw [if_pos e, if_pos e]
      exact ⟨j1, by omega, fun z => by omega, hu, fun z => by omega⟩
    · rw [if_neg e, if_neg e]
      exact ⟨j1, j2, j3, j4, j5⟩
  · have : opn a (free a u r) = opn a r := cnt_congr (fun i hi => by
      rw [hf]
      by_cases e : i < a 2 ∧ r.ho i = 0
      · rw [if_pos e, e.2]; rfl
      · rw [if_neg e])
    rw [this]; exact i2
  · obtain ⟨k1, k2, k3⟩ := i8 k hk
    refine ⟨k1, k2, ?_⟩
    rw [hf]; split <;> omega
  · rw [hf, hg, if_neg (fun w => hk w.1), if_neg (fun w => hk w.1)]; exact i9 k hk
theorem ri_homeH {a : Nat → Nat} {t u h : Nat} {g : Bool} {r : RS} (I : RI a t r) (hh : h < a 2) (hu : u ≤ 900) : RI a t (homeH a u g h r) := by
  unfold homeH
  split
  · rename_i c
    split
    · exact RI.ctc I hh (by omega) hu
    · split
      · exact ri_free (ri_home1 I hh hu (by omega)) hu
      · exact ri_home1 I hh hu (by omega)
  · exact I
theorem homeH_k (a : Nat → Nat) (u h : Nat) (g : Bool) (r : RS) : (homeH a u g h r).wk = r.wk ∧ (homeH a u g h r).sp = r.sp ∧ (homeH a u g h r).mo = r.mo ∧ (homeH a u g h r).to = r.to ∧ (homeH a u g h r).pa = r.pa := by
  unfold homeH
  split
  · split
    · exact ⟨rfl, rfl, rfl, rfl, rfl⟩
    · split
      · exact ⟨rfl, rfl, rfl, rfl, rfl⟩
      · exact ⟨rfl, rfl, rfl, rfl, rfl⟩
  · exact ⟨rfl, rfl, rfl, rfl, rfl⟩
theorem homeA_k (a : Nat → Nat) (u : Nat) (r : RS) : (homeA a u r).wk = r.wk ∧ (homeA a u r).sp = r.sp ∧ (homeA a u r).mo = r.mo ∧ (homeA a u r).to = r.to ∧ (homeA a u r).pa = r.pa := by
  unfold homeA
  exact g_it_J (fun _ s => s.wk = r.wk ∧ s.sp = r.sp ∧ s.mo = r.mo ∧ s.to = r.to ∧ s.pa = r.pa) _ (a 2) (fun i s hi hs => by
    obtain ⟨h1, h2, h3, h4, h5⟩ := homeH_k a u i (!r.wk && decide (r.sp = 0)) s
    exact ⟨h1.trans hs.1, h2.trans hs.2.1, h3.trans hs.2.2.1, h4.trans hs.2.2.2.1, h5.trans hs.2.2.2.2⟩) (a 2) 0 r (by omega) ⟨rfl, rfl, rfl, rfl, rfl⟩
theorem ri_home {a : Nat → Nat} {t u : Nat} {r : RS} (hu : u ≤ 900) (I : RI a t r) : RI a t (homeA a u r) := by
  unfold homeA
  exact g_it_J (fun _ s => RI a t s) _ (a 2) (fun i s hi hs => ri_homeH hs hi hu) (a 2) 0 r (by omega) I
theorem skp_le (a : Nat → Nat) (x : Nat) (h8 : a 3 ≤ 8) : ∀ k i, i ≤ 8 → skp a x k i ≤ 8
  | 0, i, h => h
  | k + 1, i, h => by
    unfold skp
    split
    · exact skp_le a x h8 k (i + 1) (by omega)
    · exact h
theorem skp_ok (a : Nat → Nat) (x : Nat) : ∀ k i, a 3 ≤ i + k → skp a x k i < a 3 → a (114 + skp a x k i) ≠ x ∧ ds a x (a (114 + skp a x k i)) < 100000
  | 0, i, h, h2 => by unfold skp at h2; omega
  | k + 1, i, h, h2 => by
    unfold skp at h2 ⊢
    by_cases c : i < a 3 ∧ (a (114 + i) = x ∨ ¬ ds a x (a (114 + i)) < 100000)
    · rw [if_pos c] at h2 ⊢
      exact skp_ok a x k (i + 1) (by omega) h2
    · rw [if_neg c] at h2 ⊢
      refine ⟨fun w => c ⟨h2, Or.inl w⟩, ?_⟩
      by_cases d : ds a x (a (114 + i)) < 100000
      · exact d
      · exact absurd ⟨h2, Or.inr d⟩ c
theorem gol_ok {a : Nat → Nat} {x i : Nat} (v2 : V2 a) (hx : ds a x 0 < 100000) (hi : i ≤ 8) (hn : gol a (skp a x 8 i) ≠ x) : ds a x (gol a (skp a x 8 i)) < 100000 := by
  unfold gol at hn ⊢
  have b3 : a 3 ≤ 8 := v2.2.2.2.2.2.2.2.2.2.1
  split
  · rename_i c; exact (skp_ok a x 8 i (by omega) c).2
  · exact hx
theorem ri_go {a : Nat → Nat} {t : Nat} {r : RS} (v : V1 a) (v2 : V2 a) (ht : t ≤ 900) (I : RI a t r) (hw : r.wk = true → t < r.mo) : RI a (t + 1) (goA a t r) := by
  obtain ⟨i1, i2, i3, i4, i5, i6, i7, i8, i9⟩ := I
  have b3 : a 3 ≤ 8 := v2.2.2.2.2.2.2.2.2.2.1
  unfold goA
  split
  · rename_i c
    have p8 := skp_le a r.sp b3 8 r.pa i5
    split
    · refine ⟨i1, i2, i3, i4, p8, fun z => ?_, fun _ => ⟨by show t + 1 ≤ 100000; omega, Or.inr rfl⟩, i8, i9⟩
      have z' : r.wk = true := z
      rw [c.1] at z'; cases z'
    · rename_i c2
      have g := gol_ok v2 i4.2 i5 c2
      obtain ⟨n1, n2⟩ := nx_ok v (fun w => c2 w.symm) g
      obtain ⟨w1, w2, w3, w4⟩ := wy_dr v n1
      have w5 := wy_le v r.sp (nx a r.sp (gol a (skp a r.sp 8 r.pa)))
      refine ⟨i1, i2, i3, i4, p8, fun _ => ⟨w3, ds_wy v n1 i4.2, ?_, ?_⟩, fun z => (by cases z), i8, i9⟩
      · show t + 1 ≤ t + wy a r.sp (nx a r.sp (gol a (skp a r.sp 8 r.pa)))
        omega
      · show t + wy a r.sp (nx a r.sp (gol a (skp a r.sp 8 r.pa))) ≤ 970
        omega
  · rename_i c
    refine ⟨i1, i2, i3, i4, i5, fun z => ?_, fun z => ?_, i8, i9⟩
    · have := i6 z
      have := hw z
      exact ⟨by omega, by omega, by omega, by omega⟩
    · have := i7 z
      have : ¬ r.mo ≤ t := fun w => c ⟨z, w⟩
      exact ⟨by omega, by omega⟩
theorem ri_run {a : Nat → Nat} {t u b : Nat} {r : RS} (v : V1 a) (hu : u ≤ 900) (I : RI a t r) : RI a t (runA a u b r) := by
  obtain ⟨i1, i2, i3, i4, i5, i6, i7, i8, i9⟩ := I
  have hf : ∀ k, (runA a u b r).ho k = if runB a b r k = true then 4 else r.ho k := fun k => rfl
  have hg : ∀ k, (runA a u b r).cm k = if runB a b r k = true then u + rno a k (r.wh k) else r.cm k := fun k => rfl
  refine ⟨fun k hk => ?_, ?_, i3, i4, i5, i6, i7, fun k hk => ?_, fun k hk => ?_⟩
  · obtain ⟨j1, j2, j3, j4, j5⟩ := i1 k hk
    rw [hf, hg]
    have := rno_le v k (r.wh k)
    by_cases e : runB a b r k = true
    · have e2 := of_decide_eq_true e
      rw [if_pos e, if_pos e]
      exact ⟨j1, by omega, fun z => j3 (by omega), j4, fun z => by omega⟩
    · rw [if_neg e, if_neg e]
      exact ⟨j1, j2, j3, j4, j5⟩
  · have : opn a (runA a u b r) = opn a r := cnt_congr (fun i hi => by
      rw [hf]
      by_cases e : runB a b r i = true
      · have e2 := of_decide_eq_true e
        rw [if_pos e, e2.2.1]; rfl
      · rw [if_neg e])
    rw [this]; exact i2
  · obtain ⟨k1, k2, k3⟩ := i8 k hk
    refine ⟨k1, k2, ?_⟩
    rw [hf]
    by_cases e : runB a b r k = true
    · have e2 := of_decide_eq_true e
      omega
    · rw [if_neg e]; exact k3
  · rw [hf]
    by_cases e : runB a b r k = true
    · have e2 := of_decide_eq_true e
      exact absurd e2.1 hk
    · rw [if_neg e]; exact i9 k hk
theorem ri_sec {a : Nat → Nat} {t : Nat} {r : RS} (v : V1 a) (v2 : V2 a) (ht : t ≤ 900) (I : RI a t r) : RI a (t + 1) (sec a t r) := by
  have h1 := ri_look v2 ht I
  have h2 := ri_home ht h1.1
  have k := homeA_k a t (lookA a t r)
  exact ri_run v ht (ri_go v v2 ht h2 (fun z => by rw [k.2.2.1]; exact h1.2 (by rw [← k.1]; exact z)))
