/-! ===== the round, by itself ===== -/
def RS : Type := (Nat → Nat) × (Nat → Nat) × (Nat → Nat) × (Nat → Nat) × (Nat → Nat) × Nat × (Nat → Bool) × Int32 × Nat × Nat × Nat × Nat × Bool
def RS.mk (wh ho wn cm ca : Nat → Nat) (cn : Nat) (lk : Nat → Bool) (sd : Int32) (sp to mo pa : Nat) (wk : Bool) : RS := (wh, ho, wn, cm, ca, cn, lk, sd, sp, to, mo, pa, wk)
def RS.wh (r : RS) : Nat → Nat := r.1
def RS.ho (r : RS) : Nat → Nat := r.2.1
def RS.wn (r : RS) : Nat → Nat := r.2.2.1
def RS.cm (r : RS) : Nat → Nat := r.2.2.2.1
def RS.ca (r : RS) : Nat → Nat := r.2.2.2.2.1
def RS.cn (r : RS) : Nat := r.2.2.2.2.2.1
def RS.lk (r : RS) : Nat → Bool := r.2.2.2.2.2.2.1
def RS.sd (r : RS) : Int32 := r.2.2.2.2.2.2.2.1
def RS.sp (r : RS) : Nat := r.2.2.2.2.2.2.2.2.1
def RS.to (r : RS) : Nat := r.2.2.2.2.2.2.2.2.2.1
def RS.mo (r : RS) : Nat := r.2.2.2.2.2.2.2.2.2.2.1
def RS.pa (r : RS) : Nat := r.2.2.2.2.2.2.2.2.2.2.2.1
def RS.wk (r : RS) : Bool := r.2.2.2.2.2.2.2.2.2.2.2.2
def RS.sSd (r : RS) (s : Int32) : RS := RS.mk r.wh r.ho r.wn r.cm r.ca r.cn r.lk s r.sp r.to r.mo r.pa r.wk
def RS.sWhHo (r : RS) (f g : Nat → Nat) : RS := RS.mk f g r.wn r.cm r.ca r.cn r.lk r.sd r.sp r.to r.mo r.pa r.wk
def RS.sHoWn (r : RS) (f g : Nat → Nat) : RS := RS.mk r.wh f g r.cm r.ca r.cn r.lk r.sd r.sp r.to r.mo r.pa r.wk
def RS.sHoCm (r : RS) (f g : Nat → Nat) : RS := RS.mk r.wh f r.wn g r.ca r.cn r.lk r.sd r.sp r.to r.mo r.pa r.wk
def RS.sLk (r : RS) (f : Nat → Bool) : RS := RS.mk r.wh r.ho r.wn r.cm r.ca r.cn f r.sd r.sp r.to r.mo r.pa r.wk
def RS.sSk (r : RS) (sp to mo pa : Nat) (wk : Bool) : RS := RS.mk r.wh r.ho r.wn r.cm r.ca r.cn r.lk r.sd sp to mo pa wk
def nsd (s : Int32) : Int32 := s * 1664525 + 1013904223
def lw (s : Int32) : Nat := (s &&& 2147483647).toBitVec.toNat
def drw (s : Int32) (n : Nat) : Nat := lw s / 256 % n
theorem lw_nI (s : Int32) : s &&& 2147483647 = nI (lw s) := by
  apply Int32.toBitVec_inj.mp
  show _ = BitVec.ofNat 32 _
  unfold lw
  rw [BitVec.ofNat_toNat, BitVec.setWidth_eq]
theorem lw_lt (s : Int32) : lw s < 2 ^ 31 := by
  unfold lw
  show (s.toBitVec &&& (2147483647 : Int32).toBitVec).toNat < _
  rw [BitVec.toNat_and]
  have h1 : (2147483647 : Int32).toBitVec.toNat = 2147483647 := by decide
  rw [h1]
  exact Nat.lt_of_le_of_lt Nat.and_le_right (by decide)
def ctc (h t : Nat) (r : RS) : RS := RS.mk r.wh (aup r.ho h 0) (aup r.wn h t) r.cm (aup r.ca r.cn h) (r.cn + 1) r.lk r.sd r.sp r.to r.mo r.pa r.wk
def hidN (a : Nat → Nat) (r : RS) (p : Nat) : Nat := g_it (fun h s => s + if r.ho h = 3 ∧ r.wh h = p then 1 else 0) (a 2) 0 0
def outB (a : Nat → Nat) (r : RS) : Bool := g_it (fun h s => s && decide (r.ho h < 3)) (a 2) 0 true
theorem outB_iff (a : Nat → Nat) (r : RS) : outB a r = true ↔ ∀ h, h < a 2 → r.ho h < 3 := by
  have := g_it_J (fun n s => (s = true ↔ ∀ h, h < n → r.ho h < 3)) (fun h s => s && decide (r.ho h < 3)) (a 2) (fun i s hi hs => by
    rw [Bool.and_eq_true, decide_eq_true_iff, hs]
    constructor
    · intro ⟨h1, h2⟩ h hh
      by_cases e : h = i
      · subst e; exact h2
      · exact h1 h (by omega)
    · intro h1; exact ⟨fun h hh => h1 h (by omega), h1 i (by omega)⟩) (a 2) 0 true (by omega) (by simp)
  exact this
theorem hidN_le (a : Nat → Nat) (r : RS) (p : Nat) : hidN a r p ≤ a 2 := by
  unfold hidN
  exact g_it_J (fun n s => s ≤ n) _ (a 2) (fun i s hi hs => by show _ + _ ≤ _; split <;> omega) (a 2) 0 0 (by omega) (Nat.le_refl _)
/-- counting -/
def cnt (f : Nat → Bool) : Nat → Nat
  | 0 => 0
  | n + 1 => cnt f n + if f n = true then 1 else 0
theorem cnt_congr {f g : Nat → Bool} : ∀ {n : Nat}, (∀ i, i < n → f i = g i) → cnt f n = cnt g n
  | 0, _ => rfl
  | n + 1, h => by unfold cnt; rw [cnt_congr (fun i hi => h i (by omega)), h n (by omega)]
theorem cnt_le (f : Nat → Bool) : ∀ n, cnt f n ≤ n
  | 0 => Nat.le_refl _
  | n + 1 => by unfold cnt; have := cnt_le f n; split <;> omega
theorem cnt_mono {f g : Nat → Bool} : ∀ {n : Nat}, (∀ i, i < n → f i = true → g i = true) → cnt f n ≤ cnt g n
  | 0, _ => Nat.le_refl _
  | n + 1, h => by
    unfold cnt
    have := cnt_mono (n := n) (fun i hi => h i (by omega))
    by_cases z : f n = true
    · rw [if_pos z, if_pos (h n (by omega) z)]; omega
    · rw [if_neg z]; omega
/-- one is lost -/
theorem cnt_off {f g : Nat → Bool} {k : Nat} : ∀ {n : Nat}, k < n → f k = true → g k = false → (∀ i, i < n → i ≠ k → g i = true → f i = true) → cnt g n + 1 ≤ cnt f n
  | 0, h, _, _, _ => by omega
  | n + 1, h, h1, h2, h3 => by
    unfold cnt
    by_cases e : k = n
    · subst e
      have := cnt_mono (f := g) (g := f) (n := k) (fun i hi z => h3 i (by omega) (by omega) z)
      rw [if_pos h1, if_neg (by rw [h2]; decide)]
      omega
    · have := cnt_off (n := n) (by omega) h1 h2 (fun i hi => h3 i (by omega))
      by_cases z : g n = true
      · rw [if_pos z, if_pos (h3 n (by omega) (fun w => e w.symm) z)]; omega
      · rw [if_neg z]; omega
theorem cnt_it (f : Nat → Bool) (n : Nat) : g_it (fun h s => s + if f h = true then 1 else 0) n 0 0 = cnt f n := by
  exact g_it_J (fun n s => s = cnt f n) _ n (fun i s hi hs => by subst hs; rfl) n 0 0 (by omega) rfl
theorem hidN_cnt (a : Nat → Nat) (r : RS) (p : Nat) : hidN a r p = cnt (fun h => decide (r.ho h = 3 ∧ r.wh h = p)) (a 2) := by
  rw [← cnt_it]
  unfold hidN
  congr 1
  funext h s
  by_cases z : r.ho h = 3 ∧ r.wh h = p
  · rw [if_pos z, if_pos (decide_eq_true z)]
  · rw [if_neg z, if_neg (by rw [decide_eq_false z]; decide)]
/-! hiding -/
def mayB (a : Nat → Nat) (h : Nat) (r : RS) (p : Nat) : Bool := decide (hidN a r p < a (17 + 5 * p) ∧ ds a p 0 < 100000 ∧ pcd a h p ≤ a 9)
def bstF (a : Nat → Nat) (h : Nat) (r : RS) (p b : Nat) : Nat := if mayB a h r p = true ∧ (b = 0 ∨ (a 12 = 1 ∧ a (18 + 5 * b) < a (18 + 5 * p)) ∨ (a 12 = 2 ∧ ds a 0 b < ds a 0 p)) then p else b
def bst (a : Nat → Nat) (h : Nat) (r : RS) : Nat := g_it (bstF a h r) (a 0 - 1) 1 0
def mny (a : Nat → Nat) (h : Nat) (r : RS) : Nat := g_it (fun p s => s + if mayB a h r p = true then 1 else 0) (a 0 - 1) 1 0
def nthF (f : Nat → Bool) : Nat → Nat → Nat → Nat
  | 0, _, _ => 0
  | k + 1, p, l => if f p = true then (if l = 0 then p else nthF f k (p + 1) (l - 1)) else nthF f k (p + 1) l
def chs (a : Nat → Nat) (h : Nat) (r : RS) : Nat :=
  if mny a h r = 0 then 0 else
  if a 12 = 4 ∧ 0 < h ∧ r.ho (h - 1) = 3 ∧ mayB a h r (r.wh (h - 1)) = true then r.wh (h - 1) else
  if a 12 = 3 then nthF (mayB a h r) (a 0 - 1) 1 (drw (nsd r.sd) (mny a h r)) else bst a h r
def chd (a : Nat → Nat) (h : Nat) (r : RS) : Int32 := if mny a h r = 0 then r.sd else if a 12 = 3 then nsd r.sd else r.sd
def hideH (a : Nat → Nat) (h : Nat) (r : RS) : RS := if chs a h r = 0 then ctc h 0 (r.sSd (chd a h r)) else (r.sSd (chd a h r)).sWhHo (aup r.wh h (chs a h r)) (aup r.ho h 3)
def rs0 (z : Int32) : RS := RS.mk (fun _ => 0) (fun _ => 0) (fun _ => 0) (fun _ => 0) (fun _ => 0) 0 (fun _ => false) z 0 0 0 0 false
def hide (a : Nat → Nat) (z : Int32) : RS := g_it (hideH a) (a 2) 0 (rs0 z)
/-! one second -/
def cvH (a : Nat → Nat) (t h : Nat) (r : RS) : Nat :=
  if r.wh h = r.sp then (if a (98 + 2 * h) < 6 then cvA a (r.wh h) t (hidN a r (r.wh h)) (a (19 + 5 * r.wh h)) - 10 else cvA a (r.wh h) t (hidN a r (r.wh h)) (a (19 + 5 * r.wh h))) / 2
  else (if a (98 + 2 * h) < 6 then cvA a (r.wh h) t (hidN a r (r.wh h)) (a (19 + 5 * r.wh h)) - 10 else cvA a (r.wh h) t (hidN a r (r.wh h)) (a (19 + 5 * r.wh h)))
def lookS (s : Int32) (a : Nat → Nat) (t h : Nat) (r : RS) : RS :=
  if r.ho h = 3 ∧ (a (20 + 5 * r.sp)).testBit (r.wh h) = true then
    (if drw s 100 < cvH a t h r then r.sSd s else (ctc h t (r.sSd s)).sLk (fun k => if k = h then true else r.lk k))
  else r
def lookH (a : Nat → Nat) (t h : Nat) (r : RS) : RS := lookS (nsd r.sd) a t h r
def lookA (a : Nat → Nat) (t : Nat) (r : RS) : RS := if r.wk = true ∧ r.mo = t then g_it (lookH a t) (a 2) 0 (r.sSk r.to r.to (t + a 15) r.pa false) else r
def free (a : Nat → Nat) (t : Nat) (r : RS) : RS := r.sHoWn (fun h => if h < a 2 ∧ r.ho h = 0 then 1 else r.ho h) (fun h => if h < a 2 ∧ r.ho h = 0 then t else r.wn h)
def homeH (a : Nat → Nat) (t : Nat) (g : Bool) (h : Nat) (r : RS) : RS :=
  if r.ho h = 4 ∧ r.cm h = t then
    (if g = true then ctc h t r else if a 13 = 1 ∧ outB a (r.sHoWn (aup r.ho h 1) (aup r.wn h t)) = true then free a t (r.sHoWn (aup r.ho h 1) (aup r.wn h t)) else (r.sHoWn (aup r.ho h 1) (aup r.wn h t)))
  else r
def homeA (a : Nat → Nat) (t : Nat) (r : RS) : RS := g_it (homeH a t (!r.wk && decide (r.sp = 0))) (a 2) 0 r
def skp (a : Nat → Nat) (x : Nat) : Nat → Nat → Nat
  | 0, i => i
  | k + 1, i => if i < a 3 ∧ (a (114 + i) = x ∨ ¬ ds a x (a (114 + i)) < 100000) then skp a x k (i + 1) else i
def gol (a : Nat → Nat) (i : Nat) : Nat := if i < a 3 then a (114 + i) else 0
def goA (a : Nat → Nat) (t : Nat) (r : RS) : RS :=
  if r.wk = false ∧ r.mo ≤ t then
    (if gol a (skp a r.sp 8 r.pa) = r.sp then r.sSk r.sp r.to 100000 (skp a r.sp 8 r.pa) r.wk
     else r.sSk r.sp (nx a r.sp (gol a (skp a r.sp 8 r.pa))) (t + wy a r.sp (nx a r.sp (gol a (skp a r.sp 8 r.pa)))) (skp a r.sp 8 r.pa) true)
  else r
def bck (a : Nat → Nat) (t : Nat) (r : RS) : Nat := if r.wk = true then r.mo - t + ds a r.to 0 else ds a r.sp 0
def runB (a : Nat → Nat) (b : Nat) (r : RS) (h : Nat) : Bool := decide (h < a 2 ∧ r.ho h = 3 ∧ rno a h (r.wh h) + a 11 < b)
def runA (a : Nat → Nat) (t b : Nat) (r : RS) : RS := r.sHoCm (fun h => if runB a b r h = true then 4 else r.ho h) (fun h => if runB a b r h = true then t + rno a h (r.wh h) else r.cm h)
def sec (a : Nat → Nat) (t : Nat) (r : RS) : RS := runA a t (bck a t (goA a t (homeA a t (lookA a t r)))) (goA a t (homeA a t (lookA a t r)))
def rnn (a : Nat → Nat) : Nat → Nat → RS → Nat × RS
  | 0, t, r => (t, r)
  | k + 1, t, r => if outB a r = true then (t, r) else rnn a k (t + 1) (sec a (t + 1) r)
def endA (a : Nat → Nat) (t : Nat) (r : RS) : RS := r.sHoWn (fun h => if h < a 2 ∧ 3 ≤ r.ho h then 2 else r.ho h) (fun h => if h < a 2 ∧ 3 ≤ r.ho h then t else r.wn h)
def plyR (a : Nat → Nat) (z : Int32) : Nat × RS := rnn a (a 14) 0 (sec a 0 (hide a z))
def ply (a : Nat → Nat) (z : Int32) : RS := endA a (plyR a z).1 (plyR a z).2
def plt (a : Nat → Nat) (z : Int32) : Nat := (plyR a z).1
/-! what holds all the time -/
def opn (a : Nat → Nat) (r : RS) : Nat := cnt (fun h => decide (3 ≤ r.ho h)) (a 2)
def RI (a : Nat → Nat) (t : Nat) (r : RS) : Prop :=
  (∀ h, h < a 2 → r.wh h < a 0 ∧ r.ho h ≤ 4 ∧ (3 ≤ r.ho h → 1 ≤ r.wh h ∧ ds a (r.wh h) 0 < 100000) ∧ r.wn h ≤ 900 ∧ (r.ho h = 4 → r.cm h ≤ 1002000)) ∧
  r.cn + opn a r ≤ a 2 ∧ (∀ i, i < r.cn → r.ca i < a 2) ∧ (r.sp < a 0 ∧ ds a r.sp 0 < 100000) ∧ r.pa ≤ 8 ∧
  (r.wk = true → r.to < a 0 ∧ ds a r.to 0 < 100000 ∧ t ≤ r.mo ∧ r.mo ≤ 970) ∧ (r.wk = false → t ≤ r.mo ∧ (r.mo ≤ 970 ∨ r.mo = 100000)) ∧
  (∀ h, r.lk h = true → h < a 2 ∧ 1 ≤ r.wh h ∧ r.ho h < 3) ∧ (∀ h, ¬ h < a 2 → r.wh h = 0 ∧ r.ho h = 0 ∧ r.wn h = 0)
theorem RI.ctc {a : Nat → Nat} {t h u : Nat} {r : RS} (I : RI a t r) (hh : h < a 2) (ho : 3 ≤ r.ho h) (hu : u ≤ 900) : RI a t (ctc h u r) := by
  obtain ⟨i1, i2, i3, i4, i5, i6, i7, i8, i9⟩ := I
  refine ⟨fun k hk => ?_, ?_, fun i hi => ?_, i4, i5, i6, i7, fun k hk => ?_, fun k hk => ?_⟩
  · obtain ⟨j1, j2, j3, j4, j5⟩ := i1 k hk
    show r.wh k < a 0 ∧ aup r.ho h 0 k ≤ 4 ∧ (3 ≤ aup r.ho h 0 k → _) ∧ aup r.wn h u k ≤ 900 ∧ (aup r.ho h 0 k = 4 → _)
    by_cases e : k = h
    · subst e
      rw [aup_s, aup_s]
      exact ⟨j1, by omega, fun z => by omega, hu, fun z => by omega⟩
    · rw [aup_n e, aup_n e]
      exact ⟨j1, j2, j3, j4, j5⟩
  · have := cnt_off (f := fun h => decide (3 ≤ r.ho h)) (g := fun k => decide (3 ≤ aup r.ho h 0 k)) hh (decide_eq_true ho) (by rw [aup_s]; rfl) (fun i hi hn hg => by rw [aup_n hn] at hg; exact hg)
    show r.cn + 1 + cnt (fun k => decide (3 ≤ aup r.ho h 0 k)) (a 2) ≤ a 2
    unfold opn at i2
    omega
  · show aup r.ca r.cn h i < a 2
    by_cases e : i = r.cn
    · rw [e, aup_s]; exact hh
    · rw [aup_n e]; exact i3 i (by have : i < r.cn + 1 := hi; omega)
  · obtain ⟨k1, k2, k3⟩ := i8 k hk
    refine ⟨k1, k2, ?_⟩
    show aup r.ho h 0 k < 3
    by_cases e : k = h
    · rw [e, aup_s]; omega
    · rw [aup_n e]; exact k3
  · have e : k ≠ h := by omega
    show r.wh k = 0 ∧ aup r.ho h 0 k = 0 ∧ aup r.wn h u k = 0
    rw [aup_n e, aup_n e]; exact i9 k hk
theorem RI.cn {a : Nat → Nat} {t h : Nat} {r : RS} (I : RI a t r) (hh : h < a 2) (ho : 3 ≤ r.ho h) : r.cn < a 2 := by
  have := cnt_off (f := fun h => decide (3 ≤ r.ho h)) (g := fun k => decide (3 ≤ aup r.ho h 0 k)) hh (decide_eq_true ho) (by rw [aup_s]; rfl) (fun i hi hn hg => by rw [aup_n hn] at hg; exact hg)
  have h2 := I.2.1
  unfold opn at h2
  omega
theorem RI.sd {a : Nat → Nat} {t : Nat} {r : RS} {s : Int32} (I : RI a t r) : RI a t (r.sSd s) := I
