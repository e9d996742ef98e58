/-! ===== bestOrder: the component ===== -/
theorem x_bestOrder {d k m : Nat} {M : g_M} {Q : g_R} {a : Nat → Nat} {z i : Int32} (hd : 9 ≤ d) (k1 : 1 ≤ k) (k2 : k < 5) (m1 : 1 ≤ m) (m2 : m ≤ 5) (v : V1 a) (v2 : V2 a) (hf : fin a k) (g1 : GX1 M 2 a) (g2 : GX2 M 2 a) (tx : TX M 14 a) (hi : ¬ i < -1) (h : ∀ N r, (∀ c, (c < 57 ∨ 79 < c ∨ c = 67 ∨ c = 68) → N c = M c) → boR k (gre (boF a k m z) (om k - 1)) (boF a k m z) i r → Q (some (.int r)) N) : g_cal d k_X9_bestOrder [.ref 0, .int (nI k), .int (nI m), .int z, .int i] M Q := by
  have ob := om_b k k2 k1
  have ka := hf.1
  generalize hF : boF a k m z = f at h
  have fle : ∀ o, f o ≤ 40 := fun o => by rw [← hF]; exact boF_le v k m z o m2
  generalize hG : gre f (om k - 1) = G at h
  have hGl : G < om k := by have := gre_le f (om k - 1); omega
  refine g_m (by omega) 30 (fun e he => ?_)
  refine b_t (Int32.not_lt.mp hi) ?_
  refine x_refGame (m := 5) (by omega) (by decide) v g1 g2 (fun c hc => ?_)
  have c0 : c = 0 := by
    rcases hc with ⟨-, hx⟩ | ⟨-, -, -, hx⟩ | ⟨-, k', n', e1, e2, -, h5, -, -, hx⟩ | ⟨hx, -⟩
    · rcases hx with hx | hx
      · exact absurd ((ilt (a := k) (b := 1) rfl rfl (by omega) (by decide)).mp hx) (by omega)
      · exact absurd ((ilt (a := m) (b := 1) rfl rfl (by omega) (by decide)).mp hx) (by omega)
    · rcases hx with hx | hx
      · exact absurd ((ilt (a := 4) (b := k) rfl rfl (by decide) (by omega)).mp hx) (by omega)
      · exact absurd ((ilt (a := 5) (b := m) rfl rfl (by decide) (by omega)).mp hx) (by omega)
    · have : k = k' := (nI_eq (by omega) (by omega)).mp e1
      subst this
      exact absurd hf hx
    · exact hx
  subst c0
  refine b_t rfl ?_
  -- the answer
  have R148 : ∀ N u7 u8, (∀ c, (c < 57 ∨ 79 < c ∨ c = 67 ∨ c = 68) → N c = M c) → i < nI k → (∀ j, j < k → N 79 j = nI (ol k G j)) → g_Run (g_cal e) (g_mt S0 k_X9_bestOrder) Q 148 [.ref 0, .int (nI k), .int (nI m), .int z, .int i, .int 0, .int (nI (f G)), u7, u8] [] N := by
    intro N u7 u8 e1 hik e3
    by_cases hi0 : i < 0
    · exact g_go_ 20 (b_f (Int32.not_le.mpr hi0) (h N _ e1 (Or.inl ⟨hi0, rfl⟩)))
    · rcases pk_ix i (show k < 2 ^ 31 by omega) with y | y | ⟨j, hj, rfl⟩
      · exact absurd y hi0
      · exact absurd hik (Int32.not_lt.mpr y)
      · have hq := h N (N 79 j) e1 (Or.inr (Or.inl ⟨j, rfl, hj, e3 j hj⟩))
        exact g_go_ 20 (b_ge (b := 0) rfl rfl (by omega) (by decide) (fun _ => ⟨j, rfl, by omega, hq⟩) (fun y => by omega))
  refine ⟨fun hik => ?_, fun hik => h M _ (fun _ _ => rfl) (Or.inr (Or.inr ⟨fun y => hik (Int32.lt_of_lt_of_le y (by have := (ile (a := 0) (b := k) rfl rfl (by decide) (by omega)).mpr (by omega); exact this)), Int32.not_lt.mp hik, rfl⟩))⟩
  have one : ∀ o N x6 u8, o < om k → (∀ c, (c < 57 ∨ 79 < c ∨ c = 67 ∨ c = 68) → N c = M c) → (∀ j, j < 7 → N 58 j = nI (a (9 + j))) → N 77 1 = nI k → RW N k (ol k o) → (o = 0 → x6 = -1) → (o ≠ 0 → x6 = nI (f (gre f (o - 1))) ∧ ∀ j, j < k → N 79 j = nI (ol k (gre f (o - 1)) j)) → (∀ N' x8, (∀ c, (c < 57 ∨ 79 < c ∨ c = 67 ∨ c = 68) → N' c = M c) → (∀ j, j < 7 → N' 58 j = nI (a (9 + j))) → N' 77 1 = nI k → RW N' k (ol k o) → (∀ j, j < k → N' 79 j = nI (ol k (gre f o) j)) → g_Run (g_cal e) (g_mt S0 k_X9_bestOrder) Q 129 [.ref 0, .int (nI k), .int (nI m), .int z, .int i, .int 0, .int (nI (f (gre f o))), .int (nI o), .int x8] [] N') → g_Run (g_cal e) (g_mt S0 k_X9_bestOrder) Q 71 [.ref 0, .int (nI k), .int (nI m), .int z, .int i, .int 0, .int x6, .int (nI o), u8] [] N := by
    intro o N x6 u8 hol e1 e2 e3 e4 h0 h1 hq
    have fo' := fle o
    refine g_go_ 80 (b_ge rfl (show (24 : Int32) = nI 24 from rfl) (by omega) (by decide) (fun y => by omega) (fun _ => ?_))
    refine x_takeRow (by omega) (by omega) e4 (fun N1 t1 t2 t3 => ?_)
    obtain ⟨v', v2'⟩ := oa_v v v2 k2 ka hol
    have cw : CW N1 57 (oa a k o) := oa_cw v (g1.fr (fun c c1 c2 => by rw [t1 c (by omega) (by omega)]; exact e1 c (by omega))) (g2.fr (fun c c1 c2 => by rw [t1 c (by omega) (by omega)]; exact e1 c (by omega))) (fun j hj => by rw [t1 58 (by decide) (by decide)]; exact e2 j hj) t2 t3
    refine x_finds (by omega) v' v2' cw m2 (fun N2 q => ?_)
    have hfo : fnd (oa a k o) m z = f o := by rw [← hF]; rfl
    rw [hfo]
    have c1 : ∀ c, (c < 57 ∨ 79 < c ∨ c = 67 ∨ c = 68) → N2 c = M c := fun c hc => by rw [q c (by omega) (by omega), t1 c (by omega) (by omega)]; exact e1 c hc
    have c2 : ∀ j, j < 7 → N2 58 j = nI (a (9 + j)) := fun j hj => by rw [q 58 (by decide) (by decide), t1 58 (by decide) (by decide)]; exact e2 j hj
    have c3 : N2 77 1 = nI k := by rw [q 77 (by decide) (by decide), t1 77 (by decide) (by decide)]; exact e3
    have c4 : RW N2 k (ol k o) := fun j hj => by rw [q 78 (by decide) (by decide), t1 78 (by decide) (by decide)]; exact e4 j hj
    have hbet : gre f o = o → g_Run (g_cal e) (g_mt S0 k_X9_bestOrder) Q 108 [.ref 0, .int (nI k), .int (nI m), .int z, .int i, .int 0, .int x6, .int (nI o), .int (nI (f o))] [] N2 := fun hg => by
      rw [hg] at hq
      refine g_go_ 20 ⟨0, 0, 4, rfl, rfl, rfl, by decide, by decide, ?_⟩
      obtain ⟨N3, hN3⟩ : ∃ N3, N3 = g_ms N2 79 (va_cpy (N2 78) (N2 79) 0 0 4) := ⟨_, rfl⟩
      have hR := hq N3 (nI (f o)) (fun c hc => by rw [hN3, g_ms_n (by omega)]; exact c1 c hc) (fun j hj => by rw [hN3, g_ms_n (by decide)]; exact c2 j hj) (by rw [hN3, g_ms_n (by decide)]; exact c3) (fun j hj => by rw [hN3, g_ms_n (by decide)]; exact c4 j hj) (fun j hj => by
        rw [hN3, g_ms_s]
        exact (sb_cpy0 (show j < 4 by omega)).trans (c4 j hj))
      rw [hN3] at hR
      exact g_to hR _ rfl
    by_cases o0 : o = 0
    · have x9 := h0 o0
      subst x9
      have hg : gre f o = o := by rw [o0]; rfl
      exact b_f (Int32.not_le.mpr (n_gt1 (by omega))) (g_to (hbet hg) _ rfl)
    · obtain ⟨p1, p2⟩ := h1 o0
      obtain ⟨o', rfl⟩ : ∃ o', o = o' + 1 := ⟨o - 1, by omega⟩
      rw [show o' + 1 - 1 = o' by omega] at p1 p2
      have fg := fle (gre f o')
      subst p1
      refine b_le rfl rfl (by omega) (by omega) (fun y => ?_) (fun y => ?_)
      · have hg : gre f (o' + 1) = gre f o' := by rw [gre, if_neg (by omega)]
        rw [hg] at hq
        exact g_to (hq N2 (nI (f (o' + 1))) c1 c2 c3 c4 (fun j hj => by rw [q 79 (by decide) (by decide), t1 79 (by decide) (by decide)]; exact p2 j hj)) _ rfl
      · exact g_to (hbet (by rw [gre, if_pos y])) _ rfl
  have R71 : ∀ c o N x6 u8, o + 1 + c = om k → (∀ c, (c < 57 ∨ 79 < c ∨ c = 67 ∨ c = 68) → N c = M c) → (∀ j, j < 7 → N 58 j = nI (a (9 + j))) → N 77 1 = nI k → RW N k (ol k o) → (o = 0 → x6 = -1) → (o ≠ 0 → x6 = nI (f (gre f (o - 1))) ∧ ∀ j, j < k → N 79 j = nI (ol k (gre f (o - 1)) j)) → g_Run (g_cal e) (g_mt S0 k_X9_bestOrder) Q 71 [.ref 0, .int (nI k), .int (nI m), .int z, .int i, .int 0, .int x6, .int (nI o), u8] [] N := by
    intro c
    induction c with
    | zero =>
      intro o N x6 u8 ho e1 e2 e3 e4 h0 h1
      refine one o N x6 u8 (by omega) e1 e2 e3 e4 h0 h1 (fun N' x8 c1 c2 c3 c4 c5 => ?_)
      rw [show o = om k - 1 by omega, hG] at c5
      rw [show gre f o = G by rw [← hG]; congr 1; omega]
      refine g_go_ 20 (x_advance (len := k) (row := ol k o) (by omega) (by omega) k1 c3 c4 (fun i hi => by have := ol_b k k2 o (by omega) i hi; omega) (fun _ => ?_) (fun y => absurd (ol_last k k2 o (by omega) (by omega)) y))
      exact b_nf rfl (g_to (R148 N' (.int (nI o)) (.int x8) c1 hik c5) _ rfl)
    | succ c ih =>
      intro o N x6 u8 ho e1 e2 e3 e4 h0 h1
      refine one o N x6 u8 (by omega) e1 e2 e3 e4 h0 h1 (fun N' x8 c1 c2 c3 c4 c5 => ?_)
      refine g_go_ 20 (x_advance (len := k) (row := ol k o) (by omega) (by omega) k1 c3 c4 (fun i hi => by have := ol_b k k2 o (by omega) i hi; omega) (fun y => absurd y (ol_nz k k2 o (by omega) (by omega))) (fun _ N3 t1 t2 => ?_))
      have hR := ih (o + 1) N3 (nI (f (gre f o))) (.int x8) (by omega) (fun c hc => by rw [t1 c (by omega)]; exact c1 c hc) (fun j hj => by rw [t1 58 (by decide)]; exact c2 j hj) (by rw [t1 77 (by decide)]; exact c3) (fun i hi => by rw [t2 i hi, ol_next k k2 o (by omega) (by omega) i hi]) (fun y => by omega) (fun _ => ⟨rfl, fun j hj => by rw [t1 79 (by decide)]; exact c5 j hj⟩)
      rw [nI_succ] at hR
      exact b_nt (by decide) (g_to hR _ rfl)
  refine g_stop_ (g_go_ 20 (x_tcopy (by omega) (Or.inl ⟨rfl, rfl⟩) (fun M1 f1 t1 => ?_)))
  have tx1 : TX M1 57 a := t1.to v2 tx
  refine x_ordBegin (by omega) (by omega) (fun M2 q1 q2 q3 => ?_)
  have hR := R71 (om k - 1) 0 M2 (-1) .null (by omega) (fun c hc => by rw [q1 c (by omega) (by omega)]; exact f1 c (by omega)) (fun j hj => by rw [q1 58 (by decide) (by decide)]; exact tx1.1 j hj) q2 (fun i hi => by rw [q3 i hi, ol_0 k k2 i hi]) (fun _ => rfl) (fun y => absurd rfl y)
  exact g_to hR _ rfl
theorem p_bestOrder {d n : Nat} {M : g_M} {x y z i : Int32} (hd : 10 ≤ d) (I : Inv n M) : g_pair d k_X9_bestOrder k_X10_bestOrder [.int x, .int y, .int z, .int i] M (Inv (n + 1)) := by
  have I0 := I
  obtain ⟨a, ⟨v, v2, v3⟩, ⟨g1, g2, tx, -⟩, hM, -⟩ := I
  have bad4 : (x < 1 ∨ y < 1 ∨ i < -1) → g_cal d k_X10_bestOrder [.ref 82, .int x, .int y, .int z, .int i] (g_ms M 81 (upd (M 81) 4 (M 81 4 + 1))) (fun v2 M2 => v2 = some (.int (-4)) ∧ Inv (n + 1) M2) := by
    intro hb
    refine g_m (by omega) 60 (fun e he => ?_)
    refine ⟨fun _ => b_nt (by decide) (b_f (by decide) (m_refuse (by omega) 4 (by decide) (by decide) (e_ref I0 (by decide)))), fun hx => ⟨fun _ => b_nt (by decide) (b_f (by decide) (m_refuse (by omega) 4 (by decide) (by decide) (e_ref I0 (by decide)))), fun hy => ⟨fun hi => ?_, fun _ => b_nt (by decide) (b_f (by decide) (m_refuse (by omega) 4 (by decide) (by decide) (e_ref I0 (by decide))))⟩⟩⟩
    rcases hb with hb | hb | hb
    · exact absurd hb hx
    · exact absurd hb hy
    · exact absurd hb (Int32.not_lt.mpr hi)
  by_cases hi : i < -1
  · exact g_m (by omega) 60 (fun e he => b_f (Int32.not_le.mpr hi) (x_refuse (by omega) 4 (by decide) (by decide) ⟨_, rfl, bad4 (Or.inr (Or.inr hi))⟩))
  by_cases hg : ∃ k m, x = nI k ∧ y = nI m ∧ 1 ≤ k ∧ k < 5 ∧ 1 ≤ m ∧ m ≤ 5 ∧ fin a k
  · obtain ⟨k, m, rfl, rfl, k1, k2, m1, m2, hf⟩ := hg
    refine x_bestOrder (by omega) k1 k2 m1 m2 v v2 hf g1 g2 tx hi (fun N r e1 hr => ⟨r, rfl, ?_⟩)
    refine m_bestOrder (by omega) k1 k2 m1 m2 v v2 hf (hM.fr (e1 84 (by omega))) hi hr (fun N2 f1 f2 => ⟨rfl, ?_⟩)
    refine (I0.fr2 (P := N2) (fun c hc => ?_) (fun j hj => by rw [f2 j hj, hM j hj]) ?_ ?_ ?_).up
    · rw [f1.1 c (by omega) (by omega) (by omega)]; exact e1 c (by omega)
    · rw [f1.2 7 (by decide), e1 82 (by omega)]
    · rw [f1.2 37 (by decide), e1 82 (by omega)]
    · rw [f1.2 4 (by decide), e1 82 (by omega)]
  · refine g_m (by omega) 60 (fun e he => b_t (Int32.not_lt.mp hi) ?_)
    refine x_refGame (m := 5) (by omega) (by decide) v g1 g2 (fun c hc => ?_)
    rcases hc with ⟨rfl, hx⟩ | ⟨rfl, hx, hy, hz⟩ | ⟨rfl, k, m, rfl, rfl, k1, k2, m1, m2, hf⟩ | ⟨rfl, hx⟩
    · refine b_f (by decide) (x_refuse (by omega) 4 (by decide) (by decide) ⟨_, rfl, bad4 ?_⟩)
      rcases hx with hx | hx
      · exact Or.inl hx
      · exact Or.inr (Or.inl hx)
    · refine b_f (by decide) (x_refuse (by omega) 6 (by decide) (by decide) ⟨_, rfl, ?_⟩)
      refine g_m (by omega) 60 (fun e he => b_f hx (b_f hy (b_t (Int32.not_lt.mp hi) ⟨fun _ => ?_, fun hx2 => ⟨fun hy2 => ?_, fun _ => ?_⟩⟩)))
      · exact b_nt (by decide) (b_f (by decide) (m_refuse (by omega) 6 (by decide) (by decide) (e_ref I0 (by decide))))
      · rcases hz with hz | hz
        · exact absurd hz hx2
        · exact absurd hz (Int32.not_lt.mpr hy2)
      · exact b_nt (by decide) (b_f (by decide) (m_refuse (by omega) 6 (by decide) (by decide) (e_ref I0 (by decide))))
    · refine b_f (by decide) (x_refuse (by omega) 3 (by decide) (by decide) ⟨_, rfl, ?_⟩)
      refine g_m (by omega) 60 (fun e he => ?_)
      refine b_lt (a := k) (b := 1) rfl rfl (by omega) (by decide) (fun y => by omega) (fun _ => b_lt (a := m) (b := 1) rfl rfl (by omega) (by decide) (fun y => by omega) (fun _ => b_t (Int32.not_lt.mp hi) ?_))
      refine b_gt (a := k) (b := 4) rfl rfl (by omega) (by decide) (fun y => by omega) (fun _ => b_le (a := m) (b := 5) rfl rfl (by omega) (by decide) (fun _ => ?_) (fun y => by omega))
      refine b_nf rfl (m_isGame (by omega) k2 k1 v (hM.fr (g_ms_n (by decide))) (fun _ N hN => ?_) (fun y => absurd y hf))
      refine b_nf rfl (b_f (by decide) (m_refuse (by omega) 3 (by decide) (by decide) ⟨rfl, e_ref2 I0 (by decide) ?_⟩))
      rcases hN with rfl | hN
      · exact Sm.rf _
      · exact hN.sm
    · exact absurd hx hg
