def uN2 (t : N2) (p k v : Nat) : N2 := fun p' k' => if p' = p ∧ k' = k then v else t p' k'
theorem becC {σ : AS} {n p k v : Nat} (hn : σ.1 6 0 2 = nI n) (hb : n ≤ 8) (hp : p < n) (hk : k < 5) :
    g_X6_become (nI p) (nI k) (nI v) σ = some ((), sAf σ 6 0 0 (upd (σ.2.1 6 0 0) (p * 5 + k) (nI v))) := by
  unfold g_X6_become
  have e : nI p * 5 + nI k = nI (p * 5 + k) := by rw [li5, pk_mul, nI_add]
  rw [has_eq hn hb, bnd_some, if_pos (inb_nI hp (by omega)), if_neg one_ne, if_neg (by rw [li0]; exact nI_nlt (by omega) (by omega)), if_pos (by rw [li5]; exact nI_lt hk (by omega)), e, if_pos (inb_nI (by omega) (by omega))]
  show some ((), sA σ 6 0 0 (nI (p * 5 + k)) (nI v)) = _
  unfold sA
  rw [nI_clamp (by omega)]
/-- a trait is changed on both sides -/
theorem tr_setC {t : N2} {p k v : Nat} {f : Nat → Int32} (hk : k < 5) (h : ∀ p k, p < 8 → k < 5 → f (p * 5 + k) = nI (t p k)) : ∀ p' k', p' < 8 → k' < 5 → upd f (p * 5 + k) (nI v) (p' * 5 + k') = nI (uN2 t p k v p' k') := by
  intro p' k' hp' hk'
  rw [upd_at]
  unfold uN2
  by_cases c : p' = p ∧ k' = k
  · rw [if_pos c, if_pos (by rw [c.1, c.2])]
  · rw [if_neg c, if_neg (fun z => c (by omega))]; exact h p' k' hp' hk'
theorem tr_setM {t : N2} {p k v : Nat} {f : Nat → Int32} (hp : p < 8) (h : ∀ p k, p < 8 → k < 5 → f (8 * k + p) = nI (t p k)) : ∀ p' k', p' < 8 → k' < 5 → upd f (8 * k + p) (nI v) (8 * k' + p') = nI (uN2 t p k v p' k') := by
  intro p' k' hp' hk'
  rw [upd_at]
  unfold uN2
  by_cases c : p' = p ∧ k' = k
  · rw [if_pos c, if_pos (by rw [c.1, c.2])]
  · rw [if_neg c, if_neg (fun z => c (by omega))]; exact h p' k' hp' hk'
theorem tr_P {n : Nat} {t : N2} {p k v : Nat} (hp : p < n) (hv : v ≤ 99) (hv3 : k < 3 → v ≤ 9) (h : ∀ p k, p < 8 → k < 5 → t p k ≤ 99 ∧ (k < 3 → t p k ≤ 9) ∧ (n ≤ p → t p k = 0)) : ∀ p' k', p' < 8 → k' < 5 → uN2 t p k v p' k' ≤ 99 ∧ (k' < 3 → uN2 t p k v p' k' ≤ 9) ∧ (n ≤ p' → uN2 t p k v p' k' = 0) := by
  intro p' k' hp' hk'
  unfold uN2
  by_cases c : p' = p ∧ k' = k
  · rw [if_pos c]
    exact ⟨hv, fun z => hv3 (by omega), fun z => by omega⟩
  · rw [if_neg c]; exact h p' k' hp' hk'
theorem op_undo : Both g_X8_undo g_X9_undo := by
  intro σ h
  obtain ⟨n, t, w, d, a, c, h1, h2, h3⟩ := h.1
  obtain ⟨p1, p2, p3, p4, p5, p6⟩ := (h3 : G1P n t w d a c)
  have H2 := h2
  obtain ⟨u1, u2, u3, u4, u5, u6, u7, u8, u9⟩ := (h1 : G1C σ n t w d a c)
  obtain ⟨m1, m2, m3, m4, m5, m6, m7, m8⟩ := (h2 : G1M σ n t w d a c)
  have k4 : gF σ 0 0 4 = nI d := u4
  have k5 : gF σ 9 0 5 = nI d := m4
  unfold g_X8_undo g_X0_takeBack g_X9_undo
  by_cases c0 : d = 0
  · subst c0
    refine wpO_e (r := -5) (σ := σ) (by rw [k4]; rfl) (wpO_some.mpr (wpO_t k5 (wpO_some.mpr ⟨rfl, h⟩)))
  · have hd : d - 1 < a := by omega
    obtain ⟨q1, q2, q3, q4, q5⟩ := p6 (d - 1) hd
    have ed : gF σ 0 0 4 - 1 = nI (d - 1) := by rw [k4, li1, pk_sub (by omega)]
    rw [ed]
    refine wpO_b (P := fun r σ1 => r = nI (d - 1) ∧ G1C σ1 n (uN2 t (c (d - 1) 0) (c (d - 1) 1) (c (d - 1) 2)) w (d - 1) a c ∧ FrL [(0, 0, 4), (6, 0, 0)] σ σ1) ?_ ?_
    · refine wpO_t (by rw [k4, li0]; exact nI_lt (by omega) (by omega)) (wpO_lt ?_)
      generalize hs : sF σ 0 0 4 (nI (d - 1)) = σ1
      have f1 : FrL [(0, 0, 4)] σ σ1 := by rw [← hs]; exact FrL_sF (by simp)
      have v1 : gF σ1 0 0 4 = nI (d - 1) := by rw [← hs]; rfl
      rw [v1]
      refine wpO_t (inb_nI (by omega) (by omega)) ?_
      rw [gA_nI (by omega), gA_nI (by omega), gA_nI (by omega), f1.a 0 0 0 (by decide), f1.a 0 0 1 (by decide), f1.a 0 0 2 (by decide), u6 _ hd, u7 _ hd, u8 _ hd]
      refine wpO_e (becC (n := n) (by rw [f1.f 6 0 2 (by decide)]; exact u1) p1 q1 q2) (wpO_some.mpr ⟨v1, ⟨?_, ?_, ?_, v1, ?_, ?_, ?_, ?_, ?_⟩, (f1.mono (by decide)).tr (FrL_sA (by decide))⟩)
      · rw [sAf_f, f1.f 6 0 2 (by decide)]; exact u1
      · rw [sAf_a, if_pos ⟨rfl, rfl, rfl⟩]
        exact tr_setC q2 (by rw [f1.a 6 0 0 (by decide)]; exact u2)
      · rw [sAf_a, if_neg (by decide), f1.a 6 0 1 (by decide)]; exact u3
      · rw [sAf_f, f1.f 0 0 5 (by decide)]; exact u5
      · rw [sAf_a, if_neg (by decide), f1.a 0 0 0 (by decide)]; exact u6
      · rw [sAf_a, if_neg (by decide), f1.a 0 0 1 (by decide)]; exact u7
      · rw [sAf_a, if_neg (by decide), f1.a 0 0 2 (by decide)]; exact u8
      · rw [sAf_a, if_neg (by decide), f1.a 0 0 3 (by decide)]; exact u9
    · intro r σ1 x
      obtain ⟨rfl, x1, x2⟩ := x
      have g := H2.fr x2 (by decide)
      obtain ⟨m1, m2, m3, m4, m5, m6, m7, m8⟩ := g
      have k5 : gF σ1 9 0 5 = nI d := m4
      have ed : gF σ1 9 0 5 - 1 = nI (d - 1) := by rw [k5, li1, pk_sub (by omega)]
      refine wpO_some.mpr (wpO_f (by rw [k5, li0]; exact fun z => c0 ((nI_eq (by omega) (by omega)).mp z)) (wpO_lt ?_))
      rw [ed]
      generalize hs : sF σ1 9 0 5 (nI (d - 1)) = σ2
      have f2 : FrL [(9, 0, 5)] σ1 σ2 := by rw [← hs]; exact FrL_sF (by simp)
      have v2 : gF σ2 9 0 5 = nI (d - 1) := by rw [← hs]; rfl
      rw [v2]
      refine wpO_t (inb_nI (by omega) (by omega)) ?_
      rw [gA_nI (by omega), gA_nI (by omega), f2.a 9 0 1 (by decide), f2.a 9 0 2 (by decide), m6 _ hd, m7 _ hd]
      refine wpO_t (inb_nI (by omega) (by omega)) (wpO_lt ?_)
      generalize hs2 : sA σ2 9 0 0 (nI (8 * c (d - 1) 1 + c (d - 1) 0)) (nI (c (d - 1) 2)) = σ3
      have f3 : FrL [(9, 0, 0)] σ2 σ3 := by rw [← hs2]; exact FrL_sA (by simp)
      have v3 : σ3.2.1 9 0 0 = upd (σ2.2.1 9 0 0) (8 * c (d - 1) 1 + c (d - 1) 0) (nI (c (d - 1) 2)) := by rw [← hs2]; unfold sA; rw [sAf_a, if_pos ⟨rfl, rfl, rfl⟩, nI_clamp (by omega)]
      have f4 : FrL [(9, 0, 5), (9, 0, 0)] σ1 σ3 := (f2.mono (by decide)).tr (f3.mono (by decide))
      have F : FrL [(0, 0, 4), (6, 0, 0), (9, 0, 5), (9, 0, 0)] σ σ3 := (x2.mono (by decide)).tr (f4.mono (by decide))
      have v4 : gF σ3 9 0 5 = nI (d - 1) := by unfold gF; rw [f3.f 9 0 5 (by decide)]; exact v2
      refine wpO_some.mpr ⟨v4.symm, h.of1 F ⟨n, _, w, d - 1, a, c, x1.fr f4 (by decide), ⟨?_, ?_, ?_, v4, ?_, ?_, ?_, ?_⟩, p1, tr_P q1 q3 (fun z => (q5 z).1) p2, p3, by omega, p5, p6⟩ (by decide)⟩
      · rw [f4.f 9 0 6 (by decide)]; exact m1
      · rw [v3]; exact tr_setM (by omega) (by rw [f2.a 9 0 0 (by decide)]; exact m2)
      · rw [f4.a 9 0 8 (by decide)]; exact m3
      · rw [f4.f 9 0 4 (by decide)]; exact m5
      · rw [f4.a 9 0 1 (by decide)]; exact m6
      · rw [f4.a 9 0 2 (by decide)]; exact m7
      · rw [f4.a 9 0 3 (by decide)]; exact m8
theorem op_redo : Both g_X8_redo g_X9_redo := by
  intro σ h
  obtain ⟨n, t, w, d, a, c, h1, h2, h3⟩ := h.1
  obtain ⟨p1, p2, p3, p4, p5, p6⟩ := (h3 : G1P n t w d a c)
  have H2 := h2
  obtain ⟨u1, u2, u3, u4, u5, u6, u7, u8, u9⟩ := (h1 : G1C σ n t w d a c)
  obtain ⟨m1, m2, m3, m4, m5, m6, m7, m8⟩ := (h2 : G1M σ n t w d a c)
  have k4 : gF σ 0 0 4 = nI d := u4
  have k5 : gF σ 9 0 5 = nI d := m4
  unfold g_X8_redo g_X0_makeAgain g_X9_redo
  by_cases c0 : d = a
  · subst c0
    refine wpO_e (r := -5) (σ := σ) ?_ (wpO_some.mpr (wpO_t (k5.trans m5.symm) (wpO_some.mpr ⟨rfl, h⟩)))
    rw [k4, if_neg (show ¬ nI d < σ.1 0 0 5 by rw [u5]; exact nI_nlt (by omega) (by omega))]
  · have hd : d < a := by omega
    obtain ⟨q1, q2, q3, q4, q5⟩ := p6 d hd
    refine wpO_b (P := fun r σ1 => r = nI (a - (d + 1)) ∧ G1C σ1 n (uN2 t (c d 0) (c d 1) (c d 3)) w (d + 1) a c ∧ FrL [(0, 0, 4), (6, 0, 0)] σ σ1) ?_ ?_
    · rw [k4]
      refine wpO_t (show nI d < σ.1 0 0 5 by rw [u5]; exact nI_lt hd (by omega)) (wpO_t (inb_nI (by omega) (by omega)) ?_)
      rw [gA_nI (by omega), gA_nI (by omega), gA_nI (by omega), u6 _ hd, u7 _ hd, u9 _ hd]
      refine wpO_e (becC (n := n) u1 p1 q1 q2) (wpO_lt ?_)
      generalize hs : sAf σ 6 0 0 (upd (σ.2.1 6 0 0) (c d 0 * 5 + c d 1) (nI (c d 3))) = σ1
      have f1 : FrL [(6, 0, 0)] σ σ1 := by rw [← hs]; exact FrL_sA (by simp)
      have v1 : σ1.2.1 6 0 0 = upd (σ.2.1 6 0 0) (c d 0 * 5 + c d 1) (nI (c d 3)) := by rw [← hs, sAf_a, if_pos ⟨rfl, rfl, rfl⟩]
      have e1 : gF σ1 0 0 4 + 1 = nI (d + 1) := by unfold gF; rw [f1.f 0 0 4 (by decide), u4, nI_1]
      rw [e1]
      generalize hs2 : sF σ1 0 0 4 (nI (d + 1)) = σ2
      have f2 : FrL [(0, 0, 4)] σ1 σ2 := by rw [← hs2]; exact FrL_sF (by simp)
      have v2 : σ2.1 0 0 4 = nI (d + 1) := by rw [← hs2]; rfl
      have f3 : FrL [(0, 0, 4), (6, 0, 0)] σ σ2 := (f1.mono (by decide)).tr (f2.mono (by decide))
      refine wpO_some.mpr ⟨?_, ⟨?_, ?_, ?_, v2, ?_, ?_, ?_, ?_, ?_⟩, f3⟩
      · show σ2.1 0 0 5 - σ2.1 0 0 4 = _
        rw [f3.f 0 0 5 (by decide), u5, v2, pk_sub (by omega)]
      · rw [f3.f 6 0 2 (by decide)]; exact u1
      · rw [f2.a 6 0 0 (by decide), v1]
        exact tr_setC q2 u2
      · rw [f3.a 6 0 1 (by decide)]; exact u3
      · rw [f3.f 0 0 5 (by decide)]; exact u5
      · rw [f3.a 0 0 0 (by decide)]; exact u6
      · rw [f3.a 0 0 1 (by decide)]; exact u7
      · rw [f3.a 0 0 2 (by decide)]; exact u8
      · rw [f3.a 0 0 3 (by decide)]; exact u9
    · intro r σ1 x
      obtain ⟨rfl, x1, x2⟩ := x
      have g := H2.fr x2 (by decide)
      obtain ⟨m1, m2, m3, m4, m5, m6, m7, m8⟩ := g
      have k5 : gF σ1 9 0 5 = nI d := m4
      refine wpO_some.mpr (wpO_f ?_ ?_)
      · rw [k5]
        show ¬ nI d = σ1.1 9 0 4
        rw [m5]
        exact fun z => c0 ((nI_eq (by omega) (by omega)).mp z)
      rw [k5]
      refine wpO_t (inb_nI (by omega) (by omega)) ?_
      rw [gA_nI (by omega), gA_nI (by omega), m6 _ hd, m8 _ hd]
      refine wpO_t (inb_nI (by omega) (by omega)) (wpO_lt (wpO_lt ?_))
      generalize hs2 : sA σ1 9 0 0 (nI (8 * c d 1 + c d 0)) (nI (c d 3)) = σ2
      have f2 : FrL [(9, 0, 0)] σ1 σ2 := by rw [← hs2]; exact FrL_sA (by simp)
      have v3 : σ2.2.1 9 0 0 = upd (σ1.2.1 9 0 0) (8 * c d 1 + c d 0) (nI (c d 3)) := by rw [← hs2]; unfold sA; rw [sAf_a, if_pos ⟨rfl, rfl, rfl⟩, nI_clamp (by omega)]
      have e1 : gF σ2 9 0 5 + 1 = nI (d + 1) := by unfold gF; rw [f2.f 9 0 5 (by decide), m4, nI_1]
      rw [e1]
      generalize hs : sF σ2 9 0 5 (nI (d + 1)) = σ3
      have f3 : FrL [(9, 0, 5)] σ2 σ3 := by rw [← hs]; exact FrL_sF (by simp)
      have v4 : σ3.1 9 0 5 = nI (d + 1) := by rw [← hs]; rfl
      have f4 : FrL [(9, 0, 5), (9, 0, 0)] σ1 σ3 := (f2.mono (by decide)).tr (f3.mono (by decide))
      have F : FrL [(0, 0, 4), (6, 0, 0), (9, 0, 5), (9, 0, 0)] σ σ3 := (x2.mono (by decide)).tr (f4.mono (by decide))
      refine wpO_some.mpr ⟨?_, h.of1 F ⟨n, _, w, d + 1, a, c, x1.fr f4 (by decide), ⟨?_, ?_, ?_, v4, ?_, ?_, ?_, ?_⟩, p1, tr_P q1 q4 (fun z => (q5 z).2) p2, p3, by omega, p5, p6⟩ (by decide)⟩
      · show nI (a - (d + 1)) = σ3.1 9 0 4 - σ3.1 9 0 5
        rw [v4, f4.f 9 0 4 (by decide), m5, pk_sub (by omega)]
      · rw [f4.f 9 0 6 (by decide)]; exact m1
      · rw [f3.a 9 0 0 (by decide), v3]; exact tr_setM (by omega) m2
      · rw [f4.a 9 0 8 (by decide)]; exact m3
      · rw [f4.f 9 0 4 (by decide)]; exact m5
      · rw [f4.a 9 0 1 (by decide)]; exact m6
      · rw [f4.a 9 0 2 (by decide)]; exact m7
      · rw [f4.a 9 0 3 (by decide)]; exact m8
