/-! image, back -/
theorem cpy0 {n i : Nat} {f g : Nat → Int32} {m : Int32} (hm : m.toNatClampNeg = n) (hi : i < n) : va_cpy f g (0 : Int32).toNatClampNeg (0 : Int32).toNatClampNeg m.toNatClampNeg i = f i := by
  rw [hm, cpy_at, if_pos ⟨Nat.zero_le _, by rw [show (0 : Int32).toNatClampNeg = 0 from by decide]; omega⟩, show (0 : Int32).toNatClampNeg = 0 from by decide]
  congr 1; omega
theorem becomeAs_ok {o o1 : Nat} {σ : AS} (hne : o ≠ o1) : wpO (g_X1_becomeAs o o1 σ) (fun _ σ1 => (∀ i, i < 7 → σ1.2.1 1 o 3 i = σ.2.1 1 o1 3 i) ∧ (∀ i, i < 7 → σ1.2.1 1 o 4 i = σ.2.1 1 o1 4 i) ∧ (∀ i, i < 8 → σ1.2.1 1 o 6 i = σ.2.1 1 o1 6 i) ∧ (∀ i, i < 8 → σ1.2.1 1 o 7 i = σ.2.1 1 o1 7 i) ∧ σ1.1 1 o 11 = σ.1 1 o1 11 ∧ σ1.1 1 o 12 = σ.1 1 o1 12 ∧ FrL [(1, o, 3), (1, o, 4), (1, o, 6), (1, o, 7), (1, o, 11), (1, o, 12)] σ σ1) := by
  unfold g_X1_becomeAs
  refine wpO_lt (wpO_lt (wpO_lt (wpO_lt (wpO_lt (wpO_lt (wpO_some.mpr ?_))))))
  have hne' : ¬ o1 = o := fun z => hne z.symm
  refine ⟨fun i hi => ?_, fun i hi => ?_, fun i hi => ?_, fun i hi => ?_, ?_, ?_, ?_⟩
  · simp only [sF_a, sAf_a, true_and, and_true, Nat.reduceEqDiff, false_and, and_false, if_true, if_false]
    exact cpy0 (n := 7) (by decide) hi
  · simp only [sF_a, sAf_a, true_and, and_true, Nat.reduceEqDiff, false_and, and_false, if_true, if_false]
    exact cpy0 (n := 7) (by decide) hi
  · simp only [sF_a, sAf_a, true_and, and_true, Nat.reduceEqDiff, false_and, and_false, if_true, if_false]
    exact cpy0 (n := 8) (by decide) hi
  · simp only [sF_a, sAf_a, true_and, and_true, Nat.reduceEqDiff, false_and, and_false, if_true, if_false]
    exact cpy0 (n := 8) (by decide) hi
  · simp only [gF, sF_f, sAf_f, true_and, and_true, Nat.reduceEqDiff, false_and, and_false, if_true, if_false]
  · simp only [gF, sF_f, sAf_f, true_and, and_true, Nat.reduceEqDiff, false_and, and_false, if_true, if_false]
  · exact (((((FrL_sA (by simp)).tr (FrL_sA (by simp))).tr (FrL_sA (by simp))).tr (FrL_sA (by simp))).tr (FrL_sF (by simp))).tr (FrL_sF (by simp))
theorem copiesM {n k0 k1 : Nat} {σ : AS} (hn : n ≤ 336) (hne : k0 ≠ k1) : wpO (g_X9_copies n k0 k1 σ) (fun _ σ1 => (∀ i, i < n → σ1.2.1 9 0 k1 i = σ.2.1 9 0 k0 i) ∧ FrL [(9, 0, k1)] σ σ1) := by
  have loop : ∀ (d j f : Nat) (σ1 : AS), j + d = n → d < f → (∀ i, i < j → σ1.2.1 9 0 k1 i = σ.2.1 9 0 k0 i) → FrL [(9, 0, k1)] σ σ1 → wpO (g_X9_copies_2 n k0 k1 f (nI j) σ1) (fun _ σ1 => (∀ i, i < n → σ1.2.1 9 0 k1 i = σ.2.1 9 0 k0 i) ∧ FrL [(9, 0, k1)] σ σ1) := by
    intro d
    induction d with
    | zero =>
      intro j f σ1 hj hf a fr
      obtain ⟨f, rfl⟩ : ∃ g, f = g + 1 := ⟨f - 1, by omega⟩
      rw [g_X9_copies_2]
      exact wpO_f (show ¬ nI j < nI n from nI_nlt (by omega) (by omega)) (wpO_some.mpr ⟨fun i hi => a i (by omega), fr⟩)
    | succ d ih =>
      intro j f σ1 hj hf a fr
      obtain ⟨f, rfl⟩ : ∃ g, f = g + 1 := ⟨f - 1, by omega⟩
      rw [g_X9_copies_2, nI_1]
      refine wpO_t (show nI j < nI n from nI_lt (by omega) (by omega)) (wpO_t (inb_nI (by omega) (by omega)) (wpO_lt ?_))
      refine ih (j + 1) f _ (by omega) (by omega) ?_ (fr.tr (FrL_sA (by simp)))
      intro i hi
      unfold sA
      rw [sAf_a, if_pos ⟨rfl, rfl, rfl⟩, nI_clamp (by omega), gA_nI (by omega), upd_at, fr.a 9 0 k0 (by simp [hne])]
      by_cases e : i = j
      · rw [if_pos e, e]
      · rw [if_neg e]; exact a i (by omega)
  unfold g_X9_copies
  exact loop n 0 400 σ (by omega) (by omega) (fun i hi => absurd hi (Nat.not_lt_zero i)) FrL.rf
theorem LdM.copy {σ σ1 : AS} {k kf k' kf' h : Nat} {y : LEDS} (H : LdM σ k kf h y) (hh : h ≤ 24) (e1 : ∀ i, i < 336 → σ1.2.1 9 0 k' i = σ.2.1 9 0 k i) (e2 : ∀ i, i < 168 → σ1.2.1 9 0 kf' i = σ.2.1 9 0 kf i) : LdM σ1 k' kf' h y := by
  obtain ⟨a, b, c⟩ := H
  exact ⟨fun g i hg hi => (e1 _ (by omega)).trans (a g i hg hi), fun g i hg hi => (e1 _ (by omega)).trans (b g i hg hi), fun g i hg hi => (e2 _ (by omega)).trans (c g i hg hi)⟩
abbrev SIc : List (Nat × Nat × Nat) := [(1, 2, 3), (1, 2, 4), (1, 2, 6), (1, 2, 7), (1, 2, 11), (1, 2, 12), (8, 0, 11)]
abbrev SIm : List (Nat × Nat × Nat) := [(9, 0, 36), (9, 0, 37), (9, 0, 38), (9, 0, 39), (9, 0, 40), (9, 0, 41), (9, 0, 42), (9, 0, 43)]
theorem op_image : Both g_X8_image g_X9_image := by
  intro σ h
  obtain ⟨x, y, z, g1, g2, g3⟩ := h.2.1
  obtain ⟨wd, L, R, cm, yl, fi, now⟩ := x
  have hN : now ≤ 24 := g3.1.2.2
  obtain ⟨c0, c1, c2, c3, c4, c5, c6, c7⟩ := (g1.1 : CrC σ (wd, L, R, cm, yl, fi, now))
  unfold g_X8_image g_X9_image
  refine wpO_b (becomeAs_ok (by decide)) (fun _ σ1 w => ?_)
  obtain ⟨w3, w4, w6, w7, w11, w12, f1⟩ := w
  refine wpO_lt (wpO_some.mpr ?_)
  generalize hs : sF σ1 8 0 11 1 = σ2
  have f2 : FrL SIc σ σ2 := by rw [← hs]; exact (f1.mono (by decide)).tr (FrL_sF (by decide))
  have f12 : FrL [(8, 0, 11)] σ1 σ2 := by rw [← hs]; exact FrL_sF (by decide)
  have m2 := g2.fr f2 (by decide)
  obtain ⟨d0, d1, d2, d3, d4, d5, d6, d7⟩ := (m2.1 : CrM σ2 (wd, L, R, cm, yl, fi, now))
  refine wpO_lt (wpO_lt (wpO_lt ?_))
  generalize hs3 : sF _ 9 0 38 _ = σ3
  have f3 : FrL [(9, 0, 36), (9, 0, 37), (9, 0, 38)] σ2 σ3 := by rw [← hs3]; exact ((FrL_sF (by decide)).tr (FrL_sF (by decide))).tr (FrL_sF (by decide))
  have v36 : σ3.1 9 0 36 = 1 := by rw [← hs3]; rfl
  have v37 : σ3.1 9 0 37 = nI now := by rw [← hs3]; exact d6
  have v38 : σ3.1 9 0 38 = fi := by rw [← hs3]; exact d5
  refine wpO_b (copiesM (by omega) (by decide)) (fun _ σ4 u4 => wpO_b (copiesM (by omega) (by decide)) (fun _ σ5 u5 => wpO_b (copiesM (by omega) (by decide)) (fun _ σ6 u6 => wpO_b (copiesM (by omega) (by decide)) (fun _ σ7 u7 => wpO_b (copiesM (by omega) (by decide)) (fun _ σ8 u8 => wpO_some.mpr ?_)))))
  obtain ⟨u4, t4⟩ := u4
  obtain ⟨u5, t5⟩ := u5
  obtain ⟨u6, t6⟩ := u6
  obtain ⟨u7, t7⟩ := u7
  obtain ⟨u8, t8⟩ := u8
  have F38 : FrL SIm σ2 σ8 := ((((f3.mono (by decide)).tr (t4.mono (by decide))).tr (t5.mono (by decide))).tr (t6.mono (by decide))).tr ((t7.mono (by decide)).tr (t8.mono (by decide)))
  have F : FrL (SIc ++ SIm) σ σ8 := (f2.mono (by decide)).tr (F38.mono (by decide))
  refine ⟨?_, h.of2 F ⟨(wd, L, R, cm, yl, fi, now), y, (true, L, R, cm, yl, fi, now), ⟨g1.1.fr F (by decide), g1.2.1.fr F (by decide), ?_⟩, ⟨g2.1.fr F (by decide), g2.2.1.fr F (by decide) (by decide), ?_⟩, g3.1, fun _ => ⟨Nat.le_refl _, fun i hi => ?_, fun i hi => ?_⟩⟩ (by decide)⟩
  · show σ2.1 1 0 11 = σ8.1 9 0 13
    rw [f2.f 1 0 11 (by decide), F38.f 9 0 13 (by decide), c6, d6]
  · refine ⟨?_, fun _ => ⟨fun i hi => ?_, fun i hi => ?_, fun i hi => ?_, fun i hi => ?_, ?_, ?_⟩⟩
    · rw [F38.f 8 0 11 (by decide), ← hs]; rfl
    · rw [F38.a 1 2 3 (by decide), f12.a 1 2 3 (by decide), w3 i hi]; exact c1 i hi
    · rw [F38.a 1 2 4 (by decide), f12.a 1 2 4 (by decide), w4 i hi]; exact c2 i hi
    · rw [F38.a 1 2 6 (by decide), f12.a 1 2 6 (by decide), w6 i hi]; exact c3 i hi
    · rw [F38.a 1 2 7 (by decide), f12.a 1 2 7 (by decide), w7 i hi]; exact c4 i hi
    · rw [F38.f 1 2 12 (by decide), f12.f 1 2 12 (by decide), w12]; exact c5
    · rw [F38.f 1 2 11 (by decide), f12.f 1 2 11 (by decide), w11]; exact c6
  · refine ⟨?_, fun _ => ⟨fun i hi => ?_, fun i hi => ?_, fun i hi => ?_, fun i hi => ?_, ?_, ?_, ?_⟩⟩
    · rw [t8.f 9 0 36 (by decide), t7.f 9 0 36 (by decide), t6.f 9 0 36 (by decide), t5.f 9 0 36 (by decide), t4.f 9 0 36 (by decide), v36]; rfl
    · rw [t8.a 9 0 39 (by decide), t7.a 9 0 39 (by decide), t6.a 9 0 39 (by decide), t5.a 9 0 39 (by decide), u4 _ (by omega), f3.a 9 0 9 (by decide)]; exact d1 i hi
    · rw [t8.a 9 0 39 (by decide), t7.a 9 0 39 (by decide), t6.a 9 0 39 (by decide), t5.a 9 0 39 (by decide), u4 _ (by omega), f3.a 9 0 9 (by decide)]; exact d2 i hi
    · rw [t8.a 9 0 40 (by decide), t7.a 9 0 40 (by decide), t6.a 9 0 40 (by decide), u5 _ (by omega), t4.a 9 0 10 (by decide), f3.a 9 0 10 (by decide)]; exact d3 i hi
    · rw [t8.a 9 0 41 (by decide), t7.a 9 0 41 (by decide), u6 _ (by omega), t5.a 9 0 11 (by decide), t4.a 9 0 11 (by decide), f3.a 9 0 11 (by decide)]; exact d4 i hi
    · rw [t8.f 9 0 38 (by decide), t7.f 9 0 38 (by decide), t6.f 9 0 38 (by decide), t5.f 9 0 38 (by decide), t4.f 9 0 38 (by decide), v38]
    · rw [t8.f 9 0 37 (by decide), t7.f 9 0 37 (by decide), t6.f 9 0 37 (by decide), t5.f 9 0 37 (by decide), t4.f 9 0 37 (by decide), v37]
    · refine (m2.2.1 : LdM σ2 31 32 now y).copy hN (fun i hi => ?_) (fun i hi => ?_)
      · rw [t8.a 9 0 42 (by decide), u7 i hi, t6.a 9 0 31 (by decide), t5.a 9 0 31 (by decide), t4.a 9 0 31 (by decide), f3.a 9 0 31 (by decide)]
      · rw [u8 i hi, t7.a 9 0 32 (by decide), t6.a 9 0 32 (by decide), t5.a 9 0 32 (by decide), t4.a 9 0 32 (by decide), f3.a 9 0 32 (by decide)]
  · have a := g3.1.1 i hi
    have b := g3.1.2.1 i hi
    show L i ≤ 9
    have a : L i + R i ≤ wd i := a
    have b : wd i ≤ 9 := b
    omega
  · have a := g3.1.1 i hi
    have b := g3.1.2.1 i hi
    show R i ≤ 9
    have a : L i + R i ≤ wd i := a
    have b : wd i ≤ 9 := b
    omega
def fAl (L wd : Nat → Nat) (j : Nat) : Nat → Nat := fun i => if i < j then min (L i) (wd i) else L i
def fBr (L R wd : Nat → Nat) (j : Nat) : Nat → Nat := fun i => if i < j then min (R i) (wd i - min (L i) (wd i)) else R i
theorem fAl_step (L wd : Nat → Nat) (j i : Nat) : fitL (fAl L wd j) j (wd j) i = fAl L wd (j + 1) i := by
  unfold fitL fAl uN
  by_cases e : i = j
  · subst e; rw [if_pos rfl, if_neg (by omega), if_pos (by omega)]
  · rw [if_neg e]
    dsimp only
    by_cases q : i < j
    · rw [if_pos q, if_pos (by omega)]
    · rw [if_neg q, if_neg (by omega)]
theorem fBr_step (L R wd : Nat → Nat) (j i : Nat) : fitR (fAl L wd j) (fBr L R wd j) j (wd j) i = fBr L R wd (j + 1) i := by
  unfold fitR fBr fAl uN
  by_cases e : i = j
  · subst e; rw [if_pos rfl, if_neg (by omega), if_neg (by omega), if_pos (by omega)]
  · rw [if_neg e]
    dsimp only
    by_cases q : i < j
    · rw [if_pos q, if_pos (by omega)]
    · rw [if_neg q, if_neg (by omega)]
theorem backC {σ0 : AS} {wd L R : Nat → Nat} (hw : ∀ i, i < 7 → wd i ≤ 9) (hL : ∀ i, i < 7 → L i ≤ 9) (hR : ∀ i, i < 7 → R i ≤ 9) :
    ∀ (d j f : Nat) (σ : AS), j + d = 7 → d < f → (∀ i, i < 7 → σ.2.1 1 0 2 i = nI (wd i)) → LR 1 0 3 4 σ (fAl L wd j) (fBr L R wd j) → FrL [(1, 0, 2), (1, 0, 3), (1, 0, 4)] σ0 σ →
      wpO (g_X8_back_23 f (nI j) σ) (fun r σ1 => r = σ0.1 1 0 11 ∧ (∀ i, i < 7 → σ1.2.1 1 0 2 i = nI (wd i)) ∧ LR 1 0 3 4 σ1 (fAl L wd 7) (fBr L R wd 7) ∧ FrL [(1, 0, 2), (1, 0, 3), (1, 0, 4)] σ0 σ1) := by
  intro d
  induction d with
  | zero =>
    intro j f σ hj hf h2 hlr fr
    obtain ⟨f, rfl⟩ : ∃ g, f = g + 1 := ⟨f - 1, by omega⟩
    have e : j = 7 := by omega
    subst e
    rw [g_X8_back_23]
    exact wpO_f (show ¬ nI 7 < nI 7 from nI_nlt (by omega) (by omega)) (wpO_some.mpr ⟨fr.f 1 0 11 (by decide), h2, hlr, fr⟩)
  | succ d ih =>
    intro j f σ hj hf h2 hlr fr
    obtain ⟨f, rfl⟩ : ∃ g, f = g + 1 := ⟨f - 1, by omega⟩
    rw [g_X8_back_23, nI_1, gA_nI (by omega), h2 j (by omega)]
    have b1 : fAl L wd j j ≤ 9 := by unfold fAl; rw [if_neg (by omega)]; exact hL j (by omega)
    have b2 : fBr L R wd j j ≤ 9 := by unfold fBr; rw [if_neg (by omega)]; exact hR j (by omega)
    refine wpO_t (show nI j < nI 7 from nI_lt (by omega) (by omega)) (wpO_t (inb_nI (by omega) (by omega)) (wpO_b (fitC (show j < 7 by omega) (hw j (by omega)) b1 b2 h2 hlr) (fun _ σ1 w => ?_)))
    obtain ⟨w1, w2, w3⟩ := w
    refine ih (j + 1) f σ1 (by omega) (by omega) (fun i hi => ?_) ⟨fun i hi => ?_, fun i hi => ?_⟩ (fr.tr w3)
    · rw [w1 i hi]; unfold uN
      by_cases e : i = j
      · rw [if_pos e, e]
      · rw [if_neg e]
    · rw [w2.1 i hi, fAl_step]
    · rw [w2.2 i hi, fBr_step]
theorem backM {σ0 : AS} {wd L R : Nat → Nat} (hw : ∀ i, i < 7 → wd i ≤ 9) (hL : ∀ i, i < 7 → L i ≤ 9) (hR : ∀ i, i < 7 → R i ≤ 9) (h7 : ∀ i, i < 7 → σ0.2.1 9 0 7 i = nI (wd i)) :
    ∀ (d j f : Nat) (σ : AS), j + d = 7 → d < f → LRm 9 σ (fAl L wd j) (fBr L R wd j) → FrL [(9, 0, 9)] σ0 σ →
      wpO (g_X9_back_83 f (nI j) σ) (fun r σ1 => r = σ0.1 9 0 13 ∧ LRm 9 σ1 (fAl L wd 7) (fBr L R wd 7) ∧ FrL [(9, 0, 9)] σ0 σ1) := by
  intro d
  induction d with
  | zero =>
    intro j f σ hj hf hlr fr
    obtain ⟨f, rfl⟩ : ∃ g, f = g + 1 := ⟨f - 1, by omega⟩
    have e : j = 7 := by omega
    subst e
    rw [g_X9_back_83]
    exact wpO_f (show ¬ nI 7 < nI 7 from nI_nlt (by omega) (by omega)) (wpO_some.mpr ⟨fr.f 9 0 13 (by decide), hlr, fr⟩)
  | succ d ih =>
    intro j f σ hj hf hlr fr
    obtain ⟨f, rfl⟩ : ∃ g, f = g + 1 := ⟨f - 1, by omega⟩
    rw [g_X9_back_83, nI_1, gA_nI (by omega), fr.a 9 0 7 (by decide), h7 j (by omega)]
    have b1 : fAl L wd j j ≤ 9 := by unfold fAl; rw [if_neg (by omega)]; exact hL j (by omega)
    have b2 : fBr L R wd j j ≤ 9 := by unfold fBr; rw [if_neg (by omega)]; exact hR j (by omega)
    refine wpO_t (show nI j < nI 7 from nI_lt (by omega) (by omega)) (wpO_t (inb_nI (by omega) (by omega)) (wpO_b (fitM (show j < 7 by omega) (hw j (by omega)) b1 b2 hlr) (fun _ σ1 w => ?_)))
    obtain ⟨w2, w3⟩ := w
    refine ih (j + 1) f σ1 (by omega) (by omega) ⟨fun i hi => ?_, fun i hi => ?_⟩ (fr.tr w3)
    · rw [w2.1 i hi, fAl_step]
    · rw [w2.2 i hi, fBr_step]
theorem op_back : Both g_X8_back g_X9_back := by
  intro σ h
  obtain ⟨x, y, z, g1, g2, g3⟩ := h.2.1
  obtain ⟨wd, L, R, cm, yl, fi, now⟩ := x
  obtain ⟨zb, zL, zR, zc, zy, zf, zn⟩ := z
  have hN : now ≤ 24 := g3.1.2.2
  obtain ⟨c0, c1, c2, c3, c4, c5, c6, c7⟩ := (g1.1 : CrC σ (wd, L, R, cm, yl, fi, now))
  obtain ⟨i0, i1⟩ := (g1.2.2 : ImC σ (zb, zL, zR, zc, zy, zf, zn))
  obtain ⟨j0, j1⟩ := (g2.2.2 : ImM σ (zb, zL, zR, zc, zy, zf, zn) y)
  unfold g_X8_back g_X9_back
  cases zb with
  | false => exact wpO_t (show gF σ 8 0 11 = 0 from i0) (wpO_some.mpr (wpO_t (show gF σ 9 0 36 = 0 from j0) (wpO_some.mpr ⟨rfl, h⟩)))
  | true =>
    obtain ⟨i3, i4, i6, i7, i12, i11⟩ := i1 rfl
    obtain ⟨p1, p2, p3⟩ := g3.2 rfl
    have p1 : zn ≤ now := p1
    have hw : ∀ i, i < 7 → wd i ≤ 9 := g3.1.2.1
    refine wpO_f (show ¬ gF σ 8 0 11 = 0 from fun z => one_ne (i0.symm.trans z)) (wpO_b (becomeAs_ok (by decide)) (fun _ σ1 w => ?_))
    obtain ⟨w3, w4, w6, w7, w11, w12, f1⟩ := w
    have lr1 : LR 1 0 3 4 σ1 (fAl zL wd 0) (fBr zL zR wd 0) := ⟨fun i hi => by rw [w3 i hi]; unfold fAl; rw [if_neg (by omega)]; exact i3 i hi, fun i hi => by rw [w4 i hi]; unfold fBr; rw [if_neg (by omega)]; exact i4 i hi⟩
    refine wpO_mono (backC (σ0 := σ1) (wd := wd) (L := zL) (R := zR) hw p2 p3 7 0 400 σ1 (by omega) (by omega) (fun i hi => by rw [f1.a 1 0 2 (by decide)]; exact c0 i hi) lr1 FrL.rf) ?_
    intro r σ2 q
    obtain ⟨rfl, q2, q3, f2⟩ := q
    have f12 : FrL [(1, 0, 2), (1, 0, 3), (1, 0, 4), (1, 0, 6), (1, 0, 7), (1, 0, 11), (1, 0, 12)] σ σ2 := (f1.mono (by decide)).tr (f2.mono (by decide))
    have m2 := g2.fr f12 (by decide)
    obtain ⟨d0, d1, d2, d3, d4, d5, d6, d7⟩ := (m2.1 : CrM σ2 (wd, L, R, cm, yl, fi, now))
    obtain ⟨k0, k1⟩ := (m2.2.2 : ImM σ2 (true, zL, zR, zc, zy, zf, zn) y)
    obtain ⟨k39, k39', k40, k41, k38, k37, kld⟩ := k1 rfl
    refine wpO_f (show ¬ gF σ2 9 0 36 = 0 from fun z => one_ne (k0.symm.trans z)) (wpO_lt (wpO_lt ?_))
    generalize hs3 : sF _ 9 0 12 _ = σ3
    have f3 : FrL [(9, 0, 13), (9, 0, 12)] σ2 σ3 := by rw [← hs3]; exact (FrL_sF (by decide)).tr (FrL_sF (by decide))
    have v13 : σ3.1 9 0 13 = nI zn := by rw [← hs3]; exact k37
    have v12 : σ3.1 9 0 12 = zf := by rw [← hs3]; exact k38
    refine wpO_b (copiesM (by omega) (by decide)) (fun _ σ4 u4 => wpO_b (copiesM (by omega) (by decide)) (fun _ σ5 u5 => wpO_b (copiesM (by omega) (by decide)) (fun _ σ6 u6 => wpO_b (copiesM (by omega) (by decide)) (fun _ σ7 u7 => wpO_b (copiesM (by omega) (by decide)) (fun _ σ8 u8 => ?_)))))
    obtain ⟨u4, t4⟩ := u4
    obtain ⟨u5, t5⟩ := u5
    obtain ⟨u6, t6⟩ := u6
    obtain ⟨u7, t7⟩ := u7
    obtain ⟨u8, t8⟩ := u8
    have F28 : FrL [(9, 0, 13), (9, 0, 12), (9, 0, 9), (9, 0, 10), (9, 0, 11), (9, 0, 31), (9, 0, 32)] σ2 σ8 := ((((f3.mono (by decide)).tr (t4.mono (by decide))).tr (t5.mono (by decide))).tr (t6.mono (by decide))).tr ((t7.mono (by decide)).tr (t8.mono (by decide)))
    have lr2 : LRm 9 σ8 (fAl zL wd 0) (fBr zL zR wd 0) := by
      refine ⟨fun i hi => ?_, fun i hi => ?_⟩
      · rw [t8.a 9 0 9 (by decide), t7.a 9 0 9 (by decide), t6.a 9 0 9 (by decide), t5.a 9 0 9 (by decide), u4 _ (by omega), f3.a 9 0 39 (by decide)]
        unfold fAl; rw [if_neg (by omega)]; exact k39 i hi
      · rw [t8.a 9 0 9 (by decide), t7.a 9 0 9 (by decide), t6.a 9 0 9 (by decide), t5.a 9 0 9 (by decide), u4 _ (by omega), f3.a 9 0 39 (by decide)]
        unfold fBr; rw [if_neg (by omega)]; exact k39' i hi
    refine wpO_mono (backM (σ0 := σ8) (wd := wd) (L := zL) (R := zR) hw p2 p3 (fun i hi => by rw [F28.a 9 0 7 (by decide)]; exact d0 i hi) 7 0 400 σ8 (by omega) (by omega) lr2 FrL.rf) ?_
    intro r σ9 q
    obtain ⟨rfl, q9, f9⟩ := q
    have F29 : FrL [(9, 0, 13), (9, 0, 12), (9, 0, 9), (9, 0, 10), (9, 0, 11), (9, 0, 31), (9, 0, 32)] σ2 σ9 := F28.tr (f9.mono (by decide))
    have F : FrL ([(1, 0, 2), (1, 0, 3), (1, 0, 4), (1, 0, 6), (1, 0, 7), (1, 0, 11), (1, 0, 12)] ++ [(9, 0, 13), (9, 0, 12), (9, 0, 9), (9, 0, 10), (9, 0, 11), (9, 0, 31), (9, 0, 32)]) σ σ9 := (f12.mono (by decide)).tr (F29.mono (by decide))
    have e13 : σ9.1 9 0 13 = nI zn := by rw [f9.f 9 0 13 (by decide), t8.f 9 0 13 (by decide), t7.f 9 0 13 (by decide), t6.f 9 0 13 (by decide), t5.f 9 0 13 (by decide), t4.f 9 0 13 (by decide), v13]
    have e12 : σ9.1 9 0 12 = zf := by rw [f9.f 9 0 12 (by decide), t8.f 9 0 12 (by decide), t7.f 9 0 12 (by decide), t6.f 9 0 12 (by decide), t5.f 9 0 12 (by decide), t4.f 9 0 12 (by decide), v12]
    have hl : LdC σ now y := g1.2.1
    refine ⟨?_, h.of2 F ⟨(wd, fAl zL wd 7, fBr zL zR wd 7, zc, zy, zf, zn), y, (true, zL, zR, zc, zy, zf, zn), ⟨⟨?_, ?_, ?_, ?_, ?_, ?_, ?_, ?_⟩, ?_, g1.2.2.fr F (by decide)⟩, ⟨⟨?_, q9.1, q9.2, ?_, ?_, e12, e13, ?_⟩, ?_, g2.2.2.fr F (by decide)⟩, ⟨fun i hi => ?_, hw, ?_⟩, fun _ => ⟨Nat.le_refl _, p2, p3⟩⟩ (by decide)⟩
    · rw [w11, show σ.1 1 2 11 = nI zn from i11, ← e13, f9.f 9 0 13 (by decide)]
    · rw [F29.a 1 0 2 (by decide)]; exact q2
    · rw [F29.a 1 0 3 (by decide)]; exact q3.1
    · rw [F29.a 1 0 4 (by decide)]; exact q3.2
    · intro p hp; rw [F29.a 1 0 6 (by decide), f2.a 1 0 6 (by decide), w6 p hp]; exact i6 p hp
    · intro p hp; rw [F29.a 1 0 7 (by decide), f2.a 1 0 7 (by decide), w7 p hp]; exact i7 p hp
    · rw [F29.f 1 0 12 (by decide), f2.f 1 0 12 (by decide), w12]; exact i12
    · rw [F29.f 1 0 11 (by decide), f2.f 1 0 11 (by decide), w11]; exact i11
    · rw [F.a 1 0 8 (by decide)]; exact c7
    · have hl2 : LdC σ zn y := ⟨fun g i hg hi => hl.1 g i (by omega) hi, fun g i hg hi => hl.2.1 g i (by omega) hi, fun g i hg hi => hl.2.2 g i (by omega) hi⟩
      exact hl2.fr F (by decide)
    · rw [F29.a 9 0 7 (by decide)]; exact d0
    · intro p hp
      rw [f9.a 9 0 10 (by decide), t8.a 9 0 10 (by decide), t7.a 9 0 10 (by decide), t6.a 9 0 10 (by decide), u5 _ (by omega), t4.a 9 0 40 (by decide), f3.a 9 0 40 (by decide)]; exact k40 p hp
    · intro p hp
      rw [f9.a 9 0 11 (by decide), t8.a 9 0 11 (by decide), t7.a 9 0 11 (by decide), u6 _ (by omega), t5.a 9 0 41 (by decide), t4.a 9 0 41 (by decide), f3.a 9 0 41 (by decide)]; exact k41 p hp
    · rw [F29.a 9 0 14 (by decide)]; exact d7
    · refine (kld : LdM σ2 42 43 zn y).copy (show zn ≤ 24 by omega) (fun i hi => ?_) (fun i hi => ?_)
      · rw [f9.a 9 0 31 (by decide), t8.a 9 0 31 (by decide), u7 i hi, t6.a 9 0 42 (by decide), t5.a 9 0 42 (by decide), t4.a 9 0 42 (by decide), f3.a 9 0 42 (by decide)]
      · rw [f9.a 9 0 32 (by decide), u8 i hi, t7.a 9 0 43 (by decide), t6.a 9 0 43 (by decide), t5.a 9 0 43 (by decide), t4.a 9 0 43 (by decide), f3.a 9 0 43 (by decide)]
    · show fAl zL wd 7 i + fBr zL zR wd 7 i ≤ wd i
      unfold fAl fBr
      have hi : i < 7 := hi
      rw [if_pos hi, if_pos hi]; omega
    · show zn ≤ 24
      omega
