theorem mni_nI {x y : Nat} (hx : x < 2 ^ 30) (hy : y < 2 ^ 30) : mni (nI x) (nI y) = nI (min x y) := by
  unfold mni
  by_cases c : y < x
  · rw [if_pos (nI_lt c (by omega)), Nat.min_eq_right (by omega)]
  · rw [if_neg (nI_nlt (by omega) (by omega)), Nat.min_eq_left (by omega)]
theorem gt_nI {x y : Nat} (hx : x < 2 ^ 30) (hy : y < 2 ^ 30) : (if nI y < nI x then nI y else nI x) = nI (min x y) := mni_nI hx hy
/-- rows as two of a course -/
def LR (k o kl kr : Nat) (σ : AS) (L R : Nat → Nat) : Prop := (∀ i, i < 7 → σ.2.1 k o kl i = nI (L i)) ∧ ∀ i, i < 7 → σ.2.1 k o kr i = nI (R i)
def fitL (L : Nat → Nat) (p v : Nat) : Nat → Nat := uN L p (min (L p) v)
def fitR (L R : Nat → Nat) (p v : Nat) : Nat → Nat := uN R p (min (R p) (v - min (L p) v))
theorem fitC {o p v : Nat} {σ : AS} {wd L R : Nat → Nat} (hp : p < 7) (hv : v ≤ 9) (hL : L p ≤ 9) (hR : R p ≤ 9) (hw : ∀ i, i < 7 → σ.2.1 1 o 2 i = nI (wd i)) (h : LR 1 o 3 4 σ L R) :
    wpO (g_X1_fit o (nI p) (nI v) σ) (fun _ σ1 => (∀ i, i < 7 → σ1.2.1 1 o 2 i = nI (uN wd p v i)) ∧ LR 1 o 3 4 σ1 (fitL L p v) (fitR L R p v) ∧ FrL [(1, o, 2), (1, o, 3), (1, o, 4)] σ σ1) := by
  unfold g_X1_fit
  refine wpO_t (inb_nI hp (by omega)) (wpO_lt (wpO_lt (wpO_lt (wpO_some.mpr ?_))))
  generalize h1 : sA σ 1 o 2 (nI p) (nI v) = σ1
  have f1 : FrL [(1, o, 2)] σ σ1 := by rw [← h1]; exact FrL_sA (by simp)
  have w1 : σ1.2.1 1 o 2 = upd (σ.2.1 1 o 2) p (nI v) := by rw [← h1]; unfold sA; rw [sAf_a, if_pos ⟨rfl, rfl, rfl⟩, nI_clamp (by omega)]
  have e1 : gA σ1 1 o 3 (nI p) = nI (L p) := by rw [gA_nI (by omega), f1.a 1 o 3 (by simp)]; exact h.1 p hp
  rw [e1, mni_nI (by omega) (by omega)]
  generalize h2 : sA σ1 1 o 3 (nI p) (nI (min (L p) v)) = σ2
  have f2 : FrL [(1, o, 3)] σ1 σ2 := by rw [← h2]; exact FrL_sA (by simp)
  have w2 : σ2.2.1 1 o 3 = upd (σ1.2.1 1 o 3) p (nI (min (L p) v)) := by rw [← h2]; unfold sA; rw [sAf_a, if_pos ⟨rfl, rfl, rfl⟩, nI_clamp (by omega)]
  have e2 : gA σ2 1 o 4 (nI p) = nI (R p) := by rw [gA_nI (by omega), f2.a 1 o 4 (by simp), f1.a 1 o 4 (by simp)]; exact h.2 p hp
  have e3 : gA σ2 1 o 3 (nI p) = nI (min (L p) v) := by rw [gA_nI (by omega), w2, upd_at, if_pos rfl]
  rw [e2, e3, pk_sub (Nat.min_le_right _ _), mni_nI (by omega) (by omega)]
  generalize h3 : sA σ2 1 o 4 (nI p) (nI (min (R p) (v - min (L p) v))) = σ3
  have f3 : FrL [(1, o, 4)] σ2 σ3 := by rw [← h3]; exact FrL_sA (by simp)
  have w3 : σ3.2.1 1 o 4 = upd (σ2.2.1 1 o 4) p (nI (min (R p) (v - min (L p) v))) := by rw [← h3]; unfold sA; rw [sAf_a, if_pos ⟨rfl, rfl, rfl⟩, nI_clamp (by omega)]
  refine ⟨fun i hi => ?_, ⟨fun i hi => ?_, fun i hi => ?_⟩, ((f1.mono (by simp)).tr (f2.mono (by simp))).tr (f3.mono (by simp))⟩
  · rw [f3.a 1 o 2 (by simp), f2.a 1 o 2 (by simp), w1, upd_at]
    unfold uN
    by_cases c : i = p
    · rw [if_pos c, if_pos c]
    · rw [if_neg c, if_neg c]; exact hw i hi
  · rw [f3.a 1 o 3 (by simp), w2, upd_at]
    unfold fitL uN
    by_cases c : i = p
    · rw [if_pos c, if_pos c]
    · rw [if_neg c, if_neg c, f1.a 1 o 3 (by simp)]; exact h.1 i hi
  · rw [w3, upd_at]
    unfold fitR uN
    by_cases c : i = p
    · rw [if_pos c, if_pos c]
    · rw [if_neg c, if_neg c, f2.a 1 o 4 (by simp), f1.a 1 o 4 (by simp)]; exact h.2 i hi
/-- the reference's inches: left and right by turns -/
def LRm (k : Nat) (σ : AS) (L R : Nat → Nat) : Prop := (∀ i, i < 7 → σ.2.1 9 0 k (2 * i) = nI (L i)) ∧ ∀ i, i < 7 → σ.2.1 9 0 k (2 * i + 1) = nI (R i)
theorem fitM {k p v : Nat} {σ : AS} {L R : Nat → Nat} (hp : p < 7) (hv : v ≤ 9) (hL : L p ≤ 9) (hR : R p ≤ 9) (h : LRm k σ L R) :
    wpO (g_X9_fits k (nI p) (nI v) σ) (fun _ σ1 => LRm k σ1 (fitL L p v) (fitR L R p v) ∧ FrL [(9, 0, k)] σ σ1) := by
  have a1 : (2 : Int32) * nI p = nI (2 * p) := by rw [li2, pk_mul]
  have a2 : (2 : Int32) * nI p + 1 = nI (2 * p + 1) := by rw [a1, nI_1]
  have main : wpO (g_X9_fits_22 k (nI p) (nI v) (nI (min (L p) v)) (nI (2 * p)) σ) (fun _ σ1 => LRm k σ1 (fitL L p v) (fitR L R p v) ∧ FrL [(9, 0, k)] σ σ1) := by
    unfold g_X9_fits_22
    rw [a2, a1]
    refine wpO_t (inb_nI (by omega) (by omega)) (wpO_lt ?_)
    generalize h1 : sA σ 9 0 k (nI (2 * p)) (nI (min (L p) v)) = σ1
    have f1 : FrL [(9, 0, k)] σ σ1 := by rw [← h1]; exact FrL_sA (by simp)
    have w1 : σ1.2.1 9 0 k = upd (σ.2.1 9 0 k) (2 * p) (nI (min (L p) v)) := by rw [← h1]; unfold sA; rw [sAf_a, if_pos ⟨rfl, rfl, rfl⟩, nI_clamp (by omega)]
    refine wpO_t (inb_nI (by omega) (by omega)) (wpO_lt (wpO_t (inb_nI (by omega) (by omega)) ?_))
    have e1 : gA σ1 9 0 k (nI (2 * p)) = nI (min (L p) v) := by rw [gA_nI (by omega), w1, upd_at, if_pos rfl]
    have e2 : gA σ1 9 0 k (nI (2 * p + 1)) = nI (R p) := by rw [gA_nI (by omega), w1, upd_at, if_neg (by omega)]; exact h.2 p hp
    rw [e1, e2, pk_sub (Nat.min_le_right _ _)]
    have fin : ∀ x : Int32, x = nI (min (R p) (v - min (L p) v)) → LRm k (sA σ1 9 0 k (nI (2 * p + 1)) x) (fitL L p v) (fitR L R p v) ∧ FrL [(9, 0, k)] σ (sA σ1 9 0 k (nI (2 * p + 1)) x) := by
      intro x hx
      subst hx
      have w2 : (sA σ1 9 0 k (nI (2 * p + 1)) (nI (min (R p) (v - min (L p) v)))).2.1 9 0 k = upd (σ1.2.1 9 0 k) (2 * p + 1) (nI (min (R p) (v - min (L p) v))) := by unfold sA; rw [sAf_a, if_pos ⟨rfl, rfl, rfl⟩, nI_clamp (by omega)]
      refine ⟨⟨fun i hi => ?_, fun i hi => ?_⟩, f1.tr (FrL_sA (by simp))⟩
      · rw [w2, upd_at, if_neg (by omega), w1, upd_at]
        unfold fitL uN
        by_cases c : i = p
        · rw [if_pos (by omega), if_pos c]
        · rw [if_neg (by omega), if_neg c]; exact h.1 i hi
      · rw [w2, upd_at]
        unfold fitR uN
        by_cases c : i = p
        · rw [if_pos (by omega), if_pos c]
        · rw [if_neg (by omega), if_neg c, w1, upd_at, if_neg (by omega)]; exact h.2 i hi
    by_cases c : v - min (L p) v < R p
    · exact wpO_t (nI_lt c (by omega)) (wpO_lt (wpO_some.mpr (fin _ (congrArg nI (Nat.min_eq_right (Nat.le_of_lt c)).symm))))
    · exact wpO_f (nI_nlt (by omega) (by omega)) (wpO_lt (wpO_some.mpr (fin _ (congrArg nI (Nat.min_eq_left (Nat.not_lt.mp c)).symm))))
  unfold g_X9_fits
  rw [a1]
  refine wpO_t (inb_nI (by omega) (by omega)) ?_
  rw [gA_nI (by omega), h.1 p hp]
  by_cases c : v < L p
  · rw [Nat.min_eq_right (by omega)] at main
    exact wpO_t (nI_lt c (by omega)) main
  · rw [Nat.min_eq_left (by omega)] at main
    exact wpO_f (nI_nlt (by omega) (by omega)) main
theorem fit_ok {L R : Nat → Nat} {p v i : Nat} {wd : Nat → Nat} (h : L i + R i ≤ wd i) : fitL L p v i + fitR L R p v i ≤ uN wd p v i := by
  unfold fitL fitR uN
  by_cases c : i = p
  · rw [if_pos c, if_pos c, if_pos c]; omega
  · rw [if_neg c, if_neg c, if_neg c]; exact h
theorem op_wide (a b : Int32) : Both (g_X8_wide a b) (g_X9_wide a b) := by
  intro σ h
  obtain ⟨x, y, z, g1, g2, g3⟩ := h.2.1
  unfold g_X8_wide g_X9_wide
  rw [ifr li7 (by omega), ifr2 li9 (by omega)]
  by_cases c1 : inb a 7
  · rw [if_pos c1]
    by_cases c2 : inb b 10
    · rw [if_pos c2, if_pos c1]
      obtain ⟨p, hp, rfl⟩ := inb_ex c1
      obtain ⟨v, hv, rfl⟩ := inb_ex c2
      have k1 := g3.1.1 p hp
      have k2 := g3.1.2.1 p hp
      refine wpO_lt (wpO_b (fitC (o := 0) hp (by omega) (by omega) (by omega) g1.1.1 ⟨g1.1.2.1, g1.1.2.2.1⟩) (fun _ σ1 w => wpO_some.mpr ?_))
      obtain ⟨w1, w2, w3⟩ := w
      have g5 := g2.fr w3 (by decide)
      refine wpO_e (within0_eq _ _ 7 (by decide) (by omega) σ1) ?_
      rw [if_pos c1]
      refine wpO_f one_ne (wpO_e (within0_eq _ _ 10 (by decide) (by omega) σ1) ?_)
      rw [if_pos c2]
      refine wpO_f one_ne (wpO_t c1 (wpO_lt (wpO_lt ?_)))
      generalize hs : sA σ1 9 0 7 (nI p) (nI v) = σ2
      have f2 : FrL [(9, 0, 7)] σ1 σ2 := by rw [← hs]; exact FrL_sA (by simp)
      have e2 : σ2.2.1 9 0 7 = upd (σ1.2.1 9 0 7) p (nI v) := by rw [← hs]; unfold sA; rw [sAf_a, if_pos ⟨rfl, rfl, rfl⟩, nI_clamp (by omega)]
      have hl : LRm 9 σ2 x.2.1 x.2.2.1 := by
        unfold LRm
        rw [f2.a 9 0 9 (by decide)]
        exact ⟨g5.1.2.1, g5.1.2.2.1⟩
      refine wpO_b (fitM hp (by omega) (by omega) (by omega) hl) (fun _ σ3 u => wpO_some.mpr ⟨?_, ?_⟩)
      · rw [gA_nI (by omega), gA_nI (by omega), g1.1.1 p hp, g5.1.1 p hp]
      · obtain ⟨u1, u2⟩ := u
        have f3 : FrL [(9, 0, 7), (9, 0, 9)] σ1 σ3 := (f2.mono (by decide)).tr (u2.mono (by decide))
        have F : FrL [(1, 0, 2), (1, 0, 3), (1, 0, 4), (9, 0, 7), (9, 0, 9)] σ σ3 := (w3.mono (by decide)).tr (f3.mono (by decide))
        refine h.of2 F ⟨(uN x.1 p v, fitL x.2.1 p v, fitR x.2.1 x.2.2.1 p v, x.2.2.2), y, z, ⟨?_, ?_, ?_⟩, ⟨?_, ?_, ?_⟩, ⟨?_, ?_, g3.1.2.2⟩, g3.2⟩ (by decide)
        · obtain ⟨-, -, -, b1, b2, b3, b4, b5⟩ := (g1.1 : CrC σ x)
          refine ⟨?_, ?_, ?_, ?_, ?_, ?_, ?_, ?_⟩
          · rw [f3.a 1 0 2 (by decide)]; exact w1
          · rw [f3.a 1 0 3 (by decide)]; exact w2.1
          · rw [f3.a 1 0 4 (by decide)]; exact w2.2
          · rw [F.a 1 0 6 (by decide)]; exact b1
          · rw [F.a 1 0 7 (by decide)]; exact b2
          · rw [F.f 1 0 12 (by decide)]; exact b3
          · rw [F.f 1 0 11 (by decide)]; exact b4
          · rw [F.a 1 0 8 (by decide)]; exact b5
        · exact g1.2.1.fr F (by decide)
        · exact g1.2.2.fr F (by decide)
        · obtain ⟨b0, -, -, b1, b2, b3, b4, b5⟩ := (g2.1 : CrM σ x)
          refine ⟨fun i hi => ?_, u1.1, u1.2, ?_, ?_, ?_, ?_, ?_⟩
          · rw [u2.a 9 0 7 (by decide), e2, upd_at]
            show _ = nI (uN x.1 p v i)
            unfold uN
            by_cases c : i = p
            · rw [if_pos c, if_pos c]
            · rw [if_neg c, if_neg c]; exact g5.1.1 i hi
          · rw [F.a 9 0 10 (by decide)]; exact b1
          · rw [F.a 9 0 11 (by decide)]; exact b2
          · rw [F.f 9 0 12 (by decide)]; exact b3
          · rw [F.f 9 0 13 (by decide)]; exact b4
          · rw [F.a 9 0 14 (by decide)]; exact b5
        · exact g2.2.1.fr F (by decide) (by decide)
        · exact g2.2.2.fr F (by decide)
        · exact fun i hi => fit_ok (g3.1.1 i hi)
        · intro i hi
          show uN x.1 p v i ≤ 9
          unfold uN
          by_cases c : i = p
          · rw [if_pos c]; omega
          · rw [if_neg c]; exact g3.1.2.1 i hi
    · rw [if_neg c2]
      refine wpO_some.mpr (wpO_e (within0_eq _ _ 7 (by decide) (by omega) σ) ?_)
      rw [if_pos c1]
      refine wpO_f one_ne (wpO_e (within0_eq _ _ 10 (by decide) (by omega) σ) ?_)
      rw [if_neg c2]
      exact wpO_t rfl (wpO_some.mpr ⟨rfl, h⟩)
  · rw [if_neg c1]
    refine wpO_some.mpr (wpO_e (within0_eq _ _ 7 (by decide) (by omega) σ) ?_)
    rw [if_neg c1]
    exact wpO_t rfl (wpO_some.mpr ⟨rfl, h⟩)
