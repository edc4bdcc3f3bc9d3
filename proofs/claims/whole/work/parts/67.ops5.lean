/-! both -/
theorem least_eq (x y : Nat) (hx : x < 2 ^ 30) (hy : y < 2 ^ 30) (σ : AS) : g_X9_least (nI x) (nI y) σ = some (nI (min x y), σ) := by
  unfold g_X9_least
  by_cases c : x < y
  · rw [if_pos (nI_lt c (by omega)), Nat.min_eq_left (by omega)]
  · rw [if_neg (nI_nlt (by omega) (by omega)), Nat.min_eq_right (by omega)]
theorem usedL_eq {σ : AS} {n : Nat} {t : N2} {p l : Nat} (hn : σ.1 6 0 2 = nI n) (hb : n ≤ 8) (ht : σ.2.1 6 0 0 (p * 5 + 0) = nI (t p 0)) (hp : p < n) (hl : l < 2 ^ 20) (htb : t p 0 ≤ 99) : g_X8_usedByLeft (nI p) (nI l) σ = some (nI (min l (t p 0)), σ) := by
  unfold g_X8_usedByLeft
  rw [li0, trait_eq hn hb hp (by omega), bnd_some, ht, mni_nI (by omega) (by omega)]
theorem usedR_eq {σ : AS} {n : Nat} {t : N2} {p l v : Nat} (hn : σ.1 6 0 2 = nI n) (hb : n ≤ 8) (ht : σ.2.1 6 0 0 ((p + 1) * 5 + 0) = nI (t (p + 1) 0)) (hp : p + 1 < n) (hw : σ.2.1 1 0 2 p = nI v) (hv : v ≤ 9) (hl : l ≤ v) (htb : t (p + 1) 0 ≤ 99) : g_X8_usedByRight (nI p) (nI l) σ = some (nI (min (v - l) (t (p + 1) 0)), σ) := by
  unfold g_X8_usedByRight
  rw [if_pos (inb_nI (show p < 7 by omega) (by omega)), nI_1, li0, trait_eq hn hb hp (by omega), bnd_some, ht, gA_nI (by omega), hw, pk_sub hl, mni_nI (by omega) (by omega)]
/-- the best so far -/
def bbS (a b v best : Nat) : Nat := min best a + min (v - best) b
def bbL (a b v best : Nat) : Nat := min (min best a) (min (v - best) b)
def bbN (a b v l best : Nat) : Nat := if bbS a b v best < bbS a b v l ∨ (bbS a b v l = bbS a b v best ∧ bbL a b v best < bbL a b v l) then l else best
def bbR (a b v : Nat) : Nat → Nat → Nat
  | 0, best => best
  | m + 1, best => bbR a b v m (bbN a b v (v - m) best)
theorem bbN_le {a b v l best : Nat} (h1 : best ≤ v) (h2 : l ≤ v) : bbN a b v l best ≤ v := by unfold bbN; split <;> omega
theorem better_eq {σ : AS} {n : Nat} {t : N2} {p l v best : Nat} (hn : σ.1 6 0 2 = nI n) (hb : n ≤ 8) (ht0 : σ.2.1 6 0 0 (p * 5 + 0) = nI (t p 0)) (ht : σ.2.1 6 0 0 ((p + 1) * 5 + 0) = nI (t (p + 1) 0)) (hp : p + 1 < n) (hw : σ.2.1 1 0 2 p = nI v) (hv : v ≤ 9) (hl : l ≤ v) (hbe : best ≤ v) (ha : t p 0 ≤ 99) (htb : t (p + 1) 0 ≤ 99) :
    g_X8_isBetterForBoth (nI p) (nI l) (nI best) σ = some (if bbS (t p 0) (t (p + 1) 0) v best < bbS (t p 0) (t (p + 1) 0) v l ∨ (bbS (t p 0) (t (p + 1) 0) v l = bbS (t p 0) (t (p + 1) 0) v best ∧ bbL (t p 0) (t (p + 1) 0) v best < bbL (t p 0) (t (p + 1) 0) v l) then 1 else 0, σ) := by
  unfold g_X8_isBetterForBoth
  rw [usedL_eq hn hb ht0 (by omega) (by omega) ha, bnd_some, usedR_eq hn hb ht hp hw hv hl htb, bnd_some, usedL_eq hn hb ht0 (by omega) (by omega) ha, bnd_some, usedR_eq hn hb ht hp hw hv hbe htb, bnd_some]
  rw [nI_add, nI_add, mni_nI (by omega) (by omega), mni_nI (by omega) (by omega)]
  show (if nI (bbS (t p 0) (t (p + 1) 0) v l) = nI (bbS (t p 0) (t (p + 1) 0) v best) then if nI (bbL (t p 0) (t (p + 1) 0) v best) < nI (bbL (t p 0) (t (p + 1) 0) v l) then some (1, σ) else some (0, σ) else if nI (bbS (t p 0) (t (p + 1) 0) v best) < nI (bbS (t p 0) (t (p + 1) 0) v l) then some (1, σ) else some (0, σ)) = _
  have b1 : bbS (t p 0) (t (p + 1) 0) v l < 1000 := by unfold bbS; omega
  have b2 : bbS (t p 0) (t (p + 1) 0) v best < 1000 := by unfold bbS; omega
  have b3 : bbL (t p 0) (t (p + 1) 0) v l < 1000 := by unfold bbL; omega
  have b4 : bbL (t p 0) (t (p + 1) 0) v best < 1000 := by unfold bbL; omega
  generalize bbS (t p 0) (t (p + 1) 0) v l = x1 at *
  generalize bbS (t p 0) (t (p + 1) 0) v best = x2 at *
  generalize bbL (t p 0) (t (p + 1) 0) v l = x3 at *
  generalize bbL (t p 0) (t (p + 1) 0) v best = x4 at *
  by_cases c1 : x1 = x2
  · rw [if_pos (by rw [c1])]
    by_cases c2 : x4 < x3
    · rw [if_pos (nI_lt c2 (by omega)), if_pos (Or.inr ⟨c1, c2⟩)]
    · rw [if_neg (nI_nlt (by omega) (by omega)), if_neg (by omega)]
  · rw [if_neg (fun z => c1 ((nI_eq (by omega) (by omega)).mp z))]
    by_cases c2 : x2 < x1
    · rw [if_pos (nI_lt c2 (by omega)), if_pos (Or.inl c2)]
    · rw [if_neg (nI_nlt (by omega) (by omega)), if_neg (by omega)]
theorem bothC {σ : AS} {n : Nat} {t : N2} {p v : Nat} {b : Int32} (hn : σ.1 6 0 2 = nI n) (hb : n ≤ 8) (ht0 : σ.2.1 6 0 0 (p * 5 + 0) = nI (t p 0)) (ht : σ.2.1 6 0 0 ((p + 1) * 5 + 0) = nI (t (p + 1) 0)) (hp : p + 1 < n) (hw : σ.2.1 1 0 2 p = nI v) (hv : v ≤ 9) (ha : t p 0 ≤ 99) (htb : t (p + 1) 0 ≤ 99) :
    ∀ (d best l f : Nat), l + d = v + 1 → best ≤ v → d < f → g_X8_both_27 f (nI p) b (nI best) (nI l) σ = some (if b = 0 then nI (bbR (t p 0) (t (p + 1) 0) v d best) else nI (bbS (t p 0) (t (p + 1) 0) v (bbR (t p 0) (t (p + 1) 0) v d best)), σ) := by
  intro d
  induction d with
  | zero =>
    intro best l f h1 h2 hf
    obtain ⟨f, rfl⟩ : ∃ g, f = g + 1 := ⟨f - 1, by omega⟩
    rw [g_X8_both_27, if_pos (inb_nI (show p < 7 by omega) (by omega)), gA_nI (by omega), hw, if_pos (nI_lt (by omega) (by omega))]
    by_cases c : b = 0
    · rw [if_pos c, if_pos c]; rfl
    · rw [if_neg c, if_neg c, usedL_eq hn hb ht0 (by omega) (by omega) ha, bnd_some, usedR_eq hn hb ht hp hw hv h2 htb, bnd_some, nI_add]; rfl
  | succ d ih =>
    intro best l f h1 h2 hf
    obtain ⟨f, rfl⟩ : ∃ g, f = g + 1 := ⟨f - 1, by omega⟩
    have el : v - d = l := by omega
    rw [g_X8_both_27, if_pos (inb_nI (show p < 7 by omega) (by omega)), gA_nI (by omega), hw, if_neg (nI_nlt (by omega) (by omega)), better_eq hn hb ht0 ht hp hw hv (by omega) h2 ha htb, bnd_some, nI_1]
    have step := ih (bbN (t p 0) (t (p + 1) 0) v l best) (l + 1) f (by omega) (bbN_le h2 (by omega)) (by omega)
    have e : bbR (t p 0) (t (p + 1) 0) v (d + 1) best = bbR (t p 0) (t (p + 1) 0) v d (bbN (t p 0) (t (p + 1) 0) v l best) := by rw [bbR, el]
    rw [e, ← step]
    unfold bbN
    split
    · rw [if_neg one_ne]
    · rw [if_pos rfl]
theorem bothM {σ : AS} {t : N2} {p v : Nat} {b : Int32} (ht0 : σ.2.1 9 0 0 p = nI (t p 0)) (ht : σ.2.1 9 0 0 (p + 1) = nI (t (p + 1) 0)) (hp : p < 7) (hw : σ.2.1 9 0 7 p = nI v) (hv : v ≤ 9) (ha : t p 0 ≤ 99) (htb : t (p + 1) 0 ≤ 99) :
    ∀ (d best l f : Nat), l + d = v + 1 → best ≤ v → d < f → g_X9_both_31 f (nI p) b (nI best) (nI (bbS (t p 0) (t (p + 1) 0) v best)) (nI (bbL (t p 0) (t (p + 1) 0) v best)) (nI l) σ = some (if b = 0 then nI (bbR (t p 0) (t (p + 1) 0) v d best) else nI (bbS (t p 0) (t (p + 1) 0) v (bbR (t p 0) (t (p + 1) 0) v d best)), σ) := by
  intro d
  induction d with
  | zero =>
    intro best l f h1 h2 hf
    obtain ⟨f, rfl⟩ : ∃ g, f = g + 1 := ⟨f - 1, by omega⟩
    rw [g_X9_both_31, if_pos (inb_nI (show p < 7 by omega) (by omega)), gA_nI (by omega), hw, if_pos (nI_lt (by omega) (by omega))]
    by_cases c : b = 0
    · rw [if_pos c, if_pos c]; rfl
    · rw [if_neg c, if_neg c]; rfl
  | succ d ih =>
    intro best l f h1 h2 hf
    obtain ⟨f, rfl⟩ : ∃ g, f = g + 1 := ⟨f - 1, by omega⟩
    have el : v - d = l := by omega
    have step := ih (bbN (t p 0) (t (p + 1) 0) v l best) (l + 1) f (by omega) (bbN_le h2 (by omega)) (by omega)
    have e : bbR (t p 0) (t (p + 1) 0) v (d + 1) best = bbR (t p 0) (t (p + 1) 0) v d (bbN (t p 0) (t (p + 1) 0) v l best) := by rw [bbR, el]
    rw [g_X9_both_31, if_pos (inb_nI (show p < 7 by omega) (by omega)), gA_nI (i := p) (by omega), hw, if_neg (nI_nlt (by omega) (by omega)), if_pos (inb_nI (show p < 40 by omega) (by omega)), gA_nI (i := p) (by omega), ht0, least_eq _ _ (by omega) (by omega), bnd_some, nI_1, if_pos (inb_nI (show p + 1 < 40 by omega) (by omega)), gA_nI (i := p) (by omega), hw, gA_nI (i := p + 1) (by omega), ht, pk_sub (by omega), least_eq _ _ (by omega) (by omega), bnd_some, if_neg (nI_pos (by omega)), nI_add, least_eq _ _ (by omega) (by omega), bnd_some, nI_1]
    have e113 : g_X9_both_113 (g_X9_both_31 f) (nI p) b (nI l) (nI (min l (t p 0))) (nI (min (v - l) (t (p + 1) 0))) σ = g_X9_both_31 f (nI p) b (nI l) (nI (bbS (t p 0) (t (p + 1) 0) v l)) (nI (bbL (t p 0) (t (p + 1) 0) v l)) (nI (l + 1)) σ := by
      unfold g_X9_both_113
      rw [nI_add, nI_1, least_eq _ _ (by omega) (by omega)]
      rfl
    rw [e113, e, ← step]
    show (if nI (bbS (t p 0) (t (p + 1) 0) v best) < nI (bbS (t p 0) (t (p + 1) 0) v l) then _ else if nI (bbS (t p 0) (t (p + 1) 0) v l) = nI (bbS (t p 0) (t (p + 1) 0) v best) then (if nI (bbL (t p 0) (t (p + 1) 0) v best) < nI (bbL (t p 0) (t (p + 1) 0) v l) then _ else _) else _) = _
    have b1 : bbS (t p 0) (t (p + 1) 0) v l < 1000 := by unfold bbS; omega
    have b2 : bbS (t p 0) (t (p + 1) 0) v best < 1000 := by unfold bbS; omega
    have b3 : bbL (t p 0) (t (p + 1) 0) v l < 1000 := by unfold bbL; omega
    have b4 : bbL (t p 0) (t (p + 1) 0) v best < 1000 := by unfold bbL; omega
    unfold bbN
    by_cases c1 : bbS (t p 0) (t (p + 1) 0) v best < bbS (t p 0) (t (p + 1) 0) v l
    · rw [if_pos (nI_lt c1 (by omega)), if_pos (Or.inl c1)]
    · rw [if_neg (nI_nlt (by omega) (by omega))]
      by_cases c2 : bbS (t p 0) (t (p + 1) 0) v l = bbS (t p 0) (t (p + 1) 0) v best
      · rw [if_pos (by rw [c2])]
        by_cases c3 : bbL (t p 0) (t (p + 1) 0) v best < bbL (t p 0) (t (p + 1) 0) v l
        · rw [if_pos (nI_lt c3 (by omega)), if_pos (Or.inr ⟨c2, c3⟩)]
        · rw [if_neg (nI_nlt (by omega) (by omega)), if_neg (by omega)]
      · rw [if_neg (fun z => c2 ((nI_eq (by omega) (by omega)).mp z)), if_neg (by omega)]
theorem op_both (a b : Int32) : Both (g_X8_both a b) (g_X9_both a b) := by
  intro σ h
  obtain ⟨n, t, w, d, aa, c, h1, h2, h3⟩ := h.1
  obtain ⟨⟨wd, L, R, cm, yl, fi, now⟩, y, z, g1, g2, g3⟩ := h.2.1
  have hn := h3.1
  unfold g_X8_both g_X9_both
  refine wpO_e (hasRest_eq h1.1 hn a) ?_
  by_cases c1 : inb a (n - 1)
  · obtain ⟨p, hp, rfl⟩ := inb_ex c1
    rw [if_pos c1, ifr2 (show (1 : Int32) = nI 1 from rfl) (by omega)]
    refine wpO_f one_ne ?_
    have q : ∀ {f : Int32 → AS → Option (Int32 × AS)} {Q : Int32 → AS → Prop}, wpO (f 1 σ) Q → wpO (bnd (g_X9_isRest (nI p) σ) f) Q := fun z => wpO_e (isRestM_eq h2.1 hn _) (by rw [if_pos c1]; exact z)
    by_cases c2 : inb b 2
    · have t0 := (h3.2.1 p 0 (by omega) (by omega)).1
      have t1 := (h3.2.1 (p + 1) 0 (by omega) (by omega)).1
      have hv : wd p ≤ 9 := g3.1.2.1 p (by omega)
      have eC := bothC (b := b) (v := wd p) h1.1 hn (h1.2.1 p 0 (by omega) (by omega)) (h1.2.1 (p + 1) 0 (by omega) (by omega)) (by omega) (g1.1.1 p (by omega)) hv t0 t1 (wd p) 0 1 400 (by omega) (by omega) (by omega)
      have m0 : σ.2.1 9 0 0 p = nI (t p 0) := by have := h2.2.1 p 0 (by omega) (by omega); rwa [show 8 * 0 + p = p by omega] at this
      have m1 : σ.2.1 9 0 0 (p + 1) = nI (t (p + 1) 0) := by have := h2.2.1 (p + 1) 0 (by omega) (by omega); rwa [show 8 * 0 + (p + 1) = p + 1 by omega] at this
      have eM := bothM (b := b) (v := wd p) m0 m1 (by omega) (g2.1.1 p (by omega)) hv t0 t1 (wd p) 0 1 399 (by omega) (by omega) (by omega)
      rw [if_pos c2, show (0 : Int32) = nI 0 from rfl, show (1 : Int32) = nI 1 from rfl]
      rw [eC]
      refine wpO_some.mpr (q (wpO_f one_ne (wpO_e (within0_eq b 1 2 (by decide) (by omega) σ) ?_)))
      rw [if_pos c2]
      refine wpO_f one_ne ?_
      have first : g_X9_both_31 400 (nI p) b (-1) (nI 0) (nI 0) (nI 0) σ = g_X9_both_31 399 (nI p) b (nI 0) (nI (bbS (t p 0) (t (p + 1) 0) (wd p) 0)) (nI (bbL (t p 0) (t (p + 1) 0) (wd p) 0)) (nI 1) σ := by
        rw [g_X9_both_31, if_pos (inb_nI (show p < 7 by omega) (by omega)), gA_nI (i := p) (by omega), g2.1.1 p (by omega), if_neg (nI_nlt (by omega) (by have : wd p ≤ 9 := hv; show wd p < _; omega)), if_pos (inb_nI (show p < 40 by omega) (by omega)), gA_nI (i := p) (by omega), m0, least_eq _ _ (by omega) (by omega), bnd_some, nI_1, if_pos (inb_nI (show p + 1 < 40 by omega) (by omega)), gA_nI (i := p) (by omega), g2.1.1 p (by omega), gA_nI (i := p + 1) (by omega), m1]
        show bnd (g_X9_least (nI (wd p) - nI 0) _ σ) _ = _
        rw [pk_sub (by omega), least_eq _ _ (by have : wd p ≤ 9 := hv; omega) (by omega), bnd_some, if_pos (by decide)]
        unfold g_X9_both_113
        rw [nI_add, nI_1, least_eq _ _ (by have : wd p ≤ 9 := hv; omega) (by have : wd p ≤ 9 := hv; omega)]
        rfl
      refine (show wpO (g_X9_both_31 400 (nI p) b (-1) (nI 0) (nI 0) (nI 0) σ) _ from ?_)
      rw [first, eM]
      exact wpO_some.mpr ⟨rfl, h⟩
    · rw [if_neg c2]
      refine wpO_some.mpr (q (wpO_f one_ne (wpO_e (within0_eq b 1 2 (by decide) (by omega) σ) ?_)))
      rw [if_neg c2]
      exact wpO_t rfl (wpO_some.mpr ⟨rfl, h⟩)
  · rw [if_neg c1]
    refine wpO_t rfl (wpO_some.mpr (wpO_e (isRestM_eq h2.1 hn _) ?_))
    rw [if_neg c1]
    exact wpO_t rfl (wpO_some.mpr ⟨rfl, h⟩)
