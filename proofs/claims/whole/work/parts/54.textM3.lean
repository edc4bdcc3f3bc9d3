section XM3
variable {T : Nat → Nat} {len k : Nat} {e : Nat → Int32} {rc : GT2} {P : PRS}
theorem nm9_is {a : Int32} {σ : AS} : g_X9_nameOf a σ = some (nmI a, σ) := by
  rw [← nm_is (a := a) (σ := σ)]; rfl
theorem nmI_t (h : ∀ i, i < len → T i ≤ 255) (q : Nat) : nmI (nI (tnx T len q)) = nI (nOf (tnx T len q)) - 1 := nmI_c ⟨tnx T len q, by have := tnx_le h q; omega⟩
theorem numX : ∀ (m f v q : Nat) (σ : AS), m ≤ 4 → m < f → EnvX T len e σ → RX σ len q k → (isDg (tnx T len q) = true ∨ m < 4) →
    wpO (g_X9_one_176 rc f (nI v) (nI (4 - m)) σ) (fun r σ1 => FrL SX σ σ1 ∧ RX σ1 len (pNum (tnx T len) m v q).1 k ∧ r = nI (pNum (tnx T len) m v q).2)
  | m, 0, v, q, σ, _, h, _, _, _ => absurd h (Nat.not_lt_zero _)
  | 0, f + 1, v, q, σ, _, _, he, hr, hd => by
    unfold g_X9_one_176
    refine wpO_f (by decide) ?_
    unfold g_X9_one_229
    exact wpO_f (by decide) (wpO_some.mpr ⟨FrL.rf, hr, rfl⟩)
  | m + 1, f + 1, v, q, σ, hm, hf, he, hr, hd => by
    have hb := he.1
    have hx := tnx_le he.2.2.1 q
    have hby := byte_is he hr.1 hr.2.1
    unfold g_X9_one_176
    refine wpO_t (by rw [li4]; exact nI_lt (by omega) (by omega)) (wpO_e hby ?_)
    unfold pNum
    have stop : ¬ isDg (tnx T len q) = true → wpO (g_X9_one_229 rc (nI v) (nI (4 - (m + 1))) σ) (fun r σ1 => FrL SX σ σ1 ∧ RX σ1 len q k ∧ r = nI v) := by
      intro c
      have hm4 : m + 1 < 4 := hd.resolve_left c
      unfold g_X9_one_229
      exact wpO_f (fun z => by rw [nI_eq0 (by omega)] at z; omega) (wpO_some.mpr ⟨FrL.rf, hr, rfl⟩)
    have l48 : (nI (tnx T len q) < 48) ↔ tnx T len q < 48 := by
      constructor
      · intro z; apply Classical.byContradiction; intro y; exact nI_nlt (a := tnx T len q) (b := 48) (by omega) (by omega) z
      · intro z; exact nI_lt (b := 48) z (by omega)
    have l57 : (57 < nI (tnx T len q)) ↔ 57 < tnx T len q := by
      constructor
      · intro z; apply Classical.byContradiction; intro y; exact nI_nlt (a := 57) (b := tnx T len q) (by omega) (by omega) z
      · intro z; exact nI_lt (a := 57) z (by omega)
    by_cases c : isDg (tnx T len q) = true
    · rw [if_pos c]
      have h9 := isDg_c c
      have n0 : tnx T len q ≠ 0 := by omega
      have hq : q < len := tnx_lt n0
      refine wpO_f (fun z => by have := l48.mp z; omega) (wpO_e hby (wpO_f (fun z => by have := l57.mp z; omega) (wpO_e hby (wpO_lt (wpO_lt ?_)))))
      rw [pl9 hr.1]
      have e1 : (10 : Int32) * nI v + nI (tnx T len q) - 48 = nI (10 * v + (tnx T len q - 48)) := by
        rw [li10, pk_mul, nI_add, show (48 : Int32) = nI 48 from rfl, pk_sub (by omega)]
        congr 1; omega
      have e2 : nI (4 - (m + 1)) + 1 = nI (4 - m) := by rw [nI_1]; congr 1; omega
      rw [e1, e2]
      have f1 : FrL SX σ (sF σ 9 0 20 (nI (q + 1))) := FrL_sF (by decide)
      exact wpO_mono (numX m f _ (q + 1) _ (by omega) (by omega) (he.fr f1) (hr.go (by omega)) (Or.inr (by omega))) (fun _ _ w => ⟨f1.tr w.1, w.2⟩)
    · rw [if_neg c]
      by_cases c1 : tnx T len q < 48
      · exact wpO_t (l48.mpr c1) (stop c)
      · have c2 : 57 < tnx T len q := by
          apply Classical.byContradiction
          intro z
          refine c ?_
          unfold isDg
          simp only [Bool.and_eq_true, Nat.ble_eq]
          omega
        exact wpO_f (fun z => c1 (l48.mp z)) (wpO_e hby (wpO_t (l57.mpr c2) (stop c)))
/-- what opens -/
theorem opX {d : PRS × PRS} {x q : Nat} {σ : AS} (hk : k ≤ 5) (hx : tnx T len q = x) (ho : isOp x = true) (gd : Good len d.1 ∧ Good len d.2) (h1 : RdX T len e k rc.1 d.1) (h2 : RdX T len e k rc.2.2.2.2.2 d.2) (he : EnvX T len e σ) (hr : RX σ len q (k + 1)) :
    wpO (g_X9_one_32 rc (nI x) σ) (fun r σ1 => MX σ len (k + 1) e (pOne (tnx T len) (some d) q) r σ1) := by
  have hb := he.1
  have hx3 := isOp_c ho
  have n0 : tnx T len q ≠ 0 := by omega
  have hq : q < len := tnx_lt n0
  have e40 : (nI x = 40) ↔ x = 40 := by rw [li40]; exact nI_eq (by omega) (by omega)
  have e45 : (nI x = 45) ↔ x = 45 := nI_eq (b := 45) (by omega) (by omega)
  obtain ⟨r1, r2, r3, r4, r5⟩ := hr
  unfold g_X9_one_32
  refine wpO_f ?_ (wpO_lt (wpO_lt ?_))
  · show ¬ σ.1 9 0 23 = 6
    rw [r4, li6]
    exact fun z => absurd ((nI_eq (by omega) (by omega)).mp z) (by omega)
  have eo : gF σ 9 0 23 + 1 = nI (6 - k) := by
    show σ.1 9 0 23 + 1 = _
    rw [r4, nI_1]; congr 1; omega
  rw [eo]
  have ep : (sF σ 9 0 23 (nI (6 - k))).1 9 0 20 = nI q := by rw [sF_f]; exact r1
  rw [pl9 ep]
  generalize hs : sF (sF σ 9 0 23 (nI (6 - k))) 9 0 20 (nI (q + 1)) = σ0
  have f0 : FrL SX σ σ0 := by rw [← hs]; exact (FrL_sF (by decide)).tr (FrL_sF (by decide))
  have hr0 : RX σ0 len (q + 1) k := by
    rw [← hs]
    refine ⟨by rw [sF_f]; rfl, hq, ?_, ?_, by omega⟩
    · rw [sF_f, sF_f]; exact r3
    · rw [sF_f, sF_f]; rfl
  have he0 := he.fr f0
  have ed : ∀ σ1, σ1.1 9 0 23 = nI (6 - k) → gF σ1 9 0 23 - 1 = nI (6 - (k + 1)) := by
    intro σ1 h
    show σ1.1 9 0 23 - 1 = _
    rw [h, li1, pk_sub (by omega)]; congr 1
  have back : ∀ (σ1 : AS) (q1 : Nat), RX σ1 len q1 k → RX (sF σ1 9 0 23 (nI (6 - (k + 1)))) len q1 (k + 1) := by
    intro σ1 q1 h
    exact ⟨by rw [sF_f]; exact h.1, h.2.1, by rw [sF_f]; exact h.2.2.1, by rw [sF_f]; rfl, by omega⟩
  unfold pOne
  rw [hx, if_pos ho]
  dsimp only
  by_cases c1 : x = 40
  · rw [if_pos c1]
    refine wpO_t (e40.mpr c1) (wpO_b (h1 σ0 (q + 1) he0 hr0) (fun r σ1 w => ?_))
    have w2 := w.2
    have f1 := f0.tr w.1
    unfold g_X9_one_83
    refine wpO_t (e40.mpr c1) ?_
    cases e1 : d.1 (q + 1) with
    | error p =>
      rw [e1] at w2
      have w2 : RXF σ1 len p := w2
      exact wpO_e (takes_f w2 hb) (wpO_t rfl (wpO_b (wrong_f w2 hb) (fun _ σ2 y => wpO_some.mpr ⟨f1.tr y.2, y.1⟩)))
    | ok z =>
      rw [e1] at w2
      obtain ⟨a1, a2⟩ := w2
      dsimp only
      by_cases c2 : tnx T len z.1 = 41
      · rw [if_pos c2]
        refine wpO_e (takes_t (n := 41) (he.fr f1) a1 c2) (wpO_f one_ne ?_)
        have hz : z.1 < len := tnx_lt (T := T) (len := len) (q := z.1) (by rw [c2]; omega)
        unfold g_X9_one_104
        refine wpO_lt (wpO_t (e40.mpr c1) (wpO_some.mpr ?_))
        have a3 := a1.go (q1 := z.1 + 1) (by omega)
        rw [ed _ a3.2.2.2.1]
        exact ⟨f1.tr ((FrL_sF (by decide)).tr (FrL_sF (by decide))), back _ _ a3, a2⟩
      · rw [if_neg c2]
        exact wpO_e (takes_n (n := 41) (he.fr f1) a1 (by omega) c2) (wpO_t rfl (wpO_b (wrong_is a1) (fun _ σ2 y => wpO_some.mpr ⟨f1.tr y.2, y.1⟩)))
  · rw [if_neg c1]
    refine wpO_f (fun z => c1 (e40.mp z)) (wpO_b (h2 σ0 (q + 1) he0 hr0) (fun r σ1 w => ?_))
    have w2 := w.2
    have f1 := f0.tr w.1
    unfold g_X9_one_83
    refine wpO_f (fun z => c1 (e40.mp z)) ?_
    unfold g_X9_one_104
    refine wpO_lt (wpO_f (fun z => c1 (e40.mp z)) ?_)
    cases e1 : d.2 (q + 1) with
    | error p =>
      rw [e1] at w2
      have w2 : RXF σ1 len p := w2
      have w3 : RXF (sF σ1 9 0 23 (gF σ1 9 0 23 - 1)) len p := by
        obtain ⟨b1, b2, b3⟩ := w2
        exact ⟨by rw [sF_f]; exact b1, b2, b3⟩
      have fin : ∀ v : Int32, MX σ len (k + 1) e (.error p) v (sF σ1 9 0 23 (gF σ1 9 0 23 - 1)) := fun v => ⟨f1.tr (FrL_sF (by decide)), w3⟩
      exact wpO_if (fun _ => wpO_some.mpr (fin _)) (fun _ => wpO_if (fun _ => wpO_some.mpr (fin _)) (fun _ => wpO_some.mpr (fin _)))
    | ok z =>
      rw [e1] at w2
      obtain ⟨a1, a2⟩ := w2
      obtain ⟨-, -, -, g4⟩ := gd.2 _ _ e1
      rw [ed _ a1.2.2.2.1]
      have f2 : FrL SX σ (sF σ1 9 0 23 (nI (6 - (k + 1)))) := f1.tr (FrL_sF (by decide))
      by_cases c3 : x = 45
      · refine wpO_t (e45.mpr c3) (wpO_some.mpr ⟨f2, back _ _ a1, ?_⟩)
        show -r = evc e (z.2 ++ [(if x = 33 then 33 else 126, 0)])
        rw [if_neg (by omega), g4.less.2 e, a2]
      · have c4 : x = 33 := by omega
        refine wpO_f (fun z => c3 (e45.mp z)) ?_
        have ev : evc e (z.2 ++ [(if x = 33 then 33 else 126, 0)]) = if evc e z.2 = 0 then 1 else 0 := by rw [if_pos c4, g4.deny.2 e]
        rw [← a2] at ev
        by_cases c5 : r = 0
        · refine wpO_t c5 (wpO_some.mpr ⟨f2, back _ _ a1, ?_⟩)
          show (1 : Int32) = evc e (z.2 ++ [(if x = 33 then 33 else 126, 0)])
          rw [ev, if_pos c5]
        · refine wpO_f c5 (wpO_some.mpr ⟨f2, back _ _ a1, ?_⟩)
          show (0 : Int32) = evc e (z.2 ++ [(if x = 33 then 33 else 126, 0)])
          rw [ev, if_neg c5]
theorem oneX {deep : Option (PRS × PRS)} (hop : ∀ σ q, EnvX T len e σ → RX σ len q k → isOp (tnx T len q) = true → wpO (g_X9_one_32 rc (nI (tnx T len q)) σ) (fun r σ1 => MX σ len k e (pOne (tnx T len) deep q) r σ1)) : RdX T len e k (gb_X9_one rc) (pOne (tnx T len) deep) := by
  intro σ q he hr
  have hb := he.1
  have hx := tnx_le he.2.2.1 q
  unfold gb_X9_one
  refine wpO_t hr.lt (wpO_e (byte_is he hr.1 hr.2.1) ?_)
  by_cases c : isOp (tnx T len q) = true
  · have h := hop σ q he hr c
    refine wpO_if (fun _ => h) (fun c1 => wpO_if (fun _ => h) (fun c2 => wpO_if (fun _ => h) (fun c3 => ?_)))
    rcases isOp_c c with y | y | y
    · exact absurd (by rw [y]; rfl) c1
    · exact absurd (by rw [y]; rfl) c2
    · exact absurd (by rw [y]; rfl) c3
  · obtain ⟨b1, b2, b3⟩ := isOp_n c
    refine wpO_f (fun z => b1 ((nIe (n := 33) hx (by omega)).mp z)) (wpO_f (fun z => b2 ((nIe (n := 45) hx (by omega)).mp z)) (wpO_f (fun z => b3 ((nIe (n := 40) hx (by omega)).mp z)) (wpO_e nm9_is ?_)))
    rw [nmI_t he.2.2.1]
    have h9 := nOf_lt (tnx T len q)
    by_cases c2 : nOf (tnx T len q) ≠ 0
    · have e3 : nI (nOf (tnx T len q)) - 1 = nI (nOf (tnx T len q) - 1) := by rw [li1, pk_sub (by omega)]
      have ep : pOne (tnx T len) deep q = .ok (q + 1, [(110, nOf (tnx T len q) - 1)]) := by
        unfold pOne; rw [if_neg c, if_pos c2]
      have hq : q < len := tnx_lt (fun z => c2 (by rw [z]; rfl))
      rw [ep, e3]
      refine wpO_f (fun z => absurd (nI_pos' (by omega)) (Int32.not_le.mpr z)) (wpO_lt (wpO_t (inb_nI (by omega) (by omega)) ?_))
      rw [pl9 hr.1, gA_nI (by omega)]
      refine wpO_some.mpr ⟨FrL_sF (by decide), hr.go (by omega), ?_⟩
      show (sF σ 9 0 20 (nI (q + 1))).2.1 9 0 24 _ = evc e [(110, nOf (tnx T len q) - 1)]
      rw [sF_a, he.2.2.2.2 _ (by omega)]; rfl
    · have z0 : nOf (tnx T len q) = 0 := by omega
      rw [z0]
      refine wpO_t (by decide) ?_
      by_cases c3 : isDg (tnx T len q) = true
      · have ep : pOne (tnx T len) deep q = .ok ((pNum (tnx T len) 4 0 q).1, [(35, (pNum (tnx T len) 4 0 q).2)]) := by
          unfold pOne; rw [if_neg c, if_neg c2, if_pos c3]
        rw [ep]
        exact wpO_mono (numX (T := T) (len := len) 4 400 0 q σ (by omega) (by omega) he hr (Or.inl c3)) (fun r σ1 w => ⟨w.1, w.2.1, w.2.2⟩)
      · rw [pOne_dn c c2 c3]
        show wpO (g_X9_one_176 rc (399 + 1) 0 0 σ) _
        unfold g_X9_one_176
        have w : wpO (g_X9_one_229 rc 0 0 σ) (fun r σ1 => MX σ len k e (.error q) r σ1) := by
          unfold g_X9_one_229
          exact wpO_t rfl (wpO_b (wrong_is hr) (fun _ σ2 y => wpO_some.mpr ⟨y.2, y.1⟩))
        refine wpO_t (by decide) (wpO_e (byte_is he hr.1 hr.2.1) (wpO_if (fun _ => w) (fun c4 => wpO_e (byte_is he hr.1 hr.2.1) (wpO_if (fun _ => w) (fun c5 => absurd ?_ c3)))))
        have d1 : ¬ tnx T len q < 48 := fun z => c4 (nI_lt (b := 48) z (by omega))
        have d2 : ¬ 57 < tnx T len q := fun z => c5 (nI_lt (a := 57) z (by omega))
        unfold isDg
        simp only [Bool.and_eq_true, Nat.ble_eq]
        omega
theorem lvX {o : PRS} {f0 : Nat} (hg : Good len o) (h : ∀ f, f0 ≤ f → RdX T len e k (gr2 f).2.2.2.2.2 o) : ∀ f, f0 + 5 ≤ f → RdX T len e k (gr2 f).1 (pL0 (tnx T len) o) := by
  intro f hf
  obtain ⟨g, rfl⟩ : ∃ g, f = g + 5 := ⟨f - 5, by omega⟩
  have s4 : RdX T len e k (gr2 (g + 1)).2.2.2.2.1 (pL4 (tnx T len) o) := product_is (rc := gr2 g) (h g (by omega)) hg
  have s3 : RdX T len e k (gr2 (g + 2)).2.2.2.1 (pL3 (tnx T len) o) := sums_is (rc := gr2 (g + 1)) s4 (pLev_good hg)
  have s2 : RdX T len e k (gr2 (g + 3)).2.2.1 (pL2 (tnx T len) o) := compared_is (rc := gr2 (g + 2)) s3 (pLev_good (pLev_good hg))
  have s1 : RdX T len e k (gr2 (g + 4)).2.1 (pL1 (tnx T len) o) := bothOf_is (rc := gr2 (g + 3)) s2 (pLev_good (pLev_good (pLev_good hg)))
  exact either_is (rc := gr2 (g + 4)) s1 (pLev_good (pLev_good (pLev_good (pLev_good hg))))
theorem X_is : ∀ k, k ≤ 6 → (∀ f, 6 * k + 1 ≤ f → RdX T len e k (gr2 f).2.2.2.2.2 (pP (tnx T len) k).2) ∧ (∀ f, 6 * k + 6 ≤ f → RdX T len e k (gr2 f).1 (pP (tnx T len) k).1) := by
  have lv : ∀ k, (∀ f, 6 * k + 1 ≤ f → RdX T len e k (gr2 f).2.2.2.2.2 (pP (tnx T len) k).2) → (∀ f, 6 * k + 1 ≤ f → RdX T len e k (gr2 f).2.2.2.2.2 (pP (tnx T len) k).2) ∧ (∀ f, 6 * k + 6 ≤ f → RdX T len e k (gr2 f).1 (pP (tnx T len) k).1) := by
    intro k h
    refine ⟨h, fun f hf => ?_⟩
    have z := lvX (pP_good k).2 h f (by omega)
    rw [pP_lt]
    exact z
  intro k
  induction k with
  | zero =>
    intro _
    refine lv 0 (fun f hf => ?_)
    cases f with
    | zero => omega
    | succ f =>
      refine oneX (rc := gr2 f) (deep := none) (fun σ q he hr c => ?_)
      have ep : pOne (tnx T len) none q = .error q := by unfold pOne; rw [if_pos c]
      rw [ep]
      unfold g_X9_one_32
      exact wpO_t (show σ.1 9 0 23 = 6 from hr.2.2.2.1) (wpO_b (wrong_is hr) (fun _ σ2 y => wpO_some.mpr ⟨y.2, y.1⟩))
  | succ k ih =>
    intro hk
    obtain ⟨i1, i2⟩ := ih (by omega)
    refine lv (k + 1) (fun f hf => ?_)
    cases f with
    | zero => omega
    | succ f =>
      exact oneX (rc := gr2 f) (deep := some (pP (tnx T len) k)) (fun σ q he hr c => opX (by omega) rfl c (pP_good k) (i2 f (by omega)) (i1 f (by omega)) he hr)
end XM3
