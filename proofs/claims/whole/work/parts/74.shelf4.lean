/-! sitters from a row -/
abbrev dg (v : Int64) : Prop := 0 ≤ v ∧ v ≤ 9
def vl (v : Int64) : Nat := v.toInt32.toNatClampNeg
theorem dg_vl {v : Int64} (h : dg v) : v.toInt32 = nI (vl v) ∧ vl v ≤ 9 := by
  obtain ⟨h1, h2⟩ := h
  rw [Int64.le_iff_toInt_le] at h1 h2
  have z0 : (0 : Int64).toInt = 0 := by decide
  have z9 : (9 : Int64).toInt = 9 := by decide
  rw [z0] at h1; rw [z9] at h2
  obtain ⟨k, hk⟩ : ∃ k : Nat, v.toInt = k := ⟨v.toInt.toNat, by omega⟩
  have e : v.toInt32.toInt = (k : Int) := by
    rw [Int64.toInt_toInt32, hk, Int.bmod_eq_of_le] <;> omega
  have e2 : v.toInt32 = nI k := Int32.toInt_inj.mp (by rw [e, nI_toInt (by omega)])
  unfold vl
  rw [e2, nI_clamp (by omega)]
  exact ⟨rfl, by omega⟩
theorem isDigit_eq (v : Int64) (σ : AS) : g_X8_isDigit v σ = some (if dg v then 1 else 0, σ) := by
  unfold g_X8_isDigit
  have h1 := lg_cmp_lt v 0
  have h2 := lg_cmp_gt v 9
  by_cases c1 : v < 0
  · rw [if_pos (h1.mpr c1), if_neg (fun z => absurd c1 (Int64.not_lt.mpr z.1))]
  · rw [if_neg (fun z => c1 (h1.mp z))]
    by_cases c2 : 9 < v
    · rw [if_pos (h2.mpr c2), if_neg (fun z => absurd c2 (Int64.not_lt.mpr z.2))]
    · rw [if_neg (fun z => c2 (h2.mp z)), if_pos ⟨Int64.not_lt.mp c1, Int64.not_lt.mp c2⟩]
/-- three digits -/
abbrev dg3 (el : Nat → Int64) (q : Nat) : Prop := dg (el q) ∧ dg (el (q + 1)) ∧ dg (el (q + 2))
theorem isOne_eq (a b c : Int64) (σ : AS) : g_X9_isOne a b c σ = some (if dg a ∧ dg b ∧ dg c then 1 else 0, σ) := by
  unfold g_X9_isOne
  rw [within_eq, bnd_some]
  by_cases c1 : dg a
  · rw [if_pos c1, if_neg one_ne, within_eq, bnd_some]
    by_cases c2 : dg b
    · rw [if_pos c2, if_neg one_ne, within_eq, bnd_some]
      by_cases c3 : dg c
      · rw [if_pos c3, if_neg one_ne, if_pos ⟨c1, c2, c3⟩]
      · rw [if_neg c3, if_pos rfl, if_neg (fun z => c3 z.2.2)]
    · rw [if_neg c2, if_pos rfl, if_neg (fun z => c2 z.2.1)]
  · rw [if_neg c1, if_pos rfl, if_neg (fun z => c1 z.1)]
/-- who came: from place m on -/
def sitR (el : Nat → Int64) (m ln : Nat) : Nat → Nat → Nat → N2 → Nat × Nat × N2
  | 0, c, n, t => (c, n, t)
  | d + 1, c, n, t => if m + 3 * c + 3 ≤ ln ∧ dg3 el (m + 3 * c) ∧ n < 8 then sitR el m ln d (c + 1) (n + 1) (trA t n (vl (el (m + 3 * c))) (vl (el (m + 3 * c + 1))) (vl (el (m + 3 * c + 2)))) else (c, n, t)
def TrP (n : Nat) (t : N2) : Prop := n ≤ 8 ∧ ∀ p k, p < 8 → k < 5 → t p k ≤ 99 ∧ (k < 3 → t p k ≤ 9) ∧ (n ≤ p → t p k = 0)
theorem sitR_P {el : Nat → Int64} {m ln : Nat} : ∀ (d c n : Nat) (t : N2), TrP n t → TrP (sitR el m ln d c n t).2.1 (sitR el m ln d c n t).2.2 ∧ n ≤ (sitR el m ln d c n t).2.1 := by
  intro d
  induction d with
  | zero => intro c n t h; exact ⟨h, Nat.le_refl n⟩
  | succ d ih =>
    intro c n t h
    rw [sitR]
    by_cases q : m + 3 * c + 3 ≤ ln ∧ dg3 el (m + 3 * c) ∧ n < 8
    · rw [if_pos q]
      obtain ⟨q1, ⟨d1, d2, d3⟩, q3⟩ := q
      obtain ⟨k1, k2⟩ := ih (c + 1) (n + 1) _ (show TrP (n + 1) (trA t n (vl (el (m + 3 * c))) (vl (el (m + 3 * c + 1))) (vl (el (m + 3 * c + 2)))) from ⟨by omega, trA_P (dg_vl d1).2 (dg_vl d2).2 (dg_vl d3).2 h.2⟩)
      exact ⟨k1, by omega⟩
    · rw [if_neg q]; exact ⟨h, Nat.le_refl n⟩
theorem comes_eq {σ : AS} {p ln m c n : Nat} {el : Nat → Int64} (h5 : σ.1 5 p 1 = nI ln) (hb : ln ≤ 60) (he : ∀ i, i < ln → σ.2.2 5 p 0 i = el i) (hm : m + 3 * c < 2 ^ 31 - 9) (hn : σ.1 6 0 2 = nI n) (hnb : n ≤ 8) {t : N2} (ht : ∀ p k, p < 8 → k < 5 → σ.2.1 6 0 0 (p * 5 + k) = nI (t p k)) :
    (¬ (m + 3 * c + 3 ≤ ln ∧ dg3 el (m + 3 * c) ∧ n < 8) → g_X8_comesFrom p (nI m + 3 * nI c) σ = some (0, σ)) ∧
    (m + 3 * c + 3 ≤ ln ∧ dg3 el (m + 3 * c) ∧ n < 8 → wpO (g_X8_comesFrom p (nI m + 3 * nI c) σ) (fun r σ1 => r = 1 ∧ σ1.1 6 0 2 = nI (n + 1) ∧ (∀ p k, p < 8 → k < 5 → σ1.2.1 6 0 0 (p * 5 + k) = nI (trA t n (vl (el (m + 3 * c))) (vl (el (m + 3 * c + 1))) (vl (el (m + 3 * c + 2))) p k)) ∧ FrL [(6, 0, 2), (6, 0, 0)] σ σ1)) := by
  have e : nI m + 3 * nI c = nI (m + 3 * c) := by rw [li3, pk_mul, nI_add]
  rw [e]
  generalize m + 3 * c = q at *
  have hp := hasPlaces_eq (σ := σ) (p := p) (q := q) (k := 3) h5 hb (by omega) (by omega)
  have at_ : ∀ i, i < ln → g_X5_at p (nI i) σ = some (el i, σ) := by
    intro i hi
    unfold g_X5_at
    rw [hasPlace_eq h5 hb, bnd_some, if_pos (inb_nI hi (by omega)), if_neg one_ne, if_pos (inb_nI (by omega) (by omega))]
    show some (σ.2.2 5 p 0 (nI i).toNatClampNeg, σ) = _
    rw [nI_clamp (by omega), he i hi]
  have e1 : nI q + 1 = nI (q + 1) := nI_1 q
  have e2 : nI q + 2 = nI (q + 2) := by rw [li2, nI_add]
  unfold g_X8_comesFrom
  rw [show g_X5_hasPlaces p (nI q) 3 σ = some (if q + 3 ≤ ln then 1 else 0, σ) from hp, bnd_some]
  constructor
  · intro hno
    by_cases c1 : q + 3 ≤ ln
    · rw [if_pos c1, if_neg one_ne, at_ q (by omega), bnd_some, e1, at_ (q + 1) (by omega), bnd_some, e2, at_ (q + 2) (by omega), bnd_some, isDigit_eq, bnd_some]
      by_cases d1 : dg (el q)
      · rw [if_pos d1, if_neg one_ne, isDigit_eq, bnd_some]
        by_cases d2 : dg (el (q + 1))
        · rw [if_pos d2, if_neg one_ne, isDigit_eq, bnd_some]
          by_cases d3 : dg (el (q + 2))
          · rw [if_pos d3, if_neg one_ne]
            have n8 : ¬ n < 8 := fun z => hno ⟨c1, ⟨d1, d2, d3⟩, z⟩
            have ea : g_X6_add (el q).toInt32 (el (q + 1)).toInt32 (el (q + 2)).toInt32 σ = some (-3, σ) := by
              unfold g_X6_add
              rw [if_neg (show ¬ gF σ 6 0 2 < 8 from (show ¬ σ.1 6 0 2 < nI 8 by rw [hn]; exact nI_nlt (by omega) (by omega)))]
            rw [ea, bnd_some, if_pos rfl]
          · rw [if_neg d3, if_pos rfl]
        · rw [if_neg d2, if_pos rfl]
      · rw [if_neg d1, if_pos rfl]
    · rw [if_neg c1, if_pos rfl]
  · rintro ⟨c1, ⟨d1, d2, d3⟩, n8⟩
    rw [if_pos c1, if_neg one_ne, at_ q (by omega), bnd_some, e1, at_ (q + 1) (by omega), bnd_some, e2, at_ (q + 2) (by omega), bnd_some, isDigit_eq, bnd_some, if_pos d1, if_neg one_ne, isDigit_eq, bnd_some, if_pos d2, if_neg one_ne, isDigit_eq, bnd_some, if_pos d3, if_neg one_ne, (dg_vl d1).1, (dg_vl d2).1, (dg_vl d3).1]
    refine wpO_b (addSC hn n8 ht) (fun r σ1 x => ?_)
    obtain ⟨rfl, x1, x2, f1⟩ := x
    exact wpO_f (fun z => absurd (z ▸ nI_pos (n := n) (by omega)) (by decide)) (wpO_some.mpr ⟨rfl, x1, x2, f1⟩)
theorem sitLoopC {σ0 : AS} {p ln m N : Nat} {el : Nat → Int64} (h5 : σ0.1 5 p 1 = nI ln) (hb : ln ≤ 60) (he : ∀ i, i < ln → σ0.2.2 5 p 0 i = el i) (hN : N ≤ 8) :
    ∀ (d c n f : Nat) (t : N2) (σ : AS), c + d = N → d < f → m + 3 * c < 2 ^ 31 → FrL [(6, 0, 2), (6, 0, 0)] σ0 σ → σ.1 6 0 2 = nI n → n ≤ 8 → (∀ p k, p < 8 → k < 5 → σ.2.1 6 0 0 (p * 5 + k) = nI (t p k)) →
    wpO (g_X8_sitters_65 p f (nI m) (nI N) (nI c) σ) (fun r σ1 => r = nI (sitR el m ln d c n t).1 ∧ σ1.1 6 0 2 = nI (sitR el m ln d c n t).2.1 ∧ (∀ p k, p < 8 → k < 5 → σ1.2.1 6 0 0 (p * 5 + k) = nI ((sitR el m ln d c n t).2.2 p k)) ∧ FrL [(6, 0, 2), (6, 0, 0)] σ0 σ1) := by
  intro d
  induction d with
  | zero =>
    intro c n f t σ hc hf hm fr a1 a2 a3
    obtain ⟨f, rfl⟩ : ∃ g, f = g + 1 := ⟨f - 1, by omega⟩
    rw [g_X8_sitters_65]
    exact wpO_f (nI_nlt (by omega) (by omega)) (wpO_some.mpr ⟨rfl, a1, a3, fr⟩)
  | succ d ih =>
    intro c n f t σ hc hf hm fr a1 a2 a3
    obtain ⟨f, rfl⟩ : ∃ g, f = g + 1 := ⟨f - 1, by omega⟩
    rw [g_X8_sitters_65, nI_1]
    refine wpO_t (nI_lt (by omega) (by omega)) ?_
    by_cases big : m + 3 * c < 2 ^ 31 - 9
    · obtain ⟨no, yes⟩ := comes_eq (σ := σ) (p := p) (ln := ln) (m := m) (c := c) (el := el) (by rw [fr.f 5 p 1 (by simp)]; exact h5) hb (fun i hi => by rw [fr.l 5 p 0 (by simp)]; exact he i hi) big a1 a2 a3
      rw [sitR]
      by_cases q : m + 3 * c + 3 ≤ ln ∧ dg3 el (m + 3 * c) ∧ n < 8
      · rw [if_pos q]
        refine wpO_b (yes q) (fun r σ1 x => ?_)
        obtain ⟨rfl, x1, x2, f1⟩ := x
        exact wpO_f one_ne (ih (c + 1) (n + 1) f _ σ1 (by omega) (by omega) (by omega) (fr.tr f1) x1 (by omega) x2)
      · rw [if_neg q]
        exact wpO_e (no q) (wpO_t rfl (wpO_some.mpr ⟨rfl, a1, a3, fr⟩))
    · have q : ¬ (m + 3 * c + 3 ≤ ln ∧ dg3 el (m + 3 * c) ∧ n < 8) := by rintro ⟨q1, -⟩; omega
      rw [sitR, if_neg q]
      refine wpO_e (r := 0) (σ := σ) ?_ (wpO_t rfl (wpO_some.mpr ⟨rfl, a1, a3, fr⟩))
      unfold g_X8_comesFrom
      have hpl : g_X5_hasPlaces p (nI (m + 3 * c)) (nI 3) σ = some (0, σ) := by
        rw [hasPlaces_eq (by rw [fr.f 5 p 1 (by simp)]; exact h5) hb hm (by omega), if_neg (by omega)]
      rw [show nI m + 3 * nI c = nI (m + 3 * c) from by rw [li3, pk_mul, nI_add], show g_X5_hasPlaces p (nI (m + 3 * c)) 3 σ = some (0, σ) from hpl, bnd_some, if_pos rfl]
theorem sitLoopM {σ0 : AS} {p ln m N : Nat} {el : Nat → Int64} (hp : p < 6) (h5 : σ0.2.1 9 0 51 p = nI ln) (hb : ln ≤ 60) (he : ∀ i, i < ln → σ0.2.2 9 0 52 (60 * p + i) = el i) (hN : N ≤ 8) (hm : m < 2 ^ 31) :
    ∀ (d c n f : Nat) (t : N2) (σ : AS), c + d = N → d + 1 < f → FrL [(9, 0, 6), (9, 0, 0)] σ0 σ → σ.1 9 0 6 = nI n → n ≤ 8 → (∀ p k, p < 8 → k < 5 → σ.2.1 9 0 0 (8 * k + p) = nI (t p k)) →
    wpO (g_X9_sitters_79 f (nI p) (nI m) (nI N) (nI c) 1 σ) (fun r σ1 => r = nI (sitR el m ln d c n t).1 ∧ σ1.1 9 0 6 = nI (sitR el m ln d c n t).2.1 ∧ (∀ p k, p < 8 → k < 5 → σ1.2.1 9 0 0 (8 * k + p) = nI ((sitR el m ln d c n t).2.2 p k)) ∧ FrL [(9, 0, 6), (9, 0, 0)] σ0 σ1) := by
  intro d
  induction d with
  | zero =>
    intro c n f t σ hc hf fr a1 a2 a3
    obtain ⟨f, rfl⟩ : ∃ g, f = g + 1 := ⟨f - 1, by omega⟩
    rw [g_X9_sitters_79]
    exact wpO_f one_ne (wpO_f (nI_nlt (by omega) (by omega)) (wpO_some.mpr ⟨rfl, a1, a3, fr⟩))
  | succ d ih =>
    intro c n f t σ hc hf fr a1 a2 a3
    obtain ⟨f, rfl⟩ : ∃ g, f = g + 2 := ⟨f - 2, by omega⟩
    have stop : wpO (g_X9_sitters_79 (f + 1) (nI p) (nI m) (nI N) (nI c) 0 σ) (fun r σ1 => r = nI c ∧ σ1.1 9 0 6 = nI n ∧ (∀ p k, p < 8 → k < 5 → σ1.2.1 9 0 0 (8 * k + p) = nI (t p k)) ∧ FrL [(9, 0, 6), (9, 0, 0)] σ0 σ1) := by
      rw [g_X9_sitters_79]
      exact wpO_t rfl (wpO_some.mpr ⟨rfl, a1, a3, fr⟩)
    have e51 : gA σ 9 0 51 (nI p) = nI ln := by rw [gA_nI (by omega), fr.a 9 0 51 (by decide)]; exact h5
    have e3 : gA σ 9 0 51 (nI p) - 3 - 3 * nI c = nI ln - nI (3 + 3 * c) := by rw [e51, li3, pk_mul, sub_nI]
    rw [g_X9_sitters_79, e3, sitR]
    refine wpO_f one_ne (wpO_t (nI_lt (by omega) (by omega)) (wpO_t (inb_nI hp (by omega)) ?_))
    have no120 : ¬ (m + 3 * c + 3 ≤ ln ∧ dg3 el (m + 3 * c) ∧ n < 8) → wpO (g_X9_sitters_120 (g_X9_sitters_79 (f + 1)) (nI p) (nI m) (nI N) (nI c) σ) (fun r σ1 => r = nI (if m + 3 * c + 3 ≤ ln ∧ dg3 el (m + 3 * c) ∧ n < 8 then sitR el m ln d (c + 1) (n + 1) (trA t n (vl (el (m + 3 * c))) (vl (el (m + 3 * c + 1))) (vl (el (m + 3 * c + 2)))) else (c, n, t)).1 ∧ σ1.1 9 0 6 = nI (if m + 3 * c + 3 ≤ ln ∧ dg3 el (m + 3 * c) ∧ n < 8 then sitR el m ln d (c + 1) (n + 1) (trA t n (vl (el (m + 3 * c))) (vl (el (m + 3 * c + 1))) (vl (el (m + 3 * c + 2)))) else (c, n, t)).2.1 ∧ (∀ p k, p < 8 → k < 5 → σ1.2.1 9 0 0 (8 * k + p) = nI ((if m + 3 * c + 3 ≤ ln ∧ dg3 el (m + 3 * c) ∧ n < 8 then sitR el m ln d (c + 1) (n + 1) (trA t n (vl (el (m + 3 * c))) (vl (el (m + 3 * c + 1))) (vl (el (m + 3 * c + 2)))) else (c, n, t)).2.2 p k)) ∧ FrL [(9, 0, 6), (9, 0, 0)] σ0 σ1) := by
      intro q
      rw [if_neg q]
      unfold g_X9_sitters_120 g_X9_sitters_121 g_X9_sitters_176 g_X9_sitters_177
      exact wpO_lt (wpO_t rfl (wpO_t rfl stop))
    by_cases c1 : m + 3 * c + 3 ≤ ln
    · refine wpO_f (fun z => by have := (sub_ltI (by omega) (by omega) hm).mp z; omega) ?_
      by_cases n8 : n < 8
      · refine wpO_t (show gF σ 9 0 6 < 8 from (show σ.1 9 0 6 < nI 8 by rw [a1]; exact nI_lt n8 (by omega))) ?_
        unfold g_X9_sitters_121
        refine wpO_lt (wpO_f one_ne ?_)
        have ex : (60 : Int32) * nI p + nI m + 3 * nI c = nI (60 * p + (m + 3 * c)) := by rw [e60, li3, pk_mul, nI_add]; congr 1; omega
        have ex2 : nI (60 * p + (m + 3 * c)) + 2 = nI (60 * p + (m + 3 * c + 2)) := by rw [li2, nI_add]; rfl
        have ex1 : nI (60 * p + (m + 3 * c)) + 1 = nI (60 * p + (m + 3 * c + 1)) := by rw [nI_1]; rfl
        have gl : ∀ i, i < ln → gL σ 9 0 52 (nI (60 * p + i)) = el i := by
          intro i hi
          show σ.2.2 9 0 52 (nI (60 * p + i)).toNatClampNeg = _
          rw [nI_clamp (by omega), fr.l 9 0 52 (by decide)]
          exact he i hi
        rw [ex, ex1, ex2, gl _ (by omega), gl _ (by omega), gl _ (by omega), isOne_eq]
        refine wpO_t (inb_nI (by omega) (by omega)) (wpO_t (inb_nI (by omega) (by omega)) (wpO_t (inb_nI (by omega) (by omega)) (wpO_e rfl ?_)))
        by_cases d3 : dg3 el (m + 3 * c)
        · have q : m + 3 * c + 3 ≤ ln ∧ dg3 el (m + 3 * c) ∧ n < 8 := ⟨c1, d3, n8⟩
          rw [if_pos d3, if_pos q]
          refine wpO_f one_ne ?_
          unfold g_X9_sitters_177
          refine wpO_f one_ne (wpO_t (inb_nI (by omega) (by omega)) ?_)
          rw [ex1, ex2, gl _ (by omega), gl _ (by omega), gl _ (by omega), (dg_vl d3.1).1, (dg_vl d3.2.1).1, (dg_vl d3.2.2).1, nI_1]
          refine wpO_t (inb_nI (by omega) (by omega)) (wpO_t (inb_nI (by omega) (by omega)) (wpO_b (addsM a1 n8 a3) (fun _ σ1 x => ?_)))
          obtain ⟨x1, x2, f1⟩ := x
          exact ih (c + 1) (n + 1) (f + 1) _ σ1 (by omega) (by omega) (fr.tr f1) x1 (by omega) x2
        · have q : ¬ (m + 3 * c + 3 ≤ ln ∧ dg3 el (m + 3 * c) ∧ n < 8) := fun z => d3 z.2.1
          rw [if_neg d3, if_neg q]
          refine wpO_t rfl ?_
          unfold g_X9_sitters_176 g_X9_sitters_177
          exact wpO_t rfl stop
      · exact wpO_f (show ¬ gF σ 9 0 6 < 8 from (show ¬ σ.1 9 0 6 < nI 8 by rw [a1]; exact nI_nlt (by omega) (by omega))) (no120 (fun z => n8 z.2.2))
    · exact wpO_t ((sub_ltI (by omega) (by omega) hm).mpr (by omega)) (no120 (fun z => c1 z.1))
/-- both sides have others -/
theorem G1.set {S : List (Nat × Nat × Nat)} {σ σ2 : AS} {n n' : Nat} {t t' w : N2} {d a : Nat} {c : N2} (h1 : G1C σ n t w d a c) (h2 : G1M σ n t w d a c) (h3 : G1P n t w d a c) (hP : TrP n' t') (hn : n ≤ n')
    (F : FrL S σ σ2) (q : ∀ z ∈ [(6, 0, 1), (0, 0, 4), (0, 0, 5), (0, 0, 0), (0, 0, 1), (0, 0, 2), (0, 0, 3), (9, 0, 8), (9, 0, 5), (9, 0, 4), (9, 0, 1), (9, 0, 2), (9, 0, 3)], z ∉ S) (e1 : σ2.1 6 0 2 = nI n') (e2 : ∀ p k, p < 8 → k < 5 → σ2.2.1 6 0 0 (p * 5 + k) = nI (t' p k))
    (e3 : σ2.1 9 0 6 = nI n') (e4 : ∀ p k, p < 8 → k < 5 → σ2.2.1 9 0 0 (8 * k + p) = nI (t' p k)) : G1C σ2 n' t' w d a c ∧ G1M σ2 n' t' w d a c ∧ G1P n' t' w d a c := by
  obtain ⟨p1, p2, p3, p4, p5, p6⟩ := h3
  obtain ⟨u1, u2, u3, u4, u5, u6, u7, u8, u9⟩ := h1
  obtain ⟨y1, y2, y3, y4, y5, y6, y7, y8⟩ := h2
  refine ⟨⟨e1, e2, ?_, ?_, ?_, ?_, ?_, ?_, ?_⟩, ⟨e3, e4, ?_, ?_, ?_, ?_, ?_, ?_⟩, hP.1, hP.2, fun p k a b => ⟨(p3 p k a b).1, fun z => (p3 p k a b).2 (by omega)⟩, p4, p5, fun i hi => ⟨by have := (p6 i hi).1; omega, (p6 i hi).2⟩⟩
  · rw [F.a 6 0 1 (q _ (by decide))]; exact u3
  · rw [F.f 0 0 4 (q _ (by decide))]; exact u4
  · rw [F.f 0 0 5 (q _ (by decide))]; exact u5
  · rw [F.a 0 0 0 (q _ (by decide))]; exact u6
  · rw [F.a 0 0 1 (q _ (by decide))]; exact u7
  · rw [F.a 0 0 2 (q _ (by decide))]; exact u8
  · rw [F.a 0 0 3 (q _ (by decide))]; exact u9
  · rw [F.a 9 0 8 (q _ (by decide))]; exact y3
  · rw [F.f 9 0 5 (q _ (by decide))]; exact y4
  · rw [F.f 9 0 4 (q _ (by decide))]; exact y5
  · rw [F.a 9 0 1 (q _ (by decide))]; exact y6
  · rw [F.a 9 0 2 (q _ (by decide))]; exact y7
  · rw [F.a 9 0 3 (q _ (by decide))]; exact y8
theorem within18 (b : Int32) (σ : AS) : g_X9_within b.toInt64 1 8 σ = some (if ¬ b < 1 ∧ ¬ 8 < b then 1 else 0, σ) := by
  rw [within_eq, show (1 : Int64) = (1 : Int32).toInt64 from by decide, show (8 : Int64) = (8 : Int32).toInt64 from by decide]
  simp only [i64_le]
  have e1 : (1 : Int32) ≤ b ↔ ¬ b < 1 := Int32.not_lt.symm
  have e2 : b ≤ 8 ↔ ¬ 8 < b := Int32.not_lt.symm
  simp only [e1, e2]
theorem op_sitters (a i0 b : Int32) : Both (g_X8_sitters a i0 b) (g_X9_sitters a i0 b) := by
  intro σ h
  obtain ⟨n, t, w, d, aa, c0, h1, h2, h3⟩ := h.1
  obtain ⟨⟨wd, L, R, cm, yl, fi, now⟩, yy, z, g1, g2, g3⟩ := h.2.1
  obtain ⟨x, y, b1, b2, b3⟩ := h.2.2.2.2
  have hn := h3.1
  have hN : now ≤ 24 := g3.1.2.2
  have eN1 : gF σ 1 0 11 = nI now := g1.1.2.2.2.2.2.2.1
  have eN2 : gF σ 9 0 13 = nI now := g2.1.2.2.2.2.2.2.1
  unfold g_X8_sitters g_X9_sitters
  refine wpO_e (isShelfC_eq a σ) ?_
  by_cases c : inb a 6
  · obtain ⟨p, hp, rfl⟩ := inb_ex c
    obtain ⟨r1, r2, r3, r4⟩ := b3.2 p hp
    obtain ⟨s1, s2, s3, s4⟩ := b1.2 p hp
    obtain ⟨t1, t2, t3⟩ := b2.2 p hp
    rw [if_pos c]
    refine wpO_f one_ne ?_
    have q : ∀ {f : Int32 → AS → Option (Int32 × AS)} {Q : Int32 → AS → Prop} {σ1 : AS}, wpO (f 1 σ1) Q → wpO (bnd (g_X9_isShelf (nI p) σ1) f) Q := fun z => wpO_e (isShelfM_eq _ _) (by rw [if_pos c]; exact z)
    by_cases c1 : ¬ b < 1 ∧ ¬ 8 < b
    · obtain ⟨N, hN31, rfl⟩ := nI_of (x := b) (fun z => c1.1 (Int32.lt_trans z (by decide)))
      have hN1 : 1 ≤ N := Classical.byContradiction (fun z => c1.1 (show nI N < nI 1 from nI_lt (by omega) (by omega)))
      have hN8 : N ≤ 8 := Classical.byContradiction (fun z => c1.2 (show nI 8 < nI N from nI_lt (by omega) hN31))
      have q2 : ∀ {f : Int32 → AS → Option (Int32 × AS)} {Q : Int32 → AS → Prop} {σ1 : AS}, wpO (f 1 σ1) Q → wpO (bnd (g_X9_within (nI N).toInt64 1 8 σ1) f) Q := fun z => wpO_e (within18 _ _) (by rw [if_pos c1]; exact z)
      have e2 : gF σ 5 (nI p).toNatClampNeg 2 = nI (y.1 p) - 2 := by rw [nI_clamp (by omega)]; exact s1
      obtain ⟨b', hb', eb, eb1⟩ := shM_b (k := y.1 p) (b := y.2.1 p) (fun z => by have := r2 z; have := b3.1.1; omega)
      have e50 : gA σ 9 0 50 (nI p) = shM (y.1 p) b' := by rw [gA_nI (by omega), t1, eb]
      refine wpO_f c1.1 (wpO_f c1.2 (wpO_t c ?_))
      rw [e2]
      have body : y.1 p = 0 ∨ y.1 p = 2 → wpO (g_X8_sitters_49 (nI p).toNatClampNeg i0 (nI N) σ) (fun r σ1 => gA σ1 9 0 50 (nI p) = gA σ 9 0 50 (nI p) ∧ wpO (g_X9_sitters_44 (nI p) i0 (nI N) σ1) (fun r' σ2 => r = r' ∧ Inv σ2)) := by
        intro hk
        rw [nI_clamp (by omega)]
        unfold g_X8_sitters_49
        rw [eN1]
        by_cases cn : now = 0
        · refine wpO_t (by rw [cn]; rfl) ?_
          by_cases ci : i0 < 0
          · refine wpO_mono (P := fun r σ1 => r = 0 ∧ σ1 = σ) ⟨0, σ, ?_, rfl, rfl⟩ ?_
            · rw [g_X8_sitters_65, if_pos (show (0 : Int32) < nI N from z_lt (by omega) hN31)]
              unfold g_X8_comesFrom g_X5_hasPlaces
              have e0 : i0 + 3 * 0 = i0 := by rw [Int32.mul_zero, Int32.add_zero]
              rw [e0, if_pos ci]; rfl
            · rintro r' σ1 ⟨rfl, rfl⟩
              refine ⟨rfl, ?_⟩
              unfold g_X9_sitters_44
              have z79 : wpO (g_X9_sitters_79 400 (nI p) i0 (nI N) 0 0 σ1) (fun r' σ2 => 0 = r' ∧ Inv σ2) := by rw [g_X9_sitters_79]; exact wpO_t rfl (wpO_some.mpr ⟨rfl, h⟩)
              exact wpO_t (by rw [eN2, cn]; rfl) (wpO_t c (wpO_if (fun _ => wpO_t ci z79) (fun _ => z79)))
          · obtain ⟨m, hm, rfl⟩ := nI_of ci
            refine wpO_mono (sitLoopC (σ0 := σ) (p := p) (m := m) (el := y.2.2.2 p) (N := N) s3 r4 s4 hN8 N 0 n 400 t σ (by omega) (by omega) (by omega) FrL.rf h1.1 hn h1.2.1) ?_
            intro r' σ1 zz
            obtain ⟨rfl, z1, z2, f1⟩ := zz
            have e51 : gA σ1 9 0 50 (nI p) = gA σ 9 0 50 (nI p) := by unfold gA; rw [f1.a 9 0 50 (by decide)]
            refine ⟨e51, ?_⟩
            have m2 := h2.fr f1 (by decide)
            unfold g_X9_sitters_44
            refine wpO_t (by unfold gF; rw [f1.f 9 0 13 (by decide)]; rw [show σ.1 9 0 13 = nI now from eN2, cn]; rfl) (wpO_t c ?_)
            rw [e51, e50]
            rcases hk with hk | hk
            · refine wpO_f (show ¬ shM (y.1 p) b' = nI 50 from fun z => by have := (shM_e50 (by omega) hb').mp z; omega) ?_
              have l0 : y.2.2.1 p = 0 := r3 (by omega)
              obtain ⟨N', rfl⟩ : ∃ k, N = k + 1 := ⟨N - 1, by omega⟩
              have es : sitR (y.2.2.2 p) m (y.2.2.1 p) (N' + 1) 0 n t = (0, n, t) := by rw [sitR, if_neg (by rintro ⟨q1, -⟩; omega)]
              rw [es] at z1 z2 ⊢
              rw [g_X9_sitters_79]
              refine wpO_t rfl (wpO_some.mpr ⟨rfl, h.of1 f1 ⟨n, t, w, d, aa, c0, ?_⟩ (by decide)⟩)
              exact G1.set h1 h2 h3 ⟨h3.1, h3.2.1⟩ (Nat.le_refl n) f1 (by decide) z1 z2 m2.1 m2.2.1
            · refine wpO_t (show shM (y.1 p) b' = nI 50 from (shM_e50 (by omega) hb').mpr hk) (wpO_f ci ?_)
              refine wpO_mono (sitLoopM (σ0 := σ1) (p := p) (m := m) (el := y.2.2.2 p) (ln := y.2.2.1 p) (N := N) hp (by rw [f1.a 9 0 51 (by decide)]; exact t2) r4 (fun i hi => by rw [f1.l 9 0 52 (by decide)]; exact t3 i hi) hN8 hm N 0 n 400 t σ1 (by omega) (by omega) FrL.rf m2.1 hn m2.2.1) ?_
              intro r' σ2 yy
              obtain ⟨rfl, y1, y2, f2⟩ := yy
              have F : FrL [(6, 0, 2), (6, 0, 0), (9, 0, 6), (9, 0, 0)] σ σ2 := (f1.mono (by decide)).tr (f2.mono (by decide))
              obtain ⟨k1, k2⟩ := sitR_P (el := y.2.2.2 p) (m := m) (ln := y.2.2.1 p) N 0 n t ⟨h3.1, h3.2.1⟩
              refine ⟨rfl, h.of1 F ⟨_, _, w, d, aa, c0, G1.set h1 h2 h3 k1 k2 F (by decide) ?_ ?_ y1 y2⟩ (by decide)⟩
              · rw [f2.f 6 0 2 (by decide)]; exact z1
              · rw [f2.a 6 0 0 (by decide)]; exact z2
        · have e0 : ¬ nI now = 0 := nI_ne0 (by omega) (by omega)
          refine wpO_f e0 (wpO_some.mpr ⟨rfl, ?_⟩)
          unfold g_X9_sitters_44
          exact wpO_f (by rw [eN2]; exact e0) (wpO_some.mpr ⟨rfl, h⟩)
      by_cases k0 : y.1 p = 0
      · refine wpO_t ((k_e2 _ (by omega)).mpr k0) (wpO_mono (body (Or.inl k0)) ?_)
        intro r' σ1 zz
        refine q (wpO_f one_ne (q2 (wpO_f one_ne (wpO_t c (wpO_t ?_ zz.2)))))
        rw [zz.1, e50]; exact (shM_n0 (by omega) hb').mpr k0
      · refine wpO_f (fun z => k0 ((k_e2 _ (by omega)).mp z)) ?_
        have n0 : ¬ gA σ 9 0 50 (nI p) < 0 := by rw [e50]; exact fun z => k0 ((shM_n0 (by omega) hb').mp z)
        by_cases k2 : y.1 p = 2
        · refine wpO_t ((k_z0 _ (by omega)).mpr k2) (wpO_mono (body (Or.inr k2)) ?_)
          intro r' σ1 zz
          refine q (wpO_f one_ne (q2 (wpO_f one_ne (wpO_t c (wpO_f (by rw [zz.1]; exact n0) (wpO_t ?_ zz.2))))))
          rw [zz.1]
          show gA σ 9 0 50 (nI p) = nI 50
          rw [e50]; exact (shM_e50 (by omega) hb').mpr k2
        · refine wpO_f (fun z => k2 ((k_z0 _ (by omega)).mp z)) (wpO_some.mpr (q (wpO_f one_ne (q2 (wpO_f one_ne (wpO_t c (wpO_f n0 (wpO_f ?_ (wpO_some.mpr ⟨rfl, h⟩)))))))))
          show ¬ gA σ 9 0 50 (nI p) = nI 50
          rw [e50]; exact fun z => k2 ((shM_e50 (by omega) hb').mp z)
    · have fin : wpO (bnd (g_X9_isShelf (nI p) σ) fun r1 σ2 => if r1 = 0 then some (-1, σ2) else bnd (g_X9_within b.toInt64 1 8 σ2) fun r4 σ5 => if r4 = 0 then some (-1, σ5) else if inb (nI p) 6 then if gA σ5 9 0 50 (nI p) < 0 then g_X9_sitters_44 (nI p) i0 b σ5 else if gA σ5 9 0 50 (nI p) = 50 then g_X9_sitters_44 (nI p) i0 b σ5 else some (-12, σ5) else none) (fun r' σ2 => (-1 : Int32) = r' ∧ Inv σ2) := by
        refine q (wpO_f one_ne (wpO_e (within18 _ _) ?_))
        rw [if_neg c1]
        exact wpO_t rfl (wpO_some.mpr ⟨rfl, h⟩)
      by_cases z1 : b < 1
      · exact wpO_t z1 (wpO_some.mpr fin)
      · have z2 : 8 < b := Classical.byContradiction (fun z => c1 ⟨z1, z⟩)
        exact wpO_f z1 (wpO_t z2 (wpO_some.mpr fin))
  · rw [if_neg c]
    refine wpO_t rfl (wpO_some.mpr (wpO_e (isShelfM_eq _ _) ?_))
    rw [if_neg c]
    exact wpO_t rfl (wpO_some.mpr ⟨rfl, h⟩)
