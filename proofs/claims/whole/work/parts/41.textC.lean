/-! the class reads the law's text: what it meets -/
def nxI (T : Nat → Nat) (len q : Nat) : Int32 := if q < len then nI (T q) else -1
theorem n1_ne {n : Nat} (h : n < 2 ^ 31) : ¬ (-1 : Int32) = nI n := by
  intro e
  have := nI_pos' h
  rw [← e] at this
  exact absurd this (by decide)
section TC
variable {T : Nat → Nat} {len : Nat}
theorem nxI_eq {q n : Nat} (hT : ∀ i, i < len → T i ≤ 255) (h0 : n ≠ 0) (hn : n < 256) : (nxI T len q = nI n) ↔ tnx T len q = n := by
  unfold nxI tnx
  by_cases h : q < len
  · rw [if_pos h, if_pos h]
    have := hT q h
    exact nI_eq (by omega) (by omega)
  · rw [if_neg h, if_neg h]
    exact ⟨fun z => absurd z (n1_ne (by omega)), fun z => absurd z.symm h0⟩
def dgI (a : Int32) : Int32 := if lg_cmp ((a - 48).toInt64) 0 < 0 then 0 else if (0 : Int32) < lg_cmp ((a - 48).toInt64) 9 then 0 else 1
theorem dgI_c : ∀ n : Fin 256, dgI (nI n.val) = if isDg n.val then 1 else 0 := by decide +kernel
theorem dig_is {a : Int32} {σ : AS} : g_X8_isDigit ((a - 48).toInt64) σ = some (dgI a, σ) := by
  unfold g_X8_isDigit dgI
  repeat' split
  all_goals rfl
theorem dgI_eq {q : Nat} (hT : ∀ i, i < len → T i ≤ 255) : dgI (nxI T len q) = if isDg (tnx T len q) then 1 else 0 := by
  unfold nxI tnx
  by_cases h : q < len
  · rw [if_pos h, if_pos h]
    have := hT q h
    exact dgI_c ⟨T q, by omega⟩
  · rw [if_neg h, if_neg h]; decide +kernel
def tgI (a : Int32) : Int32 := if a = 37 then 4 else if a = 38 then 1 else if a = 42 then 4 else if a = 43 then 3 else if a = 45 then 3 else if a = 47 then 4 else if a = 60 then 2 else if a = 61 then 2 else if a = 62 then 2 else if a = 124 then 0 else -1
theorem tg_is {a : Int32} {σ : AS} : g_X7_tightnessOf a σ = some (tgI a, σ) := by
  unfold g_X7_tightnessOf tgI
  repeat' split
  all_goals rfl
theorem tgI_c : ∀ n : Fin 256, tgI (nI n.val) = nI (tOf n.val) - 1 := by decide +kernel
theorem tgI_eq {q : Nat} (hT : ∀ i, i < len → T i ≤ 255) : tgI (nxI T len q) = nI (tOf (tnx T len q)) - 1 := by
  unfold nxI tnx
  by_cases h : q < len
  · rw [if_pos h, if_pos h]
    have := hT q h
    exact tgI_c ⟨T q, by omega⟩
  · rw [if_neg h, if_neg h]; decide +kernel
def nmI (a : Int32) : Int32 := if a = 99 then 7 else if a = 104 then 8 else if a = 105 then 3 else if a = 106 then 4 else if a = 109 then 6 else if a = 112 then 1 else if a = 114 then 2 else if a = 115 then 0 else if a = 122 then 5 else -1
theorem nmI_c : ∀ n : Fin 256, nmI (nI n.val) = nI (nOf n.val) - 1 := by decide +kernel
theorem nmI_eq {q : Nat} (hT : ∀ i, i < len → T i ≤ 255) : nmI (nxI T len q) = nI (nOf (tnx T len q)) - 1 := by
  unfold nxI tnx
  by_cases h : q < len
  · rw [if_pos h, if_pos h]
    have := hT q h
    exact nmI_c ⟨T q, by omega⟩
  · rw [if_neg h, if_neg h]; decide +kernel
theorem nm_is {a : Int32} {σ : AS} : g_X7_nameOf a σ = some (nmI a, σ) := by
  have k : ∀ {c : Prop} [Decidable c] {x y : Int32}, (if c then some (x, σ) else some (y, σ)) = some (if c then x else y, σ) := fun {c} _ {x y} => by split <;> rfl
  unfold g_X7_nameOf
  simp only [k]
  congr 2
  unfold nmI
  by_cases h99 : a = 99
  · subst h99; decide
  by_cases h104 : a = 104
  · subst h104; decide
  by_cases h105 : a = 105
  · subst h105; decide
  by_cases h106 : a = 106
  · subst h106; decide
  by_cases h109 : a = 109
  · subst h109; decide
  by_cases h112 : a = 112
  · subst h112; decide
  by_cases h114 : a = 114
  · subst h114; decide
  by_cases h115 : a = 115
  · subst h115; decide
  by_cases h122 : a = 122
  · subst h122; decide
  simp only [h99, h104, h105, h106, h109, h112, h114, h115, h122, if_false, ite_self]
/-! the law's steps, the tape -/
def LC (σ : AS) (o : Nat) (c : CODE) : Prop := σ.1 3 o 4 = nI c.length ∧ ∀ i x, c[i]? = some x → σ.2.1 3 o 0 i = nI x.1 ∧ σ.2.1 3 o 1 i = nI x.2
def EnvT (T : Nat → Nat) (len : Nat) (σ : AS) : Prop := len ≤ 120 ∧ σ.1 7 0 1 = nI len ∧ ∀ i, i < len → σ.2.1 7 0 0 i = nI (T i) ∧ T i ≤ 255
def ST : List (Nat × Nat × Nat) := [(7, 0, 2), (7, 0, 3), (3, 1, 0), (3, 1, 1), (3, 1, 4)]
theorem EnvT.fr {σ σ1 : AS} (h : EnvT T len σ) (f : FrL ST σ σ1) : EnvT T len σ1 := by
  refine ⟨h.1, ?_, fun i hi => ?_⟩
  · rw [f.f 7 0 1 (by decide)]; exact h.2.1
  · rw [f.a 7 0 0 (by decide)]; exact h.2.2 i hi
theorem EnvT.le {σ : AS} (h : EnvT T len σ) : ∀ i, i < len → T i ≤ 255 := fun i hi => (h.2.2 i hi).2
theorem next_is {σ : AS} {q : Nat} (h : EnvT T len σ) (hq : σ.1 7 0 2 = nI q) (hl : q ≤ len) : g_X7_next σ = some (nxI T len q, σ) := by
  have hb := h.1
  unfold g_X7_next nxI
  show (if σ.1 7 0 2 < σ.1 7 0 1 then _ else _) = _
  rw [hq, h.2.1]
  by_cases c : q < len
  · rw [if_pos (nI_lt c (by omega)), if_pos c]
    show (if inb (σ.1 7 0 2) 120 then some (gA σ 7 0 0 (σ.1 7 0 2), σ) else none) = _
    rw [hq, if_pos (inb_nI (by omega) (by omega)), gA_nI (by omega), (h.2.2 q c).1]
  · rw [if_neg (nI_nlt (by omega) (by omega)), if_neg c]
/-- reading goes well: place q, code c -/
def RS (σ : AS) (len q : Nat) (c : CODE) : Prop := σ.1 7 0 2 = nI q ∧ σ.1 7 0 3 = -1 ∧ LC σ 1 c ∧ c.length ≤ q ∧ q ≤ len
/-- a fault at p is found -/
def RF (σ : AS) (len p : Nat) : Prop := σ.1 7 0 3 = nI p ∧ p ≤ len ∧ (∃ q, σ.1 7 0 2 = nI q ∧ q ≤ len) ∧ ∃ n, σ.1 3 1 4 = nI n ∧ n ≤ 128
theorem pl1 {σ : AS} {q : Nat} (h : σ.1 7 0 2 = nI q) : sF σ 7 0 2 (gF σ 7 0 2 + 1) = sF σ 7 0 2 (nI (q + 1)) := by
  unfold gF
  rw [h, nI_1]
theorem RS.go {σ : AS} {q q1 : Nat} {c : CODE} (h : RS σ len q c) (h1 : q ≤ q1) (h2 : q1 ≤ len) : RS (sF σ 7 0 2 (nI q1)) len q1 c :=
  ⟨by rw [sF_f]; rfl, by rw [sF_f]; exact h.2.1, ⟨by rw [sF_f]; exact h.2.2.1.1, h.2.2.1.2⟩, Nat.le_trans h.2.2.2.1 h1, h2⟩
theorem add_is {σ : AS} {o : Nat} {c : CODE} {s v : Nat} (h : LC σ o c) (hl : c.length < 128) : wpO (g_X3_add o (nI s) (nI v) σ) (fun _ σ1 => LC σ1 o (c ++ [(s, v)]) ∧ FrL [(3, o, 0), (3, o, 1), (3, o, 4)] σ σ1) := by
  have e1 := h.1
  unfold g_X3_add
  refine wpO_t (by show σ.1 3 o 4 < 128; rw [e1, li128]; exact nI_lt hl (by omega)) ?_
  refine wpO_t (by show inb (σ.1 3 o 4) 128; rw [e1]; exact inb_nI hl (by omega)) ?_
  refine wpO_lt ?_
  refine wpO_t (by show inb (σ.1 3 o 4) 128; rw [e1]; exact inb_nI hl (by omega)) ?_
  refine wpO_lt (wpO_lt (wpO_some.mpr ⟨⟨?_, fun i x hx => ?_⟩, ?_⟩))
  · rw [sF_f, if_pos ⟨rfl, rfl, rfl⟩]
    show σ.1 3 o 4 + 1 = _
    rw [e1, nI_1, List.length_append]; rfl
  · rw [List.getElem?_append] at hx
    have ea : (gF σ 3 o 4).toNatClampNeg = c.length := by show (σ.1 3 o 4).toNatClampNeg = _; rw [e1]; exact nI_clamp (by omega)
    have eb : (gF (sAf σ 3 o 0 (upd (σ.2.1 3 o 0) (gF σ 3 o 4).toNatClampNeg (nI s))) 3 o 4).toNatClampNeg = c.length := ea
    rw [sF_a]
    unfold sA
    rw [eb, ea]
    simp only [sAf_a, eq_self, true_and, Nat.zero_ne_one, Nat.one_ne_zero, and_false, and_true, if_false, if_true, upd_at]
    by_cases c1 : i < c.length
    · rw [if_pos c1] at hx
      rw [if_neg (by omega), if_neg (by omega)]
      exact h.2 i x hx
    · rw [if_neg c1] at hx
      have c2 : i - c.length = 0 := by
        apply Classical.byContradiction
        intro z
        rw [List.getElem?_eq_none (by show 1 ≤ _; omega)] at hx
        cases hx
      rw [c2] at hx
      have c3 : i = c.length := by omega
      cases hx
      rw [if_pos c3, if_pos c3]
      exact ⟨rfl, rfl⟩
  · exact ((FrL_sA (by simp)).tr (FrL_sA (by simp))).tr (FrL_sF (by simp))
theorem RS.add {σ : AS} {q : Nat} {c : CODE} {s v : Nat} (h : RS σ len q c) (hl : len ≤ 120) (h1 : c.length + 1 ≤ q) : wpO (g_X3_add 1 (nI s) (nI v) σ) (fun _ σ1 => RS σ1 len q (c ++ [(s, v)]) ∧ FrL ST σ σ1) := by
  have a1 := h.2.2.2.2
  refine wpO_mono (add_is h.2.2.1 (by omega)) (fun _ σ1 w => ⟨⟨?_, ?_, w.1, ?_, a1⟩, w.2.mono (by decide)⟩)
  · rw [w.2.f 7 0 2 (by decide)]; exact h.1
  · rw [w.2.f 7 0 3 (by decide)]; exact h.2.1
  · rw [List.length_append]; exact h1
theorem fail_is {σ : AS} {q : Nat} {c : CODE} (h : RS σ len q c) (hl : len ≤ 120) : wpO (g_X7_fail σ) (fun _ σ1 => RF σ1 len q ∧ FrL ST σ σ1) := by
  obtain ⟨a1, a2, a3, a4, a5⟩ := h
  unfold g_X7_fail
  refine wpO_t (by show σ.1 7 0 3 < 0; rw [a2]; decide) (wpO_lt (wpO_some.mpr ⟨⟨?_, a5, ⟨q, ?_, a5⟩, c.length, ?_, by omega⟩, FrL_sF (by decide)⟩))
  · rw [sF_f, if_pos ⟨rfl, rfl, rfl⟩]; exact a1
  · rw [sF_f]; exact a1
  · rw [sF_f]; exact a3.1
theorem RF.fail {σ : AS} {p : Nat} (h : RF σ len p) (hl : len ≤ 120) : g_X7_fail σ = some ((), σ) := by
  have h1 := h.1
  have h2 := h.2.1
  unfold g_X7_fail
  rw [if_neg (by show ¬ σ.1 7 0 3 < 0; rw [h1, li0]; exact nI_nlt (by omega) (by omega))]
theorem RF.nlt {σ : AS} {p : Nat} (h : RF σ len p) (hl : len ≤ 120) : ¬ gF σ 7 0 3 < 0 := by
  have h1 := h.1
  have h2 := h.2.1
  show ¬ σ.1 7 0 3 < 0
  rw [h1, li0]; exact nI_nlt (by omega) (by omega)
theorem RF.add0 {σ : AS} {p : Nat} {s v : Int32} (h : RF σ len p) : wpO (g_X3_add 1 s v σ) (fun _ σ1 => RF σ1 len p ∧ FrL [(3, 1, 0), (3, 1, 1), (3, 1, 4)] σ σ1) := by
  obtain ⟨h1, h2, h3, n, h4, h5⟩ := h
  unfold g_X3_add
  refine wpO_if (fun c1 => ?_) (fun _ => wpO_some.mpr ⟨⟨h1, h2, h3, n, h4, h5⟩, FrL.rf⟩)
  have c2 : n < 128 := by
    apply Classical.byContradiction
    intro z
    have c1 : σ.1 3 1 4 < 128 := c1
    rw [h4, li128] at c1
    exact nI_nlt (by omega) (by omega) c1
  refine wpO_t (by show inb (σ.1 3 1 4) 128; rw [h4]; exact inb_nI c2 (by omega)) ?_
  refine wpO_lt ?_
  refine wpO_t (by show inb (σ.1 3 1 4) 128; rw [h4]; exact inb_nI c2 (by omega)) ?_
  refine wpO_lt (wpO_lt (wpO_some.mpr ⟨⟨h1, h2, h3, n + 1, ?_, c2⟩, ?_⟩))
  · rw [sF_f, if_pos ⟨rfl, rfl, rfl⟩]
    show σ.1 3 1 4 + 1 = _
    rw [h4, nI_1]
  · exact ((FrL_sA (by decide)).tr (FrL_sA (by decide))).tr (FrL_sF (by decide))
theorem RF.add {σ : AS} {p : Nat} {s v : Int32} (h : RF σ len p) : wpO (g_X3_add 1 s v σ) (fun _ σ1 => RF σ1 len p ∧ FrL ST σ σ1) := wpO_mono h.add0 (fun _ _ w => ⟨w.1, w.2.mono (by decide)⟩)
theorem RF.next {σ : AS} {p : Nat} (h : RF σ len p) (he : EnvT T len σ) : ∃ q, q ≤ len ∧ σ.1 7 0 2 = nI q ∧ g_X7_next σ = some (nxI T len q, σ) := by
  obtain ⟨q, h3, h4⟩ := h.2.2.1
  exact ⟨q, h4, h3, next_is he h3 h4⟩
theorem RF.go {σ : AS} {p q : Nat} (h : RF σ len p) (h2 : q ≤ len) : RF (sF σ 7 0 2 (nI q)) len p :=
  ⟨by rw [sF_f]; exact h.1, h.2.1, ⟨q, by rw [sF_f]; rfl, h2⟩, by obtain ⟨n, a, b⟩ := h.2.2.2; exact ⟨n, by rw [sF_f]; exact a, b⟩⟩
end TC
