/-! what the readers answer -/
theorem has_eq {σ : AS} {n : Nat} (hn : σ.1 6 0 2 = nI n) (hb : n ≤ 8) (a : Int32) : g_X6_has a σ = some (if inb a n then 1 else 0, σ) := by
  unfold g_X6_has
  simp only [inb_iff (show n < 2 ^ 31 by omega), gF, hn]
  by_cases h1 : a < 0 <;> by_cases h2 : a < nI n <;> simp [h1, h2]
theorem trait_eq {σ : AS} {n p w : Nat} (hn : σ.1 6 0 2 = nI n) (hb : n ≤ 8) (hp : p < n) (hw : w < 5) : g_X6_trait (nI p) (nI w) σ = some (σ.2.1 6 0 0 (p * 5 + w), σ) := by
  unfold g_X6_trait
  rw [has_eq hn hb, if_pos (inb_nI hp (by omega))]
  simp (disch := omega) only [li0, li1, li2, li3, li4, li5, li6, li7, li8, li9, li10, li14, li16, li20, li23, li24, li30, li32, li37, li38, li40, li41, li42, li43, li45, li47, li50, li53, li57, li58, li59, li60, li61, li62, li63, li70, li80, li81, li99, li100, li110, li120, li123, li124, li126, li128, li168, li192, li255, li336, li360, li400, li999, nI_add, pk_mul, nI_clamp, nI_ltI, nI_leI, nI_eq, pk_sub, bnd_some, if_pos, if_neg, and_self, and_true, true_and, false_and, and_false, not_false_eq_true, not_true_eq_false, Nat.zero_le, Nat.not_lt_zero, if_false, if_true, gA, gF, gL, inb, lt, nI_inj0, Nat.reduceEqDiff, ↓reduceIte, eq_self]
theorem how_eq {σ : AS} {n p h : Nat} (hn : σ.1 6 0 2 = nI n) (hb : n ≤ 8) (hp : p < n) (hh : h < 24) : g_X6_how (nI p) (nI h) σ = some (σ.2.1 6 0 1 (p * 24 + h), σ) := by
  unfold g_X6_how
  rw [has_eq hn hb, if_pos (inb_nI hp (by omega))]
  simp (disch := omega) only [li0, li1, li2, li3, li4, li5, li6, li7, li8, li9, li10, li14, li16, li20, li23, li24, li30, li32, li37, li38, li40, li41, li42, li43, li45, li47, li50, li53, li57, li58, li59, li60, li61, li62, li63, li70, li80, li81, li99, li100, li110, li120, li123, li124, li126, li128, li168, li192, li255, li336, li360, li400, li999, nI_add, pk_mul, nI_clamp, nI_ltI, nI_leI, nI_eq, pk_sub, bnd_some, if_pos, if_neg, and_self, and_true, true_and, false_and, and_false, not_false_eq_true, not_true_eq_false, Nat.zero_le, Nat.not_lt_zero, if_false, if_true, gA, gF, gL, inb, lt, nI_inj0, Nat.reduceEqDiff, ↓reduceIte, eq_self]
theorem rests_eq {σ : AS} {n : Nat} (hn : σ.1 6 0 2 = nI n) (hb : n ≤ 8) : g_X6_rests σ = some (nI (n - 1), σ) := by
  unfold g_X6_rests
  simp only [gF, hn]
  by_cases h0 : n = 0
  · subst h0; rfl
  · simp (disch := omega) only [li0, li1, li2, li3, li4, li5, li6, li7, li8, li9, li10, li14, li16, li20, li23, li24, li30, li32, li37, li38, li40, li41, li42, li43, li45, li47, li50, li53, li57, li58, li59, li60, li61, li62, li63, li70, li80, li81, li99, li100, li110, li120, li123, li124, li126, li128, li168, li192, li255, li336, li360, li400, li999, nI_add, pk_mul, nI_clamp, nI_ltI, nI_leI, nI_eq, pk_sub, bnd_some, if_pos, if_neg, and_self, and_true, true_and, false_and, and_false, not_false_eq_true, not_true_eq_false, Nat.zero_le, Nat.not_lt_zero, if_false, if_true, gA, gF, gL, inb, lt, nI_inj0, Nat.reduceEqDiff, ↓reduceIte, eq_self]
theorem number_eq {σ : AS} {n : Nat} (hn : σ.1 6 0 2 = nI n) : g_X6_number σ = some (nI n, σ) := by
  unfold g_X6_number; simp only [gF, hn]
theorem hasRest_eq {σ : AS} {n : Nat} (hn : σ.1 6 0 2 = nI n) (hb : n ≤ 8) (a : Int32) : g_X6_hasRest a σ = some (if inb a (n - 1) then 1 else 0, σ) := by
  unfold g_X6_hasRest
  simp only [inb_iff (show n - 1 < 2 ^ 31 by omega), gF, hn]
  by_cases h0 : n = 0
  · subst h0
    by_cases h1 : a < 0
    · simp [h1]
    · have h2 : ¬ a < nI 0 - 1 := fun z => h1 (by
        rw [Int32.lt_iff_toInt_lt] at z ⊢
        have e : (nI 0 - 1).toInt = -1 := by decide
        have e0 : (0 : Int32).toInt = 0 := by decide
        omega)
      have h3 : ¬ a < nI (0 - 1) := h1
      simp [h1, h2, h3]
  · have e : nI n - 1 = nI (n - 1) := by rw [li1, pk_sub (by omega)]
    rw [e]
    by_cases h1 : a < 0 <;> by_cases h2 : a < nI (n - 1) <;> simp [h1, h2]
/-- how one is there: 0, 1 -/
def thr (w : Int32) : Bool := decide (w = 0) || decide (w = 1)
theorem isThere_eq {σ : AS} {n p h : Nat} (hn : σ.1 6 0 2 = nI n) (hb : n ≤ 8) (hp : p < n) (hh : h < 24) : g_X6_isThere (nI p) (nI h) σ = some (if thr (σ.2.1 6 0 1 (p * 24 + h)) then 1 else 0, σ) := by
  unfold g_X6_isThere
  rw [how_eq hn hb hp hh, bnd_some]
  unfold thr
  by_cases h0 : σ.2.1 6 0 1 (p * 24 + h) = 0 <;> by_cases h1 : σ.2.1 6 0 1 (p * 24 + h) = 1 <;> simp [h0, h1]
/-! the common world of an hour -/
abbrev HS : Type := (Nat → Nat) × ((Nat → Nat) × ((Nat → Nat) × ((Nat → Nat) × (Int32 × (Int32 × Nat)))))
abbrev hL (s : HS) : Nat → Nat := s.1
abbrev hR (s : HS) : Nat → Nat := s.2.1
abbrev hF (s : HS) : Nat → Nat := s.2.2.1
abbrev hO (s : HS) : Nat → Nat := s.2.2.2.1
abbrev hz (s : HS) : Int32 := s.2.2.2.2.1
abbrev hc (s : HS) : Int32 := s.2.2.2.2.2.1
abbrev hm (s : HS) : Nat := s.2.2.2.2.2.2
def uN (f : Nat → Nat) (k v : Nat) : Nat → Nat := fun j => if j = k then v else f j
def EnvC (σ : AS) (n : Nat) (tr way : Nat → Nat → Int32) : Prop :=
  σ.1 6 0 2 = nI n ∧ n ≤ 8 ∧ (∀ p w, p < n → w < 5 → σ.2.1 6 0 0 (p * 5 + w) = tr p w) ∧ ∀ p h, p < n → h < 24 → σ.2.1 6 0 1 (p * 24 + h) = way p h
def EnvM (σ : AS) (n : Nat) (tr way : Nat → Nat → Int32) : Prop :=
  σ.1 9 0 6 = nI n ∧ n ≤ 8 ∧ (∀ p w, p < n → w < 5 → σ.2.1 9 0 0 (8 * w + p) = tr p w) ∧ ∀ p h, p < n → h < 24 → σ.2.1 9 0 8 (24 * p + h) = way p h
theorem EnvC.fr {S : List (Nat × Nat × Nat)} {σ σ1 : AS} {n : Nat} {tr way : Nat → Nat → Int32} (h : EnvC σ n tr way) (f : FrL S σ σ1) (h1 : (6, 0, 2) ∉ S := by decide) (h2 : (6, 0, 0) ∉ S := by decide) (h3 : (6, 0, 1) ∉ S := by decide) : EnvC σ1 n tr way := by
  obtain ⟨a, b, c, d⟩ := h
  exact ⟨(f.f _ _ _ h1).trans a, b, fun p w hp hw => by rw [f.a _ _ _ h2]; exact c p w hp hw, fun p w hp hw => by rw [f.a _ _ _ h3]; exact d p w hp hw⟩
theorem EnvM.fr {S : List (Nat × Nat × Nat)} {σ σ1 : AS} {n : Nat} {tr way : Nat → Nat → Int32} (h : EnvM σ n tr way) (f : FrL S σ σ1) (h1 : (9, 0, 6) ∉ S := by decide) (h2 : (9, 0, 0) ∉ S := by decide) (h3 : (9, 0, 8) ∉ S := by decide) : EnvM σ1 n tr way := by
  obtain ⟨a, b, c, d⟩ := h
  exact ⟨(f.f _ _ _ h1).trans a, b, fun p w hp hw => by rw [f.a _ _ _ h2]; exact c p w hp hw, fun p w hp hw => by rw [f.a _ _ _ h3]; exact d p w hp hw⟩
/-- what an hour of a course looks at: widths, who sits where, inches, fights, who lost, the draw, how many fights, whether an inch moved -/
def VC (o : Nat) (σ : AS) (wd who : Nat → Nat) (h : Nat) (s : HS) : Prop :=
  (∀ j, j < 8 → σ.2.1 1 o 8 j = nI (who j)) ∧ (∀ i, i < 7 → σ.2.1 1 o 2 i = nI (wd i)) ∧ (∀ i, i < 7 → σ.2.1 1 o 3 i = nI (hL s i)) ∧ (∀ i, i < 7 → σ.2.1 1 o 4 i = nI (hR s i)) ∧
  (∀ i, i < 7 → σ.2.1 1 o 5 i = nI (hF s i)) ∧ (∀ j, j < 8 → σ.2.1 1 o 9 j = nI (hO s j)) ∧ σ.1 1 o 13 = hz s ∧ σ.1 1 o 12 = hc s ∧ σ.1 1 o 10 = nI (hm s) ∧ σ.1 1 o 11 = nI h
/-- inches have room -/
def OKH (wd : Nat → Nat) (s : HS) : Prop := (∀ i, i < 7 → hL s i + hR s i ≤ wd i) ∧ ∀ i, i < 7 → wd i ≤ 9
def nv (a0 a1 a2 a3 a4 a5 a6 a7 a8 : Int32) : Nat → Int32 := fun k => [a0, a1, a2, a3, a4, a5, a6, a7, a8].getD k 0
def dfl (v : Nat → Int32) : Int32 := if v 5 = 1 then (2 * v 1 + v 3) / 2 else 2 * v 1 + v 3
/-- what the class's law is -/
def StrC (σ : AS) (Str : (Nat → Int32) → Int32) : Prop :=
  (¬ 0 < σ.1 3 0 4 ∧ ∀ v, Str v = dfl v) ∨ (0 < σ.1 3 0 4 ∧ ∀ (σ1 : AS) (v : Nat → Int32), σ1.1 3 0 4 = σ.1 3 0 4 → σ1.2.1 3 0 0 = σ.2.1 3 0 0 → σ1.2.1 3 0 1 = σ.2.1 3 0 1 → (∀ k, k < 9 → σ1.2.1 3 0 3 k = v k) →
    wpO (g_X3_work 0 σ1) (fun r σ2 => r = Str v ∧ FrL [(3, 0, 2), (3, 0, 5)] σ1 σ2))
theorem StrC.fr {S : List (Nat × Nat × Nat)} {σ σ1 : AS} {Str : (Nat → Int32) → Int32} (h : StrC σ Str) (f : FrL S σ σ1) (h1 : (3, 0, 4) ∉ S := by decide) (h2 : (3, 0, 0) ∉ S := by decide) (h3 : (3, 0, 1) ∉ S := by decide) : StrC σ1 Str := by
  rcases h with ⟨a, b⟩ | ⟨a, b⟩
  · exact Or.inl ⟨by rw [f.f _ _ _ h1]; exact a, b⟩
  · refine Or.inr ⟨by rw [f.f _ _ _ h1]; exact a, fun σ2 v e1 e2 e3 e4 => ?_⟩
    exact b σ2 v (e1.trans (f.f _ _ _ h1)) (e2.trans (f.a _ _ _ h2)) (e3.trans (f.a _ _ _ h3)) e4
/-- in the middle: rests on both sides -/
def midI (n s : Nat) : Int32 := if 0 < s ∧ s + 1 < n then 1 else 0
/-- the strength of who sits in a seat at a rest -/
def sgt (tr way : Nat → Nat → Int32) (Str : (Nat → Int32) → Int32) (n : Nat) (who L R : Nat → Nat) (s i : Nat) (c : Int32) (h : Nat) : Int32 :=
  Str (nv (tr (who s) 0) (tr (who s) 1) (tr (who s) 2) (nI (if s = i then L i else R i)) (nI (if s = i then R i else L i)) (way (who s) h) (midI n s) c (nI h))
