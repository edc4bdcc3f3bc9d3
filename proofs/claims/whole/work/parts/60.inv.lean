/-! the two sides' relation at rest, in five groups; each: class's half, reference's half, bounds -/
abbrev N2 : Type := Nat → Nat → Nat
def G1C (σ : AS) (n : Nat) (t w : N2) (d a : Nat) (c : N2) : Prop :=
  σ.1 6 0 2 = nI n ∧ (∀ p k, p < 8 → k < 5 → σ.2.1 6 0 0 (p * 5 + k) = nI (t p k)) ∧ (∀ p h, p < 8 → h < 24 → σ.2.1 6 0 1 (p * 24 + h) = nI (w p h)) ∧
  σ.1 0 0 4 = nI d ∧ σ.1 0 0 5 = nI a ∧ (∀ i, i < a → σ.2.1 0 0 0 i = nI (c i 0)) ∧ (∀ i, i < a → σ.2.1 0 0 1 i = nI (c i 1)) ∧ (∀ i, i < a → σ.2.1 0 0 2 i = nI (c i 2)) ∧ ∀ i, i < a → σ.2.1 0 0 3 i = nI (c i 3)
def G1M (σ : AS) (n : Nat) (t w : N2) (d a : Nat) (c : N2) : Prop :=
  σ.1 9 0 6 = nI n ∧ (∀ p k, p < 8 → k < 5 → σ.2.1 9 0 0 (8 * k + p) = nI (t p k)) ∧ (∀ p h, p < 8 → h < 24 → σ.2.1 9 0 8 (24 * p + h) = nI (w p h)) ∧
  σ.1 9 0 5 = nI d ∧ σ.1 9 0 4 = nI a ∧ (∀ i, i < a → σ.2.1 9 0 1 i = nI (8 * c i 1 + c i 0)) ∧ (∀ i, i < a → σ.2.1 9 0 2 i = nI (c i 2)) ∧ ∀ i, i < a → σ.2.1 9 0 3 i = nI (c i 3)
def G1P (n : Nat) (t w : N2) (d a : Nat) (c : N2) : Prop :=
  n ≤ 8 ∧ (∀ p k, p < 8 → k < 5 → t p k ≤ 99 ∧ (k < 3 → t p k ≤ 9) ∧ (n ≤ p → t p k = 0)) ∧ (∀ p h, p < 8 → h < 24 → w p h ≤ 3 ∧ (n ≤ p → w p h = 0)) ∧
  d ≤ a ∧ a ≤ 40 ∧ ∀ i, i < a → c i 0 < n ∧ c i 1 < 5 ∧ c i 2 ≤ 99 ∧ c i 3 ≤ 99 ∧ (c i 1 < 3 → c i 2 ≤ 9 ∧ c i 3 ≤ 9)
def G1 (σ : AS) : Prop := ∃ n t w d a c, G1C σ n t w d a c ∧ G1M σ n t w d a c ∧ G1P n t w d a c
abbrev D1C : List (Nat × Nat × Nat) := [(6, 0, 2), (6, 0, 0), (6, 0, 1), (0, 0, 4), (0, 0, 5), (0, 0, 0), (0, 0, 1), (0, 0, 2), (0, 0, 3)]
abbrev D1M : List (Nat × Nat × Nat) := [(9, 0, 6), (9, 0, 0), (9, 0, 8), (9, 0, 5), (9, 0, 4), (9, 0, 1), (9, 0, 2), (9, 0, 3)]
theorem G1C.fr {S : List (Nat × Nat × Nat)} {σ σ1 : AS} {n : Nat} {t w : N2} {d a : Nat} {c : N2} (h : G1C σ n t w d a c) (f : FrL S σ σ1) (q : ∀ z ∈ D1C, z ∉ S) : G1C σ1 n t w d a c := by
  unfold G1C at h ⊢
  rw [f.f 6 0 2 (q _ (by decide)), f.a 6 0 0 (q _ (by decide)), f.a 6 0 1 (q _ (by decide)), f.f 0 0 4 (q _ (by decide)), f.f 0 0 5 (q _ (by decide)), f.a 0 0 0 (q _ (by decide)), f.a 0 0 1 (q _ (by decide)), f.a 0 0 2 (q _ (by decide)), f.a 0 0 3 (q _ (by decide))]
  exact h
theorem G1M.fr {S : List (Nat × Nat × Nat)} {σ σ1 : AS} {n : Nat} {t w : N2} {d a : Nat} {c : N2} (h : G1M σ n t w d a c) (f : FrL S σ σ1) (q : ∀ z ∈ D1M, z ∉ S) : G1M σ1 n t w d a c := by
  unfold G1M at h ⊢
  rw [f.f 9 0 6 (q _ (by decide)), f.a 9 0 0 (q _ (by decide)), f.a 9 0 8 (q _ (by decide)), f.f 9 0 5 (q _ (by decide)), f.f 9 0 4 (q _ (by decide)), f.a 9 0 1 (q _ (by decide)), f.a 9 0 2 (q _ (by decide)), f.a 9 0 3 (q _ (by decide))]
  exact h
theorem G1.fr {S : List (Nat × Nat × Nat)} {σ σ1 : AS} (h : G1 σ) (f : FrL S σ σ1) (q : ∀ z ∈ D1C ++ D1M, z ∉ S) : G1 σ1 := by
  obtain ⟨n, t, w, d, a, c, h1, h2, h3⟩ := h
  exact ⟨n, t, w, d, a, c, h1.fr f (fun z hz => q z (List.mem_append.mpr (Or.inl hz))), h2.fr f (fun z hz => q z (List.mem_append.mpr (Or.inr hz))), h3⟩
/-! the course in deed, what LED tells, the image -/
abbrev I2 : Type := Nat → Nat → Int32
/-- what is at rest of a course: widths, left, right, comfort, yields, fights, now -/
abbrev CRS : Type := (Nat → Nat) × (Nat → Nat) × (Nat → Nat) × (Nat → Int32) × (Nat → Int32) × Int32 × Nat
abbrev LEDS : Type := I2 × I2 × I2
/-- the image: is there one, left, right, comfort, yields, fights, now -/
abbrev IMGS : Type := Bool × (Nat → Nat) × (Nat → Nat) × (Nat → Int32) × (Nat → Int32) × Int32 × Nat
def CrC (σ : AS) (x : CRS) : Prop :=
  (∀ i, i < 7 → σ.2.1 1 0 2 i = nI (x.1 i)) ∧ (∀ i, i < 7 → σ.2.1 1 0 3 i = nI (x.2.1 i)) ∧ (∀ i, i < 7 → σ.2.1 1 0 4 i = nI (x.2.2.1 i)) ∧
  (∀ p, p < 8 → σ.2.1 1 0 6 p = x.2.2.2.1 p) ∧ (∀ p, p < 8 → σ.2.1 1 0 7 p = x.2.2.2.2.1 p) ∧ σ.1 1 0 12 = x.2.2.2.2.2.1 ∧ σ.1 1 0 11 = nI x.2.2.2.2.2.2 ∧ ∀ j, j < 8 → σ.2.1 1 0 8 j = nI j
def CrM (σ : AS) (x : CRS) : Prop :=
  (∀ i, i < 7 → σ.2.1 9 0 7 i = nI (x.1 i)) ∧ (∀ i, i < 7 → σ.2.1 9 0 9 (2 * i) = nI (x.2.1 i)) ∧ (∀ i, i < 7 → σ.2.1 9 0 9 (2 * i + 1) = nI (x.2.2.1 i)) ∧
  (∀ p, p < 8 → σ.2.1 9 0 10 p = x.2.2.2.1 p) ∧ (∀ p, p < 8 → σ.2.1 9 0 11 p = x.2.2.2.2.1 p) ∧ σ.1 9 0 12 = x.2.2.2.2.2.1 ∧ σ.1 9 0 13 = nI x.2.2.2.2.2.2 ∧ ∀ j, j < 8 → σ.2.1 9 0 14 j = nI j
def CrP (x : CRS) : Prop := (∀ i, i < 7 → x.2.1 i + x.2.2.1 i ≤ x.1 i) ∧ (∀ i, i < 7 → x.1 i ≤ 9) ∧ x.2.2.2.2.2.2 ≤ 24
def LdC (σ : AS) (h : Nat) (y : LEDS) : Prop :=
  (∀ g i, g < h → i < 7 → σ.2.1 4 0 0 (7 * g + i) = y.1 g i) ∧ (∀ g i, g < h → i < 7 → σ.2.1 4 0 1 (7 * g + i) = y.2.1 g i) ∧ ∀ g i, g < h → i < 7 → σ.2.1 4 0 2 (7 * g + i) = y.2.2 g i
def LdM (σ : AS) (k kf : Nat) (h : Nat) (y : LEDS) : Prop :=
  (∀ g i, g < h → i < 7 → σ.2.1 9 0 k (14 * g + 2 * i) = y.1 g i) ∧ (∀ g i, g < h → i < 7 → σ.2.1 9 0 k (14 * g + 2 * i + 1) = y.2.1 g i) ∧ ∀ g i, g < h → i < 7 → σ.2.1 9 0 kf (7 * g + i) = y.2.2 g i
def ImC (σ : AS) (z : IMGS) : Prop :=
  σ.1 8 0 11 = (if z.1 then 1 else 0) ∧ (z.1 = true → (∀ i, i < 7 → σ.2.1 1 2 3 i = nI (z.2.1 i)) ∧ (∀ i, i < 7 → σ.2.1 1 2 4 i = nI (z.2.2.1 i)) ∧
  (∀ p, p < 8 → σ.2.1 1 2 6 p = z.2.2.2.1 p) ∧ (∀ p, p < 8 → σ.2.1 1 2 7 p = z.2.2.2.2.1 p) ∧ σ.1 1 2 12 = z.2.2.2.2.2.1 ∧ σ.1 1 2 11 = nI z.2.2.2.2.2.2)
def ImM (σ : AS) (z : IMGS) (y : LEDS) : Prop :=
  σ.1 9 0 36 = (if z.1 then 1 else 0) ∧ (z.1 = true → (∀ i, i < 7 → σ.2.1 9 0 39 (2 * i) = nI (z.2.1 i)) ∧ (∀ i, i < 7 → σ.2.1 9 0 39 (2 * i + 1) = nI (z.2.2.1 i)) ∧
  (∀ p, p < 8 → σ.2.1 9 0 40 p = z.2.2.2.1 p) ∧ (∀ p, p < 8 → σ.2.1 9 0 41 p = z.2.2.2.2.1 p) ∧ σ.1 9 0 38 = z.2.2.2.2.2.1 ∧ σ.1 9 0 37 = nI z.2.2.2.2.2.2 ∧ LdM σ 42 43 z.2.2.2.2.2.2 y)
def ImP (h : Nat) (z : IMGS) : Prop := z.1 = true → z.2.2.2.2.2.2 ≤ h ∧ (∀ i, i < 7 → z.2.1 i ≤ 9) ∧ ∀ i, i < 7 → z.2.2.1 i ≤ 9
def G2C (σ : AS) (x : CRS) (y : LEDS) (z : IMGS) : Prop := CrC σ x ∧ LdC σ x.2.2.2.2.2.2 y ∧ ImC σ z
def G2M (σ : AS) (x : CRS) (y : LEDS) (z : IMGS) : Prop := CrM σ x ∧ LdM σ 31 32 x.2.2.2.2.2.2 y ∧ ImM σ z y
def G2P (x : CRS) (z : IMGS) : Prop := CrP x ∧ ImP x.2.2.2.2.2.2 z
def G2 (σ : AS) : Prop := ∃ x y z, G2C σ x y z ∧ G2M σ x y z ∧ G2P x z
abbrev DCr : List (Nat × Nat × Nat) := [(1, 0, 2), (1, 0, 3), (1, 0, 4), (1, 0, 6), (1, 0, 7), (1, 0, 12), (1, 0, 11), (1, 0, 8)]
abbrev DCm : List (Nat × Nat × Nat) := [(9, 0, 7), (9, 0, 9), (9, 0, 10), (9, 0, 11), (9, 0, 12), (9, 0, 13), (9, 0, 14)]
abbrev DLd : List (Nat × Nat × Nat) := [(4, 0, 0), (4, 0, 1), (4, 0, 2)]
abbrev DIm : List (Nat × Nat × Nat) := [(8, 0, 11), (1, 2, 3), (1, 2, 4), (1, 2, 6), (1, 2, 7), (1, 2, 12), (1, 2, 11)]
abbrev DIM : List (Nat × Nat × Nat) := [(9, 0, 36), (9, 0, 39), (9, 0, 40), (9, 0, 41), (9, 0, 38), (9, 0, 37), (9, 0, 42), (9, 0, 43)]
abbrev D2C : List (Nat × Nat × Nat) := DCr ++ (DLd ++ DIm)
abbrev D2M : List (Nat × Nat × Nat) := DCm ++ ([(9, 0, 31), (9, 0, 32)] ++ DIM)
theorem CrC.fr {S : List (Nat × Nat × Nat)} {σ σ1 : AS} {x : CRS} (h : CrC σ x) (f : FrL S σ σ1) (q : ∀ z ∈ DCr, z ∉ S) : CrC σ1 x := by
  unfold CrC at h ⊢
  rw [f.a 1 0 2 (q _ (by decide)), f.a 1 0 3 (q _ (by decide)), f.a 1 0 4 (q _ (by decide)), f.a 1 0 6 (q _ (by decide)), f.a 1 0 7 (q _ (by decide)), f.f 1 0 12 (q _ (by decide)), f.f 1 0 11 (q _ (by decide)), f.a 1 0 8 (q _ (by decide))]
  exact h
theorem CrM.fr {S : List (Nat × Nat × Nat)} {σ σ1 : AS} {x : CRS} (h : CrM σ x) (f : FrL S σ σ1) (q : ∀ z ∈ DCm, z ∉ S) : CrM σ1 x := by
  unfold CrM at h ⊢
  rw [f.a 9 0 7 (q _ (by decide)), f.a 9 0 9 (q _ (by decide)), f.a 9 0 10 (q _ (by decide)), f.a 9 0 11 (q _ (by decide)), f.f 9 0 12 (q _ (by decide)), f.f 9 0 13 (q _ (by decide)), f.a 9 0 14 (q _ (by decide))]
  exact h
theorem LdC.fr {S : List (Nat × Nat × Nat)} {σ σ1 : AS} {h : Nat} {y : LEDS} (H : LdC σ h y) (f : FrL S σ σ1) (q : ∀ z ∈ DLd, z ∉ S) : LdC σ1 h y := by
  unfold LdC at H ⊢
  rw [f.a 4 0 0 (q _ (by decide)), f.a 4 0 1 (q _ (by decide)), f.a 4 0 2 (q _ (by decide))]
  exact H
theorem LdM.fr {S : List (Nat × Nat × Nat)} {σ σ1 : AS} {k kf h : Nat} {y : LEDS} (H : LdM σ k kf h y) (f : FrL S σ σ1) (q1 : (9, 0, k) ∉ S) (q2 : (9, 0, kf) ∉ S) : LdM σ1 k kf h y := by
  unfold LdM at H ⊢
  rw [f.a 9 0 k q1, f.a 9 0 kf q2]
  exact H
theorem ImC.fr {S : List (Nat × Nat × Nat)} {σ σ1 : AS} {z : IMGS} (H : ImC σ z) (f : FrL S σ σ1) (q : ∀ z ∈ DIm, z ∉ S) : ImC σ1 z := by
  unfold ImC at H ⊢
  rw [f.f 8 0 11 (q _ (by decide)), f.a 1 2 3 (q _ (by decide)), f.a 1 2 4 (q _ (by decide)), f.a 1 2 6 (q _ (by decide)), f.a 1 2 7 (q _ (by decide)), f.f 1 2 12 (q _ (by decide)), f.f 1 2 11 (q _ (by decide))]
  exact H
theorem ImM.fr {S : List (Nat × Nat × Nat)} {σ σ1 : AS} {z : IMGS} {y : LEDS} (H : ImM σ z y) (f : FrL S σ σ1) (q : ∀ z ∈ DIM, z ∉ S) : ImM σ1 z y := by
  unfold ImM at H ⊢
  rw [f.f 9 0 36 (q _ (by decide)), f.a 9 0 39 (q _ (by decide)), f.a 9 0 40 (q _ (by decide)), f.a 9 0 41 (q _ (by decide)), f.f 9 0 38 (q _ (by decide)), f.f 9 0 37 (q _ (by decide))]
  obtain ⟨h0, h⟩ := H
  refine ⟨h0, fun e => ?_⟩
  obtain ⟨a1, a2, a3, a4, a5, a6, a7⟩ := h e
  exact ⟨a1, a2, a3, a4, a5, a6, a7.fr f (q _ (by decide)) (q _ (by decide))⟩
theorem inL {D1 D2 S : List (Nat × Nat × Nat)} (q : ∀ z ∈ D1 ++ D2, z ∉ S) : ∀ z ∈ D1, z ∉ S := fun z hz => q z (List.mem_append.mpr (Or.inl hz))
theorem inR {D1 D2 S : List (Nat × Nat × Nat)} (q : ∀ z ∈ D1 ++ D2, z ∉ S) : ∀ z ∈ D2, z ∉ S := fun z hz => q z (List.mem_append.mpr (Or.inr hz))
theorem G2C.fr {S : List (Nat × Nat × Nat)} {σ σ1 : AS} {x : CRS} {y : LEDS} {z : IMGS} (h : G2C σ x y z) (f : FrL S σ σ1) (q : ∀ z ∈ D2C, z ∉ S) : G2C σ1 x y z :=
  ⟨h.1.fr f (inL q), h.2.1.fr f (inL (inR q)), h.2.2.fr f (inR (inR q))⟩
theorem G2M.fr {S : List (Nat × Nat × Nat)} {σ σ1 : AS} {x : CRS} {y : LEDS} {z : IMGS} (h : G2M σ x y z) (f : FrL S σ σ1) (q : ∀ z ∈ D2M, z ∉ S) : G2M σ1 x y z :=
  ⟨h.1.fr f (inL q), h.2.1.fr f (inL (inR q) _ (by decide)) (inL (inR q) _ (by decide)), h.2.2.fr f (inR (inR q))⟩
theorem G2.fr {S : List (Nat × Nat × Nat)} {σ σ1 : AS} (h : G2 σ) (f : FrL S σ σ1) (q : ∀ z ∈ D2C ++ D2M, z ∉ S) : G2 σ1 := by
  obtain ⟨x, y, z, h1, h2, h3⟩ := h
  exact ⟨x, y, z, h1.fr f (inL q), h2.fr f (inR q), h3⟩
/-! the tape -/
def G3C (σ : AS) (len : Nat) (T : Nat → Nat) : Prop := σ.1 7 0 1 = nI len ∧ ∀ i, i < len → σ.2.1 7 0 0 i = nI (T i)
def G3M (σ : AS) (len : Nat) (T : Nat → Nat) : Prop := σ.1 9 0 16 = nI len ∧ ∀ i, i < len → σ.2.1 9 0 15 i = nI (T i)
def G3P (len : Nat) (T : Nat → Nat) : Prop := len ≤ 120 ∧ ∀ i, i < len → T i ≤ 255
def G3 (σ : AS) : Prop := ∃ len T, G3C σ len T ∧ G3M σ len T ∧ G3P len T
abbrev D3C : List (Nat × Nat × Nat) := [(7, 0, 1), (7, 0, 0)]
abbrev D3M : List (Nat × Nat × Nat) := [(9, 0, 16), (9, 0, 15)]
theorem G3C.fr {S : List (Nat × Nat × Nat)} {σ σ1 : AS} {len : Nat} {T : Nat → Nat} (h : G3C σ len T) (f : FrL S σ σ1) (q : ∀ z ∈ D3C, z ∉ S) : G3C σ1 len T := by
  unfold G3C at h ⊢
  rw [f.f 7 0 1 (q _ (by decide)), f.a 7 0 0 (q _ (by decide))]
  exact h
theorem G3M.fr {S : List (Nat × Nat × Nat)} {σ σ1 : AS} {len : Nat} {T : Nat → Nat} (h : G3M σ len T) (f : FrL S σ σ1) (q : ∀ z ∈ D3M, z ∉ S) : G3M σ1 len T := by
  unfold G3M at h ⊢
  rw [f.f 9 0 16 (q _ (by decide)), f.a 9 0 15 (q _ (by decide))]
  exact h
theorem G3.fr {S : List (Nat × Nat × Nat)} {σ σ1 : AS} (h : G3 σ) (f : FrL S σ σ1) (q : ∀ z ∈ D3C ++ D3M, z ∉ S) : G3 σ1 := by
  obtain ⟨x, y, h1, h2, h3⟩ := h
  exact ⟨x, y, h1.fr f (inL q), h2.fr f (inR q), h3⟩
/-! the law in force -/
def G4C (σ : AS) (ls : List LINE) : Prop := LC σ 0 (cLines 0 ls)
def G4M (σ : AS) (ls : List LINE) (len : Nat) (T : Nat → Nat) : Prop := (ls = [] → σ.1 9 0 18 = -1) ∧ (ls ≠ [] → σ.1 9 0 18 = nI len ∧ ∀ i, i < len → σ.2.1 9 0 17 i = nI (T i))
def G4P (ls : List LINE) (len : Nat) (T : Nat → Nat) : Prop := len ≤ 120 ∧ (∀ i, i < len → T i ≤ 255) ∧ (cLines 0 ls).length ≤ len + 1 ∧ (ls ≠ [] → pText (tnx T len) len (PE (tnx T len)) = .ok ls)
def G4 (σ : AS) : Prop := ∃ ls len T, G4C σ ls ∧ G4M σ ls len T ∧ G4P ls len T
abbrev D4C : List (Nat × Nat × Nat) := [(3, 0, 4), (3, 0, 0), (3, 0, 1)]
abbrev D4M : List (Nat × Nat × Nat) := [(9, 0, 18), (9, 0, 17)]
theorem G4.fr {S : List (Nat × Nat × Nat)} {σ σ1 : AS} (h : G4 σ) (f : FrL S σ σ1) (q : ∀ z ∈ D4C ++ D4M, z ∉ S) : G4 σ1 := by
  obtain ⟨ls, len, T, h1, h2, h3⟩ := h
  refine ⟨ls, len, T, ?_, ?_, h3⟩
  · unfold G4C LC at h1 ⊢
    rw [f.f 3 0 4 (q _ (by decide)), f.a 3 0 0 (q _ (by decide)), f.a 3 0 1 (q _ (by decide))]
    exact h1
  · unfold G4M at h2 ⊢
    rw [f.f 9 0 18 (q _ (by decide)), f.a 9 0 17 (q _ (by decide))]
    exact h2
/-- a law both sides have -/
def lawS (ls : List LINE) : (Nat → Int32) → Int32 := if ls = [] then dfl else StrL ls
theorem G4.strs {σ : AS} {ls : List LINE} {len : Nat} {T : Nat → Nat} (h1 : G4C σ ls) (h2 : G4M σ ls len T) (h3 : G4P ls len T) : StrC σ (lawS ls) ∧ StrM σ (lawS ls) := by
  obtain ⟨a, b, c, d⟩ := h3
  unfold lawS
  by_cases e : ls = []
  · rw [if_pos e]
    refine ⟨Or.inl ⟨?_, fun v => rfl⟩, Or.inl ⟨by rw [h2.1 e]; decide, fun v => rfl⟩⟩
    rw [h1.1, e]; exact (show ¬ (0 : Int32) < nI 0 by decide)
  · rw [if_neg e]
    have g := pText_good (pP_good 6).1 (d e)
    exact ⟨StrC_of h1 (by omega) g.1 e, StrM_of a (h2.2 e).1 b (h2.2 e).2 (d e)⟩
