/-! holdings and shelves -/
/-- bodies, kinds, how many acts ran, the trace -/
abbrev HLD : Type := Nat × (Nat → Nat) × Nat × (Nat → Int32)
/-- shelves: what lies there (0 nothing, 1 a holding, 2 + sort a row), the body, length, elements -/
abbrev SHV : Type := (Nat → Nat) × (Nat → Nat) × (Nat → Nat) × (Nat → Nat → Int64)
def HlC (σ : AS) (x : HLD) : Prop :=
  σ.1 2 0 2 = nI x.1 ∧ (∀ i, i < x.1 → σ.2.1 2 0 0 i = nI (x.2.1 i)) ∧ σ.1 2 0 3 = nI x.2.2.1 ∧ ∀ i, i < x.2.2.1 → i < 24 → σ.2.1 2 0 1 i = x.2.2.2 i
def HlM (σ : AS) (x : HLD) : Prop :=
  σ.1 9 0 44 = nI x.1 ∧ (∀ i, i < x.1 → σ.2.1 9 0 45 i = nI (x.2.1 i)) ∧ σ.1 9 0 47 = nI x.2.2.1 ∧ ∀ i, i < x.2.2.1 → i < 24 → σ.2.1 9 0 46 i = x.2.2.2 i
def ShC (σ : AS) (y : SHV) : Prop := ∀ d, d < 6 →
  σ.1 5 d 2 = nI (y.1 d) - 2 ∧ (y.1 d = 1 → σ.1 5 d 3 = nI (y.2.1 d)) ∧ σ.1 5 d 1 = nI (y.2.2.1 d) ∧ ∀ i, i < y.2.2.1 d → σ.2.2 5 d 0 i = y.2.2.2 d i
def shM (k b : Nat) : Int32 := if k = 0 then -1 else if k = 1 then nI b else nI (48 + k)
def ShM (σ : AS) (y : SHV) : Prop := ∀ d, d < 6 →
  σ.2.1 9 0 50 d = shM (y.1 d) (y.2.1 d) ∧ σ.2.1 9 0 51 d = nI (y.2.2.1 d) ∧ ∀ i, i < y.2.2.1 d → σ.2.2 9 0 52 (60 * d + i) = y.2.2.2 d i
def G5C (σ : AS) (x : HLD) (y : SHV) : Prop := HlC σ x ∧ ShC σ y
def G5M (σ : AS) (x : HLD) (y : SHV) : Prop := HlM σ x ∧ ShM σ y
def HlP (x : HLD) : Prop := x.1 ≤ 50 ∧ (∀ i, i < x.1 → x.2.1 i < 8) ∧ x.2.2.1 ≤ 1000000
def ShP (b : Nat) (y : SHV) : Prop := ∀ d, d < 6 → y.1 d ≤ 6 ∧ (y.1 d = 1 → y.2.1 d < b) ∧ (y.1 d ≤ 1 → y.2.2.1 d = 0) ∧ y.2.2.1 d ≤ 60
def G5P (x : HLD) (y : SHV) : Prop := HlP x ∧ ShP x.1 y
def G5 (σ : AS) : Prop := ∃ x y, G5C σ x y ∧ G5M σ x y ∧ G5P x y
abbrev DHl : List (Nat × Nat × Nat) := [(2, 0, 2), (2, 0, 0), (2, 0, 3), (2, 0, 1)]
abbrev DHm : List (Nat × Nat × Nat) := [(9, 0, 44), (9, 0, 45), (9, 0, 47), (9, 0, 46)]
abbrev DSh : List (Nat × Nat × Nat) := [(5, 0, 2), (5, 0, 3), (5, 0, 1), (5, 0, 0), (5, 1, 2), (5, 1, 3), (5, 1, 1), (5, 1, 0), (5, 2, 2), (5, 2, 3), (5, 2, 1), (5, 2, 0), (5, 3, 2), (5, 3, 3), (5, 3, 1), (5, 3, 0), (5, 4, 2), (5, 4, 3), (5, 4, 1), (5, 4, 0), (5, 5, 2), (5, 5, 3), (5, 5, 1), (5, 5, 0)]
abbrev DSm : List (Nat × Nat × Nat) := [(9, 0, 50), (9, 0, 51), (9, 0, 52)]
theorem HlC.fr {S : List (Nat × Nat × Nat)} {σ σ1 : AS} {x : HLD} (h : HlC σ x) (f : FrL S σ σ1) (q : ∀ z ∈ DHl, z ∉ S) : HlC σ1 x := by
  unfold HlC at h ⊢
  rw [f.f 2 0 2 (q _ (by decide)), f.a 2 0 0 (q _ (by decide)), f.f 2 0 3 (q _ (by decide)), f.a 2 0 1 (q _ (by decide))]
  exact h
theorem HlM.fr {S : List (Nat × Nat × Nat)} {σ σ1 : AS} {x : HLD} (h : HlM σ x) (f : FrL S σ σ1) (q : ∀ z ∈ DHm, z ∉ S) : HlM σ1 x := by
  unfold HlM at h ⊢
  rw [f.f 9 0 44 (q _ (by decide)), f.a 9 0 45 (q _ (by decide)), f.f 9 0 47 (q _ (by decide)), f.a 9 0 46 (q _ (by decide))]
  exact h
theorem DSh_in : ∀ d : Nat, d < 6 → ((5, d, 2) : Nat × Nat × Nat) ∈ DSh ∧ ((5, d, 3) : Nat × Nat × Nat) ∈ DSh ∧ ((5, d, 1) : Nat × Nat × Nat) ∈ DSh ∧ ((5, d, 0) : Nat × Nat × Nat) ∈ DSh
  | 0, _ => by decide
  | 1, _ => by decide
  | 2, _ => by decide
  | 3, _ => by decide
  | 4, _ => by decide
  | 5, _ => by decide
  | d + 6, h => absurd h (by omega)
theorem ShC.fr {S : List (Nat × Nat × Nat)} {σ σ1 : AS} {y : SHV} (h : ShC σ y) (f : FrL S σ σ1) (q : ∀ z ∈ DSh, z ∉ S) : ShC σ1 y := by
  intro d hd
  obtain ⟨a1, a2, a3, a4⟩ := DSh_in d hd
  rw [f.f 5 d 2 (q _ a1), f.f 5 d 3 (q _ a2), f.f 5 d 1 (q _ a3), f.l 5 d 0 (q _ a4)]
  exact h d hd
theorem ShM.fr {S : List (Nat × Nat × Nat)} {σ σ1 : AS} {y : SHV} (h : ShM σ y) (f : FrL S σ σ1) (q : ∀ z ∈ DSm, z ∉ S) : ShM σ1 y := by
  unfold ShM at h ⊢
  rw [f.a 9 0 50 (q _ (by decide)), f.a 9 0 51 (q _ (by decide)), f.l 9 0 52 (q _ (by decide))]
  exact h
abbrev D5C : List (Nat × Nat × Nat) := DHl ++ DSh
abbrev D5M : List (Nat × Nat × Nat) := DHm ++ DSm
theorem G5C.fr {S : List (Nat × Nat × Nat)} {σ σ1 : AS} {x : HLD} {y : SHV} (h : G5C σ x y) (f : FrL S σ σ1) (q : ∀ z ∈ D5C, z ∉ S) : G5C σ1 x y := ⟨h.1.fr f (inL q), h.2.fr f (inR q)⟩
theorem G5M.fr {S : List (Nat × Nat × Nat)} {σ σ1 : AS} {x : HLD} {y : SHV} (h : G5M σ x y) (f : FrL S σ σ1) (q : ∀ z ∈ D5M, z ∉ S) : G5M σ1 x y := ⟨h.1.fr f (inL q), h.2.fr f (inR q)⟩
theorem G5.fr {S : List (Nat × Nat × Nat)} {σ σ1 : AS} (h : G5 σ) (f : FrL S σ σ1) (q : ∀ z ∈ D5C ++ D5M, z ∉ S) : G5 σ1 := by
  obtain ⟨x, y, h1, h2, h3⟩ := h
  exact ⟨x, y, h1.fr f (inL q), h2.fr f (inR q), h3⟩
def Inv (σ : AS) : Prop := G1 σ ∧ G2 σ ∧ G3 σ ∧ G4 σ ∧ G5 σ
abbrev D1 := D1C ++ D1M
abbrev D2 := D2C ++ D2M
abbrev D3 := D3C ++ D3M
abbrev D4 := D4C ++ D4M
abbrev D5 := D5C ++ D5M
/-- a call's two sides -/
def Both (x y : AS → Option (Int32 × AS)) : Prop := ∀ σ, Inv σ → wpO (x σ) (fun r σ1 => wpO (y σ1) (fun r' σ2 => r = r' ∧ Inv σ2))
theorem Inv.fr0 {S : List (Nat × Nat × Nat)} {σ σ1 : AS} (h : Inv σ) (f : FrL S σ σ1) (q : ∀ z ∈ D1 ++ (D2 ++ (D3 ++ (D4 ++ D5))), z ∉ S) : Inv σ1 :=
  ⟨h.1.fr f (inL q), h.2.1.fr f (inL (inR q)), h.2.2.1.fr f (inL (inR (inR q))), h.2.2.2.1.fr f (inL (inR (inR (inR q)))), h.2.2.2.2.fr f (inR (inR (inR (inR q))))⟩
/-- places of no group: a call that writes only these keeps all -/
theorem Inv.of1 {S : List (Nat × Nat × Nat)} {σ σ1 : AS} (h : Inv σ) (f : FrL S σ σ1) (g : G1 σ1) (q : ∀ z ∈ D2 ++ (D3 ++ (D4 ++ D5)), z ∉ S) : Inv σ1 :=
  ⟨g, h.2.1.fr f (inL q), h.2.2.1.fr f (inL (inR q)), h.2.2.2.1.fr f (inL (inR (inR q))), h.2.2.2.2.fr f (inR (inR (inR q)))⟩
theorem Inv.of2 {S : List (Nat × Nat × Nat)} {σ σ1 : AS} (h : Inv σ) (f : FrL S σ σ1) (g : G2 σ1) (q : ∀ z ∈ D1 ++ (D3 ++ (D4 ++ D5)), z ∉ S) : Inv σ1 :=
  ⟨h.1.fr f (inL q), g, h.2.2.1.fr f (inL (inR q)), h.2.2.2.1.fr f (inL (inR (inR q))), h.2.2.2.2.fr f (inR (inR (inR q)))⟩
theorem Inv.of3 {S : List (Nat × Nat × Nat)} {σ σ1 : AS} (h : Inv σ) (f : FrL S σ σ1) (g : G3 σ1) (q : ∀ z ∈ D1 ++ (D2 ++ (D4 ++ D5)), z ∉ S) : Inv σ1 :=
  ⟨h.1.fr f (inL q), h.2.1.fr f (inL (inR q)), g, h.2.2.2.1.fr f (inL (inR (inR q))), h.2.2.2.2.fr f (inR (inR (inR q)))⟩
theorem Inv.of34 {S : List (Nat × Nat × Nat)} {σ σ1 : AS} (h : Inv σ) (f : FrL S σ σ1) (g : G3 σ1) (g2 : G4 σ1) (q : ∀ z ∈ D1 ++ (D2 ++ D5), z ∉ S) : Inv σ1 :=
  ⟨h.1.fr f (inL q), h.2.1.fr f (inL (inR q)), g, g2, h.2.2.2.2.fr f (inR (inR q))⟩
theorem Inv.of5 {S : List (Nat × Nat × Nat)} {σ σ1 : AS} (h : Inv σ) (f : FrL S σ σ1) (g : G5 σ1) (q : ∀ z ∈ D1 ++ (D2 ++ (D3 ++ D4)), z ∉ S) : Inv σ1 :=
  ⟨h.1.fr f (inL q), h.2.1.fr f (inL (inR q)), h.2.2.1.fr f (inL (inR (inR q))), h.2.2.2.1.fr f (inR (inR (inR q))), g⟩
