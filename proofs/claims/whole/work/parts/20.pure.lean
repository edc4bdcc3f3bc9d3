/-! Pure from here on. Weakest preconditions, forwards -/
theorem wpO_some {α : Type} {r : α} {σ : AS} {Q : α → AS → Prop} : wpO (some (r, σ)) Q ↔ Q r σ := ⟨wp_some, fun h => ⟨r, σ, rfl, h⟩⟩
theorem wpO_bnd {α β : Type} {x : Option (α × AS)} {f : α → AS → Option (β × AS)} {Q : β → AS → Prop} : wpO (bnd x f) Q ↔ wpO x (fun r σ => wpO (f r σ) Q) := by
  refine ⟨wp_bnd, fun h => ?_⟩
  obtain ⟨r, σ, rfl, h2⟩ := h
  exact h2
theorem wpO_mono {α : Type} {x : Option (α × AS)} {P Q : α → AS → Prop} (h : wpO x P) (k : ∀ r σ, P r σ → Q r σ) : wpO x Q := by
  obtain ⟨r, σ, h1, h2⟩ := h
  exact ⟨r, σ, h1, k r σ h2⟩
theorem wpO_t {α : Type} {c : Prop} [Decidable c] {x y : Option (α × AS)} {Q : α → AS → Prop} (hc : c) (h : wpO x Q) : wpO (if c then x else y) Q := by rw [if_pos hc]; exact h
theorem wpO_f {α : Type} {c : Prop} [Decidable c] {x y : Option (α × AS)} {Q : α → AS → Prop} (hc : ¬ c) (h : wpO y Q) : wpO (if c then x else y) Q := by rw [if_neg hc]; exact h
theorem wpO_if {α : Type} {c : Prop} [Decidable c] {x y : Option (α × AS)} {Q : α → AS → Prop} (h1 : c → wpO x Q) (h2 : ¬ c → wpO y Q) : wpO (if c then x else y) Q := by
  by_cases hc : c
  · exact wpO_t hc (h1 hc)
  · exact wpO_f hc (h2 hc)
theorem wpO_lt {α β : Type} {x : β} {f : β → Option (α × AS)} {Q : α → AS → Prop} (h : wpO (f x) Q) : wpO (lt x f) Q := h
theorem wpO_b {α β : Type} {x : Option (α × AS)} {f : α → AS → Option (β × AS)} {Q : β → AS → Prop} {P : α → AS → Prop} (h : wpO x P) (k : ∀ r σ, P r σ → wpO (f r σ) Q) : wpO (bnd x f) Q := wpO_bnd.mpr (wpO_mono h k)
theorem wpO_e {α β : Type} {x : Option (α × AS)} {f : α → AS → Option (β × AS)} {Q : β → AS → Prop} {r : α} {σ : AS} (h : x = some (r, σ)) (k : wpO (f r σ) Q) : wpO (bnd x f) Q := by rw [h]; exact k
theorem bnd_some {α β : Type} {r : α} {σ : AS} {f : α → AS → Option (β × AS)} : bnd (some (r, σ)) f = f r σ := rfl
/-! frames: all but the places of S as before -/
def FrL (S : List (Nat × Nat × Nat)) (σ σ1 : AS) : Prop := ∀ c o k, (c, o, k) ∉ S → σ1.1 c o k = σ.1 c o k ∧ σ1.2.1 c o k = σ.2.1 c o k ∧ σ1.2.2 c o k = σ.2.2 c o k
theorem FrL.rf {S : List (Nat × Nat × Nat)} {σ : AS} : FrL S σ σ := fun _ _ _ _ => ⟨rfl, rfl, rfl⟩
theorem FrL.tr {S : List (Nat × Nat × Nat)} {σ σ1 σ2 : AS} (h1 : FrL S σ σ1) (h2 : FrL S σ1 σ2) : FrL S σ σ2 := fun c o k h =>
  ⟨(h2 c o k h).1.trans (h1 c o k h).1, (h2 c o k h).2.1.trans (h1 c o k h).2.1, (h2 c o k h).2.2.trans (h1 c o k h).2.2⟩
theorem FrL.mono {S S' : List (Nat × Nat × Nat)} {σ σ1 : AS} (h1 : FrL S σ σ1) (h : ∀ q ∈ S, q ∈ S') : FrL S' σ σ1 := fun c o k hq => h1 c o k (fun z => hq (h _ z))
theorem FrL.f {S : List (Nat × Nat × Nat)} {σ σ1 : AS} (h : FrL S σ σ1) (c o k : Nat) (hq : (c, o, k) ∉ S) : σ1.1 c o k = σ.1 c o k := (h c o k hq).1
theorem FrL.a {S : List (Nat × Nat × Nat)} {σ σ1 : AS} (h : FrL S σ σ1) (c o k : Nat) (hq : (c, o, k) ∉ S) : σ1.2.1 c o k = σ.2.1 c o k := (h c o k hq).2.1
theorem FrL.l {S : List (Nat × Nat × Nat)} {σ σ1 : AS} (h : FrL S σ σ1) (c o k : Nat) (hq : (c, o, k) ∉ S) : σ1.2.2 c o k = σ.2.2 c o k := (h c o k hq).2.2
theorem FrL_sF {S : List (Nat × Nat × Nat)} {σ : AS} {c o k : Nat} {v : Int32} (hq : (c, o, k) ∈ S) : FrL S σ (sF σ c o k v) := fun c' o' k' h => by
  have hne : ¬ (c' = c ∧ o' = o ∧ k' = k) := fun z => h (by rw [z.1, z.2.1, z.2.2]; exact hq)
  exact ⟨by simp [sF, hne], rfl, rfl⟩
theorem FrL_sA {S : List (Nat × Nat × Nat)} {σ : AS} {c o k : Nat} {f : Nat → Int32} (hq : (c, o, k) ∈ S) : FrL S σ (sAf σ c o k f) := fun c' o' k' h => by
  have hne : ¬ (c' = c ∧ o' = o ∧ k' = k) := fun z => h (by rw [z.1, z.2.1, z.2.2]; exact hq)
  exact ⟨rfl, by simp [sAf, hne], rfl⟩
theorem FrL_sL {S : List (Nat × Nat × Nat)} {σ : AS} {c o k : Nat} {f : Nat → Int64} (hq : (c, o, k) ∈ S) : FrL S σ (sLf σ c o k f) := fun c' o' k' h => by
  have hne : ¬ (c' = c ∧ o' = o ∧ k' = k) := fun z => h (by rw [z.1, z.2.1, z.2.2]; exact hq)
  exact ⟨rfl, rfl, by simp [sLf, hne]⟩
theorem sF_f {σ : AS} {c o k c' o' k' : Nat} {v : Int32} : (sF σ c o k v).1 c' o' k' = if c' = c ∧ o' = o ∧ k' = k then v else σ.1 c' o' k' := rfl
theorem sF_a {σ : AS} {c o k : Nat} {v : Int32} : (sF σ c o k v).2 = σ.2 := rfl
theorem sAf_f {σ : AS} {c o k : Nat} {f : Nat → Int32} : (sAf σ c o k f).1 = σ.1 := rfl
theorem sAf_a {σ : AS} {c o k c' o' k' : Nat} {f : Nat → Int32} : (sAf σ c o k f).2.1 c' o' k' = if c' = c ∧ o' = o ∧ k' = k then f else σ.2.1 c' o' k' := rfl
theorem sAf_l {σ : AS} {c o k : Nat} {f : Nat → Int32} : (sAf σ c o k f).2.2 = σ.2.2 := rfl
theorem sLf_f {σ : AS} {c o k : Nat} {f : Nat → Int64} : (sLf σ c o k f).1 = σ.1 := rfl
theorem sLf_a {σ : AS} {c o k : Nat} {f : Nat → Int64} : (sLf σ c o k f).2.1 = σ.2.1 := rfl
theorem sLf_l {σ : AS} {c o k c' o' k' : Nat} {f : Nat → Int64} : (sLf σ c o k f).2.2 c' o' k' = if c' = c ∧ o' = o ∧ k' = k then f else σ.2.2 c' o' k' := rfl
theorem upd_at {f : Nat → Int32} {k j : Nat} {x : Int32} : upd f k x j = if j = k then x else f j := rfl
theorem updL_at {f : Nat → Int64} {k j : Nat} {x : Int64} : vp_updL f k x j = if j = k then x else f j := rfl
theorem cpy_at {α : Type} {f g : Nat → α} {sp dp n k : Nat} : va_cpy f g sp dp n k = if dp ≤ k ∧ k < dp + n then f (sp + (k - dp)) else g k := rfl
/-! whole numbers -/
theorem li0 : (0 : Int32) = nI 0 := rfl
theorem li1 : (1 : Int32) = nI 1 := rfl
theorem li2 : (2 : Int32) = nI 2 := rfl
theorem li3 : (3 : Int32) = nI 3 := rfl
theorem li4 : (4 : Int32) = nI 4 := rfl
theorem li5 : (5 : Int32) = nI 5 := rfl
theorem li6 : (6 : Int32) = nI 6 := rfl
theorem li7 : (7 : Int32) = nI 7 := rfl
theorem li8 : (8 : Int32) = nI 8 := rfl
theorem li9 : (9 : Int32) = nI 9 := rfl
theorem li10 : (10 : Int32) = nI 10 := rfl
theorem li14 : (14 : Int32) = nI 14 := rfl
theorem li16 : (16 : Int32) = nI 16 := rfl
theorem li20 : (20 : Int32) = nI 20 := rfl
theorem li23 : (23 : Int32) = nI 23 := rfl
theorem li24 : (24 : Int32) = nI 24 := rfl
theorem li30 : (30 : Int32) = nI 30 := rfl
theorem li32 : (32 : Int32) = nI 32 := rfl
theorem li37 : (37 : Int32) = nI 37 := rfl
theorem li38 : (38 : Int32) = nI 38 := rfl
theorem li40 : (40 : Int32) = nI 40 := rfl
theorem li41 : (41 : Int32) = nI 41 := rfl
theorem li42 : (42 : Int32) = nI 42 := rfl
theorem li43 : (43 : Int32) = nI 43 := rfl
theorem li45 : (45 : Int32) = nI 45 := rfl
theorem li47 : (47 : Int32) = nI 47 := rfl
theorem li50 : (50 : Int32) = nI 50 := rfl
theorem li53 : (53 : Int32) = nI 53 := rfl
theorem li57 : (57 : Int32) = nI 57 := rfl
theorem li58 : (58 : Int32) = nI 58 := rfl
theorem li59 : (59 : Int32) = nI 59 := rfl
theorem li60 : (60 : Int32) = nI 60 := rfl
theorem li61 : (61 : Int32) = nI 61 := rfl
theorem li62 : (62 : Int32) = nI 62 := rfl
theorem li63 : (63 : Int32) = nI 63 := rfl
theorem li70 : (70 : Int32) = nI 70 := rfl
theorem li80 : (80 : Int32) = nI 80 := rfl
theorem li81 : (81 : Int32) = nI 81 := rfl
theorem li99 : (99 : Int32) = nI 99 := rfl
theorem li100 : (100 : Int32) = nI 100 := rfl
theorem li110 : (110 : Int32) = nI 110 := rfl
theorem li120 : (120 : Int32) = nI 120 := rfl
theorem li123 : (123 : Int32) = nI 123 := rfl
theorem li124 : (124 : Int32) = nI 124 := rfl
theorem li126 : (126 : Int32) = nI 126 := rfl
theorem li128 : (128 : Int32) = nI 128 := rfl
theorem li168 : (168 : Int32) = nI 168 := rfl
theorem li192 : (192 : Int32) = nI 192 := rfl
theorem li255 : (255 : Int32) = nI 255 := rfl
theorem li336 : (336 : Int32) = nI 336 := rfl
theorem li360 : (360 : Int32) = nI 360 := rfl
theorem li400 : (400 : Int32) = nI 400 := rfl
theorem li999 : (999 : Int32) = nI 999 := rfl
theorem fb_rng' (x : Int32) : -2147483648 ≤ x.toInt ∧ x.toInt < 2147483648 := ⟨Int32.le_toInt x, Int32.toInt_lt x⟩
theorem inb_iff {a : Int32} {n : Nat} (hn : n < 2 ^ 31) : inb a n ↔ ¬ a < 0 ∧ a < nI n := by
  constructor
  · intro h
    obtain ⟨h1, h2⟩ := am_nn h.1
    refine ⟨h1, ?_⟩
    rw [Int32.lt_iff_toInt_lt, nI_toInt hn, h2]
    exact Int.ofNat_lt.mpr h.2
  · intro h
    have h0 : 0 ≤ a := Int32.not_lt.mp h.1
    obtain ⟨h1, h2⟩ := am_nn h0
    refine ⟨h0, ?_⟩
    have h3 := h.2
    rw [Int32.lt_iff_toInt_lt, nI_toInt hn, h2] at h3
    exact Int.ofNat_lt.mp h3
theorem inb_nI {p n : Nat} (h : p < n) (hn : n ≤ 2 ^ 31) : inb (nI p) n := ⟨nI_pos' (by omega), by rw [nI_clamp (by omega)]; exact h⟩
theorem inb_ex {a : Int32} {n : Nat} (h : inb a n) : ∃ p, p < n ∧ a = nI p := by
  obtain ⟨h1, h2⟩ := am_nn h.1
  refine ⟨a.toNatClampNeg, h.2, ?_⟩
  have hb : a.toNatClampNeg < 2 ^ 31 := by have := fb_rng' a; omega
  exact Int32.toInt_inj.mp (by rw [nI_toInt hb, h2])
theorem nI_inj0 {a b : Nat} (ha : a < 2 ^ 31) (hb : b < 2 ^ 31) : (nI a = nI b) = (a = b) := propext (nI_eq ha hb)
theorem nI_eq0 {a : Nat} (ha : a < 2 ^ 31) : (nI a = 0) ↔ a = 0 := by rw [li0]; exact nI_eq ha (by omega)
theorem inb_pred {s m : Nat} (hs : s < 2 ^ 30) (hm : m < 2 ^ 30) : inb (nI s - 1) m ↔ 0 < s ∧ s - 1 < m := by
  constructor
  · intro h
    by_cases h0 : s = 0
    · subst h0
      exact absurd h.1 (by decide)
    · have e : nI s - 1 = nI (s - 1) := by rw [li1, pk_sub (by omega)]
      rw [e] at h
      have h2 := h.2
      rw [nI_clamp (by omega)] at h2
      exact ⟨by omega, h2⟩
  · intro ⟨h1, h2⟩
    have e : nI s - 1 = nI (s - 1) := by rw [li1, pk_sub (by omega)]
    rw [e]
    exact inb_nI h2 (by omega)
theorem inb_iffN {p n : Nat} (h : p < 2 ^ 31) : inb (nI p) n ↔ p < n := ⟨fun z => by have := z.2; rwa [nI_clamp h] at this, fun z => ⟨nI_pos' h, by rw [nI_clamp h]; exact z⟩⟩
theorem one_ne : ¬ (1 : Int32) = 0 := by decide
