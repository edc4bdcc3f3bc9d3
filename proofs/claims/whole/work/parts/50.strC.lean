section SC5
variable {T : Nat → Nat} {len : Nat}
theorem pLine_good {P : PRS} (h : Good len P) {q : Nat} {r : Nat × LINE} (e : pLine (tnx T len) P q = .ok r) : GLine r.2 ∧ r.1 ≤ len := by
  unfold pLine at e
  cases e1 : P q with
  | error p => rw [e1] at e; cases e
  | ok r1 =>
    rw [e1] at e
    obtain ⟨a1, a2, a3, a4⟩ := h _ _ e1
    dsimp only at e
    by_cases c : tnx T len r1.1 = 63
    · rw [if_pos c] at e
      cases e2 : P (r1.1 + 1) with
      | error p => rw [e2] at e; cases e
      | ok r2 =>
        rw [e2] at e
        obtain ⟨b1, b2, b3, b4⟩ := h _ _ e2
        cases e
        exact ⟨⟨b4, fun t ht => by cases ht; exact a4⟩, b2⟩
    · rw [if_neg c] at e
      cases e
      exact ⟨⟨a4, fun t ht => by cases ht⟩, a2⟩
theorem pRest_good {P : PRS} (h : Good len P) : ∀ (n q : Nat) (ls ls' : List LINE), pRest (tnx T len) len P n q ls = .ok ls' → (∀ l ∈ ls, GLine l) → ls ≠ [] → (∀ l ∈ ls', GLine l) ∧ ls' ≠ []
  | 0, q, ls, ls', e, g, hn => by
    unfold pRest at e
    split at e
    · cases e
    · cases e; exact ⟨g, hn⟩
  | n + 1, q, ls, ls', e, g, hn => by
    unfold pRest at e
    by_cases c : tnx T len q = 59
    · rw [if_pos c] at e
      cases e1 : pLine (tnx T len) P (q + 1) with
      | error p => rw [e1] at e; cases e
      | ok r =>
        rw [e1] at e
        refine pRest_good h n r.1 _ ls' e (fun l hl => ?_) (by simp)
        rcases List.mem_append.mp hl with z | z
        · exact g l z
        · rw [List.mem_singleton.mp z]; exact (pLine_good h e1).1
    · rw [if_neg c] at e
      split at e
      · cases e
      · cases e; exact ⟨g, hn⟩
theorem pText_good {P : PRS} (h : Good len P) {ls : List LINE} (e : pText (tnx T len) len P = .ok ls) : (∀ l ∈ ls, GLine l) ∧ ls ≠ [] := by
  unfold pText at e
  cases e1 : pLine (tnx T len) P 0 with
  | error p => rw [e1] at e; cases e
  | ok r =>
    rw [e1] at e
    refine pRest_good h 120 r.1 _ ls e (fun l hl => ?_) (by simp)
    rw [List.mem_singleton.mp hl]; exact (pLine_good h e1).1
end SC5
def StrL (ls : List LINE) (v : Nat → Int32) : Int32 := clp (wk v ls)
theorem cLines_pos {ls : List LINE} (h : ls ≠ []) : 0 < (cLines 0 ls).length := by
  cases ls with
  | nil => exact absurd rfl h
  | cons l r =>
    show 0 < (cLine 0 l ++ _).length
    obtain ⟨t, a⟩ := l
    rw [List.length_append, cLine_len]
    omega
theorem StrC_of {σ : AS} {ls : List LINE} (h : LC σ 0 (cLines 0 ls)) (hl : (cLines 0 ls).length ≤ 122) (hg : ∀ l ∈ ls, GLine l) (hn : ls ≠ []) : StrC σ (StrL ls) := by
  have hp := cLines_pos hn
  refine Or.inr ⟨by rw [h.1, li0]; exact nI_lt hp (by omega), fun σ1 v e1 e2 e3 e4 => ?_⟩
  refine work_is (e := v) ⟨e1.trans h.1, fun i x hx => ?_⟩ hl e4 hg
  rw [e2, e3]; exact h.2 i x hx
/-! coughs among the steps -/
def smC (C : CODE) : Prop := ∀ x ∈ C, x.1 < 1000 ∧ x.2 < 100000
theorem okS_sm {x : Nat × Nat} (h : okS x) : x.1 < 1000 ∧ x.2 < 100000 := by
  obtain ⟨a, b⟩ := h
  refine ⟨?_, by omega⟩
  rcases a with c | c | c | ⟨c, -⟩ | c
  · omega
  · omega
  · omega
  · omega
  · have := tOf_c c; omega
theorem cLine_sm {b : Nat} {l : LINE} (h : GLine l) (hb : b + (cLine b l).length ≤ 200) : smC (cLine b l) := by
  obtain ⟨t, a⟩ := l
  rw [cLine_len] at hb
  intro x hx
  cases t with
  | none =>
    have hx : x ∈ a ++ [(59, 0)] := hx
    rcases List.mem_append.mp hx with z | z
    · exact okS_sm (h.1.2.1 x z)
    · rw [List.mem_singleton.mp z]; exact ⟨by show 59 < 1000; omega, by show 0 < 100000; omega⟩
  | some t =>
    have hb : b + (t.length + 1 + a.length + 1) ≤ 200 := hb
    have hx : x ∈ (t ++ (63, b + (t ++ [(63, 0)] ++ a ++ [(59, 0)]).length) :: a) ++ [(59, 0)] := hx
    rcases List.mem_append.mp hx with z | z
    · rcases List.mem_append.mp z with z | z
      · exact okS_sm ((h.2 t rfl).2.1 x z)
      · rcases List.mem_cons.mp z with z | z
        · rw [z]
          refine ⟨by show 63 < 1000; omega, ?_⟩
          show b + (t ++ [(63, 0)] ++ a ++ [(59, 0)]).length < 100000
          rw [List.length_append, List.length_append, List.length_append]
          show b + (t.length + 1 + a.length + 1) < 100000
          omega
        · exact okS_sm (h.1.2.1 x z)
    · rw [List.mem_singleton.mp z]; exact ⟨by show 59 < 1000; omega, by show 0 < 100000; omega⟩
theorem cLines_sm : ∀ (ls : List LINE) (b : Nat), (∀ l ∈ ls, GLine l) → b + (cLines b ls).length ≤ 200 → smC (cLines b ls)
  | [], b, _, _ => fun x hx => by cases hx
  | l :: r, b, h, hb => by
    have hb : b + (cLine b l ++ cLines (b + (cLine b l).length) r).length ≤ 200 := hb
    rw [List.length_append] at hb
    intro x hx
    have hx : x ∈ cLine b l ++ cLines (b + (cLine b l).length) r := hx
    rcases List.mem_append.mp hx with z | z
    · exact cLine_sm (h l List.mem_cons_self) (by omega) x z
    · exact cLines_sm r _ (fun l hl => h l (List.mem_cons_of_mem _ hl)) (by omega) x z
theorem hears_is {σ : AS} {o : Nat} : ∀ (B A : CODE) (f : Nat), LC σ o (A ++ B) → (A ++ B).length ≤ 122 → smC B → B.length < f → ((∃ x ∈ B, x = (110, 7)) ∧ g_X3_hearsCoughs_2 o f (nI A.length) σ = some (1, σ)) ∨ ((∀ x ∈ B, x ≠ (110, 7)) ∧ g_X3_hearsCoughs_2 o f (nI A.length) σ = some (0, σ))
  | B, A, 0, _, _, _, h => absurd h (Nat.not_lt_zero _)
  | [], A, f + 1, h, hl, hs, hf => by
    refine Or.inr ⟨fun x hx => (by cases hx), ?_⟩
    unfold g_X3_hearsCoughs_2
    have h1 := h.1
    rw [List.append_nil] at h1 hl
    rw [if_neg]
    show ¬ nI A.length < σ.1 3 o 4
    rw [h1]; exact nI_nlt (Nat.le_refl _) (by omega)
  | x :: B, A, f + 1, h, hl, hs, hf => by
    have hl2 : (A ++ x :: B).length = A.length + (B.length + 1) := by rw [List.length_append, List.length_cons]
    have hx : (A ++ x :: B)[A.length]? = some x := by rw [List.getElem?_append, if_neg (by omega), Nat.sub_self]; rfl
    obtain ⟨h0, h1⟩ := h.2 _ _ hx
    obtain ⟨s1, s2⟩ := hs x List.mem_cons_self
    have hf : B.length + 1 < f + 1 := hf
    have ea : A ++ x :: B = (A ++ [x]) ++ B := by rw [List.append_assoc]; rfl
    have ih := hears_is B (A ++ [x]) f (ea ▸ h) (ea ▸ hl) (fun y hy => hs y (List.mem_cons_of_mem _ hy)) (by omega)
    have e2 : (A ++ [x]).length = A.length + 1 := by rw [List.length_append]; rfl
    rw [e2] at ih
    unfold g_X3_hearsCoughs_2
    rw [if_pos (show nI A.length < σ.1 3 o 4 by rw [h.1]; exact nI_lt (by omega) (by omega)), if_pos (inb_nI (by omega) (by omega)), gA_nI (by omega), gA_nI (by omega), h0, h1, nI_1]
    have k1 : (nI x.1 = 110) ↔ x.1 = 110 := by rw [li110]; exact nI_eq (by omega) (by omega)
    have k2 : (nI x.2 = 7) ↔ x.2 = 7 := by rw [li7]; exact nI_eq (by omega) (by omega)
    by_cases c1 : x.1 = 110
    · rw [if_pos (k1.mpr c1)]
      by_cases c2 : x.2 = 7
      · rw [if_pos (k2.mpr c2)]
        exact Or.inl ⟨⟨x, List.mem_cons_self, Prod.ext c1 c2⟩, rfl⟩
      · rw [if_neg (fun z => c2 (k2.mp z))]
        rcases ih with ⟨⟨y, y1, y2⟩, y3⟩ | ⟨y1, y3⟩
        · exact Or.inl ⟨⟨y, List.mem_cons_of_mem _ y1, y2⟩, y3⟩
        · refine Or.inr ⟨fun y hy => ?_, y3⟩
          rcases List.mem_cons.mp hy with z | z
          · intro w; exact c2 (by rw [← z, w])
          · exact y1 y z
    · rw [if_neg (fun z => c1 (k1.mp z))]
      rcases ih with ⟨⟨y, y1, y2⟩, y3⟩ | ⟨y1, y3⟩
      · exact Or.inl ⟨⟨y, List.mem_cons_of_mem _ y1, y2⟩, y3⟩
      · refine Or.inr ⟨fun y hy => ?_, y3⟩
        rcases List.mem_cons.mp hy with z | z
        · intro w; exact c1 (by rw [← z, w])
        · exact y1 y z
/-- without coughs a law doesn't hear them -/
theorem ex_nc {e e' : Nat → Int32} (hee : ∀ k, k ≠ 7 → e k = e' k) : ∀ (c : CODE) (st : List Int32), (∀ x ∈ c, x ≠ (110, 7)) → ex e c st = ex e' c st
  | [], st, _ => rfl
  | x :: c, st, h => by
    have e1 : exo e x.1 x.2 st = exo e' x.1 x.2 st := by
      unfold exo
      by_cases c1 : x.1 = 110
      · have : x.2 ≠ 7 := fun z => h x List.mem_cons_self (Prod.ext c1 z)
        rw [hee _ this]
      · simp only [if_neg c1]
    show ex e c (exo e x.1 x.2 st) = ex e' c (exo e' x.1 x.2 st)
    rw [e1]
    exact ex_nc hee c _ (fun y hy => h y (List.mem_cons_of_mem _ hy))
theorem wk_nc {e e' : Nat → Int32} (hee : ∀ k, k ≠ 7 → e k = e' k) : ∀ (ls : List LINE) (b : Nat), (∀ x ∈ cLines b ls, x ≠ (110, 7)) → wk e ls = wk e' ls
  | [], b, _ => rfl
  | (none, a) :: r, b, h => by
    have h1 : ∀ x ∈ a, x ≠ (110, 7) := fun x hx => h x (List.mem_append.mpr (Or.inl (List.mem_append.mpr (Or.inl hx))))
    show evc e a = evc e' a
    unfold evc; rw [ex_nc hee a [] h1]
  | (some t, a) :: r, b, h => by
    have h0 : ∀ x ∈ cLine b (some t, a), x ≠ (110, 7) := fun x hx => h x (List.mem_append.mpr (Or.inl hx))
    have h1 : ∀ x ∈ t, x ≠ (110, 7) := fun x hx => h0 x (List.mem_append.mpr (Or.inl (List.mem_append.mpr (Or.inl hx))))
    have h2 : ∀ x ∈ a, x ≠ (110, 7) := fun x hx => h0 x (List.mem_append.mpr (Or.inl (List.mem_append.mpr (Or.inr (List.mem_cons_of_mem _ hx)))))
    show (if evc e t = 0 then wk e r else evc e a) = (if evc e' t = 0 then wk e' r else evc e' a)
    rw [wk_nc hee r _ (fun x hx => h x (List.mem_append.mpr (Or.inr hx)))]
    unfold evc; rw [ex_nc hee t [] h1, ex_nc hee a [] h2]
