/-! the class works its code -/
def StkIs (σ : AS) (o : Nat) (st : List Int32) : Prop := σ.1 3 o 5 = nI st.length ∧ ∀ i x, st.reverse[i]? = some x → σ.2.1 3 o 2 i = x
theorem pull_is {σ : AS} {o : Nat} {a : Int32} {st : List Int32} (h : StkIs σ o (a :: st)) (hl : st.length < 128) : wpO (g_X3_pull o σ) (fun r σ1 => r = a ∧ StkIs σ1 o st ∧ FrL [(3, o, 5)] σ σ1) := by
  have h1 : σ.1 3 o 5 = nI (st.length + 1) := h.1
  have e1 : gF σ 3 o 5 - 1 = nI st.length := by show σ.1 3 o 5 - 1 = _; rw [h1, li1, pk_sub (by omega)]; rfl
  unfold g_X3_pull
  rw [e1]
  refine wpO_t (by show (0 : Int32) < σ.1 3 o 5; rw [h1, li0]; exact nI_lt (by omega) (by omega)) (wpO_lt ?_)
  have e2 : gF (sF σ 3 o 5 (nI st.length)) 3 o 5 = nI st.length := by unfold gF; rw [sF_f, if_pos ⟨rfl, rfl, rfl⟩]
  rw [e2]
  refine wpO_t (inb_nI hl (by omega)) (wpO_some.mpr ⟨?_, ⟨by rw [sF_f, if_pos ⟨rfl, rfl, rfl⟩], fun i x hx => ?_⟩, FrL_sF (by simp)⟩)
  · rw [gA_nI (by omega)]
    refine h.2 _ _ ?_
    rw [List.reverse_cons, List.getElem?_append, List.length_reverse, if_neg (by omega), Nat.sub_self]; rfl
  · refine h.2 i x ?_
    rw [List.reverse_cons, List.getElem?_append, List.length_reverse]
    have : i < st.reverse.length := (List.getElem?_eq_some_iff.mp hx).1
    rw [List.length_reverse] at this
    rw [if_pos this]; exact hx
theorem push_is {σ : AS} {o : Nat} {a : Int32} {st : List Int32} (h : StkIs σ o st) (hl : st.length < 128) : wpO (g_X3_push o a σ) (fun _ σ1 => StkIs σ1 o (a :: st) ∧ FrL [(3, o, 2), (3, o, 5)] σ σ1) := by
  have h1 := h.1
  unfold g_X3_push
  refine wpO_t (by show σ.1 3 o 5 < 128; rw [h1, li128]; exact nI_lt hl (by omega)) (wpO_t (by show inb (σ.1 3 o 5) 128; rw [h1]; exact inb_nI hl (by omega)) (wpO_lt (wpO_lt (wpO_some.mpr ⟨⟨?_, fun i x hx => ?_⟩, (FrL_sA (by simp)).tr (FrL_sF (by simp))⟩))))
  · rw [sF_f, if_pos ⟨rfl, rfl, rfl⟩]
    show σ.1 3 o 5 + 1 = nI (st.length + 1)
    rw [h1, nI_1]
  · rw [List.reverse_cons, List.getElem?_append, List.length_reverse] at hx
    have ea : (gF σ 3 o 5).toNatClampNeg = st.length := by show (σ.1 3 o 5).toNatClampNeg = _; rw [h1]; exact nI_clamp (by omega)
    rw [sF_a]
    unfold sA
    rw [ea]
    simp only [sAf_a, eq_self, and_self, if_true, upd_at]
    by_cases c : i < st.length
    · rw [if_pos c] at hx
      rw [if_neg (by omega)]
      exact h.2 i x hx
    · rw [if_neg c] at hx
      have c2 : i - st.length = 0 := by
        apply Classical.byContradiction
        intro z
        rw [List.getElem?_eq_none (by show 1 ≤ _; omega)] at hx
        cases hx
      rw [c2] at hx
      cases hx
      rw [if_pos (by omega)]
theorem tOf_c {op : Nat} (h : tOf op ≠ 0) : op = 124 ∨ op = 38 ∨ op = 60 ∨ op = 61 ∨ op = 62 ∨ op = 43 ∨ op = 45 ∨ op = 42 ∨ op = 47 ∨ op = 37 := by
  unfold tOf at h
  repeat' split at h
  all_goals omega
theorem joined_is {op : Nat} {a b : Int32} {σ : AS} (h : tOf op ≠ 0) : g_X3_joined (nI op) a b σ = some (jn op a b, σ) := by
  unfold g_X3_joined jn
  rcases tOf_c h with e | e | e | e | e | e | e | e | e | e <;> subst e
  all_goals (simp (decide := true) only [if_true, if_false]; repeat' (first | rfl | split))
  all_goals (first | rfl | contradiction | (simp_all; done))
