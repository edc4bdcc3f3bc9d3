def KnIs (σ : AS) (o : Nat) (e : Nat → Int32) : Prop := ∀ k, k < 9 → σ.2.1 3 o 3 k = e k
abbrev SK2 (o : Nat) : List (Nat × Nat × Nat) := [(3, o, 2), (3, o, 5)]
theorem LC.fr2 {σ σ1 : AS} {o : Nat} {c : CODE} (h : LC σ o c) (f : FrL (SK2 o) σ σ1) : LC σ1 o c := by
  refine ⟨?_, fun i x hx => ?_⟩
  · rw [f.f 3 o 4 (by simp)]; exact h.1
  · rw [f.a 3 o 0 (by simp), f.a 3 o 1 (by simp)]; exact h.2 i x hx
theorem KnIs.fr2 {σ σ1 : AS} {o : Nat} {e : Nat → Int32} (h : KnIs σ o e) (f : FrL (SK2 o) σ σ1) : KnIs σ1 o e := fun k hk => by
  rw [f.a 3 o 3 (by simp)]; exact h k hk
theorem fr25 {σ σ1 : AS} {o : Nat} (f : FrL [(3, o, 5)] σ σ1) : FrL (SK2 o) σ σ1 := f.mono (by simp)
theorem nlits {op : Nat} (h : tOf op ≠ 0) : ¬ nI op = 33 ∧ ¬ nI op = 35 ∧ ¬ nI op = 59 ∧ ¬ nI op = 63 ∧ ¬ nI op = 110 ∧ ¬ nI op = 126 := by
  rcases tOf_c h with e | e | e | e | e | e | e | e | e | e <;> (subst e; decide)
/-- where a step stands -/
theorem at_is {σ : AS} {o : Nat} {C A B : CODE} {x : Nat × Nat} {f : Nat} {Q : Int32 → AS → Prop} (hC : C = A ++ x :: B) (h : LC σ o C) (hl : C.length ≤ 122)
    (k : wpO (if nI x.1 = 33 then (bnd (g_X3_pull o σ) fun r7 σ8 => (if r7 = 0 then g_X3_work_140 o (g_X3_work_7 o f) (nI (A.length + 1)) 1 σ8 else g_X3_work_140 o (g_X3_work_7 o f) (nI (A.length + 1)) 0 σ8)) else (if nI x.1 = 35 then (bnd (g_X3_push o (nI x.2) σ) fun _ σ12 => (g_X3_work_7 o f) (nI (A.length + 1)) σ12) else (if nI x.1 = 59 then (bnd (g_X3_pull o σ) fun r14 σ15 => some (mxi 0 (mni r14 999), σ15)) else (if nI x.1 = 63 then (bnd (g_X3_pull o σ) fun r17 σ18 => (if r17 = 0 then (lt (mxi (nI (A.length + 1)) (nI x.2)) fun x20 => (g_X3_work_7 o f) x20 σ18) else (g_X3_work_7 o f) (nI (A.length + 1)) σ18)) else (if nI x.1 = 110 then (if nI x.2 < 0 then g_X3_work_120 o (g_X3_work_7 o f) (nI (A.length + 1)) σ else (if nI x.2 < 9 then (if inb (nI x.2) 9 then g_X3_work_121 o (g_X3_work_7 o f) (nI (A.length + 1)) (gA σ 3 o 3 (nI x.2)) σ else none) else g_X3_work_120 o (g_X3_work_7 o f) (nI (A.length + 1)) σ)) else (if nI x.1 = 126 then (bnd (g_X3_pull o σ) fun r27 σ28 => (bnd (g_X3_push o (-r27) σ28) fun _ σ29 => (g_X3_work_7 o f) (nI (A.length + 1)) σ29)) else (bnd (g_X3_pull o σ) fun r30 σ31 => (bnd (g_X3_pull o σ31) fun r32 σ33 => (bnd (g_X3_joined (nI x.1) r32 r30 σ33) fun r34 σ35 => (bnd (g_X3_push o r34 σ35) fun _ σ36 => (g_X3_work_7 o f) (nI (A.length + 1)) σ36)))))))))) Q) :
    wpO (g_X3_work_7 o (f + 1) (nI A.length) σ) Q := by
  have hl2 : C.length = A.length + (B.length + 1) := by rw [hC, List.length_append, List.length_cons]
  have hx : C[A.length]? = some x := by rw [hC, List.getElem?_append, if_neg (by omega), Nat.sub_self]; rfl
  obtain ⟨h0, h1⟩ := h.2 _ _ hx
  unfold g_X3_work_7
  refine wpO_t (by show nI A.length < σ.1 3 o 4; rw [h.1]; exact nI_lt (by omega) (by omega)) (wpO_t (inb_nI (by omega) (by omega)) (wpO_lt (wpO_lt ?_)))
  rw [gA_nI (by omega), gA_nI (by omega), h0, h1, nI_1]
  exact k
def hg1 (op n : Nat) : Option Nat := if op = 35 then some (n + 1) else if op = 110 then some (n + 1) else if op = 33 then (if n = 0 then none else some n) else if op = 126 then (if n = 0 then none else some n) else (if n < 2 then none else some (n - 1))
theorem hg_cons {x : Nat × Nat} {c : CODE} {n m : Nat} (h : hg (x :: c) n = some m) : ∃ m1, hg1 x.1 n = some m1 ∧ hg c m1 = some m ∧ m1 ≤ n + 1 := by
  have h : (if x.1 = 35 then hg c (n + 1) else if x.1 = 110 then hg c (n + 1) else if x.1 = 33 then (if n = 0 then none else hg c n) else if x.1 = 126 then (if n = 0 then none else hg c n) else (if n < 2 then none else hg c (n - 1))) = some m := h
  unfold hg1
  generalize hg c = g at h ⊢
  by_cases h1 : x.1 = 35
  · rw [if_pos h1] at h ⊢; exact ⟨_, rfl, h, Nat.le_refl _⟩
  rw [if_neg h1] at h ⊢
  by_cases h2 : x.1 = 110
  · rw [if_pos h2] at h ⊢; exact ⟨_, rfl, h, Nat.le_refl _⟩
  rw [if_neg h2] at h ⊢
  by_cases h3 : x.1 = 33
  · rw [if_pos h3] at h ⊢
    by_cases h5 : n = 0
    · rw [if_pos h5] at h; cases h
    · rw [if_neg h5] at h ⊢; exact ⟨_, rfl, h, Nat.le_succ _⟩
  rw [if_neg h3] at h ⊢
  by_cases h4 : x.1 = 126
  · rw [if_pos h4] at h ⊢
    by_cases h5 : n = 0
    · rw [if_pos h5] at h; cases h
    · rw [if_neg h5] at h ⊢; exact ⟨_, rfl, h, Nat.le_succ _⟩
  rw [if_neg h4] at h ⊢
  by_cases h5 : n < 2
  · rw [if_pos h5] at h; cases h
  · rw [if_neg h5] at h ⊢; exact ⟨_, rfl, h, by omega⟩
theorem stp_is {σ : AS} {o : Nat} {C A B : CODE} {x : Nat × Nat} {f m : Nat} {e : Nat → Int32} {st : List Int32} {Q : Int32 → AS → Prop} (hC : C = A ++ x :: B) (h : LC σ o C) (hl : C.length ≤ 122)
    (hs : StkIs σ o st) (hk : KnIs σ o e) (ho : okS x) (hh : hg1 x.1 st.length = some m) (hr : st.length < 128)
    (k : ∀ σ1, StkIs σ1 o (exo e x.1 x.2 st) → (exo e x.1 x.2 st).length = m → FrL (SK2 o) σ σ1 → wpO (g_X3_work_7 o f (nI (A.length + 1)) σ1) Q) :
    wpO (g_X3_work_7 o (f + 1) (nI A.length) σ) Q := by
  refine at_is hC h hl ?_
  clear hC
  obtain ⟨op, v⟩ := x
  obtain ⟨o1, hv⟩ := ho
  dsimp only at o1 hv k ⊢
  rcases o1 with c | c | c | ⟨c, c9⟩ | c
  · subst c
    refine wpO_t rfl ?_
    cases st with
    | nil => cases hh
    | cons a st =>
      have hm : st.length + 1 = m := by cases hh; rfl
      have hr : st.length + 1 < 128 := hr
      refine wpO_b (pull_is hs (by omega)) (fun r σ1 w => ?_)
      obtain ⟨rfl, w1, w2⟩ := w
      have kk : ∀ z, (if r = 0 then (1 : Int32) else 0) = z → wpO (g_X3_work_140 o (g_X3_work_7 o f) (nI (A.length + 1)) z σ1) Q := by
        intro z hz
        unfold g_X3_work_140
        subst hz
        exact wpO_b (push_is w1 (by omega)) (fun _ σ2 y => k σ2 y.1 hm ((fr25 w2).tr y.2))
      by_cases c : r = 0
      · exact wpO_t c (kk 1 (if_pos c))
      · exact wpO_f c (kk 0 (if_neg c))
  · subst c
    refine wpO_f (by decide) (wpO_t rfl (wpO_b (push_is hs hr) (fun _ σ2 y => k σ2 y.1 ?_ y.2)))
    cases hh; rfl
  · subst c
    refine wpO_f (by decide) (wpO_f (by decide) (wpO_f (by decide) (wpO_f (by decide) (wpO_f (by decide) (wpO_t rfl ?_)))))
    cases st with
    | nil => cases hh
    | cons a st =>
      have hm : st.length + 1 = m := by cases hh; rfl
      have hr : st.length + 1 < 128 := hr
      refine wpO_b (pull_is hs (by omega)) (fun r σ1 w => ?_)
      obtain ⟨rfl, w1, w2⟩ := w
      exact wpO_b (push_is w1 (by omega)) (fun _ σ2 y => k σ2 y.1 hm ((fr25 w2).tr y.2))
  · subst c
    refine wpO_f (by decide) (wpO_f (by decide) (wpO_f (by decide) (wpO_f (by decide) (wpO_t rfl ?_))))
    refine wpO_f (by rw [li0]; exact nI_nlt (by omega) (by omega)) (wpO_t (by rw [li9]; exact nI_lt (by omega) (by omega)) (wpO_t (inb_nI c9 (by omega)) ?_))
    unfold g_X3_work_121
    rw [gA_nI (by omega), hk v c9]
    refine wpO_b (push_is hs hr) (fun _ σ2 y => k σ2 y.1 ?_ y.2)
    cases hh; rfl
  · obtain ⟨n1, n2, n3, n4, n5, n6⟩ := nlits c
    obtain ⟨q1, q2, q3, q4, -, -⟩ := tOf_ne c
    refine wpO_f n1 (wpO_f n2 (wpO_f n3 (wpO_f n4 (wpO_f n5 (wpO_f n6 ?_)))))
    have hh2 : (if st.length < 2 then none else some (st.length - 1)) = some m := by
      unfold hg1 at hh
      rw [if_neg q2, if_neg q3, if_neg q1, if_neg q4] at hh
      exact hh
    match st, hh2 with
    | [], hh2 => rw [if_pos (by show 0 < 2; omega)] at hh2; cases hh2
    | [a], hh2 => rw [if_pos (by show 1 < 2; omega)] at hh2; cases hh2
    | b :: a :: st, hh2 =>
      rw [if_neg (by show ¬ st.length + 1 + 1 < 2; omega)] at hh2
      have hr : st.length + 1 + 1 < 128 := hr
      have hm : st.length + 1 = m := by cases hh2; rfl
      have ee : exo e op v (b :: a :: st) = jn op a b :: st := by unfold exo; rw [if_neg q1, if_neg q2, if_neg q3, if_neg q4]
      rw [ee] at k
      refine wpO_b (pull_is hs (by show st.length + 1 < 128; omega)) (fun r σ1 w => ?_)
      obtain ⟨rfl, w1, w2⟩ := w
      refine wpO_b (pull_is w1 (by omega)) (fun r2 σ2 w' => ?_)
      obtain ⟨rfl, w3, w4⟩ := w'
      refine wpO_e (joined_is c) ?_
      exact wpO_b (push_is w3 (by omega)) (fun _ σ3 y => k σ3 y.1 hm (((fr25 w2).tr (fr25 w4)).tr y.2))
/-- an expression's code -/
theorem run_is {o : Nat} {C : CODE} {e : Nat → Int32} {Q : Int32 → AS → Prop} (hl : C.length ≤ 122) : ∀ (c A B : CODE) (st : List Int32) (f m : Nat) (σ : AS), C = A ++ (c ++ B) → LC σ o C → StkIs σ o st → KnIs σ o e → (∀ q ∈ c, okS q) → hg c st.length = some m → st.length + c.length ≤ 128 →
    (∀ σ1, StkIs σ1 o (ex e c st) → FrL (SK2 o) σ σ1 → wpO (g_X3_work_7 o f (nI (A ++ c).length) σ1) Q) → wpO (g_X3_work_7 o (f + c.length) (nI A.length) σ) Q
  | [], A, B, st, f, m, σ, hC, h, hs, hk, ho, hh, hr, k => by
    have k := k σ hs FrL.rf
    rw [List.append_nil] at k
    exact k
  | x :: c, A, B, st, f, m, σ, hC, h, hs, hk, ho, hh, hr, k => by
    have hr1 : st.length + (c.length + 1) ≤ 128 := hr
    have hC2 : C = A ++ x :: (c ++ B) := hC
    have hC3 : C = (A ++ [x]) ++ (c ++ B) := by rw [hC2, List.append_assoc]; rfl
    obtain ⟨m1, hm1, hm2, hm3⟩ := hg_cons hh
    refine stp_is (f := f + c.length) hC2 h hl hs hk (ho x (List.mem_cons_self)) hm1 (by omega) (fun σ1 w1 w2 w3 => ?_)
    have ea : A.length + 1 = (A ++ [x]).length := by rw [List.length_append]; rfl
    rw [ea]
    refine run_is hl c (A ++ [x]) B _ f m σ1 hC3 (h.fr2 w3) w1 (hk.fr2 w3) (fun q hq => ho q (List.mem_cons_of_mem _ hq)) (by rw [w2]; exact hm2) (by rw [w2]; omega) (fun σ2 y1 y2 => ?_)
    have k := k σ2 y1 (w3.tr y2)
    have eb : (A ++ [x] ++ c).length = (A ++ x :: c).length := by rw [List.append_assoc]; rfl
    rw [eb]
    exact k
