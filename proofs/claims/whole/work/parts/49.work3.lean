def GLine (l : LINE) : Prop := IsE l.2 ∧ ∀ t, l.1 = some t → IsE t
/-- the law's strength, unclamped -/
def wk (e : Nat → Int32) : List LINE → Int32
  | [] => 0
  | (none, a) :: _ => evc e a
  | (some t, a) :: r => if evc e t = 0 then wk e r else evc e a
theorem clp_is (r : Int32) : mxi 0 (mni r 999) = clp r := by
  unfold clp mxi mni
  have k0 : (0 : Int32).toInt = 0 := rfl
  have k9 : (999 : Int32).toInt = 999 := rfl
  by_cases h2 : (999 : Int32) < r
  · have h1 : ¬ r < 0 := fun z => by have := Int32.lt_iff_toInt_lt.mp z; have := Int32.lt_iff_toInt_lt.mp h2; omega
    rw [if_pos h2, if_neg h1]; rfl
  · rw [if_neg h2]
    by_cases h1 : r < 0
    · have h3 : ¬ (0 : Int32) < r := fun z => by have := Int32.lt_iff_toInt_lt.mp z; have := Int32.lt_iff_toInt_lt.mp h1; omega
      rw [if_pos h1, if_neg h3]
    · rw [if_neg h1]
      by_cases h3 : (0 : Int32) < r
      · rw [if_pos h3]
      · rw [if_neg h3]
        apply Int32.toInt_inj.mp
        have a1 : ¬ r.toInt < (0 : Int32).toInt := fun z => h1 (Int32.lt_iff_toInt_lt.mpr z)
        have a2 : ¬ (0 : Int32).toInt < r.toInt := fun z => h3 (Int32.lt_iff_toInt_lt.mpr z)
        omega
theorem StkIs.nil {σ : AS} {o : Nat} (h : σ.1 3 o 5 = 0) : StkIs σ o [] := ⟨h, fun i x hx => by cases hx⟩
theorem ans_is {o : Nat} {C a A B : CODE} {e : Nat → Int32} {f : Nat} {σ : AS} (hl : C.length ≤ 122) (hC : C = A ++ (a ++ (59, 0) :: B)) (h : LC σ o C) (hs : StkIs σ o []) (hk : KnIs σ o e) (ha : IsE a) (hf : a.length < f) :
    wpO (g_X3_work_7 o f (nI A.length) σ) (fun r σ1 => r = clp (evc e a) ∧ FrL (SK2 o) σ σ1) := by
  have hll : C.length = A.length + (a.length + (B.length + 1)) := by rw [hC, List.length_append, List.length_append, List.length_cons]
  obtain ⟨g, rfl⟩ : ∃ g, f = (g + 1) + a.length := ⟨f - a.length - 1, by omega⟩
  refine run_is hl a A _ [] (g + 1) 1 σ hC h hs hk ha.2.1 (ha.2.2 0) (by show 0 + a.length ≤ 128; omega) (fun σ1 w1 w2 => ?_)
  rw [ha.1] at w1
  have hC2 : C = (A ++ a) ++ (59, 0) :: B := by rw [hC, List.append_assoc]
  refine at_is hC2 (h.fr2 w2) hl (wpO_f (by decide) (wpO_f (by decide) (wpO_t rfl ?_)))
  refine wpO_b (pull_is w1 (by show 0 < 128; omega)) (fun r σ2 y => ?_)
  obtain ⟨rfl, y1, y2⟩ := y
  exact wpO_some.mpr ⟨clp_is _, w2.tr (fr25 y2)⟩
theorem lines_is {o : Nat} {C : CODE} {e : Nat → Int32} (hl : C.length ≤ 122) : ∀ (ls : List LINE) (A : CODE) (f : Nat) (σ : AS), C = A ++ cLines A.length ls → LC σ o C → StkIs σ o [] → KnIs σ o e → (∀ l ∈ ls, GLine l) → (cLines A.length ls).length < f →
    wpO (g_X3_work_7 o f (nI A.length) σ) (fun r σ1 => r = clp (wk e ls) ∧ FrL (SK2 o) σ σ1)
  | ls, A, 0, σ, _, _, _, _, _, hf => absurd hf (Nat.not_lt_zero _)
  | [], A, f + 1, σ, hC, h, hs, hk, hg, hf => by
    have e1 : C = A := by rw [hC]; exact List.append_nil A
    unfold g_X3_work_7
    refine wpO_f ?_ (wpO_some.mpr ⟨show (0 : Int32) = clp 0 by decide, FrL.rf⟩)
    show ¬ nI A.length < σ.1 3 o 4
    rw [h.1, e1]
    rw [e1] at hl
    exact nI_nlt (Nat.le_refl _) (by omega)
  | (none, a) :: r, A, f + 1, σ, hC, h, hs, hk, hg, hf => by
    have ga := (hg _ (List.mem_cons_self)).1
    have hC2 : C = A ++ (a ++ (59, 0) :: cLines (A.length + (cLine A.length (none, a)).length) r) := by
      rw [hC]
      show A ++ ((a ++ [(59, 0)]) ++ _) = _
      rw [List.append_assoc]; rfl
    have hf2 : (cLine A.length (none, a) ++ cLines (A.length + (cLine A.length (none, a)).length) r).length < f + 1 := hf
    have el : (cLine A.length (none, a)).length = 0 + a.length + 1 := cLine_len
    rw [List.length_append, el] at hf2
    exact ans_is hl hC2 h hs hk ga (by omega)
  | (some t, a) :: r, A, f + 1, σ, hC, h, hs, hk, hg, hf => by
    have g1 := hg _ (List.mem_cons_self)
    have ga := g1.1
    have gt := g1.2 t rfl
    have el : (cLine A.length (some t, a)).length = t.length + 1 + a.length + 1 := cLine_len
    generalize hv : A.length + (t ++ [(63, 0)] ++ a ++ [(59, 0)]).length = v
    have hv2 : v = A.length + (t.length + 1 + a.length + 1) := by
      rw [← hv, List.length_append, List.length_append, List.length_append]; rfl
    generalize hR : cLines (A.length + (cLine A.length (some t, a)).length) r = R
    have ec : cLine A.length (some t, a) = (t ++ (63, v) :: a) ++ [(59, 0)] := by rw [← hv]; rfl
    have hC2 : C = A ++ (t ++ ((63, v) :: (a ++ (59, 0) :: R))) := by
      rw [hC]
      show A ++ (cLine A.length (some t, a) ++ cLines (A.length + (cLine A.length (some t, a)).length) r) = _
      rw [hR, ec, List.append_assoc, List.append_assoc]; rfl
    have hf2 : (cLine A.length (some t, a) ++ cLines (A.length + (cLine A.length (some t, a)).length) r).length < f + 1 := hf
    rw [hR, List.length_append, el] at hf2
    have hll : C.length = A.length + (t.length + 1 + a.length + 1 + R.length) := by
      rw [hC2, List.length_append, List.length_append, List.length_cons, List.length_append, List.length_cons]; omega
    obtain ⟨g, eg⟩ : ∃ g, f + 1 = (g + 1) + t.length := ⟨f - t.length, by omega⟩
    rw [eg]
    refine run_is hl t A _ [] (g + 1) 1 σ hC2 h hs hk gt.2.1 (gt.2.2 0) (by show 0 + t.length ≤ 128; omega) (fun σ1 w1 w2 => ?_)
    rw [gt.1] at w1
    have hC3 : C = (A ++ t) ++ (63, v) :: (a ++ (59, 0) :: R) := by rw [hC2, List.append_assoc]
    refine at_is hC3 (h.fr2 w2) hl (wpO_f (show ¬ nI 63 = 33 by decide) (wpO_f (show ¬ nI 63 = 35 by decide) (wpO_f (show ¬ nI 63 = 59 by decide) (wpO_t rfl ?_))))
    refine wpO_b (pull_is w1 (by show 0 < 128; omega)) (fun z σ2 y => ?_)
    obtain ⟨rfl, y1, y2⟩ := y
    have f2 : FrL (SK2 o) σ σ2 := w2.tr (fr25 y2)
    by_cases c : evc e t = 0
    · refine wpO_t c (wpO_lt ?_)
      have em : mxi (nI ((A ++ t).length + 1)) (nI v) = nI v := by
        unfold mxi
        have e3 : (A ++ t).length = A.length + t.length := List.length_append
        rw [if_pos (nI_lt (by omega) (by omega))]
      rw [em]
      have ev : v = (A ++ cLine A.length (some t, a)).length := by rw [List.length_append, el]; omega
      have ew : wk e ((some t, a) :: r) = wk e r := by show (if evc e t = 0 then _ else _) = _; rw [if_pos c]
      rw [ew, ev]
      have hR2 : cLines (A ++ cLine A.length (some t, a)).length r = R := by rw [List.length_append]; exact hR
      refine wpO_mono (lines_is hl r (A ++ cLine A.length (some t, a)) g σ2 ?_ (h.fr2 f2) y1 (hk.fr2 f2) (fun l hl => hg l (List.mem_cons_of_mem _ hl)) (by rw [hR2]; omega)) (fun _ _ q => ⟨q.1, f2.tr q.2⟩)
      rw [hR2, ec, hC2, List.append_assoc, List.append_assoc, List.append_assoc]; rfl
    · have ew : wk e ((some t, a) :: r) = evc e a := by show (if evc e t = 0 then _ else _) = _; rw [if_neg c]
      rw [ew]
      have hC4 : C = (A ++ t ++ [(63, v)]) ++ (a ++ (59, 0) :: R) := by rw [hC3, List.append_assoc (A ++ t)]; rfl
      have e4 : (A ++ t).length + 1 = (A ++ t ++ [(63, v)]).length := by rw [List.length_append (as := A ++ t)]; rfl
      rw [e4]
      exact wpO_f c (wpO_mono (ans_is hl hC4 (h.fr2 f2) y1 (hk.fr2 f2) ga (by omega)) (fun _ _ q => ⟨q.1, f2.tr q.2⟩))
theorem work_is {o : Nat} {e : Nat → Int32} {ls : List LINE} {σ : AS} (h : LC σ o (cLines 0 ls)) (hl : (cLines 0 ls).length ≤ 122) (hk : KnIs σ o e) (hg : ∀ l ∈ ls, GLine l) :
    wpO (g_X3_work o σ) (fun r σ1 => r = clp (wk e ls) ∧ FrL (SK2 o) σ σ1) := by
  unfold g_X3_work
  have f1 : FrL (SK2 o) σ (sF σ 3 o 5 0) := FrL_sF (by simp)
  refine wpO_lt (wpO_mono (lines_is hl ls [] 400 _ rfl (h.fr2 f1) (StkIs.nil (by rw [sF_f, if_pos ⟨rfl, rfl, rfl⟩])) (hk.fr2 f1) hg (by show (cLines 0 ls).length < 400; omega)) (fun _ _ q => ⟨q.1, f1.tr q.2⟩))
