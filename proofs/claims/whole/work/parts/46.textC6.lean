section TC6
variable {T : Nat → Nat} {len : Nat}
/-- a law's text read: -1 and the code, or the fault's place -/
def MRt (σb : AS) (len : Nat) (res : Except Nat (List LINE)) (r : Int32) (σ1 : AS) : Prop :=
  FrL ST σb σ1 ∧ match res with
    | .ok ls => r = -1 ∧ LC σ1 1 (cLines 0 ls) ∧ (cLines 0 ls).length ≤ len + 1
    | .error p => r = nI p ∧ p ≤ len
theorem into_end {σ σb : AS} {q : Nat} {ls : List LINE} (hb : len ≤ 120) (he : EnvT T len σ) (fb : FrL ST σb σ) (h : RLn σ len q (cLines 0 ls)) :
    wpO (g_X7_readInto_64 σ) (fun r σ1 => MRt σb len (if q < len then .error q else .ok ls) r σ1) := by
  obtain ⟨a1, a2, a3, a4, a5⟩ := h
  unfold g_X7_readInto_64
  by_cases c : q < len
  · rw [if_pos c]
    refine wpO_t (by show σ.1 7 0 2 < σ.1 7 0 1; rw [a1, he.2.1]; exact nI_lt c (by omega)) ?_
    unfold g_X7_fail
    rw [if_pos (by show σ.1 7 0 3 < 0; rw [a2]; decide)]
    refine wpO_some.mpr ⟨fb.tr (FrL_sF (by decide)), ?_, a5⟩
    show gF (sF σ 7 0 3 (gF σ 7 0 2)) 7 0 3 = nI q
    exact a1
  · rw [if_neg c]
    refine wpO_f (by show ¬ σ.1 7 0 2 < σ.1 7 0 1; rw [a1, he.2.1]; exact nI_nlt (by omega) (by omega)) (wpO_some.mpr ⟨fb, a2, a3, by omega⟩)
theorem into_f {σ σb : AS} {p : Nat} (hb : len ≤ 120) (he : EnvT T len σ) (fb : FrL ST σb σ) (h : RF σ len p) :
    wpO (g_X7_readInto_64 σ) (fun r σ1 => MRt σb len (.error p) r σ1) := by
  unfold g_X7_readInto_64
  exact wpO_if (fun _ => wpO_e (h.fail hb) (wpO_some.mpr ⟨fb, h.1, h.2.1⟩)) (fun _ => wpO_some.mpr ⟨fb, h.1, h.2.1⟩)
theorem rest_is : ∀ (n f q : Nat) (σb σ : AS) (ls : List LINE), n ≤ 120 → n < f → EnvT T len σ → FrL ST σb σ → RLn σ len q (cLines 0 ls) →
    wpO (g_X7_readInto_21 f (nI (120 - n)) σ) (fun r σ1 => MRt σb len (pRest (tnx T len) len (PE (tnx T len)) n q ls) r σ1)
  | n, 0, q, σb, σ, ls, _, h, _, _, _ => absurd h (Nat.not_lt_zero n)
  | 0, f + 1, q, σb, σ, ls, hn, hf, he, fb, h => by
    unfold g_X7_readInto_21 pRest
    exact wpO_f (by decide) (into_end he.1 he fb h)
  | n + 1, f + 1, q, σb, σ, ls, hn, hf, he, fb, h => by
    have hb := he.1
    unfold g_X7_readInto_21 pRest
    refine wpO_t (by rw [li120]; exact nI_lt (by omega) (by omega)) (wpO_t (by show σ.1 7 0 3 < 0; rw [h.2.1]; decide) (wpO_e (next_is he h.1 h.2.2.2.2) ?_))
    have e59 := nxI_eq (q := q) (n := 59) he.le (by omega) (by omega)
    by_cases c : tnx T len q = 59
    · have hq : q < len := tnx_lt (T := T) (len := len) (q := q) (by rw [c]; omega)
      rw [if_pos c]
      refine wpO_t (e59.mpr c) (wpO_lt ?_)
      rw [pl1 h.1]
      have f1 : FrL ST σ (sF σ 7 0 2 (nI (q + 1))) := FrL_sF (by decide)
      have e2 : nI (120 - (n + 1)) + 1 = nI (120 - n) := by rw [nI_1]; congr 1; omega
      rw [e2]
      refine wpO_b (line_is (he.fr f1) (h.go hq)) (fun _ σ2 w => ?_)
      have w2 := w.2
      have f2 := fb.tr (f1.tr w.1)
      have he2 := he.fr (f1.tr w.1)
      cases e : pLine (tnx T len) (PE (tnx T len)) (q + 1) with
      | error p =>
        rw [e] at w2
        have w2 : RF σ2 len p := w2
        cases f with
        | zero => omega
        | succ f =>
          unfold g_X7_readInto_21
          exact wpO_if (fun _ => wpO_f (w2.nlt hb) (into_f hb he2 f2 w2)) (fun _ => into_f hb he2 f2 w2)
      | ok r =>
        rw [e] at w2
        have w2 : RLn σ2 len r.1 (cLines 0 ls ++ cLine (cLines 0 ls).length r.2) := w2
        have ea := cLines_app 0 ls r.2
        rw [Nat.zero_add] at ea
        rw [← ea] at w2
        exact rest_is n f r.1 σb σ2 (ls ++ [r.2]) (by omega) (by omega) he2 f2 w2
    · rw [if_neg c]
      exact wpO_f (fun z => c (e59.mp z)) (into_end hb he fb h)
theorem into_is {σ : AS} (he : EnvT T len σ) : wpO (g_X7_readInto σ) (fun r σ1 => MRt σ len (pText (tnx T len) len (PE (tnx T len))) r σ1) := by
  have hb := he.1
  unfold g_X7_readInto g_X3_clear
  refine wpO_e rfl (wpO_lt (wpO_lt ?_))
  have f1 : FrL ST σ (sF (sF (sF σ 3 1 4 0) 7 0 2 0) 7 0 3 (-1)) := ((FrL_sF (by decide)).tr (FrL_sF (by decide))).tr (FrL_sF (by decide))
  have h0 : RS (sF (sF (sF σ 3 1 4 0) 7 0 2 0) 7 0 3 (-1)) len 0 [] := ⟨rfl, rfl, ⟨rfl, fun i x hx => by cases hx⟩, Nat.le_refl 0, Nat.zero_le _⟩
  refine wpO_b (line_is (he.fr f1) h0) (fun _ σ2 w => ?_)
  have w2 := w.2
  have f2 := f1.tr w.1
  have he2 := he.fr f2
  unfold pText
  cases e : pLine (tnx T len) (PE (tnx T len)) 0 with
  | error p =>
    rw [e] at w2
    have w2 : RF σ2 len p := w2
    show wpO (g_X7_readInto_21 (399 + 1) 0 σ2) _
    unfold g_X7_readInto_21
    exact wpO_if (fun _ => wpO_f (w2.nlt hb) (into_f hb he2 f2 w2)) (fun _ => into_f hb he2 f2 w2)
  | ok r =>
    rw [e] at w2
    have w2 : RLn σ2 len r.1 ([] ++ cLine 0 r.2) := w2
    have ea : cLines 0 [r.2] = [] ++ cLine 0 r.2 := by show cLine 0 r.2 ++ [] = _; rw [List.append_nil]; rfl
    rw [← ea] at w2
    exact rest_is 120 400 r.1 σ σ2 [r.2] (by omega) (by omega) he2 f2 w2
end TC6
