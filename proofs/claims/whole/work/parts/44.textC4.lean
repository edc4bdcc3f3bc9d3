section TC4
variable {T : Nat → Nat} {len : Nat}
theorem opened_is {f k : Nat} {d : PRS × PRS} {x : Nat} (hx : isOp x = true) (gd : Good len d.1 ∧ Good len d.2)
    (h1 : RdOK T len (fun σ => (gr1 f).1 (nI 0) (nI (6 - k)) σ) d.1) (h2 : RdOK T len (fun σ => (gr1 f).2.1 (nI (6 - k)) σ) d.2) :
    RdO T len (fun σ => gb_X7_readOpened (gr1 f) (nI x) (nI (6 - k)) σ) (fun p => if x = 40 then (match d.1 p with | .error p => .error p | .ok r => if tnx T len r.1 = 41 then .ok (r.1 + 1, r.2) else .error r.1) else (match d.2 p with | .error p => .error p | .ok r => .ok (r.1, r.2 ++ [(if x = 33 then 33 else 126, 0)]))) := by
  intro σ q c he hr hcq
  have hb := he.1
  have hx3 := isOp_c hx
  have hx4 : x < 256 := by omega
  show wpO (gb_X7_readOpened (gr1 f) (nI x) (nI (6 - k)) σ) _
  unfold gb_X7_readOpened
  have e40 : (nI x = 40) ↔ x = 40 := by rw [li40]; exact nI_eq (by omega) (by omega)
  have e33 : (nI x = 33) ↔ x = 33 := nI_eq (a := x) (b := 33) (by omega) (by omega)
  by_cases c1 : x = 40
  · refine wpO_t (e40.mpr c1) (wpO_b (h1 σ q c he hr) (fun _ σ1 w => ?_))
    have w2 := w.2
    have he1 := he.fr w.1
    show wpO _ (fun _ σ2 => MRd σ len c (if x = 40 then _ else _) σ2)
    rw [if_pos c1]
    cases e : d.1 q with
    | error p =>
      rw [e] at w2
      have w2 : RF σ1 len p := w2
      obtain ⟨q1, a1, a2, a3⟩ := w2.next he1
      refine wpO_e a3 (wpO_if (fun c2 => wpO_lt (wpO_some.mpr ?_)) (fun _ => wpO_e (w2.fail hb) (wpO_some.mpr ⟨w.1, w2⟩)))
      rw [pl1 a2]
      have : tnx T len q1 = 41 := (nxI_eq he.le (by omega) (by omega)).mp c2
      exact ⟨w.1.tr (FrL_sF (by decide)), w2.go (tnx_lt (T := T) (len := len) (q := q1) (by rw [this]; omega))⟩
    | ok r =>
      rw [e] at w2
      have w2 : RS σ1 len r.1 (c ++ r.2) := w2
      refine wpO_e (next_is he1 w2.1 w2.2.2.2.2) ?_
      have e41 := nxI_eq (q := r.1) (n := 41) he.le (by omega) (by omega)
      by_cases c2 : tnx T len r.1 = 41
      · refine wpO_t (e41.mpr c2) (wpO_lt (wpO_some.mpr ?_))
        rw [pl1 w2.1]
        refine ⟨w.1.tr (FrL_sF (by decide)), ?_⟩
        show match (if tnx T len r.1 = 41 then Except.ok (r.1 + 1, r.2) else Except.error r.1) with | .ok r => RS _ len r.1 (c ++ r.2) | .error p => _
        rw [if_pos c2]
        exact w2.go (by omega) (tnx_lt (T := T) (len := len) (q := r.1) (by rw [c2]; omega))
      · refine wpO_f (fun z => c2 (e41.mp z)) (wpO_b (fail_is w2 hb) (fun _ σ2 v => wpO_some.mpr ⟨w.1.tr v.2, ?_⟩))
        show match (if tnx T len r.1 = 41 then Except.ok (r.1 + 1, r.2) else Except.error r.1) with | .ok r => _ | .error p => RF _ len p
        rw [if_neg c2]
        exact v.1
  · refine wpO_f (fun z => c1 (e40.mp z)) (wpO_b (h2 σ q c he hr) (fun _ σ1 w => ?_))
    have w2 := w.2
    show wpO _ (fun _ σ2 => MRd σ len c (if x = 40 then _ else _) σ2)
    rw [if_neg c1]
    unfold g_X7_readOpened_26
    cases e : d.2 q with
    | error p =>
      rw [e] at w2
      have w2 : RF σ1 len p := w2
      have k : ∀ s : Int32, wpO (bnd (g_X3_add 1 s 0 σ1) fun _ σ10 => some ((), σ10)) (fun _ σ2 => MRd σ len c (.error p) σ2) := fun s => wpO_b (RF.add w2) (fun _ σ2 v => wpO_some.mpr ⟨w.1.tr v.2, v.1⟩)
      exact wpO_if (fun _ => k 33) (fun _ => k 126)
    | ok r =>
      rw [e] at w2
      have w2 : RS σ1 len r.1 (c ++ r.2) := w2
      have g := gd.2 _ _ e
      have hl := hr.2.2.2.1
      have k : ∀ s : Nat, wpO (bnd (g_X3_add 1 (nI s) 0 σ1) fun _ σ10 => some ((), σ10)) (fun _ σ2 => MRd σ len c (.ok (r.1, r.2 ++ [(s, 0)])) σ2) := fun s => wpO_b (w2.add (s := s) (v := 0) hb (by rw [List.length_append]; omega)) (fun _ σ2 v => wpO_some.mpr ⟨w.1.tr v.2, by
        have z := v.1
        rw [List.append_assoc] at z
        exact z⟩)
      by_cases c3 : x = 33
      · refine wpO_t (e33.mpr c3) ?_
        show wpO _ (fun _ σ2 => MRd σ len c (.ok (r.1, r.2 ++ [(if x = 33 then 33 else 126, 0)])) σ2)
        rw [if_pos c3]; exact k 33
      · refine wpO_f (fun z => c3 (e33.mp z)) ?_
        show wpO _ (fun _ σ2 => MRd σ len c (.ok (r.1, r.2 ++ [(if x = 33 then 33 else 126, 0)])) σ2)
        rw [if_neg c3]; exact k 126
theorem pP_lt {nx : Nat → Nat} : ∀ k, (pP nx k).1 = pLt nx (pP nx k).2 0
  | 0 => rfl
  | k + 1 => rfl
theorem P_is : ∀ k, k ≤ 6 → (∀ f, 8 * k + 1 ≤ f → RdOK T len (fun σ => (gr1 f).2.1 (nI (6 - k)) σ) (pP (tnx T len) k).2) ∧ (∀ f, 8 * k + 7 ≤ f → RdOK T len (fun σ => (gr1 f).1 (nI 0) (nI (6 - k)) σ) (pP (tnx T len) k).1) := by
  have lv : ∀ k, (∀ f, 8 * k + 1 ≤ f → RdOK T len (fun σ => (gr1 f).2.1 (nI (6 - k)) σ) (pP (tnx T len) k).2) → (∀ f, 8 * k + 1 ≤ f → RdOK T len (fun σ => (gr1 f).2.1 (nI (6 - k)) σ) (pP (tnx T len) k).2) ∧ (∀ f, 8 * k + 7 ≤ f → RdOK T len (fun σ => (gr1 f).1 (nI 0) (nI (6 - k)) σ) (pP (tnx T len) k).1) := by
    intro k h
    refine ⟨h, fun f hf => ?_⟩
    rw [pP_lt]
    exact part_is (pP_good k).2 h 5 0 f (by omega) (by omega)
  intro k
  induction k with
  | zero =>
    intro _
    refine lv 0 (fun f hf => ?_)
    cases f with
    | zero => omega
    | succ f =>
      intro σ q c he hr
      have hb := he.1
      show wpO (gb_X7_readOne (gr1 f) (nI 6) σ) (fun _ σ1 => MRd σ len c (pOne (tnx T len) none q) σ1)
      refine one_in he hr.1 hr.2.2.2.2 ?_
      by_cases c1 : isOp (tnx T len q) = true
      · rw [if_pos c1]
        obtain ⟨n1, n2⟩ := nOf_op c1
        unfold g_X7_readOne_28
        refine wpO_t (by show σ.1 7 0 3 < 0; rw [hr.2.1]; decide) (wpO_e dig_is ?_)
        rw [dgI_eq he.le, if_neg n2]
        refine wpO_t rfl (wpO_e nm_is ?_)
        rw [nmI_eq he.le, n1]
        refine wpO_t (by decide) (wpO_f one_ne (wpO_f (by decide) ?_))
        unfold g_X7_readOne_120
        have e : pOne (tnx T len) none q = .error q := by unfold pOne; rw [if_pos c1]
        rw [e]
        exact wpO_b (fail_is hr hb) (fun _ σ1 w => wpO_some.mpr ⟨w.2, w.1⟩)
      · rw [if_neg c1]
        exact one_low he hr c1
  | succ k ih =>
    intro hk
    obtain ⟨i1, i2⟩ := ih (by omega)
    refine lv (k + 1) (fun f hf => ?_)
    match f, hf with
    | 0, hf => omega
    | 1, hf => omega
    | f + 2, hf =>
      intro σ q c he hr
      have hb := he.1
      show wpO (gb_X7_readOne (gr1 (f + 1)) (nI (6 - (k + 1))) σ) (fun _ σ1 => MRd σ len c (pOne (tnx T len) (some (pP (tnx T len) k)) q) σ1)
      refine one_in he hr.1 hr.2.2.2.2 ?_
      by_cases c1 : isOp (tnx T len q) = true
      · rw [if_pos c1]
        exact one_op (rc := gr1 f) he hr c1 (by omega) (pP_good k) (opened_is c1 (pP_good k) (i2 f (by omega)) (i1 f (by omega))) _ rfl
      · rw [if_neg c1]
        exact one_low he hr c1
end TC4
