section TC3
variable {T : Nat → Nat} {len : Nat}
theorem isOp_c {x : Nat} (h : isOp x = true) : x = 33 ∨ x = 45 ∨ x = 40 := by
  unfold isOp at h
  simp only [Bool.or_eq_true, beq_iff_eq] at h
  omega
theorem isOp_n {x : Nat} (h : ¬ isOp x = true) : x ≠ 33 ∧ x ≠ 45 ∧ x ≠ 40 := by
  unfold isOp at h
  simp only [Bool.or_eq_true, beq_iff_eq] at h
  omega
theorem isDg_c {x : Nat} (h : isDg x = true) : 48 ≤ x ∧ x ≤ 57 := by
  unfold isDg at h
  simp only [Bool.and_eq_true, Nat.ble_eq] at h
  exact h
/-- readOne begins so -/
theorem one_in {rc : GT1} {a : Int32} {σ : AS} {q : Nat} {Q : Unit → AS → Prop} (he : EnvT T len σ) (h1 : σ.1 7 0 2 = nI q) (h2 : q ≤ len)
    (h : wpO (g_X7_readOne_28 rc a (nxI T len q) (if isOp (tnx T len q) then 1 else 0) σ) Q) : wpO (gb_X7_readOne rc a σ) Q := by
  unfold gb_X7_readOne
  refine wpO_e (next_is he h1 h2) ?_
  have a1 := nxI_eq (q := q) (n := 33) he.le (by omega) (by omega)
  have a2 := nxI_eq (q := q) (n := 45) he.le (by omega) (by omega)
  have a3 := nxI_eq (q := q) (n := 40) he.le (by omega) (by omega)
  unfold g_X7_readOne_23
  by_cases c : isOp (tnx T len q) = true
  · rw [if_pos c] at h
    refine wpO_if (fun _ => h) (fun c1 => wpO_if (fun _ => h) (fun c2 => wpO_if (fun _ => h) (fun c3 => ?_)))
    rcases isOp_c c with e | e | e
    · exact absurd (a1.mpr e) c2
    · exact absurd (a2.mpr e) c3
    · exact absurd (a3.mpr e) c1
  · rw [if_neg c] at h
    obtain ⟨b1, b2, b3⟩ := isOp_n c
    exact wpO_f (fun z => b3 (a3.mp z)) (wpO_f (fun z => b1 (a1.mp z)) (wpO_f (fun z => b2 (a2.mp z)) h))
theorem one_f (f : Nat) (a : Int32) : RdF T len (fun σ => (gr1 (f + 1)).2.1 a σ) := by
  intro σ p he hr
  obtain ⟨q, h1, h2, -⟩ := hr.next he
  show wpO (gb_X7_readOne (gr1 f) a σ) _
  refine one_in he h2 h1 ?_
  unfold g_X7_readOne_28
  exact wpO_f (hr.nlt he.1) (wpO_some.mpr ⟨FrL.rf, hr⟩)
theorem part_f (a : Int32) : ∀ (n t f : Nat), t + n = 5 → n + 2 ≤ f → RdF T len (fun σ => (gr1 f).1 (nI t) a σ)
  | n, t, 0, _, h => absurd h (by omega)
  | 0, t, f + 1, h, hf => by
    intro σ p he hr
    show wpO (gb_X7_readPart (gr1 f) (nI t) a σ) _
    unfold gb_X7_readPart
    have e : t = 5 := by omega
    subst e
    cases f with
    | zero => omega
    | succ f => exact wpO_t (by decide) (wpO_b (one_f f a σ p he hr) (fun _ σ1 w => wpO_some.mpr w))
  | n + 1, t, f + 1, h, hf => by
    intro σ p he hr
    show wpO (gb_X7_readPart (gr1 f) (nI t) a σ) _
    unfold gb_X7_readPart
    refine wpO_f (by rw [li4]; exact nI_nlt (by omega) (by omega)) ?_
    rw [nI_1]
    refine wpO_b (part_f a n (t + 1) f (by omega) (by omega) σ p he hr) (fun _ σ1 w => ?_)
    have k : ∀ m : Int32, wpO (g_X7_readPart_37 (gr1 f) 400 (nI t) a m 0 σ1) (fun _ σ2 => FrL ST σ σ2 ∧ RF σ2 len p) := by
      intro m
      show wpO (g_X7_readPart_37 (gr1 f) (399 + 1) (nI t) a m 0 σ1) _
      unfold g_X7_readPart_37
      exact wpO_if (fun _ => wpO_f (w.2.nlt he.1) (wpO_some.mpr w)) (fun _ => wpO_some.mpr w)
    exact wpO_if (fun _ => k 1) (fun _ => k 120)
def pLt (nx : Nat → Nat) (o : PRS) : Nat → PRS
  | 0 => pL0 nx o
  | 1 => pL1 nx o
  | 2 => pL2 nx o
  | 3 => pL3 nx o
  | 4 => pL4 nx o
  | _ => o
theorem pLt_s {nx : Nat → Nat} {o : PRS} : ∀ {t : Nat}, t ≤ 4 → pLt nx o t = pLev nx t (pLt nx o (t + 1))
  | 0, _ => rfl
  | 1, _ => rfl
  | 2, _ => rfl
  | 3, _ => rfl
  | 4, _ => rfl
  | t + 5, h => absurd h (by omega)
theorem pLt_good {o : PRS} (h : Good len o) : ∀ (n t : Nat), t + n = 5 → Good len (pLt (tnx T len) o t)
  | 0, t, e => by
    have e : t = 5 := by omega
    subst e; exact h
  | n + 1, t, e => by rw [pLt_s (by omega)]; exact pLev_good (pLt_good h n (t + 1) (by omega))
/-- the levels -/
theorem part_is {o f0 : Nat} {P : PRS} (hg : Good len P) (ho : ∀ f, f0 ≤ f → RdOK T len (fun σ => (gr1 f).2.1 (nI o) σ) P) :
    ∀ (n t f : Nat), t + n = 5 → f0 + n + 1 ≤ f → RdOK T len (fun σ => (gr1 f).1 (nI t) (nI o) σ) (pLt (tnx T len) P t)
  | n, t, 0, _, h => absurd h (by omega)
  | 0, t, f + 1, h, hf => by
    intro σ q c he hr
    have e : t = 5 := by omega
    subst e
    show wpO (gb_X7_readPart (gr1 f) (nI 5) (nI o) σ) (fun _ σ1 => MRd σ len c (P q) σ1)
    unfold gb_X7_readPart
    exact wpO_t (by decide) (wpO_b (ho f (by omega) σ q c he hr) (fun _ σ1 w => wpO_some.mpr w))
  | n + 1, t, f + 1, h, hf => by
    intro σ q c he hr
    have hb := he.1
    show wpO (gb_X7_readPart (gr1 f) (nI t) (nI o) σ) _
    unfold gb_X7_readPart
    have hs := part_is hg ho n (t + 1) f (by omega) (by omega)
    have hsg := pLt_good (T := T) hg n (t + 1) (by omega)
    refine wpO_f (by rw [li4]; exact nI_nlt (by omega) (by omega)) ?_
    rw [nI_1]
    refine wpO_b (hs σ q c he hr) (fun _ σ1 w => ?_)
    have w2 := w.2
    rw [pLt_s (by omega)]
    unfold pLev
    have et : (nI t = 2) ↔ t = 2 := by rw [li2]; exact nI_eq (by omega) (by omega)
    have k : ∀ m, m ≤ 120 → m = (if t = 2 then 1 else 120) → wpO (g_X7_readPart_37 (gr1 f) 400 (nI t) (nI o) (nI m) 0 σ1) (fun _ σ2 => MRd σ len c (match pLt (tnx T len) P (t + 1) q with | .error p => .error p | .ok r => pLoop (tnx T len) t (pLt (tnx T len) P (t + 1)) (if t = 2 then 1 else 120) r.1 r.2) σ2) := by
      intro m hm em
      rw [← em]
      cases e : pLt (tnx T len) P (t + 1) q with
      | error p =>
        rw [e] at w2
        show wpO (g_X7_readPart_37 (gr1 f) (399 + 1) (nI t) (nI o) (nI m) 0 σ1) _
        unfold g_X7_readPart_37
        exact wpO_if (fun _ => wpO_f (w2.nlt hb) (wpO_some.mpr ⟨w.1, w2⟩)) (fun _ => wpO_some.mpr ⟨w.1, w2⟩)
      | ok r =>
        rw [e] at w2
        have z := loop_is (rc := gr1 f) (t := t) (o := o) (m := m) (by omega) hm hs hsg m 400 r.1 σ σ1 c r.2 (by omega) (by omega) (he.fr w.1) w.1 w2
        rw [Nat.sub_self] at z
        exact z
    by_cases c2 : t = 2
    · refine wpO_t (et.mpr c2) (k 1 (by omega) (by rw [if_pos c2]))
    · refine wpO_f (fun z => c2 (et.mp z)) (k 120 (by omega) (by rw [if_neg c2]))
theorem pOne_dn {nx : Nat → Nat} {d : Option (PRS × PRS)} {q : Nat} (c1 : ¬ isOp (nx q) = true) (c2 : ¬ nOf (nx q) ≠ 0) (c3 : ¬ isDg (nx q) = true) : pOne nx d q = .error q := by
  unfold pOne; rw [if_neg c1, if_neg c2, if_neg c3]
theorem nOf_dg {x : Nat} (h : isDg x = true) : nOf x = 0 := by
  have := isDg_c h
  unfold nOf
  repeat' rw [if_neg (by omega)]
theorem nOf_op {x : Nat} (h : isOp x = true) : nOf x = 0 ∧ ¬ isDg x = true := by
  rcases isOp_c h with e | e | e <;> (subst e; exact ⟨rfl, by decide⟩)
/-- what a name, a number or nothing gives -/
theorem one_low {rc : GT1} {a : Int32} {d : Option (PRS × PRS)} {σ : AS} {q : Nat} {c : CODE} (he : EnvT T len σ) (hr : RS σ len q c) (c1 : ¬ isOp (tnx T len q) = true) :
    wpO (g_X7_readOne_28 rc a (nxI T len q) 0 σ) (fun _ σ1 => MRd σ len c (pOne (tnx T len) d q) σ1) := by
  have hb := he.1
  unfold g_X7_readOne_28
  refine wpO_t (by show σ.1 7 0 3 < 0; rw [hr.2.1]; decide) (wpO_e dig_is ?_)
  rw [dgI_eq he.le]
  by_cases c3 : isDg (tnx T len q) = true
  · have e : pOne (tnx T len) d q = .ok ((pNum (tnx T len) 4 0 q).1, [(35, (pNum (tnx T len) 4 0 q).2)]) := by
      unfold pOne; rw [if_neg c1, if_neg (by rw [nOf_dg c3]; omega), if_pos c3]
    rw [e, if_pos c3]
    have g := pOne_good (T := T) (len := len) (deep := none) (fun d h => by cases h) q ((pNum (tnx T len) 4 0 q).1, [(35, (pNum (tnx T len) 4 0 q).2)]) (by unfold pOne; rw [if_neg c1, if_neg (by rw [nOf_dg c3]; omega), if_pos c3])
    refine wpO_f one_ne ?_
    unfold g_X7_readNumber
    refine wpO_b (num_is (T := T) (len := len) 4 400 0 q σ c (by omega) (by omega) he hr (by have := hr.2.2.2.1; have := g.1; omega)) (fun _ σ1 w => wpO_some.mpr w)
  · rw [if_neg c3]
    refine wpO_t rfl (wpO_e nm_is ?_)
    rw [nmI_eq he.le]
    by_cases c2 : nOf (tnx T len q) ≠ 0
    · have e : pOne (tnx T len) d q = .ok (q + 1, [(110, nOf (tnx T len q) - 1)]) := by
        unfold pOne; rw [if_neg c1, if_pos c2]
      rw [e]
      have hq : q < len := tnx_lt (fun z => c2 (by rw [z]; rfl))
      have h9 := nOf_lt (tnx T len q)
      have e3 : nI (nOf (tnx T len q)) - 1 = nI (nOf (tnx T len q) - 1) := by rw [li1, pk_sub (by omega)]
      refine wpO_f (by rw [e3]; exact fun z => absurd (nI_pos' (by omega)) (Int32.not_le.mpr z)) (wpO_e nm_is ?_)
      rw [nmI_eq he.le, e3]
      have f1 : FrL ST σ (sF σ 7 0 2 (nI (q + 1))) := FrL_sF (by decide)
      have hl := hr.2.2.2.1
      refine wpO_b (add_is (s := 110) (v := nOf (tnx T len q) - 1) hr.2.2.1 (by omega)) (fun _ σ1 w => wpO_lt (wpO_some.mpr ?_))
      have fw : FrL ST σ σ1 := w.2.mono (by decide)
      have ep : σ1.1 7 0 2 = nI q := by rw [w.2.f 7 0 2 (by decide)]; exact hr.1
      rw [pl1 ep]
      refine ⟨fw.tr (FrL_sF (by decide)), ?_, ?_, ⟨?_, w.1.2⟩, ?_, hq⟩
      · rw [sF_f]; rfl
      · rw [sF_f]
        show σ1.1 7 0 3 = -1
        rw [w.2.f 7 0 3 (by decide)]; exact hr.2.1
      · rw [sF_f]; exact w.1.1
      · rw [List.length_append]; show c.length + 1 ≤ q + 1; omega
    · rw [pOne_dn c1 c2 c3]
      have z : nOf (tnx T len q) = 0 := by omega
      rw [z]
      refine wpO_t (by decide) (wpO_t rfl ?_)
      unfold g_X7_readOne_120
      exact wpO_b (fail_is hr hb) (fun _ σ1 w => wpO_some.mpr ⟨w.2, w.1⟩)
def RdO (T : Nat → Nat) (len : Nat) (g : AS → Option (Unit × AS)) (P : PRS) : Prop :=
  ∀ σ q c, EnvT T len σ → RS σ len q c → c.length + 1 ≤ q → wpO (g σ) (fun _ σ1 => MRd σ len c (P q) σ1)
/-- what opens -/
theorem one_op {rc : GT1} {k : Nat} {d : PRS × PRS} {σ : AS} {q : Nat} {c : CODE} (he : EnvT T len σ) (hr : RS σ len q c) (c1 : isOp (tnx T len q) = true) (hk : k ≤ 5) (gd : Good len d.1 ∧ Good len d.2)
    (h0 : RdO T len (fun σ => gb_X7_readOpened rc (nI (tnx T len q)) (nI (6 - k)) σ) (fun p => if tnx T len q = 40 then (match d.1 p with | .error p => .error p | .ok r => if tnx T len r.1 = 41 then .ok (r.1 + 1, r.2) else .error r.1) else (match d.2 p with | .error p => .error p | .ok r => .ok (r.1, r.2 ++ [(if tnx T len q = 33 then 33 else 126, 0)]))))
    (rc' : GT1) (h1 : rc'.2.2 = gb_X7_readOpened rc) :
    wpO (g_X7_readOne_28 rc' (nI (6 - (k + 1))) (nxI T len q) 1 σ) (fun _ σ1 => MRd σ len c (pOne (tnx T len) (some d) q) σ1) := by
  have hb := he.1
  obtain ⟨n1, n2⟩ := nOf_op c1
  have n0 : tnx T len q ≠ 0 := fun z => by rw [z] at c1; exact absurd c1 (by decide)
  have hq : q < len := tnx_lt n0
  unfold g_X7_readOne_28
  refine wpO_t (by show σ.1 7 0 3 < 0; rw [hr.2.1]; decide) (wpO_e dig_is ?_)
  rw [dgI_eq he.le, if_neg n2]
  refine wpO_t rfl (wpO_e nm_is ?_)
  rw [nmI_eq he.le, n1]
  refine wpO_t (by decide) (wpO_f one_ne (wpO_t (by rw [li6]; exact nI_lt (by omega) (by omega)) (wpO_lt ?_)))
  rw [pl1 hr.1, nxI_nI n0, h1]
  have f1 : FrL ST σ (sF σ 7 0 2 (nI (q + 1))) := FrL_sF (by decide)
  have e6 : nI (6 - (k + 1)) + 1 = nI (6 - k) := by rw [nI_1]; congr 1; omega
  rw [e6]
  refine wpO_b (h0 _ (q + 1) c (he.fr f1) (hr.go (by omega) (by omega)) (by have := hr.2.2.2.1; omega)) (fun _ σ1 w => wpO_some.mpr ⟨f1.tr w.1, ?_⟩)
  unfold pOne
  rw [if_pos c1]
  exact w.2
end TC3
