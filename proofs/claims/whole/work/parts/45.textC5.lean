/-! lines -/
abbrev LINE : Type := Option CODE × CODE
def pLine (nx : Nat → Nat) (P : PRS) (q : Nat) : Except Nat (Nat × LINE) :=
  match P q with
  | .error p => .error p
  | .ok r => if nx r.1 = 63 then (match P (r.1 + 1) with | .error p => .error p | .ok r2 => .ok (r2.1, (some r.2, r2.2))) else .ok (r.1, (none, r.2))
def cLine (b : Nat) (l : LINE) : CODE :=
  match l.1 with
  | none => l.2 ++ [(59, 0)]
  | some t => (t ++ (63, b + (t ++ [(63, 0)] ++ l.2 ++ [(59, 0)]).length) :: l.2) ++ [(59, 0)]
def cLines (b : Nat) : List LINE → CODE
  | [] => []
  | l :: r => cLine b l ++ cLines (b + (cLine b l).length) r
theorem cLine_len {b : Nat} {t : Option CODE} {a : CODE} : (cLine b (t, a)).length = (match t with | none => 0 | some t => t.length + 1) + a.length + 1 := by
  unfold cLine
  cases t with
  | none => show (a ++ [_]).length = _; rw [List.length_append]; show a.length + 1 = 0 + a.length + 1; omega
  | some t => show ((t ++ _ :: a) ++ [_]).length = _; rw [List.length_append, List.length_append, List.length_cons]; show t.length + (a.length + 1) + 1 = t.length + 1 + a.length + 1; omega
theorem cLines_app : ∀ (b : Nat) (x : List LINE) (y : LINE), cLines b (x ++ [y]) = cLines b x ++ cLine (b + (cLines b x).length) y
  | b, [], y => by show cLine b y ++ [] = [] ++ cLine (b + 0) y; rw [List.append_nil]; rfl
  | b, l :: x, y => by
    show cLine b l ++ cLines _ (x ++ [y]) = cLine b l ++ cLines _ x ++ cLine (b + (cLine b l ++ cLines _ x).length) y
    rw [cLines_app, List.append_assoc, List.length_append, Nat.add_assoc]
def pRest (nx : Nat → Nat) (len : Nat) (P : PRS) : Nat → Nat → List LINE → Except Nat (List LINE)
  | 0, q, ls => if q < len then .error q else .ok ls
  | n + 1, q, ls =>
    if nx q = 59 then (match pLine nx P (q + 1) with | .error p => .error p | .ok r => pRest nx len P n r.1 (ls ++ [r.2]))
    else if q < len then .error q else .ok ls
def pText (nx : Nat → Nat) (len : Nat) (P : PRS) : Except Nat (List LINE) :=
  match pLine nx P 0 with
  | .error p => .error p
  | .ok r => pRest nx len P 120 r.1 [r.2]
section TC5
variable {T : Nat → Nat} {len : Nat}
/-- behind a line -/
def RLn (σ : AS) (len q : Nat) (c : CODE) : Prop := σ.1 7 0 2 = nI q ∧ σ.1 7 0 3 = -1 ∧ LC σ 1 c ∧ c.length ≤ q + 1 ∧ q ≤ len
theorem RLn.add {σ : AS} {q : Nat} {c : CODE} {s v : Nat} (h : RS σ len q c) (hl : len ≤ 120) : wpO (g_X3_add 1 (nI s) (nI v) σ) (fun _ σ1 => RLn σ1 len q (c ++ [(s, v)]) ∧ FrL ST σ σ1) := by
  have a1 := h.2.2.2.2
  have a2 := h.2.2.2.1
  refine wpO_mono (add_is h.2.2.1 (by omega)) (fun _ σ1 w => ⟨⟨?_, ?_, w.1, ?_, a1⟩, w.2.mono (by decide)⟩)
  · rw [w.2.f 7 0 2 (by decide)]; exact h.1
  · rw [w.2.f 7 0 3 (by decide)]; exact h.2.1
  · rw [List.length_append]; show c.length + 1 ≤ q + 1; omega
theorem RLn.go {σ : AS} {q : Nat} {c : CODE} (h : RLn σ len q c) (h2 : q < len) : RS (sF σ 7 0 2 (nI (q + 1))) len (q + 1) c :=
  ⟨by rw [sF_f]; rfl, by rw [sF_f]; exact h.2.1, ⟨by rw [sF_f]; exact h.2.2.1.1, h.2.2.1.2⟩, h.2.2.2.1, h2⟩
theorem lead_is {σ : AS} {q : Nat} {x y : CODE} {v : Nat} (hl : len ≤ 120) (h : RLn σ len q (x ++ (63, v) :: y)) : wpO (g_X3_leadOn 1 (nI x.length) σ) (fun _ σ1 => RLn σ1 len q (x ++ (63, (x ++ (63, v) :: y).length) :: y) ∧ FrL ST σ σ1) := by
  have hs := h.2.2.1
  have hlen := h.2.2.2.1
  have hq := h.2.2.2.2
  have ll : (x ++ (63, v) :: y).length = x.length + (y.length + 1) := by rw [List.length_append, List.length_cons]
  have hs1 : σ.1 3 1 4 = nI (x ++ (63, v) :: y).length := hs.1
  unfold g_X3_leadOn
  refine wpO_f (by rw [li0]; exact nI_nlt (by omega) (by omega)) (wpO_t ?_ (wpO_t (inb_nI (by omega) (by omega)) (wpO_lt (wpO_some.mpr ⟨⟨h.1, h.2.1, ⟨?_, fun i z hz => ?_⟩, ?_, hq⟩, FrL_sA (by decide)⟩))))
  · show nI x.length < σ.1 3 1 4
    rw [hs1, ll]; exact nI_lt (by omega) (by omega)
  · show σ.1 3 1 4 = _
    rw [hs1, ll, List.length_append, List.length_cons]
  · unfold sA
    simp only [sAf_a, eq_self, true_and, Nat.zero_ne_one, Nat.one_ne_zero, and_false, and_true, if_false, if_true, upd_at, nI_clamp (show x.length < 2 ^ 31 by omega)]
    rw [List.getElem?_append] at hz
    by_cases c1 : i < x.length
    · rw [if_pos c1] at hz
      rw [if_neg (by omega)]
      exact hs.2 i z (by rw [List.getElem?_append, if_pos c1]; exact hz)
    · rw [if_neg c1] at hz
      by_cases c2 : i = x.length
      · subst c2
        rw [Nat.sub_self] at hz
        cases hz
        rw [if_pos rfl]
        refine ⟨(hs.2 x.length (63, v) (by rw [List.getElem?_append, if_neg c1, Nat.sub_self]; rfl)).1, ?_⟩
        show σ.1 3 1 4 = _
        exact hs1
      · rw [if_neg c2]
        refine hs.2 i z ?_
        rw [List.getElem?_append, if_neg c1]
        have e : i - x.length = (i - x.length - 1) + 1 := by omega
        rw [e] at hz ⊢
        exact hz
  · rw [ll] at hlen; rw [List.length_append, List.length_cons]; exact hlen
theorem RF.lead {σ : AS} {p n : Nat} (h : RF σ len p) (hn : n ≤ 128) : wpO (g_X3_leadOn 1 (nI n) σ) (fun _ σ1 => RF σ1 len p ∧ FrL ST σ σ1) := by
  have h' := h
  obtain ⟨h1, h2, h3, m, h4, h5⟩ := h
  unfold g_X3_leadOn
  refine wpO_if (fun _ => wpO_some.mpr ⟨h', FrL.rf⟩) (fun _ => wpO_if (fun c => ?_) (fun _ => wpO_some.mpr ⟨h', FrL.rf⟩))
  have c : nI n < σ.1 3 1 4 := c
  have c2 : n < 128 := by
    apply Classical.byContradiction
    intro z
    rw [h4] at c
    exact nI_nlt (by omega) (by omega) c
  exact wpO_t (inb_nI c2 (by omega)) (wpO_lt (wpO_some.mpr ⟨⟨h1, h2, h3, m, h4, h5⟩, FrL_sA (by decide)⟩))
def MRl (σb : AS) (len : Nat) (c0 : CODE) (res : Except Nat (Nat × LINE)) (σ1 : AS) : Prop :=
  FrL ST σb σ1 ∧ match res with
    | .ok r => RLn σ1 len r.1 (c0 ++ cLine c0.length r.2)
    | .error p => RF σ1 len p
/-- what the whole text's expressions are read by -/
abbrev PE (nx : Nat → Nat) : PRS := (pP nx 6).1
theorem line_is {σ : AS} {q : Nat} {c : CODE} (he : EnvT T len σ) (hr : RS σ len q c) : wpO (g_X7_readLine σ) (fun _ σ1 => MRl σ len c (pLine (tnx T len) (PE (tnx T len)) q) σ1) := by
  have hb := he.1
  have hP : RdOK T len (fun σ => g_X7_readPart 0 0 σ) (PE (tnx T len)) := (P_is (T := T) (len := len) 6 (by omega)).2 100 (by omega)
  have hF : RdF T len (fun σ => g_X7_readPart 0 0 σ) := part_f 0 5 0 100 (by omega) (by omega)
  have hG : Good len (PE (tnx T len)) := (pP_good 6).1
  unfold g_X7_readLine pLine
  refine wpO_b (hP σ q c he hr) (fun _ σ1 w => ?_)
  have w2 := w.2
  have he1 := he.fr w.1
  cases e : PE (tnx T len) q with
  | error p =>
    rw [e] at w2
    have w2 : RF σ1 len p := w2
    obtain ⟨q1, a1, a2, a3⟩ := w2.next he1
    refine wpO_e a3 (wpO_if (fun c1 => ?_) (fun _ => wpO_b (RF.add w2) (fun _ σ2 v => wpO_some.mpr ⟨w.1.tr v.2, v.1⟩)))
    have e63 := nxI_eq (q := q1) (n := 63) he.le (by omega) (by omega)
    have c63 : tnx T len q1 = 63 := e63.mp c1
    have hq1 : q1 < len := tnx_lt (T := T) (len := len) (q := q1) (by rw [c63]; omega)
    obtain ⟨n, n1, n2⟩ := w2.2.2.2
    refine wpO_e (show g_X3_steps 1 σ1 = some (nI n, σ1) by unfold g_X3_steps; show some (σ1.1 3 1 4, σ1) = _; rw [n1]) ?_
    refine wpO_b (RF.add0 w2) (fun _ σ2 v0 => wpO_lt ?_)
    have b3 : σ2.1 7 0 2 = nI q1 := by rw [v0.2.f 7 0 2 (by decide)]; exact a2
    have v : RF σ2 len p ∧ FrL ST σ1 σ2 := ⟨v0.1, v0.2.mono (by decide)⟩
    rw [pl1 b3]
    have f2 : FrL ST σ (sF σ2 7 0 2 (nI (q1 + 1))) := (w.1.tr v.2).tr (FrL_sF (by decide))
    refine wpO_b (hF _ p (he.fr f2) (v.1.go hq1)) (fun _ σ3 x => ?_)
    refine wpO_b (RF.add x.2) (fun _ σ4 y => ?_)
    exact wpO_b (y.1.lead n2) (fun _ σ5 z => wpO_some.mpr ⟨((f2.tr x.1).tr y.2).tr z.2, z.1⟩)
  | ok r =>
    rw [e] at w2
    have w2 : RS σ1 len r.1 (c ++ r.2) := w2
    have g := hG _ _ e
    refine wpO_e (next_is he1 w2.1 w2.2.2.2.2) ?_
    have e63 := nxI_eq (q := r.1) (n := 63) he.le (by omega) (by omega)
    by_cases c2 : tnx T len r.1 = 63
    · have hq1 : r.1 < len := tnx_lt (T := T) (len := len) (q := r.1) (by rw [c2]; omega)
      refine wpO_t (e63.mpr c2) ?_
      refine wpO_e (show g_X3_steps 1 σ1 = some (nI (c ++ r.2).length, σ1) by unfold g_X3_steps; show some (σ1.1 3 1 4, σ1) = _; rw [w2.2.2.1.1]) ?_
      refine wpO_b (RLn.add (s := 63) (v := 0) w2 hb) (fun _ σ2 v => wpO_lt ?_)
      rw [pl1 v.1.1]
      have f2 : FrL ST σ (sF σ2 7 0 2 (nI (r.1 + 1))) := (w.1.tr v.2).tr (FrL_sF (by decide))
      refine wpO_b (hP _ (r.1 + 1) _ (he.fr f2) (v.1.go hq1)) (fun _ σ3 x => ?_)
      have x2 := x.2
      have f3 := f2.tr x.1
      show wpO _ (fun _ σ9 => MRl σ len c (if tnx T len r.1 = 63 then _ else _) σ9)
      rw [if_pos c2]
      cases e2 : PE (tnx T len) (r.1 + 1) with
      | error p =>
        rw [e2] at x2
        have x2 : RF σ3 len p := x2
        refine wpO_b (RF.add x2) (fun _ σ4 y => ?_)
        exact wpO_b (y.1.lead (by have := w2.2.2.2.1; omega)) (fun _ σ5 z => wpO_some.mpr ⟨(f3.tr y.2).tr z.2, z.1⟩)
      | ok r2 =>
        rw [e2] at x2
        have x2 : RS σ3 len r2.1 (c ++ r.2 ++ [(63, 0)] ++ r2.2) := x2
        refine wpO_b (RLn.add (s := 59) (v := 0) x2 hb) (fun _ σ4 y => ?_)
        have y1 := y.1
        have ey : c ++ r.2 ++ [(63, 0)] ++ r2.2 ++ [(59, 0)] = (c ++ r.2) ++ (63, 0) :: (r2.2 ++ [(59, 0)]) := by
          rw [List.append_assoc (c ++ r.2), List.append_assoc (c ++ r.2)]; rfl
        rw [ey] at y1
        refine wpO_b (lead_is hb y1) (fun _ σ5 z => wpO_some.mpr ⟨(f3.tr y.2).tr z.2, ?_⟩)
        have z1 := z.1
        show RLn σ5 len r2.1 (c ++ ((r.2 ++ (63, c.length + (r.2 ++ [(63, 0)] ++ r2.2 ++ [(59, 0)]).length) :: r2.2) ++ [(59, 0)]))
        have ez : (c ++ r.2 ++ (63, 0) :: (r2.2 ++ [(59, 0)])).length = c.length + (r.2 ++ [(63, 0)] ++ r2.2 ++ [(59, 0)]).length := by
          rw [← ey, List.append_assoc c, List.append_assoc c, List.append_assoc c, List.length_append]
        rw [ez, List.append_assoc c, ← List.cons_append, ← List.append_assoc r.2] at z1
        exact z1
    · refine wpO_f (fun z => c2 (e63.mp z)) (wpO_b (RLn.add (s := 59) (v := 0) w2 hb) (fun _ σ2 v => wpO_some.mpr ⟨w.1.tr v.2, ?_⟩))
      show match (if tnx T len r.1 = 63 then (match PE (tnx T len) (r.1 + 1) with | .error p => Except.error p | .ok r2 => .ok (r2.1, ((some r.2 : Option CODE), r2.2))) else Except.ok (r.1, ((none : Option CODE), r.2)) : Except Nat (Nat × LINE)) with | .ok r => RLn σ2 len r.1 (c ++ cLine c.length r.2) | .error p => RF σ2 len p
      rw [if_neg c2]
      have v1 := v.1
      rw [List.append_assoc] at v1
      exact v1
end TC5
