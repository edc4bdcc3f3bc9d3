/-! THE LAW's text: one parser for both; code is a list of steps (sign, value) -/
abbrev CODE : Type := List (Nat × Nat)
abbrev PRS : Type := Nat → Except Nat (Nat × CODE)
def tOf (c : Nat) : Nat := if c = 124 then 1 else if c = 38 then 2 else if c = 60 then 3 else if c = 61 then 3 else if c = 62 then 3 else if c = 43 then 4 else if c = 45 then 4 else if c = 42 then 5 else if c = 47 then 5 else if c = 37 then 5 else 0
def nOf (c : Nat) : Nat := if c = 115 then 1 else if c = 112 then 2 else if c = 114 then 3 else if c = 105 then 4 else if c = 106 then 5 else if c = 122 then 6 else if c = 109 then 7 else if c = 99 then 8 else if c = 104 then 9 else 0
def isOp (c : Nat) : Bool := c == 33 || c == 45 || c == 40
def isDg (c : Nat) : Bool := Nat.ble 48 c && Nat.ble c 57
def pNum (nx : Nat → Nat) : Nat → Nat → Nat → Nat × Nat
  | 0, v, q => (q, v)
  | k + 1, v, q => if isDg (nx q) then pNum nx k (10 * v + (nx q - 48)) (q + 1) else (q, v)
def pOne (nx : Nat → Nat) (deep : Option (PRS × PRS)) : PRS := fun q =>
  if isOp (nx q) then
    match deep with
    | none => .error q
    | some d =>
      if nx q = 40 then
        match d.1 (q + 1) with
        | .error p => .error p
        | .ok r => if nx r.1 = 41 then .ok (r.1 + 1, r.2) else .error r.1
      else
        match d.2 (q + 1) with
        | .error p => .error p
        | .ok r => .ok (r.1, r.2 ++ [(if nx q = 33 then 33 else 126, 0)])
  else if nOf (nx q) ≠ 0 then .ok (q + 1, [(110, nOf (nx q) - 1)])
  else if isDg (nx q) then .ok ((pNum nx 4 0 q).1, [(35, (pNum nx 4 0 q).2)])
  else .error q
def pLoop (nx : Nat → Nat) (t : Nat) (sub : PRS) : Nat → Nat → CODE → Except Nat (Nat × CODE)
  | 0, q, c => .ok (q, c)
  | f + 1, q, c =>
    if tOf (nx q) = t + 1 then
      match sub (q + 1) with
      | .error p => .error p
      | .ok r => pLoop nx t sub f r.1 (c ++ r.2 ++ [(nx q, 0)])
    else .ok (q, c)
def pLev (nx : Nat → Nat) (t : Nat) (sub : PRS) : PRS := fun q =>
  match sub q with
  | .error p => .error p
  | .ok r => pLoop nx t sub (if t = 2 then 1 else 120) r.1 r.2
/-- the levels: 0 either, 1 both, 2 compared, 3 sums, 4 product -/
def pL4 (nx : Nat → Nat) (o : PRS) : PRS := pLev nx 4 o
def pL3 (nx : Nat → Nat) (o : PRS) : PRS := pLev nx 3 (pL4 nx o)
def pL2 (nx : Nat → Nat) (o : PRS) : PRS := pLev nx 2 (pL3 nx o)
def pL1 (nx : Nat → Nat) (o : PRS) : PRS := pLev nx 1 (pL2 nx o)
def pL0 (nx : Nat → Nat) (o : PRS) : PRS := pLev nx 0 (pL1 nx o)
/-- by how many may still be opened: (E, O) -/
def pP (nx : Nat → Nat) : Nat → PRS × PRS
  | 0 => (pL0 nx (pOne nx none), pOne nx none)
  | k + 1 => (pL0 nx (pOne nx (some (pP nx k))), pOne nx (some (pP nx k)))
/-! what code does on a stack -/
def jn (op : Nat) (a b : Int32) : Int32 :=
  if op = 37 then (if b = 0 then 0 else rmi a b)
  else if op = 38 then (if a = 0 then 0 else if b = 0 then 0 else 1)
  else if op = 42 then a * b
  else if op = 43 then a + b
  else if op = 45 then a - b
  else if op = 47 then (if b = 0 then 0 else a / b)
  else if op = 60 then (if a < b then 1 else 0)
  else if op = 61 then (if a = b then 1 else 0)
  else if op = 62 then (if b < a then 1 else 0)
  else if op = 124 then (if a = 0 then (if b = 0 then 0 else 1) else 1)
  else 0
def exo (e : Nat → Int32) (op v : Nat) (st : List Int32) : List Int32 :=
  if op = 33 then (match st with | a :: r => (if a = 0 then 1 else 0) :: r | [] => [])
  else if op = 35 then nI v :: st
  else if op = 110 then e v :: st
  else if op = 126 then (match st with | a :: r => (-a) :: r | [] => [])
  else (match st with | b :: a :: r => jn op a b :: r | _ => [])
def ex (e : Nat → Int32) : CODE → List Int32 → List Int32
  | [], st => st
  | q :: c, st => ex e c (exo e q.1 q.2 st)
theorem ex_app (e : Nat → Int32) : ∀ (c1 c2 : CODE) (st : List Int32), ex e (c1 ++ c2) st = ex e c2 (ex e c1 st)
  | [], _, _ => rfl
  | q :: c1, c2, st => ex_app e c1 c2 (exo e q.1 q.2 st)
def evc (e : Nat → Int32) (c : CODE) : Int32 := (ex e c []).headD 0
/-- an expression's code puts one number on the stack; no test or answer stands in it; names are known ones -/
def okS (q : Nat × Nat) : Prop := (q.1 = 33 ∨ q.1 = 35 ∨ q.1 = 126 ∨ (q.1 = 110 ∧ q.2 < 9) ∨ tOf q.1 ≠ 0) ∧ q.2 < 10000
/-- heights of the stack: none where it would be too low -/
def hg : CODE → Nat → Option Nat
  | [], n => some n
  | q :: c, n => if q.1 = 35 then hg c (n + 1) else if q.1 = 110 then hg c (n + 1) else if q.1 = 33 then (if n = 0 then none else hg c n) else if q.1 = 126 then (if n = 0 then none else hg c n) else (if n < 2 then none else hg c (n - 1))
theorem hg_app : ∀ (c1 c2 : CODE) (n m : Nat), hg c1 n = some m → hg (c1 ++ c2) n = hg c2 m
  | [], c2, n, m, h => by cases h; rfl
  | q :: c1, c2, n, m, h => by
    have k := hg_app c1 c2
    have k := fun n h => k n m h
    show hg (q :: (c1 ++ c2)) n = _
    generalize hg c2 m = z at k ⊢
    unfold hg at h ⊢
    by_cases h1 : q.1 = 35
    · rw [if_pos h1] at h ⊢; exact k _ h
    rw [if_neg h1] at h ⊢
    by_cases h2 : q.1 = 110
    · rw [if_pos h2] at h ⊢; exact k _ h
    rw [if_neg h2] at h ⊢
    by_cases h3 : q.1 = 33
    · rw [if_pos h3] at h ⊢
      by_cases h5 : n = 0
      · rw [if_pos h5] at h; cases h
      · rw [if_neg h5] at h ⊢; exact k _ h
    rw [if_neg h3] at h ⊢
    by_cases h4 : q.1 = 126
    · rw [if_pos h4] at h ⊢
      by_cases h5 : n = 0
      · rw [if_pos h5] at h; cases h
      · rw [if_neg h5] at h ⊢; exact k _ h
    rw [if_neg h4] at h ⊢
    by_cases h5 : n < 2
    · rw [if_pos h5] at h; cases h
    · rw [if_neg h5] at h ⊢; exact k _ h
def IsE (c : CODE) : Prop := (∀ e st, ex e c st = evc e c :: st) ∧ (∀ q ∈ c, okS q) ∧ ∀ n, hg c n = some (n + 1)
theorem IsE.of {c : CODE} {f : (Nat → Int32) → Int32} (h : ∀ e st, ex e c st = f e :: st) (h2 : ∀ q ∈ c, okS q) (h3 : ∀ n, hg c n = some (n + 1)) : IsE c ∧ ∀ e, evc e c = f e := by
  have k : ∀ e, evc e c = f e := fun e => by unfold evc; rw [h]; rfl
  exact ⟨⟨fun e st => by rw [h, k], h2, h3⟩, k⟩
theorem IsE.num {v : Nat} (hv : v < 10000) : IsE [(35, v)] ∧ ∀ e, evc e [(35, v)] = nI v := IsE.of (fun e st => rfl) (fun q hq => by rw [List.mem_singleton.mp hq]; exact ⟨Or.inr (Or.inl rfl), hv⟩) (fun n => rfl)
theorem IsE.name {v : Nat} (hv : v < 9) : IsE [(110, v)] ∧ ∀ e, evc e [(110, v)] = e v := IsE.of (fun e st => rfl) (fun q hq => by rw [List.mem_singleton.mp hq]; exact ⟨Or.inr (Or.inr (Or.inr (Or.inl ⟨rfl, hv⟩))), Nat.lt_trans hv (by omega)⟩) (fun n => rfl)
theorem IsE.deny {c : CODE} (h : IsE c) : IsE (c ++ [(33, 0)]) ∧ ∀ e, evc e (c ++ [(33, 0)]) = if evc e c = 0 then 1 else 0 :=
  IsE.of (fun e st => by rw [ex_app, h.1]; rfl) (fun q hq => by
    rcases List.mem_append.mp hq with a | a
    · exact h.2.1 q a
    · rw [List.mem_singleton.mp a]; exact ⟨Or.inl rfl, by show 0 < 10000; omega⟩) (fun n => by rw [hg_app _ _ _ _ (h.2.2 n)]; rfl)
theorem IsE.less {c : CODE} (h : IsE c) : IsE (c ++ [(126, 0)]) ∧ ∀ e, evc e (c ++ [(126, 0)]) = -evc e c :=
  IsE.of (fun e st => by rw [ex_app, h.1]; rfl) (fun q hq => by
    rcases List.mem_append.mp hq with a | a
    · exact h.2.1 q a
    · rw [List.mem_singleton.mp a]; exact ⟨Or.inr (Or.inr (Or.inl rfl)), by show 0 < 10000; omega⟩) (fun n => by rw [hg_app _ _ _ _ (h.2.2 n)]; rfl)
theorem tOf_ne {op : Nat} (h : tOf op ≠ 0) : op ≠ 33 ∧ op ≠ 35 ∧ op ≠ 110 ∧ op ≠ 126 ∧ op ≠ 59 ∧ op ≠ 63 := by
  refine ⟨?_, ?_, ?_, ?_, ?_, ?_⟩ <;> (intro e; subst e; exact h rfl)
theorem IsE.bin {c1 c2 : CODE} {op : Nat} (h1 : IsE c1) (h2 : IsE c2) (ho : tOf op ≠ 0) : IsE (c1 ++ c2 ++ [(op, 0)]) ∧ ∀ e, evc e (c1 ++ c2 ++ [(op, 0)]) = jn op (evc e c1) (evc e c2) := by
  obtain ⟨a, b, c, d, -, -⟩ := tOf_ne ho
  refine IsE.of (fun e st => ?_) (fun q hq => ?_) (fun n => ?_)
  · rw [ex_app, ex_app, h1.1, h2.1]
    show exo e op 0 _ = _
    unfold exo
    rw [if_neg a, if_neg b, if_neg c, if_neg d]
  · rcases List.mem_append.mp hq with z | z
    · rcases List.mem_append.mp z with z | z
      · exact h1.2.1 q z
      · exact h2.2.1 q z
    · rw [List.mem_singleton.mp z]; exact ⟨Or.inr (Or.inr (Or.inr (Or.inr ho))), by show 0 < 10000; omega⟩
  · rw [hg_app _ _ _ (n + 2) (by rw [hg_app _ _ _ _ (h1.2.2 n)]; exact h2.2.2 _)]
    unfold hg
    rw [if_neg b, if_neg c, if_neg a, if_neg d, if_neg (by omega)]
    rfl
/-! what the parser gives: it goes on, stays within the text, its code is an expression's and no longer than what was read -/
def tnx (T : Nat → Nat) (len : Nat) : Nat → Nat := fun q => if q < len then T q else 0
def Good (len : Nat) (P : PRS) : Prop := ∀ q r, P q = .ok r → q + 1 ≤ r.1 ∧ r.1 ≤ len ∧ r.2.length + q ≤ r.1 ∧ IsE r.2
section TG
variable {T : Nat → Nat} {len : Nat}
theorem tnx_lt {q : Nat} (h : tnx T len q ≠ 0) : q < len := by
  unfold tnx at h; split at h
  · assumption
  · exact absurd rfl h
theorem pNum_lem : ∀ (k v q : Nat), q ≤ len → q ≤ (pNum (tnx T len) k v q).1 ∧ (pNum (tnx T len) k v q).1 ≤ len ∧ (pNum (tnx T len) k v q).2 < 10 ^ k * (v + 1)
  | 0, v, q, h => ⟨Nat.le_refl q, h, by show v < 10 ^ 0 * (v + 1); omega⟩
  | k + 1, v, q, h => by
    unfold pNum
    by_cases c : isDg (tnx T len q) = true
    · rw [if_pos c]
      have hq : q < len := tnx_lt (fun z => by rw [z] at c; exact absurd c (by decide))
      obtain ⟨a, b, d⟩ := pNum_lem k (10 * v + (tnx T len q - 48)) (q + 1) (by omega)
      refine ⟨by omega, b, Nat.lt_of_lt_of_le d ?_⟩
      have h9 : tnx T len q - 48 ≤ 9 := by
        unfold isDg at c
        simp only [Bool.and_eq_true, Nat.ble_eq] at c
        omega
      have : 10 ^ (k + 1) = 10 ^ k * 10 := Nat.pow_succ 10 k
      rw [this, Nat.mul_assoc]
      exact Nat.mul_le_mul_left _ (by omega)
    · rw [if_neg c]
      refine ⟨Nat.le_refl q, h, ?_⟩
      have h1 : 1 ≤ 10 ^ (k + 1) := Nat.one_le_pow _ _ (by omega)
      calc v < 1 * (v + 1) := by omega
        _ ≤ 10 ^ (k + 1) * (v + 1) := Nat.mul_le_mul_right _ h1
theorem nOf_lt (c : Nat) : nOf c ≤ 9 := by unfold nOf; repeat' split
                                           all_goals omega
theorem pOne_good {deep : Option (PRS × PRS)} (hd : ∀ d, deep = some d → Good len d.1 ∧ Good len d.2) : Good len (pOne (tnx T len) deep) := by
  intro q r h
  unfold pOne at h
  by_cases c1 : isOp (tnx T len q) = true
  · have hq : q < len := tnx_lt (fun z => by rw [z] at c1; exact absurd c1 (by decide))
    rw [if_pos c1] at h
    cases deep with
    | none => cases h
    | some d =>
      obtain ⟨g1, g2⟩ := hd d rfl
      dsimp only at h
      by_cases c2 : tnx T len q = 40
      · rw [if_pos c2] at h
        cases e : d.1 (q + 1) with
        | error p => rw [e] at h; cases h
        | ok r1 =>
          rw [e] at h
          dsimp only at h
          obtain ⟨a1, a2, a3, a4⟩ := g1 _ _ e
          by_cases c3 : tnx T len r1.1 = 41
          · rw [if_pos c3] at h
            cases h
            have := tnx_lt (T := T) (len := len) (q := r1.1) (by rw [c3]; omega)
            exact ⟨by show q + 1 ≤ r1.1 + 1; omega, by show r1.1 + 1 ≤ len; omega, by show r1.2.length + q ≤ r1.1 + 1; omega, a4⟩
          · rw [if_neg c3] at h; cases h
      · rw [if_neg c2] at h
        cases e : d.2 (q + 1) with
        | error p => rw [e] at h; cases h
        | ok r1 =>
          rw [e] at h
          cases h
          obtain ⟨a1, a2, a3, a4⟩ := g2 _ _ e
          refine ⟨by show q + 1 ≤ r1.1; omega, a2, ?_, ?_⟩
          · show (r1.2 ++ [_]).length + q ≤ r1.1
            rw [List.length_append]
            show r1.2.length + 1 + q ≤ r1.1
            omega
          · show IsE (r1.2 ++ [(if tnx T len q = 33 then 33 else 126, 0)])
            by_cases c3 : tnx T len q = 33
            · rw [if_pos c3]; exact a4.deny.1
            · rw [if_neg c3]; exact a4.less.1
  · rw [if_neg c1] at h
    by_cases c2 : nOf (tnx T len q) ≠ 0
    · have hq : q < len := tnx_lt (fun z => c2 (by rw [z]; rfl))
      rw [if_pos c2] at h
      cases h
      have := nOf_lt (tnx T len q)
      exact ⟨Nat.le_refl _, by show q + 1 ≤ len; omega, by show 1 + q ≤ q + 1; omega, (IsE.name (by omega)).1⟩
    · rw [if_neg c2] at h
      by_cases c3 : isDg (tnx T len q) = true
      · have hq : q < len := tnx_lt (fun z => by rw [z] at c3; exact absurd c3 (by decide))
        rw [if_pos c3] at h
        cases h
        obtain ⟨a, b, d⟩ := pNum_lem (T := T) (len := len) 4 0 q (by omega)
        have e : q + 1 ≤ (pNum (tnx T len) 4 0 q).1 := by
          unfold pNum
          rw [if_pos c3]
          exact (pNum_lem (T := T) (len := len) 3 _ (q + 1) (by omega)).1
        exact ⟨e, b, by show 1 + q ≤ (pNum (tnx T len) 4 0 q).1; omega, (IsE.num d).1⟩
      · rw [if_neg c3] at h; cases h
theorem tOf0 : tOf 0 = 0 := rfl
theorem pLoop_good {t : Nat} {sub : PRS} (hs : Good len sub) : ∀ (f q q0 : Nat) (c : CODE) (r : Nat × CODE), pLoop (tnx T len) t sub f q c = .ok r → q0 + 1 ≤ q → q ≤ len → c.length + q0 ≤ q → IsE c → q0 + 1 ≤ r.1 ∧ r.1 ≤ len ∧ r.2.length + q0 ≤ r.1 ∧ IsE r.2
  | 0, q, q0, c, r, h, h1, h2, h3, h4 => by cases h; exact ⟨h1, h2, h3, h4⟩
  | f + 1, q, q0, c, r, h, h1, h2, h3, h4 => by
    unfold pLoop at h
    by_cases ct : tOf (tnx T len q) = t + 1
    · rw [if_pos ct] at h
      cases e : sub (q + 1) with
      | error p => rw [e] at h; cases h
      | ok r1 =>
        rw [e] at h
        obtain ⟨a1, a2, a3, a4⟩ := hs _ _ e
        refine pLoop_good hs f r1.1 q0 _ r h (by omega) a2 ?_ (h4.bin a4 (by omega)).1
        rw [List.length_append, List.length_append]
        show c.length + r1.2.length + 1 + q0 ≤ r1.1
        omega
    · rw [if_neg ct] at h; cases h; exact ⟨h1, h2, h3, h4⟩
theorem pLev_good {t : Nat} {sub : PRS} (hs : Good len sub) : Good len (pLev (tnx T len) t sub) := by
  intro q r h
  unfold pLev at h
  cases e : sub q with
  | error p => rw [e] at h; cases h
  | ok r1 =>
    rw [e] at h
    obtain ⟨a1, a2, a3, a4⟩ := hs _ _ e
    exact pLoop_good hs _ _ q _ _ h a1 a2 a3 a4
theorem pP_good : ∀ k, Good len (pP (tnx T len) k).1 ∧ Good len (pP (tnx T len) k).2
  | 0 => by
    have h := pOne_good (T := T) (len := len) (deep := none) (fun d h => by cases h)
    exact ⟨pLev_good (pLev_good (pLev_good (pLev_good (pLev_good h)))), h⟩
  | k + 1 => by
    have h := pOne_good (T := T) (len := len) (deep := some (pP (tnx T len) k)) (fun d h => by cases h; exact pP_good k)
    exact ⟨pLev_good (pLev_good (pLev_good (pLev_good (pLev_good h)))), h⟩
end TG
