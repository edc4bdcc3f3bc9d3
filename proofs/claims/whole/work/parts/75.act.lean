/-! acts -/
def cdT : List Nat := [1, 10, 11, 2, 20, 0, 0, 0, 0, 30, 0, 0, 0, 41, 40, 0, 0, 0, 50, 0, 0, 0, 0, 60, 70, 0, 0, 0, 0, 80, 0, 81]
def cd (h a : Nat) : Nat := cdT.getD (h * 4 + a) 0
/-- the kind whose body of an act a kind runs -/
def hol (a k : Nat) : Nat := if cd k a ≠ 0 then k else if cd (abv k) a ≠ 0 then abv k else if cd (abv (abv k)) a ≠ 0 then abv (abv k) else abv (abv (abv k))
abbrev OA : Type := Option (Int32 × List Nat)
def un (c : Nat) (q : OA) (k : Int32 → Int32) : OA := q.bind fun p => some (k p.1, c :: p.2)
def bi (c : Nat) (q1 q2 : OA) (k : Int32 → Int32 → Int32) : OA := q1.bind fun p1 => q2.bind fun p2 => some (k p1.1 p2.1, c :: (p1.2 ++ p2.2))
theorem un_some {c : Nat} {q : OA} {k : Int32 → Int32} {r : Int32} {l : List Nat} (h : un c q k = some (r, l)) : ∃ r1 l1, q = some (r1, l1) ∧ r = k r1 ∧ l = c :: l1 := by
  unfold un at h
  rcases q with _ | ⟨r1, l1⟩
  · exact absurd h (by simp)
  · have := Prod.mk.inj (Option.some.inj h)
    exact ⟨r1, l1, rfl, this.1.symm, this.2.symm⟩
theorem bi_some {c : Nat} {q1 q2 : OA} {k : Int32 → Int32 → Int32} {r : Int32} {l : List Nat} (h : bi c q1 q2 k = some (r, l)) : ∃ r1 l1 r2 l2, q1 = some (r1, l1) ∧ q2 = some (r2, l2) ∧ r = k r1 r2 ∧ l = c :: (l1 ++ l2) := by
  unfold bi at h
  rcases q1 with _ | ⟨r1, l1⟩
  · exact absurd h (by simp)
  · rcases q2 with _ | ⟨r2, l2⟩
    · exact absurd h (by simp)
    · have := Prod.mk.inj (Option.some.inj h)
      exact ⟨r1, l1, r2, l2, rfl, rfl, this.1.symm, this.2.symm⟩
def evB (go : Nat → Nat → Int32 → OA) (own b : Nat) (x : Int32) : Nat → Nat → OA
  | 0, 0 => some (x + nI b, [1])
  | 0, 1 => un 10 (go 0 own x) (fun r => r * 2)
  | 0, 2 => some (x ^^^ nI b, [11])
  | 0, 3 => bi 2 (go 1 own x) (go 2 own 1) (fun p q => p - q)
  | 1, 0 => un 20 (go 0 0 x) (fun r => r + 3)
  | 2, 1 => un 30 (go 1 0 x) (fun r => -r)
  | 3, 1 => un 41 (go 1 2 (x + 1)) (fun r => r)
  | 3, 2 => un 40 (go 2 2 x) (fun r => r * 3)
  | 4, 2 => bi 50 (go 2 1 x) (go 0 own 2) (fun p q => p - q)
  | 5, 3 => un 60 (go 3 3 x) (fun r => r ^^^ 5)
  | 6, 0 => un 70 (go 0 0 x) (fun r => r * 2)
  | 7, 1 => bi 80 (go 1 4 x) (go 2 own 2) (fun p q => p + q)
  | 7, 3 => un 81 (go 3 4 x) (fun r => r - 1)
  | _, _ => none
def ev (own b : Nat) : Nat → Nat → Nat → Int32 → OA
  | 0, _, _, _ => none
  | f + 1, a, k, x => evB (ev own b f) own b x (hol a k) a
theorem ev_all (own b a : Nat) (x : Int32) (h1 : own < 8) (h2 : a < 4) : ∃ r l, ev own b 30 a own x = some (r, l) ∧ l.length ≤ 1000 := by
  have a1 : own = 0 ∨ own = 1 ∨ own = 2 ∨ own = 3 ∨ own = 4 ∨ own = 5 ∨ own = 6 ∨ own = 7 := by omega
  have a2 : a = 0 ∨ a = 1 ∨ a = 2 ∨ a = 3 := by omega
  rcases a1 with rfl | rfl | rfl | rfl | rfl | rfl | rfl | rfl <;> rcases a2 with rfl | rfl | rfl | rfl <;> exact ⟨_, _, rfl, Nat.le_of_ble_eq_true rfl⟩
/-- what the trace holds -/
def CH (c kf ka : Nat) (σ0 σ : AS) (l : List Nat) : Prop := FrL [(c, 0, kf), (c, 0, ka)] σ0 σ ∧ σ.1 c 0 kf = nI l.length ∧ ∀ i, i < l.length → i < 24 → σ.2.1 c 0 ka i = nI (l[i]?.getD 0)
theorem CH.step {c kf ka : Nat} {σ0 σ σ1 : AS} {l : List Nat} {x : Nat} (h : CH c kf ka σ0 σ l) (f : FrL [(c, 0, kf), (c, 0, ka)] σ σ1) (h1 : σ1.1 c 0 kf = nI (l.length + 1)) (h2 : ∀ i, i < 24 → σ1.2.1 c 0 ka i = if i = l.length then nI x else σ.2.1 c 0 ka i) : CH c kf ka σ0 σ1 (l ++ [x]) := by
  obtain ⟨a1, a2, a3⟩ := h
  refine ⟨a1.tr f, by rw [h1, List.length_append]; rfl, fun i hi h24 => ?_⟩
  rw [List.length_append] at hi
  have hi : i < l.length + 1 := hi
  rw [h2 i h24]
  by_cases e : i = l.length
  · subst e; rw [if_pos rfl, List.getElem?_append_right (Nat.le_refl _), Nat.sub_self]; rfl
  · rw [if_neg e, List.getElem?_append_left (by omega)]; exact a3 i (by omega) h24
theorem beginC {σ0 σ : AS} {l : List Nat} {x : Nat} (h : CH 2 3 1 σ0 σ l) (hl : l.length < 2 ^ 30) : wpO (g_X2_begin (nI x) σ) (fun _ σ1 => CH 2 3 1 σ0 σ1 (l ++ [x])) := by
  have e3 : gF σ 2 0 3 = nI l.length := h.2.1
  unfold g_X2_begin g_X2_begin_19
  rw [e3]
  by_cases c : l.length < 24
  · refine wpO_t (show nI l.length < nI 24 from nI_lt c (by omega)) (wpO_t (inb_nI c (by omega)) (wpO_lt (wpO_lt (wpO_some.mpr (h.step ((FrL_sA (by decide)).tr (FrL_sF (by decide))) ?_ (fun i hi => ?_))))))
    · show σ.1 2 0 3 + 1 = _; rw [h.2.1, nI_1]
    · show (if i = (nI l.length).toNatClampNeg then nI x else σ.2.1 2 0 1 i) = _
      rw [nI_clamp (by omega)]
  · refine wpO_f (show ¬ nI l.length < nI 24 from nI_nlt (by omega) (by omega)) (wpO_lt (wpO_some.mpr (h.step (FrL_sF (by decide)) ?_ (fun i hi => ?_))))
    · show nI l.length + 1 = _; rw [nI_1]
    · rw [if_neg (by omega)]; rfl
theorem beginM {σ0 σ : AS} {l : List Nat} {x : Nat} (h : CH 9 47 46 σ0 σ l) (hl : l.length < 2 ^ 30) : wpO (g_X9_begins (nI x) σ) (fun _ σ1 => CH 9 47 46 σ0 σ1 (l ++ [x])) := by
  have e3 : gF σ 9 0 47 = nI l.length := h.2.1
  unfold g_X9_begins g_X9_begins_19
  rw [e3]
  by_cases c : l.length < 24
  · refine wpO_t (show nI l.length < nI 24 from nI_lt c (by omega)) (wpO_t (inb_nI c (by omega)) (wpO_lt (wpO_lt (wpO_some.mpr (h.step ((FrL_sA (by decide)).tr (FrL_sF (by decide))) ?_ (fun i hi => ?_))))))
    · show σ.1 9 0 47 + 1 = _; rw [h.2.1, nI_1]
    · show (if i = (nI l.length).toNatClampNeg then nI x else σ.2.1 9 0 46 i) = _
      rw [nI_clamp (by omega)]
  · refine wpO_f (show ¬ nI l.length < nI 24 from nI_nlt (by omega) (by omega)) (wpO_lt (wpO_some.mpr (h.step (FrL_sF (by decide)) ?_ (fun i hi => ?_))))
    · show nI l.length + 1 = _; rw [nI_1]
    · rw [if_neg (by omega)]; rfl
theorem ap1 {l m : List Nat} {c : Nat} : (l ++ [c]) ++ m = l ++ (c :: m) := by rw [List.append_assoc]; rfl
theorem ap2 {l m p : List Nat} {c : Nat} : ((l ++ [c]) ++ m) ++ p = l ++ (c :: (m ++ p)) := by rw [List.append_assoc, List.append_assoc]; rfl
theorem holC (σ : AS) {a k : Nat} (h1 : a < 4) (h2 : k < 8) : g_X2_holderOf (nI a) (nI k) σ = some (nI (hol a k), σ) := by
  have a1 : k = 0 ∨ k = 1 ∨ k = 2 ∨ k = 3 ∨ k = 4 ∨ k = 5 ∨ k = 6 ∨ k = 7 := by omega
  have a2 : a = 0 ∨ a = 1 ∨ a = 2 ∨ a = 3 := by omega
  rcases a1 with rfl | rfl | rfl | rfl | rfl | rfl | rfl | rfl <;> rcases a2 with rfl | rfl | rfl | rfl <;> rfl
theorem hol_t : ∀ a, a < 4 → ∀ k, k < 8 → hol a k < 8 ∧ cd (hol a k) a ≠ 0 := by decide
theorem st1_t : ∀ h, h < 8 → ∀ a, a < 4 → am_st 1 (h * 4 + a) = nI (cd h a) := by decide
theorem len1 {l m : List Nat} {c : Nat} (h : l.length + (c :: m).length < 2 ^ 30) : (l ++ [c]).length + m.length < 2 ^ 30 := by
  rw [List.length_append]; rw [List.length_cons] at h; rw [List.length_singleton]; omega
theorem len2 {l m p : List Nat} {c : Nat} (h : l.length + (c :: (m ++ p)).length < 2 ^ 30) : (l ++ [c]).length + m.length < 2 ^ 30 ∧ ((l ++ [c]) ++ m).length + p.length < 2 ^ 30 := by
  rw [List.length_append, List.length_append, List.length_singleton]; rw [List.length_cons, List.length_append] at h; rw [List.length_append, List.length_singleton]; omega
theorem len0 {l m : List Nat} (h : l.length + m.length < 2 ^ 30) : l.length < 2 ^ 30 := by omega
theorem evC_ok {σ0 : AS} {nb own b : Nat} (h2 : σ0.1 2 0 2 = nI nb) (hnb : nb ≤ 50) (hb : b < nb) (hk0 : σ0.2.1 2 0 0 b = nI own) (ho : own < 8) (h4 : σ0.1 2 0 4 = nI b) :
    ∀ (f e a k d : Nat) (x r : Int32) (l' : List Nat), a < 4 → k < 8 → d + f ≤ 41 → ev own b f a k x = some (r, l') → ∀ (σ : AS) (l : List Nat), CH 2 3 1 σ0 σ l → l.length + l'.length < 2 ^ 30 →
      wpO (gr0 (f + e) (nI a) (nI k) x (nI d) σ) (fun r' σ1 => r' = r ∧ CH 2 3 1 σ0 σ1 (l ++ l')) := by
  intro f
  induction f with
  | zero => intro e a k d x r l' _ _ _ h; exact absurd h (by simp [ev])
  | succ f ih =>
    intro e a k d x r l' ha hk hd h σ l hc hl
    rw [show f + 1 + e = (f + e) + 1 from by omega]
    show wpO (gb_X2_perform (gr0 (f + e)) (nI a) (nI k) x (nI d) σ) _
    obtain ⟨t1, t2⟩ := hol_t a ha k hk
    rw [ev] at h
    have hol_e := holC σ ha hk
    generalize hol a k = hh at *
    have eK : g_X2_isKind (nI hh) σ = some (1, σ) := by
      unfold g_X2_isKind
      rw [if_neg (nI_pos (by omega)), if_pos (show nI hh < 8 from show nI hh < nI 8 from nI_lt t1 (by omega))]
    have eKd : g_X2_kindOf (gF σ 2 0 4) σ = some (nI own, σ) := by
      rw [show gF σ 2 0 4 = nI b from (hc.1.f 2 0 4 (by decide)).trans h4]
      unfold g_X2_kindOf
      rw [hasB_eq (n := nb) ((hc.1.f 2 0 2 (by decide)).trans h2) hnb, if_pos (inb_nI hb (by omega)), bnd_some, if_neg one_ne, if_pos (inb_nI (by omega) (by omega)), gA_nI (by omega), hc.1.a 2 0 0 (by decide), hk0]
    have e1 : nI hh * 4 + nI a = nI (hh * 4 + a) := by rw [li4, pk_mul, nI_add]
    unfold gb_X2_perform
    refine wpO_e hol_e (wpO_e eK (wpO_f one_ne (wpO_f (show ¬ nI 40 < nI d from nI_nlt (by omega) (by omega)) (wpO_e eKd (wpO_t (inb_nI t1 (by omega)) (wpO_lt ?_))))))
    rw [e1]
    refine wpO_t (inb_nI (by omega) (by omega)) (wpO_lt (wpO_lt ?_))
    rw [nI_clamp (show hh * 4 + a < 2 ^ 31 by omega), nI_clamp (show hh < 2 ^ 31 by omega), st1_t hh t1 a ha, nI_1]
    refine wpO_b (beginC hc (len0 hl)) (fun _ σ1 w => ?_)
    have g4 : gF σ1 2 0 4 = nI b := (w.1.f 2 0 4 (by decide)).trans h4
    have a1 : hh = 0 ∨ hh = 1 ∨ hh = 2 ∨ hh = 3 ∨ hh = 4 ∨ hh = 5 ∨ hh = 6 ∨ hh = 7 := by omega
    have a2 : a = 0 ∨ a = 1 ∨ a = 2 ∨ a = 3 := by omega
    rcases a1 with rfl | rfl | rfl | rfl | rfl | rfl | rfl | rfl
    · rcases a2 with rfl | rfl | rfl | rfl
      · obtain ⟨q1, q2⟩ := Prod.mk.inj (Option.some.inj (show some (x + nI b, [1]) = some (r, l') from h))
        subst q1; subst q2
        refine wpO_t rfl (wpO_some.mpr ?_)
        rw [g4]; exact ⟨rfl, w⟩
      · obtain ⟨r1, l1, q1, q2, q3⟩ := un_some (show un 10 (ev own b f 0 own x) (fun r => r * 2) = some (r, l') from h)
        subst q2; subst q3
        refine wpO_f (by decide) (wpO_f (by decide) (wpO_t rfl (wpO_b (ih e 0 own (d + 1) _ r1 l1 (by omega) ho (by omega) q1 σ1 _ w (len1 hl)) (fun s2 σ2 w2 => ?_))))
        obtain ⟨rfl, w2⟩ := w2
        refine wpO_some.mpr ⟨rfl, ?_⟩
        rw [ap1] at w2; exact w2
      · obtain ⟨q1, q2⟩ := Prod.mk.inj (Option.some.inj (show some (x ^^^ nI b, [11]) = some (r, l') from h))
        subst q1; subst q2
        refine wpO_f (by decide) (wpO_f (by decide) (wpO_f (by decide) (wpO_t rfl (wpO_some.mpr ?_))))
        rw [g4]; exact ⟨rfl, w⟩
      · obtain ⟨r1, l1, r2, l2, q1, q2, q3, q4⟩ := bi_some (show bi 2 (ev own b f 1 own x) (ev own b f 2 own 1) (fun p q => p - q) = some (r, l') from h)
        subst q3; subst q4
        refine wpO_f (by decide) (wpO_t rfl (wpO_b (ih e 1 own (d + 1) _ r1 l1 (by omega) ho (by omega) q1 σ1 _ w (len2 hl).1) (fun s2 σ2 w2 => ?_)))
        obtain ⟨rfl, w2⟩ := w2
        refine wpO_b (ih e 2 own (d + 1) _ r2 l2 (by omega) ho (by omega) q2 σ2 _ w2 (len2 hl).2) (fun s3 σ3 w3 => ?_)
        obtain ⟨rfl, w3⟩ := w3
        refine wpO_some.mpr ⟨rfl, ?_⟩
        rw [ap2] at w3; exact w3
    · rcases a2 with rfl | rfl | rfl | rfl
      · obtain ⟨r1, l1, q1, q2, q3⟩ := un_some (show un 20 (ev own b f 0 0 x) (fun r => r + 3) = some (r, l') from h)
        subst q2; subst q3
        refine wpO_f (by decide) (wpO_f (by decide) (wpO_f (by decide) (wpO_f (by decide) (wpO_t rfl (wpO_b (ih e 0 0 (d + 1) _ r1 l1 (by omega) (by omega) (by omega) q1 σ1 _ w (len1 hl)) (fun s2 σ2 w2 => ?_))))))
        obtain ⟨rfl, w2⟩ := w2
        refine wpO_some.mpr ⟨rfl, ?_⟩
        rw [ap1] at w2; exact w2
      · exact absurd rfl t2
      · exact absurd rfl t2
      · exact absurd rfl t2
    · rcases a2 with rfl | rfl | rfl | rfl
      · exact absurd rfl t2
      · obtain ⟨r1, l1, q1, q2, q3⟩ := un_some (show un 30 (ev own b f 1 0 x) (fun r => -r) = some (r, l') from h)
        subst q2; subst q3
        refine wpO_f (by decide) (wpO_f (by decide) (wpO_f (by decide) (wpO_f (by decide) (wpO_f (by decide) (wpO_t rfl (wpO_b (ih e 1 0 (d + 1) _ r1 l1 (by omega) (by omega) (by omega) q1 σ1 _ w (len1 hl)) (fun s2 σ2 w2 => ?_)))))))
        obtain ⟨rfl, w2⟩ := w2
        refine wpO_some.mpr ⟨rfl, ?_⟩
        rw [ap1] at w2; exact w2
      · exact absurd rfl t2
      · exact absurd rfl t2
    · rcases a2 with rfl | rfl | rfl | rfl
      · exact absurd rfl t2
      · obtain ⟨r1, l1, q1, q2, q3⟩ := un_some (show un 41 (ev own b f 1 2 (x + 1)) (fun r => r) = some (r, l') from h)
        subst q2; subst q3
        refine wpO_f (by decide) (wpO_f (by decide) (wpO_f (by decide) (wpO_f (by decide) (wpO_f (by decide) (wpO_f (by decide) (wpO_f (by decide) (wpO_t rfl (wpO_b (ih e 1 2 (d + 1) _ r l1 (by omega) (by omega) (by omega) q1 σ1 _ w (len1 hl)) (fun s2 σ2 w2 => ?_)))))))))
        obtain ⟨rfl, w2⟩ := w2
        refine wpO_some.mpr ⟨rfl, ?_⟩
        rw [ap1] at w2; exact w2
      · obtain ⟨r1, l1, q1, q2, q3⟩ := un_some (show un 40 (ev own b f 2 2 x) (fun r => r * 3) = some (r, l') from h)
        subst q2; subst q3
        refine wpO_f (by decide) (wpO_f (by decide) (wpO_f (by decide) (wpO_f (by decide) (wpO_f (by decide) (wpO_f (by decide) (wpO_t rfl (wpO_b (ih e 2 2 (d + 1) _ r1 l1 (by omega) (by omega) (by omega) q1 σ1 _ w (len1 hl)) (fun s2 σ2 w2 => ?_))))))))
        obtain ⟨rfl, w2⟩ := w2
        refine wpO_some.mpr ⟨rfl, ?_⟩
        rw [ap1] at w2; exact w2
      · exact absurd rfl t2
    · rcases a2 with rfl | rfl | rfl | rfl
      · exact absurd rfl t2
      · exact absurd rfl t2
      · obtain ⟨r1, l1, r2, l2, q1, q2, q3, q4⟩ := bi_some (show bi 50 (ev own b f 2 1 x) (ev own b f 0 own 2) (fun p q => p - q) = some (r, l') from h)
        subst q3; subst q4
        refine wpO_f (by decide) (wpO_f (by decide) (wpO_f (by decide) (wpO_f (by decide) (wpO_f (by decide) (wpO_f (by decide) (wpO_f (by decide) (wpO_f (by decide) (wpO_t rfl (wpO_b (ih e 2 1 (d + 1) _ r1 l1 (by omega) (by omega) (by omega) q1 σ1 _ w (len2 hl).1) (fun s2 σ2 w2 => ?_))))))))))
        obtain ⟨rfl, w2⟩ := w2
        refine wpO_b (ih e 0 own (d + 1) _ r2 l2 (by omega) ho (by omega) q2 σ2 _ w2 (len2 hl).2) (fun s3 σ3 w3 => ?_)
        obtain ⟨rfl, w3⟩ := w3
        refine wpO_some.mpr ⟨rfl, ?_⟩
        rw [ap2] at w3; exact w3
      · exact absurd rfl t2
    · rcases a2 with rfl | rfl | rfl | rfl
      · exact absurd rfl t2
      · exact absurd rfl t2
      · exact absurd rfl t2
      · obtain ⟨r1, l1, q1, q2, q3⟩ := un_some (show un 60 (ev own b f 3 3 x) (fun r => r ^^^ 5) = some (r, l') from h)
        subst q2; subst q3
        refine wpO_f (by decide) (wpO_f (by decide) (wpO_f (by decide) (wpO_f (by decide) (wpO_f (by decide) (wpO_f (by decide) (wpO_f (by decide) (wpO_f (by decide) (wpO_f (by decide) (wpO_t rfl (wpO_b (ih e 3 3 (d + 1) _ r1 l1 (by omega) (by omega) (by omega) q1 σ1 _ w (len1 hl)) (fun s2 σ2 w2 => ?_)))))))))))
        obtain ⟨rfl, w2⟩ := w2
        refine wpO_some.mpr ⟨rfl, ?_⟩
        rw [ap1] at w2; exact w2
    · rcases a2 with rfl | rfl | rfl | rfl
      · obtain ⟨r1, l1, q1, q2, q3⟩ := un_some (show un 70 (ev own b f 0 0 x) (fun r => r * 2) = some (r, l') from h)
        subst q2; subst q3
        refine wpO_f (by decide) (wpO_f (by decide) (wpO_f (by decide) (wpO_f (by decide) (wpO_f (by decide) (wpO_f (by decide) (wpO_f (by decide) (wpO_f (by decide) (wpO_f (by decide) (wpO_f (by decide) (wpO_t rfl (wpO_b (ih e 0 0 (d + 1) _ r1 l1 (by omega) (by omega) (by omega) q1 σ1 _ w (len1 hl)) (fun s2 σ2 w2 => ?_))))))))))))
        obtain ⟨rfl, w2⟩ := w2
        refine wpO_some.mpr ⟨rfl, ?_⟩
        rw [ap1] at w2; exact w2
      · exact absurd rfl t2
      · exact absurd rfl t2
      · exact absurd rfl t2
    · rcases a2 with rfl | rfl | rfl | rfl
      · exact absurd rfl t2
      · obtain ⟨r1, l1, r2, l2, q1, q2, q3, q4⟩ := bi_some (show bi 80 (ev own b f 1 4 x) (ev own b f 2 own 2) (fun p q => p + q) = some (r, l') from h)
        subst q3; subst q4
        refine wpO_f (by decide) (wpO_f (by decide) (wpO_f (by decide) (wpO_f (by decide) (wpO_f (by decide) (wpO_f (by decide) (wpO_f (by decide) (wpO_f (by decide) (wpO_f (by decide) (wpO_f (by decide) (wpO_f (by decide) (wpO_t rfl (wpO_b (ih e 1 4 (d + 1) _ r1 l1 (by omega) (by omega) (by omega) q1 σ1 _ w (len2 hl).1) (fun s2 σ2 w2 => ?_)))))))))))))
        obtain ⟨rfl, w2⟩ := w2
        refine wpO_b (ih e 2 own (d + 1) _ r2 l2 (by omega) ho (by omega) q2 σ2 _ w2 (len2 hl).2) (fun s3 σ3 w3 => ?_)
        obtain ⟨rfl, w3⟩ := w3
        refine wpO_some.mpr ⟨rfl, ?_⟩
        rw [ap2] at w3; exact w3
      · exact absurd rfl t2
      · obtain ⟨r1, l1, q1, q2, q3⟩ := un_some (show un 81 (ev own b f 3 4 x) (fun r => r - 1) = some (r, l') from h)
        subst q2; subst q3
        refine wpO_f (by decide) (wpO_f (by decide) (wpO_f (by decide) (wpO_f (by decide) (wpO_f (by decide) (wpO_f (by decide) (wpO_f (by decide) (wpO_f (by decide) (wpO_f (by decide) (wpO_f (by decide) (wpO_f (by decide) (wpO_f (by decide) (wpO_t rfl (wpO_b (ih e 3 4 (d + 1) _ r1 l1 (by omega) (by omega) (by omega) q1 σ1 _ w (len1 hl)) (fun s2 σ2 w2 => ?_))))))))))))))
        obtain ⟨rfl, w2⟩ := w2
        refine wpO_some.mpr ⟨rfl, ?_⟩
        rw [ap1] at w2; exact w2
abbrev acM (g : GT3) : Nat → Int32 → Int32 → AS → Option (Int32 × AS)
  | 0 => g.1
  | 1 => g.2.1
  | 2 => g.2.2.1
  | _ => g.2.2.2
theorem evM_ok {σ0 : AS} {own b : Nat} (ho : own < 8) (h8 : σ0.1 9 0 48 = nI own) (h9 : σ0.1 9 0 49 = nI b) :
    ∀ (f e a k : Nat) (x r : Int32) (l' : List Nat), a < 4 → k < 8 → ev own b f a k x = some (r, l') → ∀ (σ : AS) (l : List Nat), CH 9 47 46 σ0 σ l → l.length + l'.length < 2 ^ 30 →
      wpO (acM (gr3 (f + e)) a (nI k) x σ) (fun r' σ1 => r' = r ∧ CH 9 47 46 σ0 σ1 (l ++ l')) := by
  intro f
  induction f with
  | zero => intro e a k x r l' _ _ h; exact absurd h (by simp [ev])
  | succ f ih =>
    intro e a k x r l' ha hk h σ l hc hl
    rw [show f + 1 + e = (f + e) + 1 from by omega]
    rw [ev] at h
    have g48 : ∀ {σ1 : AS} {l : List Nat}, CH 9 47 46 σ0 σ1 l → gF σ1 9 0 48 = nI own := fun w => (w.1.f 9 0 48 (by decide)).trans h8
    have g49 : ∀ {σ1 : AS} {l : List Nat}, CH 9 47 46 σ0 σ1 l → gF σ1 9 0 49 = nI b := fun w => (w.1.f 9 0 49 (by decide)).trans h9
    have ihh : ∀ (k : Nat) (x r : Int32) (l' : List Nat), k < 8 → ev own b f 0 k x = some (r, l') → ∀ (σ : AS) (l : List Nat), CH 9 47 46 σ0 σ l → l.length + l'.length < 2 ^ 30 → wpO ((gr3 (f + e)).1 (nI k) x σ) (fun r' σ1 => r' = r ∧ CH 9 47 46 σ0 σ1 (l ++ l')) := fun k x r l' hk => ih e 0 k x r l' (by omega) hk
    have ihp : ∀ (k : Nat) (x r : Int32) (l' : List Nat), k < 8 → ev own b f 1 k x = some (r, l') → ∀ (σ : AS) (l : List Nat), CH 9 47 46 σ0 σ l → l.length + l'.length < 2 ^ 30 → wpO ((gr3 (f + e)).2.1 (nI k) x σ) (fun r' σ1 => r' = r ∧ CH 9 47 46 σ0 σ1 (l ++ l')) := fun k x r l' hk => ih e 1 k x r l' (by omega) hk
    have ihy : ∀ (k : Nat) (x r : Int32) (l' : List Nat), k < 8 → ev own b f 2 k x = some (r, l') → ∀ (σ : AS) (l : List Nat), CH 9 47 46 σ0 σ l → l.length + l'.length < 2 ^ 30 → wpO ((gr3 (f + e)).2.2.1 (nI k) x σ) (fun r' σ1 => r' = r ∧ CH 9 47 46 σ0 σ1 (l ++ l')) := fun k x r l' hk => ih e 2 k x r l' (by omega) hk
    have iht : ∀ (k : Nat) (x r : Int32) (l' : List Nat), k < 8 → ev own b f 3 k x = some (r, l') → ∀ (σ : AS) (l : List Nat), CH 9 47 46 σ0 σ l → l.length + l'.length < 2 ^ 30 → wpO ((gr3 (f + e)).2.2.2 (nI k) x σ) (fun r' σ1 => r' = r ∧ CH 9 47 46 σ0 σ1 (l ++ l')) := fun k x r l' hk => ih e 3 k x r l' (by omega) hk
    have a1 : k = 0 ∨ k = 1 ∨ k = 2 ∨ k = 3 ∨ k = 4 ∨ k = 5 ∨ k = 6 ∨ k = 7 := by omega
    have a2 : a = 0 ∨ a = 1 ∨ a = 2 ∨ a = 3 := by omega
    rcases a2 with rfl | rfl | rfl | rfl
    · show wpO (gb_X9_holdsAs (gr3 (f + e)) (nI k) x σ) _
      unfold gb_X9_holdsAs g_X9_holdsAs_16
      rcases a1 with rfl | rfl | rfl | rfl | rfl | rfl | rfl | rfl
      · rw [show hol 0 0 = 0 from rfl] at h
        obtain ⟨q1, q2⟩ := Prod.mk.inj (Option.some.inj (show some (x + nI b, [1]) = some (r, l') from h))
        subst q1; subst q2
        refine wpO_f (by decide) (wpO_f (by decide) (wpO_f (by decide) (wpO_f (by decide) (wpO_b (beginM (x := 1) hc (len0 hl)) (fun _ σ1 w => ?_)))))
        rw [g49 w]; exact wpO_some.mpr ⟨rfl, w⟩
      · rw [show hol 0 1 = 1 from rfl] at h
        obtain ⟨r1, l1, q1, q2, q3⟩ := un_some (show un 20 (ev own b f 0 0 x) (fun r => r + 3) = some (r, l') from h)
        subst q2; subst q3
        refine wpO_t rfl (wpO_b (beginM (x := 20) hc (len0 hl)) (fun _ σ1 w => ?_))
        refine wpO_b (ihh 0 _ r1 l1 (by omega) q1 σ1 _ w (len1 hl)) (fun s2 σ2 w2 => ?_)
        obtain ⟨rfl, w2⟩ := w2
        refine wpO_some.mpr ⟨rfl, ?_⟩
        rw [ap1] at w2; exact w2
      · rw [show hol 0 2 = 0 from rfl] at h
        obtain ⟨q1, q2⟩ := Prod.mk.inj (Option.some.inj (show some (x + nI b, [1]) = some (r, l') from h))
        subst q1; subst q2
        refine wpO_f (by decide) (wpO_f (by decide) (wpO_f (by decide) (wpO_f (by decide) (wpO_b (beginM (x := 1) hc (len0 hl)) (fun _ σ1 w => ?_)))))
        rw [g49 w]; exact wpO_some.mpr ⟨rfl, w⟩
      · rw [show hol 0 3 = 0 from rfl] at h
        obtain ⟨q1, q2⟩ := Prod.mk.inj (Option.some.inj (show some (x + nI b, [1]) = some (r, l') from h))
        subst q1; subst q2
        refine wpO_f (by decide) (wpO_f (by decide) (wpO_f (by decide) (wpO_f (by decide) (wpO_b (beginM (x := 1) hc (len0 hl)) (fun _ σ1 w => ?_)))))
        rw [g49 w]; exact wpO_some.mpr ⟨rfl, w⟩
      · rw [show hol 0 4 = 1 from rfl] at h
        obtain ⟨r1, l1, q1, q2, q3⟩ := un_some (show un 20 (ev own b f 0 0 x) (fun r => r + 3) = some (r, l') from h)
        subst q2; subst q3
        refine wpO_f (by decide) (wpO_t rfl (wpO_b (beginM (x := 20) hc (len0 hl)) (fun _ σ1 w => ?_)))
        refine wpO_b (ihh 0 _ r1 l1 (by omega) q1 σ1 _ w (len1 hl)) (fun s2 σ2 w2 => ?_)
        obtain ⟨rfl, w2⟩ := w2
        refine wpO_some.mpr ⟨rfl, ?_⟩
        rw [ap1] at w2; exact w2
      · rw [show hol 0 5 = 0 from rfl] at h
        obtain ⟨q1, q2⟩ := Prod.mk.inj (Option.some.inj (show some (x + nI b, [1]) = some (r, l') from h))
        subst q1; subst q2
        refine wpO_f (by decide) (wpO_f (by decide) (wpO_f (by decide) (wpO_f (by decide) (wpO_b (beginM (x := 1) hc (len0 hl)) (fun _ σ1 w => ?_)))))
        rw [g49 w]; exact wpO_some.mpr ⟨rfl, w⟩
      · rw [show hol 0 6 = 6 from rfl] at h
        obtain ⟨r1, l1, q1, q2, q3⟩ := un_some (show un 70 (ev own b f 0 0 x) (fun r => r * 2) = some (r, l') from h)
        subst q2; subst q3
        refine wpO_f (by decide) (wpO_f (by decide) (wpO_f (by decide) (wpO_t rfl (wpO_b (beginM (x := 70) hc (len0 hl)) (fun _ σ1 w => ?_)))))
        refine wpO_b (ihh 0 _ r1 l1 (by omega) q1 σ1 _ w (len1 hl)) (fun s2 σ2 w2 => ?_)
        obtain ⟨rfl, w2⟩ := w2
        refine wpO_some.mpr ⟨rfl, ?_⟩
        rw [ap1] at w2; exact w2
      · rw [show hol 0 7 = 1 from rfl] at h
        obtain ⟨r1, l1, q1, q2, q3⟩ := un_some (show un 20 (ev own b f 0 0 x) (fun r => r + 3) = some (r, l') from h)
        subst q2; subst q3
        refine wpO_f (by decide) (wpO_f (by decide) (wpO_t rfl (wpO_b (beginM (x := 20) hc (len0 hl)) (fun _ σ1 w => ?_))))
        refine wpO_b (ihh 0 _ r1 l1 (by omega) q1 σ1 _ w (len1 hl)) (fun s2 σ2 w2 => ?_)
        obtain ⟨rfl, w2⟩ := w2
        refine wpO_some.mpr ⟨rfl, ?_⟩
        rw [ap1] at w2; exact w2
    · show wpO (gb_X9_pushesAs (gr3 (f + e)) (nI k) x σ) _
      unfold gb_X9_pushesAs g_X9_pushesAs_10
      rcases a1 with rfl | rfl | rfl | rfl | rfl | rfl | rfl | rfl
      · rw [show hol 1 0 = 0 from rfl] at h
        obtain ⟨r1, l1, q1, q2, q3⟩ := un_some (show un 10 (ev own b f 0 own x) (fun r => r * 2) = some (r, l') from h)
        subst q2; subst q3
        refine wpO_f (by decide) (wpO_f (by decide) (wpO_f (by decide) (wpO_f (by decide) (wpO_b (beginM (x := 10) hc (len0 hl)) (fun _ σ1 w => ?_)))))
        rw [g48 w]
        refine wpO_b (ihh own _ r1 l1 ho q1 σ1 _ w (len1 hl)) (fun s2 σ2 w2 => ?_)
        obtain ⟨rfl, w2⟩ := w2
        refine wpO_some.mpr ⟨rfl, ?_⟩
        rw [ap1] at w2; exact w2
      · rw [show hol 1 1 = 0 from rfl] at h
        obtain ⟨r1, l1, q1, q2, q3⟩ := un_some (show un 10 (ev own b f 0 own x) (fun r => r * 2) = some (r, l') from h)
        subst q2; subst q3
        refine wpO_f (by decide) (wpO_f (by decide) (wpO_f (by decide) (wpO_f (by decide) (wpO_b (beginM (x := 10) hc (len0 hl)) (fun _ σ1 w => ?_)))))
        rw [g48 w]
        refine wpO_b (ihh own _ r1 l1 ho q1 σ1 _ w (len1 hl)) (fun s2 σ2 w2 => ?_)
        obtain ⟨rfl, w2⟩ := w2
        refine wpO_some.mpr ⟨rfl, ?_⟩
        rw [ap1] at w2; exact w2
      · rw [show hol 1 2 = 2 from rfl] at h
        obtain ⟨r1, l1, q1, q2, q3⟩ := un_some (show un 30 (ev own b f 1 0 x) (fun r => -r) = some (r, l') from h)
        subst q2; subst q3
        refine wpO_f (by decide) (wpO_f (by decide) (wpO_t rfl (wpO_b (beginM (x := 30) hc (len0 hl)) (fun _ σ1 w => ?_))))
        refine wpO_b (ihp 0 _ r1 l1 (by omega) q1 σ1 _ w (len1 hl)) (fun s2 σ2 w2 => ?_)
        obtain ⟨rfl, w2⟩ := w2
        refine wpO_some.mpr ⟨rfl, ?_⟩
        rw [ap1] at w2; exact w2
      · rw [show hol 1 3 = 3 from rfl] at h
        obtain ⟨r1, l1, q1, q2, q3⟩ := un_some (show un 41 (ev own b f 1 2 (x + 1)) (fun r => r) = some (r, l') from h)
        subst q2; subst q3
        refine wpO_t rfl (wpO_b (beginM (x := 41) hc (len0 hl)) (fun _ σ1 w => ?_))
        refine wpO_b (ihp 2 _ r l1 (by omega) q1 σ1 _ w (len1 hl)) (fun s2 σ2 w2 => ?_)
        obtain ⟨rfl, w2⟩ := w2
        refine wpO_some.mpr ⟨rfl, ?_⟩
        rw [ap1] at w2; exact w2
      · rw [show hol 1 4 = 0 from rfl] at h
        obtain ⟨r1, l1, q1, q2, q3⟩ := un_some (show un 10 (ev own b f 0 own x) (fun r => r * 2) = some (r, l') from h)
        subst q2; subst q3
        refine wpO_f (by decide) (wpO_f (by decide) (wpO_f (by decide) (wpO_f (by decide) (wpO_b (beginM (x := 10) hc (len0 hl)) (fun _ σ1 w => ?_)))))
        rw [g48 w]
        refine wpO_b (ihh own _ r1 l1 ho q1 σ1 _ w (len1 hl)) (fun s2 σ2 w2 => ?_)
        obtain ⟨rfl, w2⟩ := w2
        refine wpO_some.mpr ⟨rfl, ?_⟩
        rw [ap1] at w2; exact w2
      · rw [show hol 1 5 = 3 from rfl] at h
        obtain ⟨r1, l1, q1, q2, q3⟩ := un_some (show un 41 (ev own b f 1 2 (x + 1)) (fun r => r) = some (r, l') from h)
        subst q2; subst q3
        refine wpO_f (by decide) (wpO_t rfl (wpO_b (beginM (x := 41) hc (len0 hl)) (fun _ σ1 w => ?_)))
        refine wpO_b (ihp 2 _ r l1 (by omega) q1 σ1 _ w (len1 hl)) (fun s2 σ2 w2 => ?_)
        obtain ⟨rfl, w2⟩ := w2
        refine wpO_some.mpr ⟨rfl, ?_⟩
        rw [ap1] at w2; exact w2
      · rw [show hol 1 6 = 0 from rfl] at h
        obtain ⟨r1, l1, q1, q2, q3⟩ := un_some (show un 10 (ev own b f 0 own x) (fun r => r * 2) = some (r, l') from h)
        subst q2; subst q3
        refine wpO_f (by decide) (wpO_f (by decide) (wpO_f (by decide) (wpO_f (by decide) (wpO_b (beginM (x := 10) hc (len0 hl)) (fun _ σ1 w => ?_)))))
        rw [g48 w]
        refine wpO_b (ihh own _ r1 l1 ho q1 σ1 _ w (len1 hl)) (fun s2 σ2 w2 => ?_)
        obtain ⟨rfl, w2⟩ := w2
        refine wpO_some.mpr ⟨rfl, ?_⟩
        rw [ap1] at w2; exact w2
      · rw [show hol 1 7 = 7 from rfl] at h
        obtain ⟨r1, l1, r2, l2, q1, q2, q3, q4⟩ := bi_some (show bi 80 (ev own b f 1 4 x) (ev own b f 2 own 2) (fun p q => p + q) = some (r, l') from h)
        subst q3; subst q4
        refine wpO_f (by decide) (wpO_f (by decide) (wpO_f (by decide) (wpO_t rfl (wpO_b (beginM (x := 80) hc (len0 hl)) (fun _ σ1 w => ?_)))))
        refine wpO_b (ihp 4 _ r1 l1 (by omega) q1 σ1 _ w (len2 hl).1) (fun s2 σ2 w2 => ?_)
        obtain ⟨rfl, w2⟩ := w2
        rw [g48 w2]
        refine wpO_b (ihy own _ r2 l2 ho q2 σ2 _ w2 (len2 hl).2) (fun s3 σ3 w3 => ?_)
        obtain ⟨rfl, w3⟩ := w3
        refine wpO_some.mpr ⟨rfl, ?_⟩
        rw [ap2] at w3; exact w3
    · show wpO (gb_X9_yieldsAs (gr3 (f + e)) (nI k) x σ) _
      unfold gb_X9_yieldsAs g_X9_yieldsAs_10 g_X9_yieldsAs_36
      rcases a1 with rfl | rfl | rfl | rfl | rfl | rfl | rfl | rfl
      · rw [show hol 2 0 = 0 from rfl] at h
        obtain ⟨q1, q2⟩ := Prod.mk.inj (Option.some.inj (show some (x ^^^ nI b, [11]) = some (r, l') from h))
        subst q1; subst q2
        refine wpO_f (by decide) (wpO_f (by decide) (wpO_f (by decide) (wpO_f (by decide) (wpO_b (beginM (x := 11) hc (len0 hl)) (fun _ σ1 w => ?_)))))
        rw [g49 w]; exact wpO_some.mpr ⟨rfl, w⟩
      · rw [show hol 2 1 = 0 from rfl] at h
        obtain ⟨q1, q2⟩ := Prod.mk.inj (Option.some.inj (show some (x ^^^ nI b, [11]) = some (r, l') from h))
        subst q1; subst q2
        refine wpO_f (by decide) (wpO_f (by decide) (wpO_f (by decide) (wpO_f (by decide) (wpO_b (beginM (x := 11) hc (len0 hl)) (fun _ σ1 w => ?_)))))
        rw [g49 w]; exact wpO_some.mpr ⟨rfl, w⟩
      · rw [show hol 2 2 = 0 from rfl] at h
        obtain ⟨q1, q2⟩ := Prod.mk.inj (Option.some.inj (show some (x ^^^ nI b, [11]) = some (r, l') from h))
        subst q1; subst q2
        refine wpO_f (by decide) (wpO_f (by decide) (wpO_f (by decide) (wpO_f (by decide) (wpO_b (beginM (x := 11) hc (len0 hl)) (fun _ σ1 w => ?_)))))
        rw [g49 w]; exact wpO_some.mpr ⟨rfl, w⟩
      · rw [show hol 2 3 = 3 from rfl] at h
        obtain ⟨r1, l1, q1, q2, q3⟩ := un_some (show un 40 (ev own b f 2 2 x) (fun r => r * 3) = some (r, l') from h)
        subst q2; subst q3
        refine wpO_t rfl (wpO_b (beginM (x := 40) hc (len0 hl)) (fun _ σ1 w => ?_))
        refine wpO_b (ihy 2 _ r1 l1 (by omega) q1 σ1 _ w (len1 hl)) (fun s2 σ2 w2 => ?_)
        obtain ⟨rfl, w2⟩ := w2
        refine wpO_some.mpr ⟨rfl, ?_⟩
        rw [ap1] at w2; exact w2
      · rw [show hol 2 4 = 4 from rfl] at h
        obtain ⟨r1, l1, r2, l2, q1, q2, q3, q4⟩ := bi_some (show bi 50 (ev own b f 2 1 x) (ev own b f 0 own 2) (fun p q => p - q) = some (r, l') from h)
        subst q3; subst q4
        refine wpO_f (by decide) (wpO_f (by decide) (wpO_t rfl (wpO_b (beginM (x := 50) hc (len0 hl)) (fun _ σ1 w => ?_))))
        refine wpO_b (ihy 1 _ r1 l1 (by omega) q1 σ1 _ w (len2 hl).1) (fun s2 σ2 w2 => ?_)
        obtain ⟨rfl, w2⟩ := w2
        rw [g48 w2]
        refine wpO_b (ihh own _ r2 l2 ho q2 σ2 _ w2 (len2 hl).2) (fun s3 σ3 w3 => ?_)
        obtain ⟨rfl, w3⟩ := w3
        refine wpO_some.mpr ⟨rfl, ?_⟩
        rw [ap2] at w3; exact w3
      · rw [show hol 2 5 = 3 from rfl] at h
        obtain ⟨r1, l1, q1, q2, q3⟩ := un_some (show un 40 (ev own b f 2 2 x) (fun r => r * 3) = some (r, l') from h)
        subst q2; subst q3
        refine wpO_f (by decide) (wpO_t rfl (wpO_b (beginM (x := 40) hc (len0 hl)) (fun _ σ1 w => ?_)))
        refine wpO_b (ihy 2 _ r1 l1 (by omega) q1 σ1 _ w (len1 hl)) (fun s2 σ2 w2 => ?_)
        obtain ⟨rfl, w2⟩ := w2
        refine wpO_some.mpr ⟨rfl, ?_⟩
        rw [ap1] at w2; exact w2
      · rw [show hol 2 6 = 0 from rfl] at h
        obtain ⟨q1, q2⟩ := Prod.mk.inj (Option.some.inj (show some (x ^^^ nI b, [11]) = some (r, l') from h))
        subst q1; subst q2
        refine wpO_f (by decide) (wpO_f (by decide) (wpO_f (by decide) (wpO_f (by decide) (wpO_b (beginM (x := 11) hc (len0 hl)) (fun _ σ1 w => ?_)))))
        rw [g49 w]; exact wpO_some.mpr ⟨rfl, w⟩
      · rw [show hol 2 7 = 4 from rfl] at h
        obtain ⟨r1, l1, r2, l2, q1, q2, q3, q4⟩ := bi_some (show bi 50 (ev own b f 2 1 x) (ev own b f 0 own 2) (fun p q => p - q) = some (r, l') from h)
        subst q3; subst q4
        refine wpO_f (by decide) (wpO_f (by decide) (wpO_f (by decide) (wpO_t rfl (wpO_b (beginM (x := 50) hc (len0 hl)) (fun _ σ1 w => ?_)))))
        refine wpO_b (ihy 1 _ r1 l1 (by omega) q1 σ1 _ w (len2 hl).1) (fun s2 σ2 w2 => ?_)
        obtain ⟨rfl, w2⟩ := w2
        rw [g48 w2]
        refine wpO_b (ihh own _ r2 l2 ho q2 σ2 _ w2 (len2 hl).2) (fun s3 σ3 w3 => ?_)
        obtain ⟨rfl, w3⟩ := w3
        refine wpO_some.mpr ⟨rfl, ?_⟩
        rw [ap2] at w3; exact w3
    · show wpO (gb_X9_tradesAs (gr3 (f + e)) (nI k) x σ) _
      unfold gb_X9_tradesAs 
      rcases a1 with rfl | rfl | rfl | rfl | rfl | rfl | rfl | rfl
      · rw [show hol 3 0 = 0 from rfl] at h
        obtain ⟨r1, l1, r2, l2, q1, q2, q3, q4⟩ := bi_some (show bi 2 (ev own b f 1 own x) (ev own b f 2 own 1) (fun p q => p - q) = some (r, l') from h)
        subst q3; subst q4
        refine wpO_f (by decide) (wpO_f (by decide) (wpO_b (beginM (x := 2) hc (len0 hl)) (fun _ σ1 w => ?_)))
        rw [g48 w]
        refine wpO_b (ihp own _ r1 l1 ho q1 σ1 _ w (len2 hl).1) (fun s2 σ2 w2 => ?_)
        obtain ⟨rfl, w2⟩ := w2
        rw [g48 w2]
        refine wpO_b (ihy own _ r2 l2 ho q2 σ2 _ w2 (len2 hl).2) (fun s3 σ3 w3 => ?_)
        obtain ⟨rfl, w3⟩ := w3
        refine wpO_some.mpr ⟨rfl, ?_⟩
        rw [ap2] at w3; exact w3
      · rw [show hol 3 1 = 0 from rfl] at h
        obtain ⟨r1, l1, r2, l2, q1, q2, q3, q4⟩ := bi_some (show bi 2 (ev own b f 1 own x) (ev own b f 2 own 1) (fun p q => p - q) = some (r, l') from h)
        subst q3; subst q4
        refine wpO_f (by decide) (wpO_f (by decide) (wpO_b (beginM (x := 2) hc (len0 hl)) (fun _ σ1 w => ?_)))
        rw [g48 w]
        refine wpO_b (ihp own _ r1 l1 ho q1 σ1 _ w (len2 hl).1) (fun s2 σ2 w2 => ?_)
        obtain ⟨rfl, w2⟩ := w2
        rw [g48 w2]
        refine wpO_b (ihy own _ r2 l2 ho q2 σ2 _ w2 (len2 hl).2) (fun s3 σ3 w3 => ?_)
        obtain ⟨rfl, w3⟩ := w3
        refine wpO_some.mpr ⟨rfl, ?_⟩
        rw [ap2] at w3; exact w3
      · rw [show hol 3 2 = 0 from rfl] at h
        obtain ⟨r1, l1, r2, l2, q1, q2, q3, q4⟩ := bi_some (show bi 2 (ev own b f 1 own x) (ev own b f 2 own 1) (fun p q => p - q) = some (r, l') from h)
        subst q3; subst q4
        refine wpO_f (by decide) (wpO_f (by decide) (wpO_b (beginM (x := 2) hc (len0 hl)) (fun _ σ1 w => ?_)))
        rw [g48 w]
        refine wpO_b (ihp own _ r1 l1 ho q1 σ1 _ w (len2 hl).1) (fun s2 σ2 w2 => ?_)
        obtain ⟨rfl, w2⟩ := w2
        rw [g48 w2]
        refine wpO_b (ihy own _ r2 l2 ho q2 σ2 _ w2 (len2 hl).2) (fun s3 σ3 w3 => ?_)
        obtain ⟨rfl, w3⟩ := w3
        refine wpO_some.mpr ⟨rfl, ?_⟩
        rw [ap2] at w3; exact w3
      · rw [show hol 3 3 = 0 from rfl] at h
        obtain ⟨r1, l1, r2, l2, q1, q2, q3, q4⟩ := bi_some (show bi 2 (ev own b f 1 own x) (ev own b f 2 own 1) (fun p q => p - q) = some (r, l') from h)
        subst q3; subst q4
        refine wpO_f (by decide) (wpO_f (by decide) (wpO_b (beginM (x := 2) hc (len0 hl)) (fun _ σ1 w => ?_)))
        rw [g48 w]
        refine wpO_b (ihp own _ r1 l1 ho q1 σ1 _ w (len2 hl).1) (fun s2 σ2 w2 => ?_)
        obtain ⟨rfl, w2⟩ := w2
        rw [g48 w2]
        refine wpO_b (ihy own _ r2 l2 ho q2 σ2 _ w2 (len2 hl).2) (fun s3 σ3 w3 => ?_)
        obtain ⟨rfl, w3⟩ := w3
        refine wpO_some.mpr ⟨rfl, ?_⟩
        rw [ap2] at w3; exact w3
      · rw [show hol 3 4 = 0 from rfl] at h
        obtain ⟨r1, l1, r2, l2, q1, q2, q3, q4⟩ := bi_some (show bi 2 (ev own b f 1 own x) (ev own b f 2 own 1) (fun p q => p - q) = some (r, l') from h)
        subst q3; subst q4
        refine wpO_f (by decide) (wpO_f (by decide) (wpO_b (beginM (x := 2) hc (len0 hl)) (fun _ σ1 w => ?_)))
        rw [g48 w]
        refine wpO_b (ihp own _ r1 l1 ho q1 σ1 _ w (len2 hl).1) (fun s2 σ2 w2 => ?_)
        obtain ⟨rfl, w2⟩ := w2
        rw [g48 w2]
        refine wpO_b (ihy own _ r2 l2 ho q2 σ2 _ w2 (len2 hl).2) (fun s3 σ3 w3 => ?_)
        obtain ⟨rfl, w3⟩ := w3
        refine wpO_some.mpr ⟨rfl, ?_⟩
        rw [ap2] at w3; exact w3
      · rw [show hol 3 5 = 5 from rfl] at h
        obtain ⟨r1, l1, q1, q2, q3⟩ := un_some (show un 60 (ev own b f 3 3 x) (fun r => r ^^^ 5) = some (r, l') from h)
        subst q2; subst q3
        refine wpO_t rfl (wpO_b (beginM (x := 60) hc (len0 hl)) (fun _ σ1 w => ?_))
        refine wpO_b (iht 3 _ r1 l1 (by omega) q1 σ1 _ w (len1 hl)) (fun s2 σ2 w2 => ?_)
        obtain ⟨rfl, w2⟩ := w2
        refine wpO_some.mpr ⟨rfl, ?_⟩
        rw [ap1] at w2; exact w2
      · rw [show hol 3 6 = 0 from rfl] at h
        obtain ⟨r1, l1, r2, l2, q1, q2, q3, q4⟩ := bi_some (show bi 2 (ev own b f 1 own x) (ev own b f 2 own 1) (fun p q => p - q) = some (r, l') from h)
        subst q3; subst q4
        refine wpO_f (by decide) (wpO_f (by decide) (wpO_b (beginM (x := 2) hc (len0 hl)) (fun _ σ1 w => ?_)))
        rw [g48 w]
        refine wpO_b (ihp own _ r1 l1 ho q1 σ1 _ w (len2 hl).1) (fun s2 σ2 w2 => ?_)
        obtain ⟨rfl, w2⟩ := w2
        rw [g48 w2]
        refine wpO_b (ihy own _ r2 l2 ho q2 σ2 _ w2 (len2 hl).2) (fun s3 σ3 w3 => ?_)
        obtain ⟨rfl, w3⟩ := w3
        refine wpO_some.mpr ⟨rfl, ?_⟩
        rw [ap2] at w3; exact w3
      · rw [show hol 3 7 = 7 from rfl] at h
        obtain ⟨r1, l1, q1, q2, q3⟩ := un_some (show un 81 (ev own b f 3 4 x) (fun r => r - 1) = some (r, l') from h)
        subst q2; subst q3
        refine wpO_f (by decide) (wpO_t rfl (wpO_b (beginM (x := 81) hc (len0 hl)) (fun _ σ1 w => ?_)))
        refine wpO_b (iht 4 _ r1 l1 (by omega) q1 σ1 _ w (len1 hl)) (fun s2 σ2 w2 => ?_)
        obtain ⟨rfl, w2⟩ := w2
        refine wpO_some.mpr ⟨rfl, ?_⟩
        rw [ap1] at w2; exact w2
/-- the holdings' part of the relation with another trace -/
theorem Inv.trc {S : List (Nat × Nat × Nat)} {σ σ2 : AS} {x : HLD} {y : SHV} (h : Inv σ) (b1 : G5C σ x y) (b2 : G5M σ x y) (b3 : G5P x y) (F : FrL S σ σ2) (q : ∀ z ∈ [(2, 0, 2), (2, 0, 0), (9, 0, 44), (9, 0, 45)] ++ (DSh ++ (DSm ++ (D1 ++ (D2 ++ (D3 ++ D4))))), z ∉ S) {l : List Nat} (hl : l.length ≤ 1000000)
    (c1 : σ2.1 2 0 3 = nI l.length) (c2 : ∀ i, i < l.length → i < 24 → σ2.2.1 2 0 1 i = nI (l[i]?.getD 0)) (m1 : σ2.1 9 0 47 = nI l.length) (m2 : ∀ i, i < l.length → i < 24 → σ2.2.1 9 0 46 i = nI (l[i]?.getD 0)) : Inv σ2 := by
  have q0 := inL q
  have q1 := inL (inR q)
  have q2 := inL (inR (inR q))
  have q3 := inR (inR (inR q))
  refine h.of5 F ⟨(x.1, x.2.1, l.length, fun i => nI (l[i]?.getD 0)), y, ⟨⟨?_, ?_, c1, c2⟩, b1.2.fr F q1⟩, ⟨⟨?_, ?_, m1, m2⟩, b2.2.fr F q2⟩, ⟨b3.1.1, b3.1.2.1, hl⟩, b3.2⟩ q3
  · rw [F.f 2 0 2 (q0 _ (by decide))]; exact b1.1.1
  · rw [F.a 2 0 0 (q0 _ (by decide))]; exact b1.1.2.1
  · rw [F.f 9 0 44 (q0 _ (by decide))]; exact b2.1.1
  · rw [F.a 9 0 45 (q0 _ (by decide))]; exact b2.1.2.1
theorem op_act (a b v0 : Int32) : Both (g_X8_act a b v0) (g_X9_act a b v0) := by
  intro σ h
  obtain ⟨x, y, b1, b2, b3⟩ := h.2.2.2.2
  have hbd := b3.1.1
  have s20 : σ.1 2 0 2 = nI x.1 := b1.1.1
  have s44 : σ.1 9 0 44 = nI x.1 := b2.1.1
  unfold g_X8_act g_X2_run g_X9_act
  have nil : ∀ {S : List (Nat × Nat × Nat)} {σ2 : AS}, FrL S σ σ2 → (∀ z ∈ [(2, 0, 2), (2, 0, 0), (9, 0, 44), (9, 0, 45)] ++ (DSh ++ (DSm ++ (D1 ++ (D2 ++ (D3 ++ D4))))), z ∉ S) → σ2.1 2 0 3 = 0 → σ2.1 9 0 47 = 0 → Inv σ2 := fun F q e1 e2 => h.trc b1 b2 b3 F q (l := []) (by decide) e1 (fun i hi => absurd hi (Nat.not_lt_zero i)) e2 (fun i hi => absurd hi (Nat.not_lt_zero i))
  by_cases c : inb a x.1
  · obtain ⟨w, hw, rfl⟩ := inb_ex c
    have kd := b3.1.2.1 w hw
    have i50 : inb (nI w) 50 := inb_nI (by omega) (by omega)
    by_cases cb : inb b 4
    · obtain ⟨k, hk, rfl⟩ := inb_ex cb
      obtain ⟨r, l, er, el⟩ := ev_all (x.2.1 w) w k v0 kd hk
      refine wpO_b (P := fun r' σ1 => r' = r ∧ ∃ σa, CH 2 3 1 σa σ1 l ∧ FrL [(2, 0, 3), (2, 0, 4)] σ σa) (wpO_lt (wpO_e (hasB_eq (n := x.1) (σ := sF σ 2 0 3 0) s20 hbd _) ?_)) ?_
      · rw [if_pos c]
        refine wpO_f one_ne (wpO_f (nI_pos (by omega)) (wpO_t (show nI k < nI 4 from nI_lt hk (by omega)) (wpO_lt (wpO_t i50 ?_))))
        generalize hs : sF (sF σ 2 0 3 0) 2 0 4 (nI w) = σa
        have fa : FrL [(2, 0, 3), (2, 0, 4)] σ σa := by rw [← hs]; exact (FrL_sF (by decide)).tr (FrL_sF (by decide))
        have ek : gA σa 2 0 0 (nI w) = nI (x.2.1 w) := by rw [gA_nI (by omega), fa.a 2 0 0 (by decide)]; exact b1.1.2.1 w hw
        rw [ek]
        have main := evC_ok (σ0 := σa) (nb := x.1) (own := x.2.1 w) (b := w) (by rw [fa.f 2 0 2 (by decide)]; exact s20) hbd hw (by rw [fa.a 2 0 0 (by decide)]; exact b1.1.2.1 w hw) kd (by rw [← hs]; rfl) 30 70 k (x.2.1 w) 0 v0 r l hk kd (by omega) er σa [] ⟨FrL.rf, by rw [← hs]; rfl, fun i hi => absurd hi (Nat.not_lt_zero i)⟩ (by rw [List.length_nil]; omega)
        refine wpO_b (show wpO (g_X2_perform (nI k) (nI (x.2.1 w)) v0 0 σa) _ from main) (fun r' σ1 z => wpO_some.mpr ⟨z.1, σa, z.2, fa⟩)
      · rintro r' σ1 ⟨rfl, σa, cc, fa⟩
        have F1 : FrL [(2, 0, 3), (2, 0, 1), (2, 0, 4)] σ σ1 := (fa.mono (by decide)).tr (cc.1.mono (by decide))
        refine wpO_some.mpr (wpO_lt (wpO_e (isBodyM_eq (n := x.1) (by rw [sF_f, if_neg (by decide), F1.f 9 0 44 (by decide)]; exact s44) hbd _) ?_))
        rw [if_pos c]
        refine wpO_f one_ne (wpO_t i50 (wpO_lt (wpO_lt ?_)))
        generalize hs : sF (sF (sF σ1 9 0 47 0) 9 0 48 (gA (sF σ1 9 0 47 0) 9 0 45 (nI w))) 9 0 49 (nI w) = σb
        have fb : FrL [(9, 0, 47), (9, 0, 48), (9, 0, 49)] σ1 σb := by rw [← hs]; exact ((FrL_sF (by decide)).tr (FrL_sF (by decide))).tr (FrL_sF (by decide))
        have e48 : σb.1 9 0 48 = nI (x.2.1 w) := by
          rw [← hs]
          show σ1.2.1 9 0 45 (nI w).toNatClampNeg = _
          rw [nI_clamp (by omega), F1.a 9 0 45 (by decide)]; exact b2.1.2.1 w hw
        have g48 : gF σb 9 0 48 = nI (x.2.1 w) := e48
        rw [g48]
        have main := evM_ok (σ0 := σb) (own := x.2.1 w) (b := w) kd e48 (by rw [← hs]; rfl) 30 70 k (x.2.1 w) v0 r' l hk kd er σb [] ⟨FrL.rf, by rw [← hs]; rfl, fun i hi => absurd hi (Nat.not_lt_zero i)⟩ (by rw [List.length_nil]; omega)
        have fin : ∀ (r2 : Int32) (σ2 : AS), r2 = r' ∧ CH 9 47 46 σb σ2 l → wpO (some (r2, σ2)) (fun r'' σ3 => r' = r'' ∧ Inv σ3) := by
          rintro r2 σ2 ⟨rfl, z⟩
          have F2 : FrL [(9, 0, 47), (9, 0, 48), (9, 0, 49), (9, 0, 46)] σ1 σ2 := (fb.mono (by decide)).tr (z.1.mono (by decide))
          have F : FrL [(2, 0, 3), (2, 0, 1), (2, 0, 4), (9, 0, 47), (9, 0, 48), (9, 0, 49), (9, 0, 46)] σ σ2 := (F1.mono (by decide)).tr (F2.mono (by decide))
          refine wpO_some.mpr ⟨rfl, h.trc b1 b2 b3 F (by decide) (l := l) (by omega) ?_ ?_ z.2.1 z.2.2⟩
          · rw [F2.f 2 0 3 (by decide)]; exact cc.2.1
          · rw [F2.a 2 0 1 (by decide)]; exact cc.2.2
        have k4 : k = 0 ∨ k = 1 ∨ k = 2 ∨ k = 3 := by omega
        rcases k4 with rfl | rfl | rfl | rfl
        · exact wpO_t rfl (wpO_b (show wpO (g_X9_holdsAs (nI (x.2.1 w)) v0 σb) _ from main) fin)
        · exact wpO_f (by decide) (wpO_t rfl (wpO_b (show wpO (g_X9_pushesAs (nI (x.2.1 w)) v0 σb) _ from main) fin))
        · exact wpO_f (by decide) (wpO_f (by decide) (wpO_t rfl (wpO_b (show wpO (g_X9_yieldsAs (nI (x.2.1 w)) v0 σb) _ from main) fin)))
        · exact wpO_f (by decide) (wpO_f (by decide) (wpO_f (by decide) (wpO_t rfl (wpO_b (show wpO (g_X9_tradesAs (nI (x.2.1 w)) v0 σb) _ from main) fin))))
    · have nb4 : ∀ k : Nat, k < 4 → ¬ b = nI k := fun k hk z => cb (by rw [z]; exact inb_nI hk (by omega))
      refine wpO_b (P := fun r' σ1 => r' = 0 ∧ σ1 = sF σ 2 0 3 0) (wpO_lt (wpO_e (hasB_eq (n := x.1) (σ := sF σ 2 0 3 0) s20 hbd _) ?_)) ?_
      · rw [if_pos c]
        refine wpO_f one_ne ?_
        by_cases z1 : b < 0
        · exact wpO_t z1 (wpO_some.mpr ⟨rfl, rfl⟩)
        · exact wpO_f z1 (wpO_f (fun z => cb ((inb_iff (n := 4) (by omega)).mpr ⟨z1, z⟩)) (wpO_some.mpr ⟨rfl, rfl⟩))
      · rintro r' σ1 ⟨rfl, rfl⟩
        refine wpO_some.mpr (wpO_lt (wpO_e (isBodyM_eq (n := x.1) (σ := sF (sF σ 2 0 3 0) 9 0 47 0) s44 hbd _) ?_))
        rw [if_pos c]
        refine wpO_f one_ne (wpO_t i50 (wpO_lt (wpO_lt (wpO_f (nb4 0 (by omega)) (wpO_f (nb4 1 (by omega)) (wpO_f (nb4 2 (by omega)) (wpO_f (nb4 3 (by omega)) (wpO_some.mpr ⟨rfl, ?_⟩))))))))
        exact nil (S := [(2, 0, 3), (9, 0, 47), (9, 0, 48), (9, 0, 49)]) ((((FrL_sF (by decide)).tr (FrL_sF (by decide))).tr (FrL_sF (by decide))).tr (FrL_sF (by decide))) (by decide) rfl rfl
  · refine wpO_b (P := fun r' σ1 => r' = 0 ∧ σ1 = sF σ 2 0 3 0) (wpO_lt (wpO_e (hasB_eq (n := x.1) (σ := sF σ 2 0 3 0) s20 hbd _) ?_)) ?_
    · rw [if_neg c]; exact wpO_t rfl (wpO_some.mpr ⟨rfl, rfl⟩)
    · rintro r' σ1 ⟨rfl, rfl⟩
      refine wpO_some.mpr (wpO_lt (wpO_e (isBodyM_eq (n := x.1) (σ := sF (sF σ 2 0 3 0) 9 0 47 0) s44 hbd _) ?_))
      rw [if_neg c]
      refine wpO_t rfl (wpO_some.mpr ⟨rfl, ?_⟩)
      exact nil (S := [(2, 0, 3), (9, 0, 47)]) ((FrL_sF (by decide)).tr (FrL_sF (by decide))) (by decide) rfl rfl
