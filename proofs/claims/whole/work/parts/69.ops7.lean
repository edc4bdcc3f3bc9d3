/-! mend -/
def chA (c : N2) (d p k u v : Nat) : N2 := fun i j => if i = d then (if j = 0 then p else if j = 1 then k else if j = 2 then u else v) else c i j
abbrev SCh : List (Nat × Nat × Nat) := [(0, 0, 4), (0, 0, 5), (0, 0, 0), (0, 0, 1), (0, 0, 2), (0, 0, 3)]
abbrev SMc : List (Nat × Nat × Nat) := [(9, 0, 5), (9, 0, 4), (9, 0, 1), (9, 0, 2), (9, 0, 3), (9, 0, 0)]
theorem chA_row {f : Nat → Int32} {g : Nat → Nat} {d x : Nat} (hd : d < 2 ^ 31) (h : ∀ i, i < d → f i = nI (g i)) : ∀ i, i < d + 1 → (if i = (nI d).toNatClampNeg then nI x else f i) = nI (if i = d then x else g i) := by
  intro i hi
  rw [nI_clamp hd]
  by_cases c : i = d
  · rw [if_pos c, if_pos c]
  · rw [if_neg c, if_neg c]
    exact h i (by omega)
theorem add13C {σ : AS} {d p k u v : Nat} {c : N2} (hd : d < 40) (h4 : σ.1 0 0 4 = nI d) (r0 : ∀ i, i < d → σ.2.1 0 0 0 i = nI (c i 0)) (r1 : ∀ i, i < d → σ.2.1 0 0 1 i = nI (c i 1)) (r2 : ∀ i, i < d → σ.2.1 0 0 2 i = nI (c i 2)) (r3 : ∀ i, i < d → σ.2.1 0 0 3 i = nI (c i 3)) :
    wpO (g_X0_add_13 (nI p) (nI k) (nI u) (nI v) σ) (fun _ σ1 => σ1.1 0 0 4 = nI (d + 1) ∧ σ1.1 0 0 5 = nI (d + 1) ∧ (∀ i, i < d + 1 → σ1.2.1 0 0 0 i = nI (chA c d p k u v i 0)) ∧ (∀ i, i < d + 1 → σ1.2.1 0 0 1 i = nI (chA c d p k u v i 1)) ∧ (∀ i, i < d + 1 → σ1.2.1 0 0 2 i = nI (chA c d p k u v i 2)) ∧ (∀ i, i < d + 1 → σ1.2.1 0 0 3 i = nI (chA c d p k u v i 3)) ∧ FrL SCh σ σ1) := by
  have i4 : inb (σ.1 0 0 4) 40 := by rw [h4]; exact inb_nI hd (by omega)
  unfold g_X0_add_13
  refine wpO_t i4 (wpO_lt (wpO_t i4 (wpO_lt (wpO_t i4 (wpO_lt (wpO_t i4 (wpO_lt (wpO_lt (wpO_lt (wpO_some.mpr ⟨?_, ?_, ?_, ?_, ?_, ?_, (by repeat (first | exact FrL.rf | refine FrL.tr ?_ (FrL_sF (by decide)) | refine FrL.tr ?_ (FrL_sA (by decide)) | refine FrL.tr ?_ (FrL_sL (by decide))))⟩))))))))))
  · show σ.1 0 0 4 + 1 = _; rw [h4, nI_1]
  · show σ.1 0 0 4 + 1 = _; rw [h4, nI_1]
  · intro i hi
    show (if i = (σ.1 0 0 4).toNatClampNeg then nI p else σ.2.1 0 0 0 i) = _
    rw [h4, chA_row (by omega) r0 i hi]; rfl
  · intro i hi
    show (if i = (σ.1 0 0 4).toNatClampNeg then nI k else σ.2.1 0 0 1 i) = _
    rw [h4, chA_row (by omega) r1 i hi]; rfl
  · intro i hi
    show (if i = (σ.1 0 0 4).toNatClampNeg then nI u else σ.2.1 0 0 2 i) = _
    rw [h4, chA_row (by omega) r2 i hi]; rfl
  · intro i hi
    show (if i = (σ.1 0 0 4).toNatClampNeg then nI v else σ.2.1 0 0 3 i) = _
    rw [h4, chA_row (by omega) r3 i hi]; rfl
/-- where a change goes, and what is kept ahead of it -/
def chD (d : Nat) : Nat := if d < 40 then d else 39
def chC (d : Nat) (c : N2) : N2 := if d < 40 then c else fun i j => c (i + 1) j
theorem addC {σ : AS} {d p k u v : Nat} {c : N2} (hd : d ≤ 40) (h4 : σ.1 0 0 4 = nI d) (r0 : ∀ i, i < d → σ.2.1 0 0 0 i = nI (c i 0)) (r1 : ∀ i, i < d → σ.2.1 0 0 1 i = nI (c i 1)) (r2 : ∀ i, i < d → σ.2.1 0 0 2 i = nI (c i 2)) (r3 : ∀ i, i < d → σ.2.1 0 0 3 i = nI (c i 3)) :
    wpO (g_X0_add (nI p) (nI k) (nI u) (nI v) σ) (fun _ σ1 => σ1.1 0 0 4 = nI (chD d + 1) ∧ σ1.1 0 0 5 = nI (chD d + 1) ∧ (∀ i, i < chD d + 1 → σ1.2.1 0 0 0 i = nI (chA (chC d c) (chD d) p k u v i 0)) ∧ (∀ i, i < chD d + 1 → σ1.2.1 0 0 1 i = nI (chA (chC d c) (chD d) p k u v i 1)) ∧ (∀ i, i < chD d + 1 → σ1.2.1 0 0 2 i = nI (chA (chC d c) (chD d) p k u v i 2)) ∧ (∀ i, i < chD d + 1 → σ1.2.1 0 0 3 i = nI (chA (chC d c) (chD d) p k u v i 3)) ∧ FrL SCh σ σ1) := by
  unfold g_X0_add
  by_cases c0 : d < 40
  · have e1 : chD d = d := if_pos c0
    have e2 : chC d c = c := if_pos c0
    rw [e1, e2]
    exact wpO_t (show σ.1 0 0 4 < 40 by rw [h4, li40]; exact nI_lt c0 (by omega)) (add13C c0 h4 r0 r1 r2 r3)
  · have e1 : chD d = 39 := if_neg c0
    have e2 : chC d c = fun i j => c (i + 1) j := if_neg c0
    have e3 : d = 40 := by omega
    subst e3
    rw [e1, e2]
    refine wpO_f (show ¬ σ.1 0 0 4 < 40 by rw [h4]; decide) (wpO_b (P := fun _ σ1 => σ1.1 0 0 4 = nI 39 ∧ (∀ i, i < 39 → σ1.2.1 0 0 0 i = σ.2.1 0 0 0 (i + 1)) ∧ (∀ i, i < 39 → σ1.2.1 0 0 1 i = σ.2.1 0 0 1 (i + 1)) ∧ (∀ i, i < 39 → σ1.2.1 0 0 2 i = σ.2.1 0 0 2 (i + 1)) ∧ (∀ i, i < 39 → σ1.2.1 0 0 3 i = σ.2.1 0 0 3 (i + 1)) ∧ FrL SCh σ σ1) ?_ ?_)
    · unfold g_X0_forgetFirst
      have cp : ∀ (f : Nat → Int32) (i : Nat), i < 39 → va_cpy f f 1 0 39 i = f (i + 1) := fun f i hi => by
        rw [cpy_at, if_pos ⟨Nat.zero_le _, by omega⟩]; congr 1; omega
      refine wpO_lt (wpO_lt (wpO_lt (wpO_lt (wpO_lt (wpO_some.mpr ⟨rfl, ?_, ?_, ?_, ?_, (by repeat (first | exact FrL.rf | refine FrL.tr ?_ (FrL_sF (by decide)) | refine FrL.tr ?_ (FrL_sA (by decide)) | refine FrL.tr ?_ (FrL_sL (by decide))))⟩)))))
      · intro i hi; exact cp (σ.2.1 0 0 0) i hi
      · intro i hi; exact cp (σ.2.1 0 0 1) i hi
      · intro i hi; exact cp (σ.2.1 0 0 2) i hi
      · intro i hi; exact cp (σ.2.1 0 0 3) i hi
    · intro _ σ1 w
      obtain ⟨w0, w1, w2, w3, w4, w5⟩ := w
      refine wpO_mono (add13C (c := fun i j => c (i + 1) j) (by omega) w0 ?_ ?_ ?_ ?_) ?_
      · intro i hi; rw [w1 i hi]; exact r0 (i + 1) (by omega)
      · intro i hi; rw [w2 i hi]; exact r1 (i + 1) (by omega)
      · intro i hi; rw [w3 i hi]; exact r2 (i + 1) (by omega)
      · intro i hi; rw [w4 i hi]; exact r3 (i + 1) (by omega)
      · intro _ σ2 u
        obtain ⟨u0, u1, u2, u3, u4, u5, u6⟩ := u
        exact ⟨u0, u1, u2, u3, u4, u5, w5.tr u6⟩
theorem bec97M {σ : AS} {d w u v : Nat} {p k : Nat} {c : N2} (hd : d < 40) (hw : w < 40) (ew : w = 8 * k + p) (h5 : σ.1 9 0 5 = nI d) (r1 : ∀ i, i < d → σ.2.1 9 0 1 i = nI (8 * c i 1 + c i 0)) (r2 : ∀ i, i < d → σ.2.1 9 0 2 i = nI (c i 2)) (r3 : ∀ i, i < d → σ.2.1 9 0 3 i = nI (c i 3)) :
    wpO (g_X9_becomes_97 (nI w) (nI v) (nI u) σ) (fun r σ1 => r = nI u ∧ σ1.1 9 0 5 = nI (d + 1) ∧ σ1.1 9 0 4 = nI (d + 1) ∧ (∀ i, i < d + 1 → σ1.2.1 9 0 1 i = nI (8 * chA c d p k u v i 1 + chA c d p k u v i 0)) ∧ (∀ i, i < d + 1 → σ1.2.1 9 0 2 i = nI (chA c d p k u v i 2)) ∧ (∀ i, i < d + 1 → σ1.2.1 9 0 3 i = nI (chA c d p k u v i 3)) ∧ σ1.2.1 9 0 0 = upd (σ.2.1 9 0 0) w (nI v) ∧ FrL SMc σ σ1) := by
  have i5 : inb (σ.1 9 0 5) 40 := by rw [h5]; exact inb_nI hd (by omega)
  unfold g_X9_becomes_97
  refine wpO_t i5 (wpO_lt (wpO_t i5 (wpO_lt (wpO_t i5 (wpO_lt (wpO_lt (wpO_lt (wpO_t (inb_nI hw (by omega)) (wpO_lt (wpO_some.mpr ⟨rfl, ?_, ?_, ?_, ?_, ?_, ?_, (by repeat (first | exact FrL.rf | refine FrL.tr ?_ (FrL_sF (by decide)) | refine FrL.tr ?_ (FrL_sA (by decide)) | refine FrL.tr ?_ (FrL_sL (by decide))))⟩))))))))))
  · show σ.1 9 0 5 + 1 = _; rw [h5, nI_1]
  · show σ.1 9 0 5 + 1 = _; rw [h5, nI_1]
  · intro i hi
    show (if i = (σ.1 9 0 5).toNatClampNeg then nI w else σ.2.1 9 0 1 i) = _
    rw [h5, chA_row (g := fun i => 8 * c i 1 + c i 0) (by omega) r1 i hi]
    unfold chA
    by_cases e : i = d
    · rw [if_pos e, if_pos e, if_pos e, ew]; rfl
    · rw [if_neg e, if_neg e, if_neg e]
  · intro i hi
    show (if i = (σ.1 9 0 5).toNatClampNeg then nI u else σ.2.1 9 0 2 i) = _
    rw [h5, chA_row (by omega) r2 i hi]; rfl
  · intro i hi
    show (if i = (σ.1 9 0 5).toNatClampNeg then nI v else σ.2.1 9 0 3 i) = _
    rw [h5, chA_row (by omega) r3 i hi]; rfl
  · show upd (σ.2.1 9 0 0) (nI w).toNatClampNeg (nI v) = _
    rw [nI_clamp (by omega)]
theorem shiftM {σ0 : AS} {w v u : Int32} {Q : Int32 → AS → Prop} (hQ : ∀ σ1 : AS, (∀ i, i < 39 → σ1.2.1 9 0 1 i = σ0.2.1 9 0 1 (i + 1)) → (∀ i, i < 39 → σ1.2.1 9 0 2 i = σ0.2.1 9 0 2 (i + 1)) → (∀ i, i < 39 → σ1.2.1 9 0 3 i = σ0.2.1 9 0 3 (i + 1)) → FrL [(9, 0, 1), (9, 0, 2), (9, 0, 3)] σ0 σ1 → wpO (lt (sF σ1 9 0 5 ((gF σ1 9 0 5) - 1)) fun σ16 => g_X9_becomes_97 w v u σ16) Q) :
    ∀ (d j f : Nat) (σ : AS), j + d = 40 → 1 ≤ j → d < f → FrL [(9, 0, 1), (9, 0, 2), (9, 0, 3)] σ0 σ → (∀ i, i + 1 < j → σ.2.1 9 0 1 i = σ0.2.1 9 0 1 (i + 1)) → (∀ i, i + 1 < j → σ.2.1 9 0 2 i = σ0.2.1 9 0 2 (i + 1)) → (∀ i, i + 1 < j → σ.2.1 9 0 3 i = σ0.2.1 9 0 3 (i + 1)) →
      (∀ i, j ≤ i → σ.2.1 9 0 1 i = σ0.2.1 9 0 1 i) → (∀ i, j ≤ i → σ.2.1 9 0 2 i = σ0.2.1 9 0 2 i) → (∀ i, j ≤ i → σ.2.1 9 0 3 i = σ0.2.1 9 0 3 i) → wpO (g_X9_becomes_26 f w v u (nI j) σ) Q := by
  intro d
  induction d with
  | zero =>
    intro j f σ hj hj1 hf fr a1 a2 a3 b1 b2 b3
    obtain ⟨f, rfl⟩ : ∃ g, f = g + 1 := ⟨f - 1, by omega⟩
    rw [g_X9_becomes_26]
    exact wpO_f (by rw [li40]; exact nI_nlt (by omega) (by omega)) (hQ σ (fun i hi => a1 i (by omega)) (fun i hi => a2 i (by omega)) (fun i hi => a3 i (by omega)) fr)
  | succ d ih =>
    intro j f σ hj hj1 hf fr a1 a2 a3 b1 b2 b3
    obtain ⟨f, rfl⟩ : ∃ g, f = g + 1 := ⟨f - 1, by omega⟩
    rw [g_X9_becomes_26]
    have e : nI j - 1 = nI (j - 1) := by rw [li1, pk_sub (by omega)]
    rw [e, nI_1]
    refine wpO_t (by rw [li40]; exact nI_lt (by omega) (by omega)) (wpO_t (inb_nI (by omega) (by omega)) (wpO_t (inb_nI (by omega) (by omega)) (wpO_lt (wpO_lt (wpO_lt ?_)))))
    have one : ∀ (f g : Nat → Int32), (∀ i, i + 1 < j → f i = g (i + 1)) → (∀ i, j ≤ i → f i = g i) → ∀ i, i + 1 < j + 1 → (if i = (nI (j - 1)).toNatClampNeg then f (nI j).toNatClampNeg else f i) = g (i + 1) := by
      intro f g q1 q2 i hi
      rw [nI_clamp (by omega), nI_clamp (by omega)]
      by_cases c : i = j - 1
      · rw [if_pos c, q2 j (by omega)]; congr 1; omega
      · rw [if_neg c]; exact q1 i (by omega)
    have two : ∀ (f g : Nat → Int32), (∀ i, j ≤ i → f i = g i) → ∀ i, j + 1 ≤ i → (if i = (nI (j - 1)).toNatClampNeg then f (nI j).toNatClampNeg else f i) = g i := by
      intro f g q2 i hi
      rw [nI_clamp (by omega), if_neg (by omega)]; exact q2 i (by omega)
    refine ih (j + 1) f _ (by omega) (by omega) (by omega) (fr.tr (by repeat (first | exact FrL.rf | refine FrL.tr ?_ (FrL_sF (by decide)) | refine FrL.tr ?_ (FrL_sA (by decide)) | refine FrL.tr ?_ (FrL_sL (by decide))))) ?_ ?_ ?_ ?_ ?_ ?_
    · exact one (σ.2.1 9 0 1) _ a1 b1
    · exact one (σ.2.1 9 0 2) _ a2 b2
    · exact one (σ.2.1 9 0 3) _ a3 b3
    · exact two (σ.2.1 9 0 1) _ b1
    · exact two (σ.2.1 9 0 2) _ b2
    · exact two (σ.2.1 9 0 3) _ b3
theorem becM {σ : AS} {d a p k v : Nat} {t c : N2} (hp : p < 8) (hk : k < 5) (hd : d ≤ 40) (ht : σ.2.1 9 0 0 (8 * k + p) = nI (t p k)) (htb : t p k ≤ 99) (hv : v ≤ 99) (hne : ¬ v = t p k) (h5 : σ.1 9 0 5 = nI d) (r1 : ∀ i, i < d → σ.2.1 9 0 1 i = nI (8 * c i 1 + c i 0)) (r2 : ∀ i, i < d → σ.2.1 9 0 2 i = nI (c i 2)) (r3 : ∀ i, i < d → σ.2.1 9 0 3 i = nI (c i 3)) :
    wpO (g_X9_becomes (nI (8 * k + p)) (nI v) σ) (fun r σ1 => r = nI (t p k) ∧ σ1.1 9 0 5 = nI (chD d + 1) ∧ σ1.1 9 0 4 = nI (chD d + 1) ∧ (∀ i, i < chD d + 1 → σ1.2.1 9 0 1 i = nI (8 * chA (chC d c) (chD d) p k (t p k) v i 1 + chA (chC d c) (chD d) p k (t p k) v i 0)) ∧ (∀ i, i < chD d + 1 → σ1.2.1 9 0 2 i = nI (chA (chC d c) (chD d) p k (t p k) v i 2)) ∧ (∀ i, i < chD d + 1 → σ1.2.1 9 0 3 i = nI (chA (chC d c) (chD d) p k (t p k) v i 3)) ∧ σ1.2.1 9 0 0 = upd (σ.2.1 9 0 0) (8 * k + p) (nI v) ∧ FrL SMc σ σ1) := by
  unfold g_X9_becomes
  refine wpO_t (inb_nI (by omega) (by omega)) (wpO_lt ?_)
  rw [gA_nI (by omega), ht]
  refine wpO_f (fun z => hne ((nI_eq (by omega) (by omega)).mp z).symm) ?_
  by_cases c0 : d < 40
  · have e1 : chD d = d := if_pos c0
    have e2 : chC d c = c := if_pos c0
    rw [e1, e2]
    exact wpO_f (show ¬ σ.1 9 0 5 = 40 by rw [h5, li40]; exact fun z => by have := (nI_eq (by omega) (by omega)).mp z; omega) (bec97M c0 (by omega) rfl h5 r1 r2 r3)
  · have e1 : chD d = 39 := if_neg c0
    have e2 : chC d c = fun i j => c (i + 1) j := if_neg c0
    have e3 : d = 40 := by omega
    subst e3
    rw [e1, e2]
    refine wpO_t (show σ.1 9 0 5 = 40 from h5) ?_
    refine shiftM (σ0 := σ) ?_ 39 1 400 σ (by omega) (by omega) (by omega) FrL.rf (fun i hi => by omega) (fun i hi => by omega) (fun i hi => by omega) (fun _ _ => rfl) (fun _ _ => rfl) (fun _ _ => rfl)
    intro σ1 q1 q2 q3 fr
    refine wpO_lt ?_
    have e5 : gF σ1 9 0 5 - 1 = nI 39 := by unfold gF; rw [fr.f 9 0 5 (by decide), h5]; rfl
    rw [e5]
    refine wpO_mono (bec97M (c := fun i j => c (i + 1) j) (σ := sF σ1 9 0 5 (nI 39)) (by omega) (by omega) rfl rfl ?_ ?_ ?_) ?_
    · intro i hi; show σ1.2.1 9 0 1 i = _; rw [q1 i hi]; exact r1 (i + 1) (by omega)
    · intro i hi; show σ1.2.1 9 0 2 i = _; rw [q2 i hi]; exact r2 (i + 1) (by omega)
    · intro i hi; show σ1.2.1 9 0 3 i = _; rw [q3 i hi]; exact r3 (i + 1) (by omega)
    · intro r σ2 x
      obtain ⟨x0, x1, x2, x3, x4, x5, x6, x7⟩ := x
      refine ⟨x0, x1, x2, x3, x4, x5, ?_, ((fr.mono (by decide)).tr (FrL_sF (by decide))).tr x7⟩
      rw [x6, sF_a, fr.a 9 0 0 (by decide)]
theorem op_mend (a b v0 : Int32) : Both (g_X8_mend a b v0) (g_X9_mend a b v0) := by
  intro σ h
  obtain ⟨n, t, w, d, aa, c, h1, h2, h3⟩ := h.1
  have hn := h3.1
  have eS := isSitterM_eq h2.1 hn a
  unfold g_X8_mend g_X9_mend
  refine wpO_e (has_eq h1.1 hn a) ?_
  by_cases c1 : inb a n
  · obtain ⟨p, hp, rfl⟩ := inb_ex c1
    rw [if_pos c1]
    refine wpO_f one_ne ?_
    rw [ifr2 (show (4 : Int32) = nI 4 from rfl) (by omega)]
    have q : ∀ {f : Int32 → AS → Option (Int32 × AS)} {Q : Int32 → AS → Prop} {σ1 : AS}, σ1.1 9 0 6 = nI n → wpO (f 1 σ1) Q → wpO (bnd (g_X9_isSitter (nI p) σ1) f) Q := fun e z => wpO_e (isSitterM_eq e hn _) (by rw [if_pos c1]; exact z)
    by_cases c2 : inb b 5
    · obtain ⟨k, hk, rfl⟩ := inb_ex c2
      rw [if_pos c2]
      obtain ⟨m, hm, hm9, em⟩ : ∃ m : Nat, m ≤ 99 ∧ (k < 3 → m = 9) ∧ m = (if k < 3 then 9 else 99) := ⟨if k < 3 then 9 else 99, by split <;> omega, fun z => if_pos z, rfl⟩
      have eC : (if nI k < 3 then g_X8_mend_39 (nI p) (nI k) v0 9 v0 σ else g_X8_mend_39 (nI p) (nI k) v0 99 v0 σ) = g_X8_mend_39 (nI p) (nI k) v0 (nI m) v0 σ := by
        by_cases c3 : k < 3
        · rw [if_pos (show nI k < 3 from show nI k < nI 3 from nI_lt c3 (by omega)), em, if_pos c3]; rfl
        · rw [if_neg (show ¬ nI k < 3 from show ¬ nI k < nI 3 from nI_nlt (by omega) (by omega)), em, if_neg c3]; rfl
      have eM : ∀ σ1, (if nI k < 3 then g_X9_mend_37 (nI p) (nI k) v0 9 0 v0.toInt64 σ1 else g_X9_mend_37 (nI p) (nI k) v0 99 0 v0.toInt64 σ1) = g_X9_mend_37 (nI p) (nI k) v0 (nI (m + 1) - 1).toInt64 0 v0.toInt64 σ1 := by
        intro σ1
        by_cases c3 : k < 3
        · rw [if_pos (show nI k < 3 from show nI k < nI 3 from nI_lt c3 (by omega)), em, if_pos c3]; rfl
        · rw [if_neg (show ¬ nI k < 3 from show ¬ nI k < nI 3 from nI_nlt (by omega) (by omega)), em, if_neg c3]; rfl
      rw [eC]
      unfold g_X8_mend_39
      rw [ifr2 (K := nI m) rfl (by omega)]
      have r : ∀ {f : Int32 → AS → Option (Int32 × AS)} {Q : Int32 → AS → Prop} {σ1 : AS}, wpO (f 1 σ1) Q → wpO (bnd (g_X9_within (nI k).toInt64 0 4 σ1) f) Q := fun z => wpO_e (within0_eq _ 4 5 (by decide) (by omega) _) (by rw [if_pos c2]; exact z)
      by_cases c3 : inb v0 (m + 1)
      · obtain ⟨v, hv, rfl⟩ := inb_ex c3
        rw [if_pos c3]
        obtain ⟨p1, p2, p3, p4, p5, p6⟩ := (h3 : G1P n t w d aa c)
        obtain ⟨u1, u2, u3, u4, u5, u6, u7, u8, u9⟩ := (h1 : G1C σ n t w d aa c)
        obtain ⟨tb, tb3, -⟩ := p2 p k (by omega) hk
        refine wpO_e (trait_eq u1 hn hp hk) ?_
        rw [u2 p k (by omega) hk]
        have s : ∀ {Q : Int32 → AS → Prop} {σ1 : AS}, σ1.1 9 0 6 = nI n → wpO (g_X9_becomes (nI (8 * k + p)) (nI v) σ1) Q → wpO (bnd (g_X9_isSitter (nI p) σ1) fun r1 σ2 => if r1 = 0 then some (-1, σ2) else bnd (g_X9_within (nI k).toInt64 0 4 σ2) fun r4 σ5 => if r4 = 0 then some (-1, σ5) else if nI k < 3 then g_X9_mend_37 (nI p) (nI k) (nI v) 9 0 (nI v).toInt64 σ5 else g_X9_mend_37 (nI p) (nI k) (nI v) 99 0 (nI v).toInt64 σ5) Q := by
          intro Q σ1 e z
          refine q e (wpO_f one_ne (r (wpO_f one_ne ?_)))
          rw [eM]
          unfold g_X9_mend_37
          refine wpO_e (within0_eq _ _ (m + 1) rfl (by omega) _) ?_
          rw [if_pos c3, li8, pk_mul, nI_add]
          exact wpO_f one_ne (wpO_b z (fun _ _ q => wpO_some.mpr q))
        by_cases c4 : v = t p k
        · refine wpO_t (by rw [c4]) (wpO_some.mpr (s h2.1 ?_))
          unfold g_X9_becomes
          refine wpO_t (inb_nI (by omega) (by omega)) (wpO_lt ?_)
          rw [gA_nI (by omega), h2.2.1 p k (by omega) hk]
          exact wpO_t (by rw [c4]) (wpO_some.mpr ⟨rfl, h⟩)
        · refine wpO_f (fun z => c4 ((nI_eq (by omega) (by omega)).mp z)) (wpO_e (becC u1 p1 hp hk) ?_)
          generalize hs : sAf σ 6 0 0 (upd (σ.2.1 6 0 0) (p * 5 + k) (nI v)) = σ1
          have f1 : FrL [(6, 0, 0)] σ σ1 := by rw [← hs]; exact FrL_sA (by decide)
          have v1 : σ1.2.1 6 0 0 = upd (σ.2.1 6 0 0) (p * 5 + k) (nI v) := by rw [← hs, sAf_a, if_pos ⟨rfl, rfl, rfl⟩]
          have gC : G1C σ1 n (uN2 t p k v) w d aa c := by
            refine ⟨?_, ?_, ?_, ?_, ?_, ?_, ?_, ?_, ?_⟩
            · rw [f1.f 6 0 2 (by decide)]; exact u1
            · rw [v1]; exact tr_setC hk u2
            · rw [f1.a 6 0 1 (by decide)]; exact u3
            · rw [f1.f 0 0 4 (by decide)]; exact u4
            · rw [f1.f 0 0 5 (by decide)]; exact u5
            · rw [f1.a 0 0 0 (by decide)]; exact u6
            · rw [f1.a 0 0 1 (by decide)]; exact u7
            · rw [f1.a 0 0 2 (by decide)]; exact u8
            · rw [f1.a 0 0 3 (by decide)]; exact u9
          obtain ⟨z1, z2, z3, z4, z5, z6, z7, z8, z9⟩ := gC
          refine wpO_b (addC (p := p) (k := k) (u := t p k) (v := v) (c := c) (by omega) z4 (fun i hi => z6 i (by omega)) (fun i hi => z7 i (by omega)) (fun i hi => z8 i (by omega)) (fun i hi => z9 i (by omega))) (fun _ σ2 x => wpO_some.mpr ?_)
          obtain ⟨x4, x5, x6, x7, x8, x9, fx⟩ := x
          have F2 : FrL ([(6, 0, 0)] ++ SCh) σ σ2 := (f1.mono (by decide)).tr (fx.mono (by decide))
          have m2 := h2.fr F2 (by decide)
          obtain ⟨y1, y2, y3, y4, y5, y6, y7, y8⟩ := (m2 : G1M σ2 n t w d aa c)
          refine s y1 (wpO_mono (becM (a := aa) (c := c) (t := t) (by omega) hk (by omega) (y2 p k (by omega) hk) tb (by omega) c4 y4 (fun i hi => y6 i (by omega)) (fun i hi => y7 i (by omega)) (fun i hi => y8 i (by omega))) ?_)
          intro r' σ3 k0
          obtain ⟨k0, k1, k2, k3, k4, k5, k6, k7⟩ := k0
          have F : FrL (([(6, 0, 0)] ++ SCh) ++ SMc) σ σ3 := (F2.mono (by decide)).tr (k7.mono (by decide))
          have hD : chD d < 40 := by unfold chD; split <;> omega
          refine ⟨k0.symm, h.of1 F ⟨n, uN2 t p k v, w, chD d + 1, chD d + 1, chA (chC d c) (chD d) p k (t p k) v, ⟨?_, ?_, ?_, ?_, ?_, ?_, ?_, ?_, ?_⟩, ⟨?_, ?_, ?_, k1, k2, k3, k4, k5⟩, p1, tr_P hp (by omega) (fun z => by have := hm9 z; omega) p2, p3, Nat.le_refl _, by omega, ?_⟩ (by decide)⟩
          · rw [F.f 6 0 2 (by decide)]; exact u1
          · rw [k7.a 6 0 0 (by decide), fx.a 6 0 0 (by decide)]; exact z2
          · rw [F.a 6 0 1 (by decide)]; exact u3
          · rw [k7.f 0 0 4 (by decide)]; exact x4
          · rw [k7.f 0 0 5 (by decide)]; exact x5
          · rw [k7.a 0 0 0 (by decide)]; exact x6
          · rw [k7.a 0 0 1 (by decide)]; exact x7
          · rw [k7.a 0 0 2 (by decide)]; exact x8
          · rw [k7.a 0 0 3 (by decide)]; exact x9
          · rw [k7.f 9 0 6 (by decide)]; exact y1
          · rw [k6]; exact tr_setM (by omega) y2
          · rw [k7.a 9 0 8 (by decide)]; exact y3
          · intro i hi
            unfold chA
            by_cases e : i = chD d
            · rw [if_pos e, if_pos e, if_pos e, if_pos e]
              exact ⟨hp, hk, tb, by show v ≤ 99; omega, fun z => ⟨tb3 z, by have := hm9 z; show v ≤ 9; omega⟩⟩
            · rw [if_neg e, if_neg e, if_neg e, if_neg e]
              unfold chC chD at *
              by_cases e2 : d < 40
              · rw [if_pos e2] at hi e; rw [if_pos e2]; exact p6 i (by omega)
              · rw [if_neg e2] at hi e; rw [if_neg e2]; exact p6 (i + 1) (by omega)
      · rw [if_neg c3]
        refine wpO_some.mpr (q h2.1 (wpO_f one_ne (r (wpO_f one_ne ?_))))
        rw [eM]
        unfold g_X9_mend_37
        refine wpO_e (within0_eq _ _ (m + 1) rfl (by omega) _) ?_
        rw [if_neg c3]
        exact wpO_t rfl (wpO_some.mpr ⟨rfl, h⟩)
    · rw [if_neg c2]
      refine wpO_some.mpr (q h2.1 (wpO_f one_ne (wpO_e (within0_eq _ 4 5 (by decide) (by omega) σ) ?_)))
      rw [if_neg c2]
      exact wpO_t rfl (wpO_some.mpr ⟨rfl, h⟩)
  · rw [if_neg c1]
    refine wpO_t rfl (wpO_some.mpr (wpO_e eS ?_))
    rw [if_neg c1]
    exact wpO_t rfl (wpO_some.mpr ⟨rfl, h⟩)
