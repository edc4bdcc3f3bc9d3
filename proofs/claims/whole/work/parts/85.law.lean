/-! law -/
theorem becomeLaw {σ : AS} : wpO (g_X3_become 0 1 σ) (fun _ σ1 => (∀ i, i < 128 → σ1.2.1 3 0 0 i = σ.2.1 3 1 0 i) ∧ (∀ i, i < 128 → σ1.2.1 3 0 1 i = σ.2.1 3 1 1 i) ∧ σ1.1 3 0 4 = σ.1 3 1 4 ∧ FrL [(3, 0, 0), (3, 0, 1), (3, 0, 4)] σ σ1) := by
  unfold g_X3_become
  refine wpO_lt (wpO_lt (wpO_lt (wpO_some.mpr ⟨fun i hi => ?_, fun i hi => ?_, rfl, ((FrL_sA (by decide)).tr (FrL_sA (by decide))).tr (FrL_sF (by decide))⟩)))
  · exact cpy0 (n := 128) (f := σ.2.1 3 1 0) (by decide) hi
  · exact cpy0 (n := 128) (f := σ.2.1 3 1 1) (by decide) hi
theorem law37 {σ0 : AS} {len : Nat} {T : Nat → Nat} (hlen : len ≤ 120) (hT : ∀ i, i < len → σ0.2.1 9 0 15 i = nI (T i)) : ∀ (d j f : Nat) (σ : AS), j + d = len → d < f → (∀ i, i < j → σ.2.1 9 0 17 i = nI (T i)) → FrL [(9, 0, 17)] σ0 σ →
    wpO (g_X9_law_37 f (nI len) (nI j) σ) (fun r σ1 => r = 1 ∧ σ1.1 9 0 18 = nI len ∧ (∀ i, i < len → σ1.2.1 9 0 17 i = nI (T i)) ∧ FrL [(9, 0, 17), (9, 0, 18)] σ0 σ1) := by
  intro d
  induction d with
  | zero =>
    intro j f σ hj hf a fr
    obtain ⟨f, rfl⟩ : ∃ g, f = g + 1 := ⟨f - 1, by omega⟩
    have e : j = len := by omega
    subst e
    rw [g_X9_law_37]
    exact wpO_f (nI_nlt (by omega) (by omega)) (wpO_lt (wpO_some.mpr ⟨rfl, rfl, a, (fr.mono (by decide)).tr (FrL_sF (by decide))⟩))
  | succ d ih =>
    intro j f σ hj hf a fr
    obtain ⟨f, rfl⟩ : ∃ g, f = g + 1 := ⟨f - 1, by omega⟩
    rw [g_X9_law_37, nI_1]
    refine wpO_t (nI_lt (by omega) (by omega)) (wpO_t (inb_nI (by omega) (by omega)) (wpO_lt ?_))
    refine ih (j + 1) f _ (by omega) (by omega) ?_ (fr.tr (FrL_sA (by decide)))
    intro i hi
    unfold sA
    rw [sAf_a, if_pos ⟨rfl, rfl, rfl⟩, nI_clamp (by omega), gA_nI (by omega), upd_at, fr.a 9 0 15 (by decide)]
    by_cases e : i = j
    · rw [if_pos e, e]; exact hT j (by omega)
    · rw [if_neg e]; exact a i (by omega)
abbrev SLc : List (Nat × Nat × Nat) := [(7, 0, 2), (7, 0, 3), (3, 1, 0), (3, 1, 1), (3, 1, 4)]
theorem op_law : Both g_X8_law g_X9_law := by
  intro σ h
  obtain ⟨len, T, t1, t2, t3, t4⟩ := h.2.2.1
  obtain ⟨ls0, len0, T0, k1, k2, k3⟩ := h.2.2.2.1
  have he : EnvT T len σ := ⟨t3, t1.1, fun i hi => ⟨t1.2 i hi, t4 i hi⟩⟩
  unfold g_X8_law g_X9_law
  refine wpO_b (into_is he) (fun r σ1 w => ?_)
  obtain ⟨f1, w⟩ := w
  have f1 : FrL SLc σ σ1 := f1
  refine wpO_b (P := fun _ σ2 => σ2 = sF σ1 7 0 1 0) (by unfold g_X7_clear; exact wpO_lt (wpO_some.mpr rfl)) (fun _ σ2 e2 => ?_)
  have f12 : FrL [(7, 0, 1)] σ1 σ2 := by rw [e2]; exact FrL_sF (by decide)
  have v1 : σ2.1 7 0 1 = 0 := by rw [e2]; rfl
  have f2 : FrL (SLc ++ [(7, 0, 1)]) σ σ2 := (f1.mono (by decide)).tr (f12.mono (by decide))
  -- the reference, from any state where the tape is as it was
  have ref : ∀ (S : List (Nat × Nat × Nat)) (σ3 : AS) (Q : Int32 → AS → Prop), FrL S σ σ3 → (9, 0, 15) ∉ S → (9, 0, 16) ∉ S →
      (∀ σ5 : AS, (∃ f, FrL (SW ++ [(9, 0, 16)]) σ3 σ5 ∧ σ5.1 9 0 16 = 0 ∧ (match pText (tnx T len) len (PE (tnx T len)) with | .ok ls => σ5.1 9 0 22 = -1 | .error p => σ5.1 9 0 22 = nI p ∧ p ≤ len) ∧ f = ()) → wpO (if gF σ5 9 0 22 < 0 then g_X9_law_37 400 (nI len) 0 σ5 else some ((-100) - gF σ5 9 0 22, σ5)) Q) →
      wpO (bnd (g_X9_workOut (-1) (gF σ3 9 0 16) σ3) fun r1 σ2 => (lt (gF σ2 9 0 16) fun x3 => (lt (sF σ2 9 0 16 0) fun σ4 => (if gF σ4 9 0 22 < 0 then g_X9_law_37 400 x3 0 σ4 else some ((-100) - (gF σ4 9 0 22), σ4))))) Q := by
    intro S σ3 Q fr n15 n16 hk
    have e16 : gF σ3 9 0 16 = nI len := (fr.f 9 0 16 n16).trans t2.1
    rw [e16]
    have hx : EnvX T len (fun j => (sF (sF σ3 9 0 19 (-1)) 9 0 21 (nI len)).2.1 9 0 24 j) (sF (sF σ3 9 0 19 (-1)) 9 0 21 (nI len)) := by
      refine ⟨t3, rfl, t4, Or.inl ⟨?_, fun i hi => ?_⟩, fun j hj => rfl⟩
      · show (-1 : Int32) < 0
        decide
      · show σ3.2.1 9 0 15 i = _
        rw [fr.a 9 0 15 n15]; exact t2.2 i hi
    refine wpO_b (workOut_is hx) (fun r1 σ4 q => wpO_lt (wpO_lt ?_))
    obtain ⟨q1, q2⟩ := q
    rw [show gF σ4 9 0 16 = nI len from (q1.f 9 0 16 (by decide)).trans e16]
    refine hk (sF σ4 9 0 16 0) ⟨(), (q1.mono (by decide)).tr (FrL_sF (by decide)), rfl, ?_, rfl⟩
    revert q2
    cases pText (tnx T len) len (PE (tnx T len)) with
    | ok ls => intro q2; exact q2.1
    | error p => intro q2; exact q2
  cases hp : pText (tnx T len) len (PE (tnx T len)) with
  | error p =>
    rw [hp] at w
    obtain ⟨rfl, hpl⟩ := w
    refine wpO_f (nI_pos (by omega)) (wpO_some.mpr (ref _ σ2 _ f2 (by decide) (by decide) ?_))
    rintro σ5 ⟨-, f5, z16, z22, -⟩
    rw [hp] at z22
    rw [show gF σ5 9 0 22 = nI p from z22.1]
    have F : FrL ((SLc ++ [(7, 0, 1)]) ++ (SW ++ [(9, 0, 16)])) σ σ5 := (f2.mono (by decide)).tr (f5.mono (by decide))
    refine wpO_f (nI_pos (by omega)) (wpO_some.mpr ⟨rfl, h.of3 F ⟨0, T, ⟨?_, fun i hi => absurd hi (Nat.not_lt_zero i)⟩, ⟨z16, fun i hi => absurd hi (Nat.not_lt_zero i)⟩, Nat.zero_le _, fun i hi => absurd hi (Nat.not_lt_zero i)⟩ (by decide)⟩)
    rw [f5.f 7 0 1 (by decide)]; exact v1
  | ok ls =>
    rw [hp] at w
    obtain ⟨rfl, w1, w2⟩ := w
    have hne := (pText_good (pP_good 6).1 hp).2
    refine wpO_t (by decide) (wpO_b becomeLaw (fun _ σ3 u => wpO_some.mpr ?_))
    obtain ⟨u0, u1, u4, f3⟩ := u
    have f13 : FrL ((SLc ++ [(7, 0, 1)]) ++ [(3, 0, 0), (3, 0, 1), (3, 0, 4)]) σ σ3 := (f2.mono (by decide)).tr (f3.mono (by decide))
    refine ref _ σ3 _ f13 (by decide) (by decide) ?_
    rintro σ5 ⟨-, f5, z16, z22, -⟩
    rw [hp] at z22
    have z22 : σ5.1 9 0 22 = -1 := z22
    rw [show gF σ5 9 0 22 = -1 from z22]
    refine wpO_t (by decide) (wpO_mono (law37 (σ0 := σ5) (T := T) t3 (fun i hi => by rw [f5.a 9 0 15 (by decide), f13.a 9 0 15 (by decide)]; exact t2.2 i hi) len 0 400 σ5 (by omega) (by omega) (fun i hi => absurd hi (Nat.not_lt_zero i)) FrL.rf) ?_)
    intro r σ6 x
    obtain ⟨rfl, x18, x17, f6⟩ := x
    have f36 : FrL ((SW ++ [(9, 0, 16)]) ++ [(9, 0, 17), (9, 0, 18)]) σ3 σ6 := (f5.mono (by decide)).tr (f6.mono (by decide))
    have F : FrL (((SLc ++ [(7, 0, 1)]) ++ [(3, 0, 0), (3, 0, 1), (3, 0, 4)]) ++ ((SW ++ [(9, 0, 16)]) ++ [(9, 0, 17), (9, 0, 18)])) σ σ6 := (f13.mono (by decide)).tr (f36.mono (by decide))
    refine ⟨rfl, h.of34 F ⟨0, T, ⟨?_, fun i hi => absurd hi (Nat.not_lt_zero i)⟩, ⟨?_, fun i hi => absurd hi (Nat.not_lt_zero i)⟩, Nat.zero_le _, fun i hi => absurd hi (Nat.not_lt_zero i)⟩ ⟨ls, len, T, ⟨?_, fun i x hx => ?_⟩, ⟨fun e => absurd e hne, fun _ => ⟨x18, x17⟩⟩, t3, t4, w2, fun _ => hp⟩ (by decide)⟩
    · rw [f36.f 7 0 1 (by decide), f3.f 7 0 1 (by decide)]; exact v1
    · rw [f6.f 9 0 16 (by decide)]; exact z16
    · rw [f36.f 3 0 4 (by decide), u4, f12.f 3 1 4 (by decide)]; exact w1.1
    · have hi : i < (cLines 0 ls).length := by
        have := List.getElem?_eq_some_iff.mp hx
        exact this.1
      obtain ⟨a, b⟩ := w1.2 i x hx
      constructor
      · rw [f36.a 3 0 0 (by decide), u0 i (by omega), f12.a 3 1 0 (by decide)]; exact a
      · rw [f36.a 3 0 1 (by decide), u1 i (by omega), f12.a 3 1 1 (by decide)]; exact b
