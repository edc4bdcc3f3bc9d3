theorem inb_mono {a : Int32} {m m' : Nat} (h : inb a m) (hm : m ≤ m') : inb a m' := ⟨h.1, Nat.lt_of_lt_of_le h.2 hm⟩
theorem op_rest (a b : Int32) : Both (g_X8_rest a b) (g_X9_rest a b) := by
  intro σ h
  obtain ⟨n, t, w, d, aa, c, h1, h2, h3⟩ := h.1
  obtain ⟨x, y, z, g1, g2, g3⟩ := h.2.1
  have hn := h3.1
  unfold g_X8_rest g_X9_rest
  rw [ifr li7 (by omega)]
  have eM := isRestM_eq h2.1 hn a
  have eC := hasRest_eq h1.1 hn a
  have eW := within0_eq a 6 7 (by decide) (by omega) σ
  by_cases c1 : inb a 7
  · obtain ⟨p, hp, rfl⟩ := inb_ex c1
    have q2 := g3.1.2.1 p hp
    have q1 := g3.1.1 p hp
    rw [if_pos c1]
    by_cases c4 : b = 4
    · refine wpO_t c4 (wpO_t c1 (wpO_some.mpr (wpO_t c4 (wpO_e eW ?_))))
      rw [if_pos c1]
      refine wpO_f one_ne (wpO_t c1 (wpO_some.mpr ⟨?_, h⟩))
      rw [gA_nI (by omega), gA_nI (by omega), g1.1.1 p hp, g2.1.1 p hp]
    · refine wpO_f c4 (wpO_e eC ?_)
      by_cases c2 : inb (nI p) (n - 1)
      · rw [if_pos c2]
        refine wpO_f one_ne ?_
        have s2 : ∀ {Q : Int32 → AS → Prop} {f : Int32 → AS → Option (Int32 × AS)}, wpO (f 1 σ) Q → wpO (bnd (g_X9_isRest (nI p) σ) f) Q := fun w => wpO_e eM (by rw [if_pos c2]; exact w)
        have b2 : (2 : Int32) * nI p = nI (2 * p) := e2i p
        rw [b2, nI_1]
        have i14 : inb (nI (2 * p)) 14 := inb_nI (by omega) (by omega)
        have i15 : inb (nI (2 * p + 1)) 14 := inb_nI (by omega) (by omega)
        by_cases c0 : b = 0
        · refine wpO_t c0 (wpO_t c1 (wpO_some.mpr (wpO_f c4 (s2 (wpO_f one_ne (wpO_t c0 (wpO_t c1 (wpO_some.mpr ⟨?_, h⟩))))))))
          rw [gA_nI (by omega), gA_nI (by omega), g1.1.1 p hp, g2.1.1 p hp]
        · refine wpO_f c0 ?_
          by_cases c5 : b = 1
          · refine wpO_t c5 (wpO_t c1 (wpO_some.mpr (wpO_f c4 (s2 (wpO_f one_ne (wpO_f c0 (wpO_t c5 (wpO_t i14 (wpO_some.mpr ⟨?_, h⟩)))))))))
            rw [gA_nI (by omega), gA_nI (by omega), g1.1.2.1 p hp, g2.1.2.1 p hp]
          · refine wpO_f c5 ?_
            by_cases c6 : b = 2
            · refine wpO_t c6 (wpO_t c1 (wpO_some.mpr (wpO_f c4 (s2 (wpO_f one_ne (wpO_f c0 (wpO_f c5 (wpO_t c6 (wpO_t i15 (wpO_some.mpr ⟨?_, h⟩))))))))))
              rw [gA_nI (by omega), gA_nI (by omega), g1.1.2.2.1 p hp, g2.1.2.2.1 p hp]
            · refine wpO_f c6 ?_
              by_cases c7 : b = 3
              · refine wpO_t c7 ?_
                unfold g_X1_free
                have ev : gA σ 1 0 2 (nI p) - gA σ 1 0 3 (nI p) - gA σ 1 0 4 (nI p) = gA σ 9 0 7 (nI p) - gA σ 9 0 9 (nI (2 * p)) - gA σ 9 0 9 (nI (2 * p + 1)) := by
                  rw [gA_nI (by omega), gA_nI (by omega), gA_nI (by omega), gA_nI (by omega), gA_nI (by omega), gA_nI (by omega), g1.1.1 p hp, g1.1.2.1 p hp, g1.1.2.2.1 p hp, g2.1.1 p hp, g2.1.2.1 p hp, g2.1.2.2.1 p hp]
                refine wpO_b (wpO_t c1 (wpO_some.mpr (show _ ∧ σ = σ from ⟨rfl, rfl⟩))) (P := fun r σ1 => r = gA σ 1 0 2 (nI p) - gA σ 1 0 3 (nI p) - gA σ 1 0 4 (nI p) ∧ σ = σ1) (fun r σ1 w => ?_)
                obtain ⟨rfl, rfl⟩ := w
                exact wpO_some.mpr (wpO_f c4 (s2 (wpO_f one_ne (wpO_f c0 (wpO_f c5 (wpO_f c6 (wpO_t c7 (wpO_t c1 (wpO_t i14 (wpO_t i15 (wpO_some.mpr ⟨ev, h⟩)))))))))))
              · exact wpO_f c7 (wpO_some.mpr (wpO_f c4 (s2 (wpO_f one_ne (wpO_f c0 (wpO_f c5 (wpO_f c6 (wpO_f c7 (wpO_some.mpr ⟨rfl, h⟩)))))))))
      · rw [if_neg c2]
        refine wpO_t rfl (wpO_some.mpr (wpO_f c4 (wpO_e eM ?_)))
        rw [if_neg c2]
        exact wpO_t rfl (wpO_some.mpr ⟨rfl, h⟩)
  · rw [if_neg c1]
    refine wpO_some.mpr ?_
    by_cases c4 : b = 4
    · refine wpO_t c4 (wpO_e eW ?_)
      rw [if_neg c1]
      exact wpO_t rfl (wpO_some.mpr ⟨rfl, h⟩)
    · refine wpO_f c4 (wpO_e eM ?_)
      rw [if_neg (fun z => c1 (inb_mono z (by omega)))]
      exact wpO_t rfl (wpO_some.mpr ⟨rfl, h⟩)
theorem op_body (a : Int32) : Both (g_X8_body a) (g_X9_body a) := by
  intro σ h
  obtain ⟨x, y, b1, b2, b3⟩ := h.2.2.2.2
  have hb := b3.1.1
  have eK : g_X2_isKind a σ = some (if inb a 8 then 1 else 0, σ) := by
    unfold g_X2_isKind
    rw [ifr li8 (by omega)]
    split <;> rfl
  have eW := fun σ => within0_eq a 7 8 (by decide) (by omega) σ
  unfold g_X8_body g_X9_body
  refine wpO_e eK ?_
  by_cases c : inb a 8
  · obtain ⟨p, hp, rfl⟩ := inb_ex c
    rw [if_pos c]
    refine wpO_f one_ne ?_
    unfold g_X2_add
    have n1 : gF σ 2 0 2 = nI x.1 := b1.1.1
    have n2 : σ.1 9 0 44 = nI x.1 := b2.1.1
    rw [n1]
    by_cases cb : x.1 < 50
    · refine wpO_b (P := fun r σ1 => r = nI x.1 ∧ σ1.1 2 0 2 = nI (x.1 + 1) ∧ σ1.2.1 2 0 0 = upd (σ.2.1 2 0 0) x.1 (nI p) ∧ FrL [(2, 0, 2), (2, 0, 0)] σ σ1) (wpO_t (by rw [li50]; exact nI_lt cb (by omega)) (wpO_t (inb_nI cb (by omega)) (wpO_lt (wpO_lt (wpO_some.mpr ⟨?_, ?_, ?_, (FrL_sA (by decide)).tr (FrL_sF (by decide))⟩))))) ?_
      · show gF σ 2 0 2 + 1 - 1 = _; rw [n1, nI_1, li1, pk_sub (by omega)]; rfl
      · show gF σ 2 0 2 + 1 = _; rw [n1, nI_1]
      · rw [sF_a]; unfold sA; rw [sAf_a, if_pos ⟨rfl, rfl, rfl⟩, nI_clamp (by omega)]
      · intro r σ1 w
        obtain ⟨rfl, w1, w2, w3⟩ := w
        have n3 : gF σ1 9 0 44 = nI x.1 := by unfold gF; rw [w3.f 9 0 44 (by decide)]; exact n2
        refine wpO_some.mpr (wpO_e (eW σ1) ?_)
        rw [if_pos c]
        refine wpO_f one_ne ?_
        rw [n3]
        refine wpO_f (by rw [li50]; exact fun z => by have := (nI_eq (by omega) (by omega)).mp z; omega) (wpO_t (inb_nI cb (by omega)) (wpO_lt (wpO_lt (wpO_some.mpr ⟨?_, ?_⟩))))
        · show nI x.1 = gF σ1 9 0 44 + 1 - 1; rw [n3, nI_1, li1, pk_sub (by omega)]; rfl
        · generalize hs : sF (sA σ1 9 0 45 (nI x.1) (nI p)) 9 0 44 (gF (sA σ1 9 0 45 (nI x.1) (nI p)) 9 0 44 + 1) = σ2
          have f2 : FrL [(9, 0, 45), (9, 0, 44)] σ1 σ2 := by rw [← hs]; exact (FrL_sA (by decide)).tr (FrL_sF (by decide))
          have m1 : σ2.1 9 0 44 = nI (x.1 + 1) := by rw [← hs]; show gF σ1 9 0 44 + 1 = _; rw [n3, nI_1]
          have m2 : σ2.2.1 9 0 45 = upd (σ1.2.1 9 0 45) x.1 (nI p) := by rw [← hs, sF_a]; unfold sA; rw [sAf_a, if_pos ⟨rfl, rfl, rfl⟩, nI_clamp (by omega)]
          have F : FrL [(2, 0, 2), (2, 0, 0), (9, 0, 45), (9, 0, 44)] σ σ2 := (w3.mono (by decide)).tr (f2.mono (by decide))
          have kk : ∀ i, i < x.1 + 1 → upd (fun i => nI (x.2.1 i)) x.1 (nI p) i = nI (uN x.2.1 x.1 p i) := by
            intro i _
            rw [upd_at]; unfold uN
            by_cases e : i = x.1
            · rw [if_pos e, if_pos e]
            · rw [if_neg e, if_neg e]
          refine h.of5 F ⟨(x.1 + 1, uN x.2.1 x.1 p, x.2.2), y, ⟨⟨?_, fun i hi => ?_, ?_, ?_⟩, b1.2.fr F (by decide)⟩, ⟨⟨m1, fun i hi => ?_, ?_, ?_⟩, b2.2.fr F (by decide)⟩, ⟨by show x.1 + 1 ≤ 50; omega, fun i hi => ?_, b3.1.2.2⟩, fun d hd => ?_⟩ (by decide)
          · show σ2.1 2 0 2 = _; rw [f2.f 2 0 2 (by decide)]; exact w1
          · have hi : i < x.1 + 1 := hi
            rw [f2.a 2 0 0 (by decide), w2, upd_at]
            show _ = nI (uN x.2.1 x.1 p i)
            rw [← kk i hi, upd_at]
            by_cases e : i = x.1
            · rw [if_pos e, if_pos e]
            · rw [if_neg e, if_neg e]; exact b1.1.2.1 i (by omega)
          · show σ2.1 2 0 3 = _; rw [F.f 2 0 3 (by decide)]; exact b1.1.2.2.1
          · rw [F.a 2 0 1 (by decide)]; exact b1.1.2.2.2
          · have hi : i < x.1 + 1 := hi
            rw [m2, upd_at]
            show _ = nI (uN x.2.1 x.1 p i)
            rw [← kk i hi, upd_at]
            by_cases e : i = x.1
            · rw [if_pos e, if_pos e]
            · rw [if_neg e, if_neg e, w3.a 9 0 45 (by decide)]; exact b2.1.2.1 i (by omega)
          · show σ2.1 9 0 47 = _; rw [F.f 9 0 47 (by decide)]; exact b2.1.2.2.1
          · rw [F.a 9 0 46 (by decide)]; exact b2.1.2.2.2
          · have hi : i < x.1 + 1 := hi
            show uN x.2.1 x.1 p i < 8
            unfold uN
            by_cases e : i = x.1
            · rw [if_pos e]; exact hp
            · rw [if_neg e]; exact b3.1.2.1 i (by omega)
          · obtain ⟨s1, s2, s3, s4⟩ := b3.2 d hd
            exact ⟨s1, fun z => Nat.lt_succ_of_lt (s2 z), s3, s4⟩
    · have e50 : x.1 = 50 := by omega
      refine wpO_e (r := -3) (σ := σ) ?_ (wpO_some.mpr (wpO_e (eW σ) ?_))
      · rw [if_neg (by rw [li50]; exact nI_nlt (by omega) (by omega))]
      · rw [if_pos c]
        exact wpO_f one_ne (wpO_t (show σ.1 9 0 44 = 50 by rw [n2, e50]; rfl) (wpO_some.mpr ⟨rfl, h⟩))
  · rw [if_neg c]
    refine wpO_t rfl (wpO_some.mpr (wpO_e (eW σ) ?_))
    rw [if_neg c]
    exact wpO_t rfl (wpO_some.mpr ⟨rfl, h⟩)
