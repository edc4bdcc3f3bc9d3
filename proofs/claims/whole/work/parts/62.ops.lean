/-! the calls, one by one -/
theorem ifr {α : Type} {a K : Int32} {m : Nat} (hK : K = nI m) (hm : m < 2 ^ 31) (x y : α) : (if a < 0 then x else if a < K then y else x) = if inb a m then y else x := by
  subst hK
  by_cases c : inb a m
  · have := (inb_iff hm).mp c
    rw [if_pos c, if_neg this.1, if_pos this.2]
  · rw [if_neg c]
    by_cases c1 : a < 0
    · rw [if_pos c1]
    · rw [if_neg c1, if_neg (fun z => c ((inb_iff hm).mpr ⟨c1, z⟩))]
theorem gt_iff {a : Int32} {k : Nat} (hk : k < 2 ^ 30) : nI k < a ↔ ¬ a < nI (k + 1) := by
  rw [Int32.lt_iff_toInt_lt, Int32.lt_iff_toInt_lt, nI_toInt (by omega), nI_toInt (by omega)]; omega
theorem ifr2 {α : Type} {a K : Int32} {m : Nat} (hK : K = nI m) (hm : m < 2 ^ 30) (x y : α) : (if a < 0 then x else if K < a then x else y) = if inb a (m + 1) then y else x := by
  subst hK
  by_cases c : inb a (m + 1)
  · have := (inb_iff (by omega)).mp c
    rw [if_pos c, if_neg this.1, if_neg (fun z => (gt_iff hm).mp z this.2)]
  · rw [if_neg c]
    by_cases c1 : a < 0
    · rw [if_pos c1]
    · rw [if_neg c1, if_pos ((gt_iff hm).mpr (fun z => c ((inb_iff (by omega)).mpr ⟨c1, z⟩)))]
theorem both_rd {x y : AS → Option (Int32 × AS)} {σ : AS} {r : Int32} (h : Inv σ) (e1 : x σ = some (r, σ)) (e2 : y σ = some (r, σ)) : wpO (x σ) (fun r σ1 => wpO (y σ1) (fun r' σ2 => r = r' ∧ Inv σ2)) := by
  rw [e1]; refine wpO_some.mpr ?_; rw [e2]; exact wpO_some.mpr ⟨rfl, h⟩
theorem op_trace (a : Int32) : Both (g_X8_trace a) (g_X9_trace a) := by
  intro σ h
  obtain ⟨x, y, ⟨hc, -⟩, ⟨hm, -⟩, hp, -⟩ := h.2.2.2.2
  have e1 : g_X8_trace a σ = some (if inb a 24 then (if a < nI x.2.2.1 then σ.2.1 2 0 1 a.toNatClampNeg else -1) else -1, σ) := by
    unfold g_X8_trace g_X2_ranAs
    rw [ifr li24 (by omega)]
    show bnd (if inb a 24 then (if a < σ.1 2 0 3 then (if inb a 24 then some (gA σ 2 0 1 a, σ) else none) else some (-1, σ)) else some (-1, σ)) _ = _
    rw [hc.2.2.1]
    by_cases c : inb a 24
    · rw [if_pos c, if_pos c, if_pos c]
      by_cases c2 : a < nI x.2.2.1
      · rw [if_pos c2, if_pos c2]; rfl
      · rw [if_neg c2, if_neg c2]; rfl
    · rw [if_neg c, if_neg c]; rfl
  have e2 : g_X9_trace a σ = some (if inb a 24 then (if a < nI x.2.2.1 then σ.2.1 9 0 46 a.toNatClampNeg else -1) else -1, σ) := by
    unfold g_X9_trace
    show (if a < 0 then some (-1, σ) else if a < σ.1 9 0 47 then (if a < 24 then (if inb a 24 then some (gA σ 9 0 46 a, σ) else none) else some (-1, σ)) else some (-1, σ)) = _
    rw [hm.2.2.1]
    by_cases c : inb a 24
    · have := (inb_iff (n := 24) (by omega)).mp c
      rw [if_pos c, if_neg this.1, if_pos c, if_pos (show a < 24 from this.2)]
      by_cases c2 : a < nI x.2.2.1
      · rw [if_pos c2, if_pos c2]
      · rw [if_neg c2, if_neg c2]
    · rw [if_neg c, if_neg c]
      by_cases c1 : a < 0
      · rw [if_pos c1]
      · have c3 : ¬ a < 24 := fun z => c ((inb_iff (n := 24) (by omega)).mpr ⟨c1, z⟩)
        rw [if_neg c1, if_neg c3]
        split <;> rfl
  refine both_rd h e1 (e2.trans ?_)
  by_cases c : inb a 24
  · rw [if_pos c, if_pos c]
    by_cases c2 : a < nI x.2.2.1
    · rw [if_pos c2, if_pos c2]
      obtain ⟨p, hp24, ep⟩ := inb_ex c
      subst ep
      have hl : p < x.2.2.1 := by
        apply Classical.byContradiction
        intro z
        have := hp.2.2
        exact nI_nlt (a := p) (b := x.2.2.1) (by omega) (by omega) c2
      rw [nI_clamp (by omega), hm.2.2.2 p hl hp24, hc.2.2.2 p hl hp24]
    · rw [if_neg c2, if_neg c2]
  · rw [if_neg c, if_neg c]
theorem op_count (a : Int32) : Both (g_X8_count a) (g_X9_count a) := by
  intro σ h
  obtain ⟨n, t, w, d, aa, c, h1, h2, h3⟩ := h.1
  obtain ⟨x, y, z, g1, g2, -⟩ := h.2.1
  obtain ⟨len, T, t1, t2, -⟩ := h.2.2.1
  obtain ⟨u, v, b1, b2, -⟩ := h.2.2.2.2
  have hn := h3.1
  have q1 := h1.1
  have q2 := h2.1
  unfold g_X8_count g_X9_count g_X7_length g_X0_undoable g_X2_number g_X2_ran
  refine both_rd (x := fun σ => _) (y := fun σ => _) h (r := if a = 0 then nI n else if a = 1 then nI (n - 1) else if a = 2 then nI x.2.2.2.2.2.2 else if a = 3 then x.2.2.2.2.2.1 else if a = 4 then nI len else if a = 5 then nI d else if a = 6 then nI u.1 else if a = 7 then nI u.2.2.1 else -1) ?_ ?_
  · rw [number_eq q1, rests_eq q1 hn]
    show (if a = 0 then some (nI n, σ) else if a = 1 then some (nI (n - 1), σ) else if a = 2 then some (σ.1 1 0 11, σ) else if a = 3 then some (σ.1 1 0 12, σ) else if a = 4 then some (σ.1 7 0 1, σ) else if a = 5 then some (σ.1 0 0 4, σ) else if a = 6 then some (σ.1 2 0 2, σ) else if a = 7 then some (σ.1 2 0 3, σ) else some (-1, σ)) = _
    rw [g1.1.2.2.2.2.2.2.1, g1.1.2.2.2.2.2.1, t1.1, h1.2.2.2.1, b1.1.1, b1.1.2.2.1]
    repeat' split
    all_goals rfl
  · rw [restsM_eq q2 hn]
    show (if a = 0 then some (σ.1 9 0 6, σ) else if a = 1 then some (nI (n - 1), σ) else if a = 2 then some (σ.1 9 0 13, σ) else if a = 3 then some (σ.1 9 0 12, σ) else if a = 4 then some (σ.1 9 0 16, σ) else if a = 5 then some (σ.1 9 0 5, σ) else if a = 6 then some (σ.1 9 0 44, σ) else if a = 7 then some (σ.1 9 0 47, σ) else some (-1, σ)) = _
    rw [q2, g2.1.2.2.2.2.2.2.1, g2.1.2.2.2.2.2.1, t2.1, h2.2.2.2.1, b2.1.1, b2.1.2.2.1]
    repeat' split
    all_goals rfl
theorem op_feed (a : Int32) : Both (g_X8_feed a) (g_X9_feed a) := by
  intro σ h
  obtain ⟨len, T, t1, t2, t3, t4⟩ := h.2.2.1
  unfold g_X8_feed g_X9_feed
  rw [ifr2 (show (255 : Int32) = nI 255 from rfl) (by omega)]
  by_cases c : inb a 256
  · obtain ⟨p, hp, rfl⟩ := inb_ex c
    rw [if_pos c]
    unfold g_X7_add
    by_cases cl : len < 120
    · refine wpO_b (P := fun r σ1 => r = nI (len + 1) ∧ G3C σ1 (len + 1) (fun i => if i = len then p else T i) ∧ FrL D3C σ σ1) ?_ ?_
      · refine wpO_t (by show σ.1 7 0 1 < 120; rw [t1.1, li120]; exact nI_lt cl (by omega)) ?_
        show wpO (if inb (σ.1 7 0 1) 120 then _ else _) _
        rw [show gF σ 7 0 1 = nI len from t1.1, t1.1]
        refine wpO_t (inb_nI cl (by omega)) (wpO_lt (wpO_lt (wpO_some.mpr ⟨?_, ⟨?_, fun i hi => ?_⟩, (FrL_sA (by decide)).tr (FrL_sF (by decide))⟩)))
        · show σ.1 7 0 1 + 1 = _; rw [t1.1, nI_1]
        · show σ.1 7 0 1 + 1 = _; rw [t1.1, nI_1]
        · show (if i = (nI len).toNatClampNeg then nI p else σ.2.1 7 0 0 i) = nI (if i = len then p else T i)
          rw [nI_clamp (by omega)]
          by_cases e : i = len
          · rw [if_pos e, if_pos e]
          · rw [if_neg e, if_neg e]; exact t1.2 i (by omega)
      · intro r σ1 w
        obtain ⟨rfl, w1, w2⟩ := w
        refine wpO_some.mpr ?_
        have t5 := t2.fr w2 (by decide)
        refine wpO_e (within0_eq _ _ 256 (by decide) (by omega) σ1) ?_
        rw [if_pos c]
        refine wpO_f one_ne (wpO_f ?_ ?_)
        · show ¬ σ1.1 9 0 16 = 120
          rw [t5.1, li120]
          exact fun z => by have := (nI_eq (by omega) (by omega)).mp z; omega
        · show wpO (if inb (σ1.1 9 0 16) 120 then _ else _) _
          rw [show gF σ1 9 0 16 = nI len from t5.1, t5.1]
          refine wpO_t (inb_nI cl (by omega)) (wpO_lt (wpO_lt (wpO_some.mpr ⟨?_, ?_⟩)))
          · show nI (len + 1) = σ1.1 9 0 16 + 1; rw [t5.1, nI_1]
          · have f2 : FrL (D3C ++ D3M) σ (sF (sA σ1 9 0 15 (nI len) (nI p)) 9 0 16 (gF (sA σ1 9 0 15 (nI len) (nI p)) 9 0 16 + 1)) := (w2.mono (by decide)).tr ((FrL_sA (by decide)).tr (FrL_sF (by decide)))
            refine h.of3 f2 ⟨len + 1, (fun i => if i = len then p else T i), w1.fr (S := D3M) ((FrL_sA (by decide)).tr (FrL_sF (by decide))) (by decide), ⟨?_, fun i hi => ?_⟩, by omega, fun i hi => ?_⟩ (by decide)
            · show σ1.1 9 0 16 + 1 = _; rw [t5.1, nI_1]
            · show (if i = (nI len).toNatClampNeg then nI p else σ1.2.1 9 0 15 i) = nI (if i = len then p else T i)
              rw [nI_clamp (by omega)]
              by_cases e : i = len
              · rw [if_pos e, if_pos e]
              · rw [if_neg e, if_neg e]; exact t5.2 i (by omega)
            · dsimp only
              by_cases e : i = len
              · rw [if_pos e]; omega
              · rw [if_neg e]; exact t4 i (by omega)
    · have el : len = 120 := by omega
      subst el
      refine wpO_e (r := -3) (σ := σ) ?_ (wpO_some.mpr (wpO_e (within0_eq _ _ 256 (by decide) (by omega) σ) ?_))
      · rw [if_neg]; show ¬ σ.1 7 0 1 < 120; rw [t1.1]; decide
      · rw [if_pos c]
        exact wpO_f one_ne (wpO_t (show σ.1 9 0 16 = 120 from t2.1) (wpO_some.mpr ⟨rfl, h⟩))
  · rw [if_neg c]
    refine wpO_some.mpr (wpO_e (within0_eq _ _ 256 (by decide) (by omega) σ) ?_)
    rw [if_neg c]
    exact wpO_t rfl (wpO_some.mpr ⟨rfl, h⟩)
