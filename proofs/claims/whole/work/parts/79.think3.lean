/-! strength -/
theorem VC_of {o : Nat} {σ : AS} {wd L R who : Nat → Nat} {now : Nat} (h8 : ∀ j, j < 8 → σ.2.1 1 o 8 j = nI (who j)) (h2 : ∀ i, i < 7 → σ.2.1 1 o 2 i = nI (wd i)) (h3 : ∀ i, i < 7 → σ.2.1 1 o 3 i = nI (L i)) (h4 : ∀ i, i < 7 → σ.2.1 1 o 4 i = nI (R i)) (h11 : σ.1 1 o 11 = nI now) :
    ∃ F O z c m, VC o σ wd who now (L, R, F, O, z, c, m) := by
  obtain ⟨F5, hF5⟩ := exNI_row (m := 7) (σ.2.1 1 o 5)
  obtain ⟨O9, hO9⟩ := exNI_row (m := 8) (σ.2.1 1 o 9)
  obtain ⟨k, hk⟩ := exNI (σ.1 1 o 10)
  exact ⟨F5, O9, _, _, k, h8, h2, h3, h4, hF5, hO9, rfl, rfl, hk, h11⟩
theorem VM_of {k : Nat} {σ : AS} {L R who : Nat → Nat} (h14 : ∀ j, j < 8 → σ.2.1 9 0 14 j = nI (who j)) (h1 : ∀ i, i < 7 → σ.2.1 9 0 k (2 * i) = nI (L i)) (h2 : ∀ i, i < 7 → σ.2.1 9 0 k (2 * i + 1) = nI (R i)) : ∃ F O z c m, VM k σ who (L, R, F, O, z, c, m) := by
  obtain ⟨F5, hF5⟩ := exNI_row (m := 7) (σ.2.1 9 0 28)
  obtain ⟨O9, hO9⟩ := exNI_row (m := 8) (σ.2.1 9 0 29)
  obtain ⟨m, hm⟩ := exNI (σ.1 9 0 27)
  exact ⟨F5, O9, _, _, m, h14, h1, h2, hF5, hO9, rfl, rfl, hm⟩
theorem op_strength (a b c0 : Int32) : Both (g_X8_strength a b c0) (g_X9_strength a b c0) := by
  intro σ h
  obtain ⟨n, tr, way, Str, wd, L, R, now, cx, cp, h14, h8⟩ := h.ctx
  obtain ⟨k1, k2, k3, k4, k5, k6, k7, k8, k9, k10, k11, k12⟩ := cx
  have hb := k1.2.1
  have hN := cp.2.2
  unfold g_X8_strength g_X9_strength
  refine wpO_e (has_eq k1.1 hb a) ?_
  by_cases c1 : inb a n
  · obtain ⟨p, hp, rfl⟩ := inb_ex c1
    rw [if_pos c1]
    refine wpO_f one_ne (wpO_e (hasRest_eq k1.1 hb b) ?_)
    have q : ∀ {f : Int32 → AS → Option (Int32 × AS)} {Q : Int32 → AS → Prop} {σ1 : AS}, σ1.1 9 0 6 = nI n → wpO (f 1 σ1) Q → wpO (bnd (g_X9_isSitter (nI p) σ1) f) Q := fun e z => wpO_e (isSitterM_eq e hb _) (by rw [if_pos c1]; exact z)
    by_cases c2 : inb b (n - 1)
    · obtain ⟨i, hi, rfl⟩ := inb_ex c2
      rw [if_pos c2]
      have q2 : ∀ {f : Int32 → AS → Option (Int32 × AS)} {Q : Int32 → AS → Prop} {σ1 : AS}, σ1.1 9 0 6 = nI n → wpO (f 1 σ1) Q → wpO (bnd (g_X9_isRest (nI i) σ1) f) Q := fun e z => wpO_e (isRestM_eq e hb _) (by rw [if_pos c2]; exact z)
      refine wpO_f one_ne ?_
      have body : p = i ∨ p = i + 1 → wpO (g_X8_strength_38 (nI p) (nI i) c0 σ) (fun r σ1 => σ1.1 9 0 6 = nI n ∧ wpO (g_X9_strength_28 (nI p) (nI i) c0 σ1) (fun r' σ2 => r = r' ∧ Inv σ2)) := by
        intro hpi
        have e1 : gF σ 1 0 11 = nI now := k8
        have e2 : gF σ 9 0 13 = nI now := k12
        unfold g_X8_strength_38 g_X9_strength_28
        rw [ifr2 (show (99 : Int32) = nI 99 from rfl) (by omega), e1]
        by_cases c3 : inb c0 100
        · rw [if_pos c3]
          have r3 : ∀ {f : Int32 → AS → Option (Int32 × AS)} {Q : Int32 → AS → Prop} {σ1 : AS}, wpO (f 1 σ1) Q → wpO (bnd (g_X9_within c0.toInt64 0 99 σ1) f) Q := fun z => wpO_e (within_t (m := 100) c3) z
          by_cases c4 : now < 24
          · refine wpO_t (show nI now < nI 24 from nI_lt c4 (by omega)) (wpO_e (isThere_eq k1.1 hb hp c4) ?_)
            rw [k1.2.2.2 p now hp c4]
            have e24 : (24 : Int32) * nI p + nI now = nI (24 * p + now) := by rw [li24, pk_mul, nI_add]
            have wy := cp.1 p now hp c4
            have lt2 : ∀ {w : Int32}, (w = 0 ∨ w = 1 ∨ w = 2 ∨ w = 3) → (thr w = true ↔ w < 2) := by
              rintro w (rfl | rfl | rfl | rfl) <;> decide
            by_cases c5 : thr (way p now) = true
            · rw [if_pos c5]
              refine wpO_f one_ne ?_
              obtain ⟨F, O, z, c, m, V⟩ := VC_of (who := id) h8 k5 k6 k7 k8
              refine wpO_b (strengthC k1 V (fun j hj => hj) hpi (by omega) c4 k3) (fun r σ1 w => wpO_some.mpr ?_)
              obtain ⟨rfl, f1⟩ := w
              have he := k2.fr f1
              refine ⟨he.1, r3 (wpO_f one_ne ?_)⟩
              have e2' : gF σ1 9 0 13 = nI now := (f1.f 9 0 13 (by decide)).trans k12
              rw [e2', e24]
              refine wpO_t (show nI now < nI 24 from nI_lt c4 (by omega)) (wpO_t (inb_nI (by omega) (by omega)) ?_)
              rw [gA_nI (by omega), he.2.2.2 p now hp c4]
              obtain ⟨F', O', z', c', m', V'⟩ := VM_of (k := 9) (σ := σ1) (who := id) (L := L) (R := R) (fun j hj => by rw [f1.a 9 0 14 (by decide)]; exact h14 j hj) (fun j hj => by rw [f1.a 9 0 9 (by decide)]; exact k10 j hj) (fun j hj => by rw [f1.a 9 0 9 (by decide)]; exact k11 j hj)
              have w01 : way p now = 0 ∨ way p now = 1 := by
                rcases wy with e | e | e | e
                · exact Or.inl e
                · exact Or.inr e
                · rw [e] at c5; exact absurd c5 (by decide)
                · rw [e] at c5; exact absurd c5 (by decide)
              refine wpO_t ((lt2 wy).mp c5) (wpO_b (strengthM he V' (Or.inl rfl) (fun j hj => hj) hpi (by omega) c4 (k4.fr f1) w01) (fun r2 σ2 w2 => wpO_some.mpr ⟨w2.1.symm, ?_⟩))
              exact h.fr0 (S := SK ++ SN) ((f1.mono (by decide)).tr (w2.2.mono (by decide))) (by decide)
            · rw [if_neg c5]
              refine wpO_t rfl (wpO_some.mpr ⟨k2.1, r3 (wpO_f one_ne ?_)⟩)
              rw [e2, e24]
              refine wpO_t (show nI now < nI 24 from nI_lt c4 (by omega)) (wpO_t (inb_nI (by omega) (by omega)) ?_)
              rw [gA_nI (by omega), k2.2.2.2 p now hp c4]
              exact wpO_f (fun z => c5 ((lt2 wy).mpr z)) (wpO_some.mpr ⟨rfl, h⟩)
          · refine wpO_f (show ¬ nI now < nI 24 from nI_nlt (by omega) (by omega)) (wpO_some.mpr ⟨k2.1, r3 (wpO_f one_ne ?_)⟩)
            rw [e2]
            exact wpO_f (show ¬ nI now < nI 24 from nI_nlt (by omega) (by omega)) (wpO_some.mpr ⟨rfl, h⟩)
        · rw [if_neg c3]
          exact wpO_some.mpr ⟨k2.1, wpO_e (within_f (m := 100) c3) (wpO_t rfl (wpO_some.mpr ⟨rfl, h⟩))⟩
      by_cases e1 : i = p
      · refine wpO_t (by rw [e1]) (wpO_mono (body (Or.inl e1.symm)) (fun r σ1 w => ?_))
        exact q w.1 (wpO_f one_ne (q2 w.1 (wpO_f one_ne (wpO_t (by rw [e1]) w.2))))
      · have n1 : ¬ nI i = nI p := fun z => e1 ((nI_eq (by omega) (by omega)).mp z)
        refine wpO_f n1 ?_
        by_cases e2 : i + 1 = p
        · have n2 : nI i = nI p - 1 := (eq_pred (by omega) (by omega)).mpr e2
          refine wpO_t n2 (wpO_mono (body (Or.inr e2.symm)) (fun r σ1 w => ?_))
          exact q w.1 (wpO_f one_ne (q2 w.1 (wpO_f one_ne (wpO_f n1 (wpO_t n2 w.2)))))
        · have n2 : ¬ nI i = nI p - 1 := fun z => e2 ((eq_pred (by omega) (by omega)).mp z)
          exact wpO_f n2 (wpO_some.mpr (q k2.1 (wpO_f one_ne (q2 k2.1 (wpO_f one_ne (wpO_f n1 (wpO_f n2 (wpO_some.mpr ⟨rfl, h⟩))))))))
    · rw [if_neg c2]
      refine wpO_t rfl (wpO_some.mpr (q k2.1 (wpO_f one_ne (wpO_e (isRestM_eq k2.1 hb _) ?_))))
      rw [if_neg c2]
      exact wpO_t rfl (wpO_some.mpr ⟨rfl, h⟩)
  · rw [if_neg c1]
    refine wpO_t rfl (wpO_some.mpr (wpO_e (isSitterM_eq k2.1 hb _) ?_))
    rw [if_neg c1]
    exact wpO_t rfl (wpO_some.mpr ⟨rfl, h⟩)
/-! quiet -/
theorem hHours_q {nx cg : Int32 → Int32} {tr way : Nat → Nat → Int32} {Str : (Nat → Int32) → Int32} {n : Nat} {wd who : Nat → Nat} : ∀ (m h : Nat) (X : HX), h + m ≤ 24 → (∃ q, q ≤ 24 ∧ X.2.2.2 = nI q) → ∃ q, q ≤ 24 ∧ (hHours nx cg tr way Str n wd who m h X).2.2.2 = nI q := by
  intro m
  induction m with
  | zero => intro h X _ e; exact e
  | succ m ih =>
    intro h X hh e
    refine ih (h + 1) _ (by omega) ?_
    unfold hStep
    by_cases c : hm (hRests nx cg tr way Str n wd who h (n - 1) (hBeg X.1)) = 0
    · obtain ⟨q, q1, q2⟩ := e
      exact ⟨q, q1, by show (if _ then X.2.2.2 else nI (h + 1)) = _; rw [if_pos c]; exact q2⟩
    · exact ⟨h + 1, by omega, by show (if _ then X.2.2.2 else nI (h + 1)) = _; rw [if_neg c]⟩
def qFin (v : Int32) (now : Nat) : Int32 := if v < 24 then v else if now < 24 then -2 else v
theorem quietM {nx cg : Int32 → Int32} {σ0 : AS} {wd who : Nat → Nat} {now n : Nat} {tr way : Nat → Nat → Int32} {Str : (Nat → Int32) → Int32} (hd : DrawIs nx cg) (hwo : WayOK n way) (hw : ∀ j, j < n → who j < n) (hN : now ≤ 24) (He : EnvM σ0 n tr way) (hS : StrM σ0 Str) (h13 : σ0.1 9 0 13 = nI now)
    (h7 : ∀ i, i < 7 → σ0.2.1 9 0 7 i = nI (wd i)) : ∀ (d h f : Nat) (σ : AS) (X : HX) (v : Int32), h + d = 24 → d < f → VMw 33 σ who X → OKH wd X.1 → FrL (SH 33) σ0 σ → v = X.2.2.2 →
      wpO (g_X9_quiet_15 f v (nI h) σ) (fun r σ2 => r = qFin (hHours nx cg tr way Str n wd who d h X).2.2.2 now ∧ FrL (SH 33) σ0 σ2) := by
  intro d
  induction d with
  | zero =>
    intro h f σ X v hj hf V ok fr ev
    obtain ⟨f, rfl⟩ : ∃ g, f = g + 1 := ⟨f - 1, by omega⟩
    subst ev
    rw [g_X9_quiet_15, show gF σ 9 0 13 = nI now from (fr.f 9 0 13 (by decide)).trans h13]
    refine wpO_f (show ¬ nI h < nI 24 from nI_nlt (by omega) (by omega)) ?_
    show wpO _ (fun r σ2 => r = qFin X.2.2.2 now ∧ FrL (SH 33) σ0 σ2)
    unfold qFin
    by_cases c1 : X.2.2.2 < 24
    · exact wpO_t c1 (wpO_some.mpr ⟨by rw [if_pos c1], fr⟩)
    · refine wpO_f c1 ?_
      by_cases c2 : now < 24
      · exact wpO_t (show nI now < nI 24 from nI_lt c2 (by omega)) (wpO_some.mpr ⟨by rw [if_neg c1, if_pos c2], fr⟩)
      · exact wpO_f (show ¬ nI now < nI 24 from nI_nlt (by omega) (by omega)) (wpO_some.mpr ⟨by rw [if_neg c1, if_neg c2], fr⟩)
  | succ d ih =>
    intro h f σ X v hj hf V ok fr ev
    obtain ⟨f, rfl⟩ : ∃ g, f = g + 1 := ⟨f - 1, by omega⟩
    subst ev
    rw [g_X9_quiet_15, nI_1]
    refine wpO_t (show nI h < nI 24 from nI_lt (by omega) (by omega)) (wpO_b (hourW (wd := wd) hd (Or.inr rfl) hwo hw (by omega) ok (He.fr fr) (hS.fr fr) (wd_no (fun i hi => by rw [fr.a 9 0 7 (by decide)]; exact h7 i hi)) V) (fun _ σ1 q => ?_))
    obtain ⟨q1, q2, q3⟩ := q
    have e27 : gF σ1 9 0 27 = nI (hm (hStep nx cg tr way Str n wd who h X).1) := q1.2.2.2.2.2.2.2
    have b27 : hm (hStep nx cg tr way Str n wd who h X).1 ≤ 1 := HM.rests HM.beg _
    rw [e27]
    by_cases c : hm (hStep nx cg tr way Str n wd who h X).1 = 0
    · refine wpO_t (by rw [c]; rfl) (ih (h + 1) f σ1 _ _ (by omega) (by omega) q2 ok.step (fr.tr q3) ?_)
      show _ = (if hm (hStep nx cg tr way Str n wd who h X).1 = 0 then X.2.2.2 else nI (h + 1))
      rw [if_pos c]
    · refine wpO_f (nI_ne0 (by omega) (by omega)) (wpO_lt (ih (h + 1) f σ1 _ _ (by omega) (by omega) q2 ok.step (fr.tr q3) ?_))
      show _ = (if hm (hStep nx cg tr way Str n wd who h X).1 = 0 then X.2.2.2 else nI (h + 1))
      rw [if_neg c]
theorem op_quiet (z : Int32) : Both (g_X8_quiet z) (g_X9_quiet z) := by
  intro σ h
  obtain ⟨n, tr, way, Str, wd, L, R, now, cx, cp, h14, h8⟩ := h.ctx
  obtain ⟨nx, cg, hd⟩ : ∃ nx cg, DrawIs nx cg := ⟨_, _, fun _ => rfl, fun _ => rfl⟩
  have CX0 := cx
  obtain ⟨k1, k2, k3, k4, k5, k6, k7, k8, k9, k10, k11, k12⟩ := cx
  have hN := cp.2.2
  unfold g_X8_quiet g_X9_quiet
  refine wpO_b (beginC1 (L := L) (R := R) (now := now) k5 k6 k7 k8) (fun _ σ1 w => ?_)
  obtain ⟨w1, f1⟩ := w
  rw [show (24 : Int32) - gF σ1 1 0 11 = nI (24 - now) from by rw [show gF σ1 1 0 11 = nI now from (f1.f 1 0 11 (by decide)).trans k8, li24, pk_sub hN]]
  refine wpO_b (passW hd (fun j hj => hj) (by omega) w1 (OKX cp.2.1) (k1.fr f1) (k3.fr f1)) (fun _ σ2 u => ?_)
  obtain ⟨u1, -, f2⟩ := u
  have F2 : FrL SAC σ σ2 := (f1.mono (by decide)).tr (f2.mono (by decide))
  have cx2 := CX0.fr F2 (by decide)
  obtain ⟨q, q24, eq⟩ := hHours_q (nx := nx) (cg := cg) (tr := tr) (way := way) (Str := Str) (n := n) (wd := wd) (who := id) (24 - now) now (X0 L R z now) (by omega) ⟨now, hN, rfl⟩
  have e14 : gF σ2 1 1 14 = nI q := by obtain ⟨F, O, mm, xc⟩ := u1; exact xc.2.2.2.trans eq
  have e11 : gF σ2 1 0 11 = nI now := cx2.2.2.2.2.2.2.2.1
  have fin : wpO (if gF σ2 1 0 11 < 24 then (if gF σ2 1 1 14 = 24 then g_X8_quiet_58 1 σ2 else g_X8_quiet_57 σ2) else g_X8_quiet_57 σ2) (fun r σ3 => r = qFin (nI q) now ∧ σ3 = σ2) := by
    unfold g_X8_quiet_57 g_X8_quiet_58
    rw [e14, e11]
    unfold qFin
    by_cases c1 : q < 24
    · rw [if_pos (show nI q < 24 from show nI q < nI 24 from nI_lt c1 (by omega))]
      have n24 : ¬ nI q = 24 := fun z => by have := (nI_eq (b := 24) (by omega) (by omega)).mp z; omega
      refine wpO_if (fun _ => wpO_f n24 (wpO_t rfl (wpO_some.mpr ⟨rfl, rfl⟩))) (fun _ => wpO_t rfl (wpO_some.mpr ⟨rfl, rfl⟩))
    · have e24 : q = 24 := by omega
      subst e24
      rw [if_neg (show ¬ nI 24 < 24 from show ¬ nI 24 < nI 24 from nI_nlt (by omega) (by omega))]
      by_cases c2 : now < 24
      · rw [if_pos c2]
        exact wpO_t (show nI now < nI 24 from nI_lt c2 (by omega)) (wpO_t rfl (wpO_f one_ne (wpO_some.mpr ⟨rfl, rfl⟩)))
      · rw [if_neg c2]
        exact wpO_f (show ¬ nI now < nI 24 from nI_nlt (by omega) (by omega)) (wpO_t rfl (wpO_some.mpr ⟨rfl, rfl⟩))
  refine wpO_mono fin ?_
  rintro r σ3 ⟨rfl, rfl⟩
  refine wpO_b (thinksM (who := id) (now := now) (L := L) (R := R) (fun j hj => by rw [F2.a 9 0 14 (by decide)]; exact h14 j hj) cx2.2.2.2.2.2.2.2.2.2.1 cx2.2.2.2.2.2.2.2.2.2.2.1) (fun _ σ4 w => wpO_lt (wpO_lt ?_))
  obtain ⟨w1', f4⟩ := w
  have e13 : gF σ4 9 0 13 = nI now := (f4.f 9 0 13 (by decide)).trans cx2.2.2.2.2.2.2.2.2.2.2.2
  rw [e13]
  refine wpO_mono (quietM (σ0 := σ4) (wd := wd) (now := now) hd cp.1 (fun j hj => hj) hN (cx2.2.1.fr f4) (cx2.2.2.2.1.fr f4) e13 (fun i hi => by rw [f4.a 9 0 7 (by decide)]; exact cx2.2.2.2.2.2.2.2.2.1 i hi) (24 - now) now 400 σ4 (X0 L R z now) _ (by omega) (by omega) w1' (OKX cp.2.1) FrL.rf rfl) ?_
  rintro r σ5 ⟨rfl, f5⟩
  refine ⟨congrArg (fun v => qFin v now) eq.symm, ?_⟩
  have F : FrL SAll σ σ5 := (F2.mono (by decide)).tr ((f4.mono (by decide)).tr (f5.mono (by decide)))
  exact h.fr0 F (by decide)
