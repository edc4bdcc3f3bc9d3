/-! wider: over a rest of no width nobody fights -/
section WD1
variable {nx cg : Int32 → Int32} {wd who : Nat → Nat} {h n : Nat} {s : HS} {tr way : Nat → Nat → Int32} {Str : (Nat → Int32) → Int32}
theorem nf_leaveL {i j : Nat} : hF (hLeaveL j s) i = hF s i := by unfold hLeaveL; split <;> rfl
theorem nf_leaveR {i j : Nat} : hF (hLeaveR j s) i = hF s i := by unfold hLeaveR; split <;> rfl
theorem nf_takeL {i j : Nat} : hF (hTakeL wd j s) i = hF s i := by unfold hTakeL; split <;> rfl
theorem nf_takeR {i j : Nat} : hF (hTakeR wd j s) i = hF s i := by unfold hTakeR; split <;> rfl
theorem nf_wrestL {i j : Nat} {d : Int32} (ok : OKH wd s) (hi : i < 7) (h0 : wd i = 0) : hF (hWrestL tr who j d s) i = hF s i := by
  unfold hWrestL
  split
  · rename_i q
    show uN (hF s) j 1 i = hF s i
    unfold uN
    by_cases e : i = j
    · subst e; have := ok.1 i hi; omega
    · rw [if_neg e]
  · rfl
theorem nf_wrestR {i j : Nat} {d : Int32} (ok : OKH wd s) (hi : i < 7) (h0 : wd i = 0) : hF (hWrestR tr who j d s) i = hF s i := by
  unfold hWrestR
  split
  · rename_i q
    show uN (hF s) j 1 i = hF s i
    unfold uN
    by_cases e : i = j
    · subst e; have := ok.1 i hi; omega
    · rw [if_neg e]
  · rfl
theorem nf_push {i j : Nat} (ok : OKH wd s) (hi : i < 7) (h0 : wd i = 0) : hF (hPush nx cg tr way Str n wd who h j s) i = hF s i := by
  unfold hPush
  dsimp only
  split
  · split
    · exact nf_takeL
    · exact nf_wrestL ok.z hi h0
  · split
    · split
      · exact nf_takeR
      · exact nf_wrestR ok.z hi h0
    · rfl
theorem nf_rest {i j : Nat} (ok : OKH wd s) (hi : i < 7) (h0 : wd i = 0) : hF (hRest nx cg tr way Str n wd who h j s) i = hF s i := by
  have l1 : ∀ b : Bool, OKH wd (if b = true then s else hLeaveL j s) ∧ hF (if b = true then s else hLeaveL j s) i = hF s i := fun b => by
    split
    · exact ⟨ok, rfl⟩
    · exact ⟨ok.leaveL, nf_leaveL⟩
  have l2 : ∀ (b : Bool) (s1 : HS), OKH wd s1 → OKH wd (if b = true then s1 else hLeaveR j s1) ∧ hF (if b = true then s1 else hLeaveR j s1) i = hF s1 i := fun b s1 o1 => by
    split
    · exact ⟨o1, rfl⟩
    · exact ⟨o1.leaveR, nf_leaveR⟩
  unfold hRest
  dsimp only
  obtain ⟨a1, a2⟩ := l1 (thr (way (who j) h))
  obtain ⟨b1, b2⟩ := l2 (thr (way (who (j + 1)) h)) _ a1
  rw [← a2, ← b2]
  clear a2 b2 a1
  generalize (if thr (way (who (j + 1)) h) = true then if thr (way (who j) h) = true then s else hLeaveL j s else hLeaveR j (if thr (way (who j) h) = true then s else hLeaveL j s)) = s2 at b1 ⊢
  split
  · split
    · exact nf_push b1 hi h0
    · exact nf_takeL
  · split
    · exact nf_takeR
    · rfl
theorem nf_rests {i : Nat} (ok : OKH wd s) (hi : i < 7) (h0 : wd i = 0) : ∀ m, hF (hRests nx cg tr way Str n wd who h m s) i = hF s i
  | 0 => rfl
  | m + 1 => by rw [hRests, nf_rest (ok.rests m) hi h0, nf_rests ok hi h0 m]
theorem nf_step {i : Nat} {X : HX} (ok : OKH wd X.1) (hi : i < 7) (h0 : wd i = 0) : hF (hStep nx cg tr way Str n wd who h X).1 i = 0 := nf_rests ok.beg hi h0 (n - 1)
end WD1
theorem peaceLoop {nx cg : Int32 → Int32} {σ0 : AS} {wd : Nat → Nat} {n i : Nat} {tr way : Nat → Nat → Int32} {Str : (Nat → Int32) → Int32} (hd : DrawIs nx cg) (hi : i < 7) (h0 : wd i = 0) (He : EnvC σ0 n tr way) (hS : StrC σ0 Str) :
    ∀ (d h f : Nat) (σ : AS) (X : HX), h + d = 24 → d < f → XCw 1 σ wd id h X → OKH wd X.1 → FrL (SP 1) σ0 σ → wpO (g_X8_isPeaceful_30 f (nI i) (nI h) σ) (fun r σ2 => r = 1 ∧ FrL (SP 1) σ0 σ2) := by
  intro d
  induction d with
  | zero =>
    intro h f σ X hj hf V ok fr
    obtain ⟨f, rfl⟩ : ∃ g, f = g + 1 := ⟨f - 1, by omega⟩
    rw [g_X8_isPeaceful_30]
    exact wpO_f (show ¬ nI h < nI 24 from nI_nlt (by omega) (by omega)) (wpO_some.mpr ⟨rfl, fr⟩)
  | succ d ih =>
    intro h f σ X hj hf V ok fr
    obtain ⟨f, rfl⟩ : ∃ g, f = g + 1 := ⟨f - 1, by omega⟩
    rw [g_X8_isPeaceful_30, nI_1]
    refine wpO_t (show nI h < nI 24 from nI_lt (by omega) (by omega)) (wpO_b (passW (m := 1) hd (fun j hj => hj) (by omega) V ok (He.fr fr) (hS.fr fr)) (fun _ σ1 q => ?_))
    obtain ⟨q1, q2, q3⟩ := q
    have xc := q2 (by omega)
    have e5 : gA σ1 1 1 5 (nI i) = 0 := by
      rw [gA_nI (by omega), xc.1.2.2.2.2.1 i hi]
      have : hF (hHours nx cg tr way Str n wd id 1 h X).1 i = 0 := nf_step ok hi h0
      exact congrArg nI this
    exact wpO_t (inb_nI (by omega) (by omega)) (wpO_t e5 (ih (h + 1) f σ1 _ (by omega) (by omega) q1 ok.step (fr.tr q3)))
theorem calmLoop {nx cg : Int32 → Int32} {σ0 : AS} {wd wd' : Nat → Nat} {n i : Nat} {tr way : Nat → Nat → Int32} {Str : (Nat → Int32) → Int32} (hd : DrawIs nx cg) (hwo : WayOK n way) (hi : i < 7) (hwd : ∀ j, j < 7 → wd' j = uN wd i 0 j) (He : EnvM σ0 n tr way) (hS : StrM σ0 Str) (h7 : ∀ i, i < 7 → σ0.2.1 9 0 7 i = nI (wd i)) :
    ∀ (d h f : Nat) (σ : AS) (X : HX), h + d = 24 → d < f → VMw 33 σ id X → OKH wd' X.1 → FrL (SH 33) σ0 σ → wpO (g_X9_isCalm_24 f (nI i) 0 0 (nI h) σ) (fun r σ2 => r = 1 ∧ FrL (SH 33) σ0 σ2) := by
  have h0 : wd' i = 0 := by rw [hwd i hi]; unfold uN; rw [if_pos rfl]
  intro d
  induction d with
  | zero =>
    intro h f σ X hj hf V ok fr
    obtain ⟨f, rfl⟩ : ∃ g, f = g + 1 := ⟨f - 1, by omega⟩
    rw [g_X9_isCalm_24]
    exact wpO_f (show ¬ nI h < nI 24 from nI_nlt (by omega) (by omega)) (wpO_t rfl (wpO_some.mpr ⟨rfl, fr⟩))
  | succ d ih =>
    intro h f σ X hj hf V ok fr
    obtain ⟨f, rfl⟩ : ∃ g, f = g + 1 := ⟨f - 1, by omega⟩
    rw [g_X9_isCalm_24, nI_1]
    refine wpO_t (show nI h < nI 24 from nI_lt (by omega) (by omega)) (wpO_b (hourW (wd := wd') hd (Or.inr rfl) hwo (fun j hj => hj) (by omega) ok (He.fr fr) (hS.fr fr) (fun j hj => ?_) V) (fun _ σ1 q => ?_))
    · rw [hwd j hj]
      unfold uN
      by_cases e : j = i
      · rw [if_pos (by rw [e]), if_pos e]; rfl
      · rw [if_neg (fun z => e ((nI_eq (by omega) (by omega)).mp z)), if_neg e, fr.a 9 0 7 (by decide)]; exact h7 j hj
    · obtain ⟨q1, q2, q3⟩ := q
      have e28 : gA σ1 9 0 28 (nI i) = 0 := by
        rw [gA_nI (by omega), q1.2.2.2.1 i hi]
        have : hF (hStep nx cg tr way Str n wd' id h X).1 i = 0 := nf_step ok hi h0
        exact congrArg nI this
      refine wpO_t (inb_nI (by omega) (by omega)) (wpO_lt ?_)
      rw [e28, show (0 : Int32) + 0 = 0 from rfl]
      exact ih (h + 1) f σ1 _ (by omega) (by omega) q2 ok.step (fr.tr q3)
theorem XCw.fit {σ σ1 : AS} {S : List (Nat × Nat × Nat)} {wd wd' L L' R R' : Nat → Nat} {z : Int32} {now : Nat} (H : XCw 1 σ wd id now (X0 L R z now)) (f : FrL S σ σ1) (q : ∀ k ∈ [5, 6, 7, 8, 9, 10, 11, 12, 13, 14], (1, 1, k) ∉ S) (h2 : ∀ i, i < 7 → σ1.2.1 1 1 2 i = nI (wd' i)) (h3 : ∀ i, i < 7 → σ1.2.1 1 1 3 i = nI (L' i)) (h4 : ∀ i, i < 7 → σ1.2.1 1 1 4 i = nI (R' i)) : XCw 1 σ1 wd' id now (X0 L' R' z now) := by
  obtain ⟨F, O, m, ⟨v8, v2, v3, v4, v5, v9, v13, v12, v10, v11⟩, x6, x7, x14⟩ := H
  refine ⟨F, O, m, ⟨?_, h2, h3, h4, ?_, ?_, ?_, ?_, ?_, ?_⟩, ?_, ?_, ?_⟩
  · rw [f.a 1 1 8 (q _ (by decide))]; exact v8
  · rw [f.a 1 1 5 (q _ (by decide))]; exact v5
  · rw [f.a 1 1 9 (q _ (by decide))]; exact v9
  · rw [f.f 1 1 13 (q _ (by decide))]; exact v13
  · rw [f.f 1 1 12 (q _ (by decide))]; exact v12
  · rw [f.f 1 1 10 (q _ (by decide))]; exact v10
  · rw [f.f 1 1 11 (q _ (by decide))]; exact v11
  · rw [f.a 1 1 6 (q _ (by decide))]; exact x6
  · rw [f.a 1 1 7 (q _ (by decide))]; exact x7
  · rw [f.f 1 1 14 (q _ (by decide))]; exact x14
theorem op_wider (z b : Int32) : Both (g_X8_wider z b) (g_X9_wider z b) := by
  intro σ h
  obtain ⟨n, tr, way, Str, wd, L, R, now, cx, cp, h14, h8⟩ := h.ctx
  obtain ⟨nx, cg, hd⟩ : ∃ nx cg, DrawIs nx cg := ⟨_, _, fun _ => rfl, fun _ => rfl⟩
  have CX0 := cx
  obtain ⟨k1, k2, k3, k4, k5, k6, k7, k8, k9, k10, k11, k12⟩ := cx
  have hN := cp.2.2
  have hb := k1.2.1
  unfold g_X8_wider g_X9_wider
  refine wpO_e (hasRest_eq k1.1 hb b) ?_
  by_cases c1 : inb b (n - 1)
  · obtain ⟨i, hi, rfl⟩ := inb_ex c1
    rw [if_pos c1]
    have i7 : i < 7 := by omega
    have okL : L i ≤ 9 ∧ R i ≤ 9 := by have := cp.2.1.1 i i7; have := cp.2.1.2 i i7; omega
    have okF : (∀ j, j < 7 → fitL L i 0 j + fitR L R i 0 j ≤ uN wd i 0 j) ∧ ∀ j, j < 7 → uN wd i 0 j ≤ 9 := by
      refine ⟨fun j hj => fit_ok (cp.2.1.1 j hj), fun j hj => ?_⟩
      unfold uN
      by_cases e : j = i
      · rw [if_pos e]; omega
      · rw [if_neg e]; exact cp.2.1.2 j hj
    have u0 : uN wd i 0 i = 0 := by unfold uN; rw [if_pos rfl]
    refine wpO_f one_ne ?_
    have peace : wpO (g_X8_isPeaceful z (nI i) 0 σ) (fun r σ2 => r = 1 ∧ FrL SAC σ σ2) := by
      unfold g_X8_isPeaceful
      refine wpO_b (beginC1 (L := L) (R := R) (now := now) k5 k6 k7 k8) (fun _ σ1 w => ?_)
      obtain ⟨w1, f1⟩ := w
      obtain ⟨F, O, m, ⟨v8, v2, v3, v4, v5, v9, v13, v12, v10, v11⟩, x6, x7, x14⟩ := id w1
      refine wpO_b (fitC (v := 0) i7 (by omega) okL.1 okL.2 v2 ⟨v3, v4⟩) (fun _ σ2 u => wpO_lt ?_)
      obtain ⟨u1, u2, u3⟩ := u
      have f2 : FrL SAC σ σ2 := (f1.mono (by decide)).tr (u3.mono (by decide))
      have cx2 := CX0.fr f2 (by decide)
      have w2 := w1.fit u3 (by decide) u1 u2.1 u2.2
      rw [show gF σ2 1 0 11 = nI now from cx2.2.2.2.2.2.2.2.1]
      refine wpO_mono (peaceLoop (σ0 := σ2) (wd := uN wd i 0) hd i7 u0 cx2.1 cx2.2.2.1 (24 - now) now 400 σ2 _ (by omega) (by omega) w2 (OKX okF) FrL.rf) ?_
      intro r σ3 t
      exact ⟨t.1, f2.tr (t.2.mono (by decide))⟩
    rw [g_X8_wider_15]
    refine wpO_f (by decide) (wpO_b peace (fun r σ2 t => ?_))
    obtain ⟨rfl, f2⟩ := t
    have cx2 := CX0.fr f2 (by decide)
    refine wpO_f one_ne (wpO_some.mpr (wpO_e (isRestM_eq cx2.2.1.1 hb _) ?_))
    rw [if_pos c1]
    refine wpO_f one_ne ?_
    have calm : wpO (g_X9_isCalm z (nI i) 0 σ2) (fun r σ3 => r = 1 ∧ FrL SAM σ2 σ3) := by
      unfold g_X9_isCalm
      refine wpO_b (thinksM (who := id) (now := now) (L := L) (R := R) (fun j hj => by rw [f2.a 9 0 14 (by decide)]; exact h14 j hj) cx2.2.2.2.2.2.2.2.2.2.1 cx2.2.2.2.2.2.2.2.2.2.2.1) (fun _ σ4 w => ?_)
      obtain ⟨⟨⟨F, O, m, V⟩, hcm⟩, f4⟩ := w
      refine wpO_b (fitM (v := 0) i7 (by omega) okL.1 okL.2 ⟨V.2.1, V.2.2.1⟩) (fun _ σ5 u => wpO_lt ?_)
      obtain ⟨u1, u2⟩ := u
      have f5 : FrL SAM σ2 σ5 := (f4.mono (by decide)).tr (u2.mono (by decide))
      have cx5 := cx2.fr f5 (by decide)
      rw [show gF σ5 9 0 13 = nI now from cx5.2.2.2.2.2.2.2.2.2.2.2]
      have w2 : VMw 33 σ5 id (X0 (fitL L i 0) (fitR L R i 0) z now) := by
        obtain ⟨a1, a2, a3, a4, a5, a6, a7, a8⟩ := V
        refine ⟨⟨F, O, m, ?_, u1.1, u1.2, ?_, ?_, ?_, ?_, ?_⟩, ?_⟩
        · rw [u2.a 9 0 14 (by decide)]; exact a1
        · rw [u2.a 9 0 28 (by decide)]; exact a4
        · rw [u2.a 9 0 29 (by decide)]; exact a5
        · rw [u2.f 9 0 25 (by decide)]; exact a6
        · rw [u2.f 9 0 26 (by decide)]; exact a7
        · rw [u2.f 9 0 27 (by decide)]; exact a8
        · rw [u2.a 9 0 30 (by decide)]; exact hcm
      refine wpO_mono (calmLoop (σ0 := σ5) (wd := wd) (wd' := uN wd i 0) hd cp.1 i7 (fun _ _ => rfl) cx5.2.1 cx5.2.2.2.1 cx5.2.2.2.2.2.2.2.2.1 (24 - now) now 400 σ5 _ (by omega) (by omega) w2 (OKX okF) FrL.rf) ?_
      intro r σ3 t
      exact ⟨t.1, f5.tr (t.2.mono (by decide))⟩
    rw [g_X9_wider_12]
    refine wpO_t (by decide) (wpO_b calm (fun r σ3 t => ?_))
    obtain ⟨rfl, f3⟩ := t
    exact wpO_f one_ne (wpO_some.mpr ⟨rfl, h.fr0 (S := SAll) ((f2.mono (by decide)).tr (f3.mono (by decide))) (by decide)⟩)
  · rw [if_neg c1]
    refine wpO_t rfl (wpO_some.mpr (wpO_e (isRestM_eq k2.1 hb _) ?_))
    rw [if_neg c1]
    exact wpO_t rfl (wpO_some.mpr ⟨rfl, h⟩)
