section HM4
variable {nx cg : Int32 → Int32} {k : Nat} {σ : AS} {wd who : Nat → Nat} {h n : Nat} {s : HS} {tr way : Nat → Nat → Int32} {Str : (Nat → Int32) → Int32}
def WayOK (n : Nat) (way : Nat → Nat → Int32) : Prop := ∀ p h, p < n → h < 24 → way p h = 0 ∨ way p h = 1 ∨ way p h = 2 ∨ way p h = 3
theorem isThereM_eq {j : Nat} (He : EnvM σ n tr way) (hwo : WayOK n way) (hs : σ.2.1 9 0 14 j = nI (who j)) (hj : j < n) (hw : who j < n) (hh : h < 24) : g_X9_isThere (nI j) (nI h) σ = some (if thr (way (who j) h) then 1 else 0, σ) := by
  have hb := He.2.1
  have a24 : (24 : Int32) * nI (who j) + nI h = nI (24 * who j + h) := by rw [li24, pk_mul, nI_add]
  have ew : gA σ 9 0 8 (nI (24 * who j + h)) = way (who j) h := by rw [gA_nI (by omega)]; exact He.2.2.2 _ _ hw hh
  unfold g_X9_isThere
  rw [if_pos (inb_nI (show j < 8 by omega) (by omega)), gA_nI (k := 14) (by omega), hs, a24, if_pos (inb_nI (show 24 * who j + h < 192 by omega) (by omega)), ew]
  rcases hwo _ _ hw hh with e | e | e | e <;> rw [e] <;> rfl
theorem restM {i : Nat} (hd : DrawIs nx cg) (hk : kIn k) (He : EnvM σ n tr way) (hwo : WayOK n way) (H : VM k σ who s) (ok : OKH wd s) (hmm : hm s ≤ 1) (hw : ∀ j, j < n → who j < n) (hi : i + 1 < n) (hh : h < 24) (hS : StrM σ Str) :
    wpO (g_X9_restGoes k (nI i) (nI (wd i)) (nI h) σ) (fun _ σ1 => VM k σ1 who (hRest nx cg tr way Str n wd who h i s) ∧ FrL (SM k) σ σ1) := by
  have hb := He.2.1
  have i7 : i < 7 := by omega
  have o2 := ok.2 i i7
  unfold g_X9_restGoes
  refine wpO_e (isThereM_eq He hwo (H.1 i (by omega)) (by omega) (hw i (by omega)) hh) ?_
  have ei : nI i + 1 = nI (i + 1) := nI_1 i
  rw [ei]
  refine wpO_e (isThereM_eq He hwo (H.1 (i + 1) (by omega)) hi (hw (i + 1) hi) hh) ?_
  have hl : thr (way (who i) h) = true → way (who i) h = 0 ∨ way (who i) h = 1 := fun z => by unfold thr at z; simpa using z
  have hr : thr (way (who (i + 1)) h) = true → way (who (i + 1)) h = 0 ∨ way (who (i + 1)) h = 1 := fun z => by unfold thr at z; simpa using z
  unfold hRest
  dsimp only
  generalize thr (way (who i) h) = a at hl ⊢
  generalize thr (way (who (i + 1)) h) = b at hr ⊢
  rw [e2i]
  -- one is there: it takes a free inch
  have oneL : ∀ (σ2 : AS) (s2 : HS) (v6 : Int32), VM k σ2 who s2 → OKH wd s2 → FrL (SM k) σ σ2 → wpO (g_X9_restGoes_80 k (nI i) (nI (wd i)) 1 σ2) (fun _ σ1 => VM k σ1 who (hTakeL wd i s2) ∧ FrL (SM k) σ σ1) := by
    intro σ2 s2 _ H2 k2 f2
    have q1 := k2.1 i i7
    unfold g_X9_restGoes_80 g_X9_restGoes_115 hTakeL
    rw [e2i, e2i1]
    refine wpO_t (inb_nI (show 2 * i < 14 by omega) (by omega)) (wpO_t (inb_nI (show 2 * i + 1 < 14 by omega) (by omega)) ?_)
    rw [gA_nI (k := k) (i := 2 * i) (by omega), gA_nI (k := k) (i := 2 * i + 1) (by omega), H2.2.1 i i7, H2.2.2.1 i i7, nI_add]
    by_cases cf : hL s2 i + hR s2 i < wd i
    · have e : (if hL s2 i + hR s2 i < wd i then (uN (hL s2) i (hL s2 i + 1), hR s2, hF s2, hO s2, hz s2, hc s2, 1) else s2) = (uN (hL s2) i (hL s2 i + 1), hR s2, hF s2, hO s2, hz s2, hc s2, 1) := if_pos cf
      rw [e]
      exact wpO_t (nI_lt cf (by omega)) (wpO_f one_ne (nrm (wpO_mono (takesL hk H2 i7) (fun _ _ q => ⟨q.1, f2.tr q.2⟩))))
    · have e : (if hL s2 i + hR s2 i < wd i then (uN (hL s2) i (hL s2 i + 1), hR s2, hF s2, hO s2, hz s2, hc s2, 1) else s2) = s2 := if_neg cf
      rw [e]
      exact wpO_f (nI_nlt (by omega) (by omega)) (wpO_some.mpr ⟨H2, f2⟩)
  have oneR : ∀ (σ2 : AS) (s2 : HS), VM k σ2 who s2 → OKH wd s2 → FrL (SM k) σ σ2 → wpO (g_X9_restGoes_80 k (nI i) (nI (wd i)) 0 σ2) (fun _ σ1 => VM k σ1 who (hTakeR wd i s2) ∧ FrL (SM k) σ σ1) := by
    intro σ2 s2 H2 k2 f2
    have q1 := k2.1 i i7
    unfold g_X9_restGoes_80 g_X9_restGoes_115 hTakeR
    rw [e2i, e2i1]
    refine wpO_t (inb_nI (show 2 * i < 14 by omega) (by omega)) (wpO_t (inb_nI (show 2 * i + 1 < 14 by omega) (by omega)) ?_)
    rw [gA_nI (k := k) (i := 2 * i) (by omega), gA_nI (k := k) (i := 2 * i + 1) (by omega), H2.2.1 i i7, H2.2.2.1 i i7, nI_add]
    by_cases cf : hL s2 i + hR s2 i < wd i
    · have e : (if hL s2 i + hR s2 i < wd i then (hL s2, uN (hR s2) i (hR s2 i + 1), hF s2, hO s2, hz s2, hc s2, 1) else s2) = (hL s2, uN (hR s2) i (hR s2 i + 1), hF s2, hO s2, hz s2, hc s2, 1) := if_pos cf
      rw [e]
      exact wpO_t (nI_lt cf (by omega)) (wpO_t rfl (nrm (wpO_mono (takesR hk H2 i7) (fun _ _ q => ⟨q.1, f2.tr q.2⟩))))
    · have e : (if hL s2 i + hR s2 i < wd i then (hL s2, uN (hR s2) i (hR s2 i + 1), hF s2, hO s2, hz s2, hc s2, 1) else s2) = s2 := if_neg cf
      rw [e]
      exact wpO_f (nI_nlt (by omega) (by omega)) (wpO_some.mpr ⟨H2, f2⟩)
  have last : ∀ (σ2 : AS) (s2 : HS), VM k σ2 who s2 → OKH wd s2 → FrL (SM k) σ σ2 → wpO (g_X9_restGoes_48 k (nI i) (nI (wd i)) (nI h) (if a = true then 1 else 0) (if b = true then 1 else 0) σ2) (fun _ σ1 => VM k σ1 who (if a = true then (if b = true then hPush nx cg tr way Str n wd who h i s2 else hTakeL wd i s2) else (if b = true then hTakeR wd i s2 else s2)) ∧ FrL (SM k) σ σ1) := by
    intro σ2 s2 H2 k2 f2
    unfold g_X9_restGoes_48 g_X9_restGoes_70
    cases a <;> cases b
    · exact wpO_t rfl (wpO_t rfl (wpO_t rfl (wpO_some.mpr ⟨H2, f2⟩)))
    · exact wpO_t rfl (wpO_t rfl (wpO_f one_ne (oneR σ2 s2 H2 k2 f2)))
    · exact wpO_f one_ne (wpO_t rfl (wpO_f one_ne (oneL σ2 s2 0 H2 k2 f2)))
    · exact wpO_f one_ne (wpO_f one_ne (nrm (wpO_mono (pushesM hd hk (He.sm hk f2) H2 k2 hw hi hh (hS.sm hk f2) (hl rfl) (hr rfl)) (fun _ _ q => ⟨q.1, f2.tr q.2⟩))))
  have mid : ∀ (σ2 : AS) (s2 : HS), VM k σ2 who s2 → OKH wd s2 → hm s2 ≤ 1 → FrL (SM k) σ σ2 → wpO (g_X9_restGoes_33 k (nI i) (nI (wd i)) (nI h) (if a = true then 1 else 0) (if b = true then 1 else 0) σ2) (fun _ σ1 => VM k σ1 who (if a = true then (if b = true then hPush nx cg tr way Str n wd who h i (if b = true then s2 else hLeaveR i s2) else hTakeL wd i (if b = true then s2 else hLeaveR i s2)) else (if b = true then hTakeR wd i (if b = true then s2 else hLeaveR i s2) else (if b = true then s2 else hLeaveR i s2))) ∧ FrL (SM k) σ σ1) := by
    intro σ2 s2 H2 k2 m2 f2
    unfold g_X9_restGoes_33
    rw [e2i, e2i1]
    cases b
    · exact wpO_t rfl (wpO_b (leavesR hk H2 k2 i7 m2) (fun _ σ3 q => last σ3 _ q.1 k2.leaveR (f2.tr q.2)))
    · exact wpO_f one_ne (last σ2 s2 H2 k2 f2)
  cases a
  · exact wpO_t rfl (wpO_b (leavesL hk H ok i7 hmm) (fun _ σ3 q => mid σ3 _ q.1 ok.leaveL (HM.leaveL hmm) q.2))
  · exact wpO_f one_ne (mid σ s H ok hmm FrL.rf)
/-! sums over the rests -/
def hbN (X Y : Nat → Nat) (j : Nat) : Nat → Nat
  | 0 => 0
  | i + 1 => hbN X Y j i + (if i = j then X i else if i + 1 = j then Y i else 0)
theorem hbN_eq (X Y : Nat → Nat) (j : Nat) : ∀ m, hbN X Y j m = (if j < m then X j else 0) + (if 0 < j ∧ j - 1 < m then Y (j - 1) else 0)
  | 0 => by simp [hbN]
  | m + 1 => by
    rw [hbN, hbN_eq X Y j m]
    by_cases c1 : m = j
    · subst c1
      have a : ¬ m < m := by omega
      have b : m < m + 1 := by omega
      simp only [a, b, if_true, if_false]
      by_cases c2 : 0 < m
      · rw [if_pos ⟨c2, by omega⟩, if_pos ⟨c2, by omega⟩]; omega
      · rw [if_neg (fun z => c2 z.1), if_neg (fun z => c2 z.1)]; omega
    · rw [if_neg c1]
      by_cases c3 : m + 1 = j
      · subst c3
        rw [if_pos rfl, if_neg (by omega), if_neg (by omega), if_neg (by omega), if_pos ⟨by omega, by omega⟩]
        show 0 + 0 + Y m = 0 + Y m
        omega
      · rw [if_neg c3]
        have e1 : (j < m + 1) ↔ (j < m) := by omega
        have e2 : (0 < j ∧ j - 1 < m + 1) ↔ (0 < j ∧ j - 1 < m) := by omega
        simp only [e1, e2, Nat.add_zero]
theorem hbN_inS (X Y : Nat → Nat) {j : Nat} (hj : j < n) : hbN X Y j (n - 1) = inS n X Y j := by
  rw [hbN_eq]
  unfold inS
  have e1 : (j < n - 1) ↔ (j + 1 < n) := by omega
  have e2 : (0 < j ∧ j - 1 < n - 1) ↔ (0 < j) := by omega
  simp only [e1, e2]
theorem eq_pred {i j : Nat} (hi : i < 2 ^ 30) (hj : j < 2 ^ 30) : nI i = nI j - 1 ↔ i + 1 = j := by
  by_cases h0 : j = 0
  · subst h0
    refine ⟨fun z => ?_, fun z => by omega⟩
    have h1 := congrArg Int32.toInt z
    rw [nI_toInt (by omega)] at h1
    have e : (nI 0 - 1).toInt = -1 := by decide
    omega
  · have e : nI j - 1 = nI (j - 1) := by rw [li1, pk_sub (by omega)]
    rw [e, nI_eq (by omega) (by omega)]; omega
theorem heldM {j : Nat} (hk : kIn k) (He : EnvM σ n tr way) (h1 : ∀ i, i < 7 → σ.2.1 9 0 k (2 * i) = nI (hL s i)) (h2 : ∀ i, i < 7 → σ.2.1 9 0 k (2 * i + 1) = nI (hR s i)) (hj : j < n) : g_X9_heldBy k (nI j) σ = some (nI (inS n (hL s) (hR s) j), σ) := by
  have hb := He.2.1
  have loop : ∀ (d i f : Nat), i + d = n - 1 → d < f → g_X9_heldBy_5 k f (nI j) (nI (hbN (hL s) (hR s) j i)) (nI i) σ = some (nI (inS n (hL s) (hR s) j), σ) := by
    intro d
    induction d with
    | zero =>
      intro i f hi hf
      obtain ⟨f, rfl⟩ : ∃ g, f = g + 1 := ⟨f - 1, by omega⟩
      have e : i = n - 1 := by omega
      subst e
      rw [g_X9_heldBy_5, restsM_eq He.1 hb, bnd_some, if_neg (nI_nlt (Nat.le_refl _) (by omega)), hbN_inS _ _ hj]
    | succ d ih =>
      intro i f hi hf
      obtain ⟨f, rfl⟩ : ∃ g, f = g + 1 := ⟨f - 1, by omega⟩
      have i7 : i < 7 := by omega
      have step := ih (i + 1) f (by omega) (by omega)
      rw [g_X9_heldBy_5, restsM_eq He.1 hb, bnd_some, if_pos (nI_lt (by omega) (by omega)), e2i, e2i1]
      rw [hbN] at step
      by_cases c1 : i = j
      · rw [if_pos c1] at step
        rw [if_pos (by rw [c1]), if_pos (inb_nI (show 2 * i < 14 by omega) (by omega)), gA_nI (k := k) (i := 2 * i) (by omega), h1 i i7, nI_add, nI_1]
        exact step
      · rw [if_neg c1] at step
        rw [if_neg (fun z => c1 ((nI_eq (by omega) (by omega)).mp z))]
        by_cases c2 : i + 1 = j
        · rw [if_pos c2] at step
          rw [if_pos ((eq_pred (by omega) (by omega)).mpr c2), if_pos (inb_nI (show 2 * i + 1 < 14 by omega) (by omega)), gA_nI (k := k) (i := 2 * i + 1) (by omega), h2 i i7, nI_add, nI_1]
          exact step
        · rw [if_neg c2] at step
          rw [if_neg (fun z => c2 ((eq_pred (by omega) (by omega)).mp z)), li0, nI_add, nI_1]
          exact step
  unfold g_X9_heldBy
  exact loop (n - 1) 0 400 (by omega) (by omega)
theorem sub_nI (x : Int32) (a b : Nat) : x - nI a - nI b = x - nI (a + b) := by
  rw [← nI_add]
  generalize nI a = p
  generalize nI b = q
  grind
theorem comfortM {j : Nat} (hk : kIn k) (He : EnvM σ n tr way) (H : VM k σ who s) (hw : ∀ j, j < n → who j < n) (hj : j < n) (hh : h < 24) : g_X9_comfortIn k (nI j) (nI h) σ = some (cmf tr way n who h s j, σ) := by
  have hb := He.2.1
  have hwj := hw j hj
  have a24 : (24 : Int32) * nI (who j) + nI h = nI (24 * who j + h) := by rw [li24, pk_mul, nI_add]
  have ew : gA σ 9 0 8 (nI (24 * who j + h)) = way (who j) h := by rw [gA_nI (by omega)]; exact He.2.2.2 _ _ hwj hh
  have e0 : gA σ 9 0 0 (nI (who j)) = tr (who j) 0 := by rw [gA_nI (by omega)]; have := He.2.2.1 (who j) 0 hwj (by omega); rwa [show 8 * 0 + who j = who j by omega] at this
  have loop : ∀ (V : Int32) (d i f : Nat), i + d = n - 1 → d < f → g_X9_comfortIn_65 k f (nI j) (V - nI (2 * hbN (hF s) (hF s) j i)) (nI i) σ = some (V - nI (2 * inS n (hF s) (hF s) j), σ) := by
    intro V d
    induction d with
    | zero =>
      intro i f hi hf
      obtain ⟨f, rfl⟩ : ∃ g, f = g + 1 := ⟨f - 1, by omega⟩
      have e : i = n - 1 := by omega
      subst e
      rw [g_X9_comfortIn_65, restsM_eq He.1 hb, bnd_some, if_neg (nI_nlt (Nat.le_refl _) (by omega)), hbN_inS _ _ hj]
    | succ d ih =>
      intro i f hi hf
      obtain ⟨f, rfl⟩ : ∃ g, f = g + 1 := ⟨f - 1, by omega⟩
      have i7 : i < 7 := by omega
      have step := ih (i + 1) f (by omega) (by omega)
      rw [g_X9_comfortIn_65, restsM_eq He.1 hb, bnd_some, if_pos (nI_lt (by omega) (by omega))]
      unfold g_X9_comfortIn_90
      rw [hbN] at step
      have big : ∀ x : Nat, x = hF s i → V - nI (2 * hbN (hF s) (hF s) j i) - 2 * gA σ 9 0 28 (nI i) = V - nI (2 * (hbN (hF s) (hF s) j i + x)) := fun x ex => by
        rw [gA_nI (k := 28) (by omega), H.2.2.2.1 i i7, e2i, sub_nI, ex, Nat.mul_add]
      by_cases c1 : i = j
      · rw [if_pos c1] at step
        rw [if_pos (by rw [c1]), if_pos (inb_nI (show i < 7 by omega) (by omega)), big _ rfl, nI_1]
        exact step
      · rw [if_neg c1] at step
        rw [if_neg (fun z => c1 ((nI_eq (by omega) (by omega)).mp z))]
        by_cases c2 : i + 1 = j
        · rw [if_pos c2] at step
          rw [if_pos ((eq_pred (by omega) (by omega)).mpr c2), if_pos (inb_nI (show i < 7 by omega) (by omega)), big _ rfl, nI_1]
          exact step
        · rw [if_neg c2] at step
          have z0 : V - nI (2 * hbN (hF s) (hF s) j i) - 0 = V - nI (2 * (hbN (hF s) (hF s) j i + 0)) := by rw [li0, sub_nI]; rfl
          rw [if_neg (fun z => c2 ((eq_pred (by omega) (by omega)).mp z)), z0, nI_1]
          exact step
  unfold g_X9_comfortIn cmf
  rw [if_pos (inb_nI (show j < 8 by omega) (by omega))]
  unfold lt
  dsimp only
  rw [gA_nI (k := 14) (by omega), H.1 j (by omega), a24, if_pos (inb_nI (show 24 * who j + h < 192 by omega) (by omega)), ew]
  by_cases c : way (who j) h = 2
  · rw [if_pos c, if_pos c]
  · rw [if_neg c, if_neg c, heldM hk He H.2.1 H.2.2.1 hj, bnd_some, if_pos (inb_nI (show who j < 40 by omega) (by omega)), e0]
    have V0 : ∀ V : Int32, V = V - nI (2 * hbN (hF s) (hF s) j 0) := fun V => by
      show V = V - nI 0
      rw [nI_0]; grind
    unfold mni
    by_cases c2 : tr (who j) 0 < nI (inS n (hL s) (hR s) j)
    · rw [if_pos c2, if_pos c2, V0 (3 * tr (who j) 0)]
      rw [show g_X9_comfortIn_65 k 400 (nI j) (3 * tr (who j) 0 - nI (2 * hbN (hF s) (hF s) j 0)) 0 σ = _ from loop (3 * tr (who j) 0) (n - 1) 0 400 (by omega) (by omega), e2i, ← V0]
    · rw [if_neg c2, if_neg c2, V0 (3 * nI (inS n (hL s) (hR s) j))]
      rw [show g_X9_comfortIn_65 k 400 (nI j) (3 * nI (inS n (hL s) (hR s) j) - nI (2 * hbN (hF s) (hF s) j 0)) 0 σ = _ from loop (3 * nI (inS n (hL s) (hR s) j)) (n - 1) 0 400 (by omega) (by omega), e2i, ← V0]
end HM4
