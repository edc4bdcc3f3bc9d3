section HM2
variable {k : Nat} {σ : AS} {wd who : Nat → Nat} {h n : Nat} {s : HS} {tr way : Nat → Nat → Int32} {Str : (Nat → Int32) → Int32}
theorem str202M {fl c : Int32} {k0 k1 k2 k3 k4 k5 : Int32} (ht : ¬ σ.1 9 0 18 < 0) (hS : StrM σ Str) (e0 : σ.2.1 9 0 24 0 = k0) (e1 : σ.2.1 9 0 24 1 = k1) (e2 : σ.2.1 9 0 24 2 = k2) (e3 : σ.2.1 9 0 24 3 = k3) (e4 : σ.2.1 9 0 24 4 = k4) (e5 : σ.2.1 9 0 24 5 = k5) :
    wpO (g_X9_strengthAt_202 k c (nI h) fl 6 σ) (fun r σ1 => r = Str (nv k0 k1 k2 k3 k4 k5 fl c (nI h)) ∧ FrL SN σ σ1) := by
  unfold g_X9_strengthAt_202
  refine wpO_t (by decide) ?_
  rcases hS with ⟨z, -⟩ | ⟨-, hS⟩
  · exact absurd z ht
  refine wpO_b (hS _ (nv k0 k1 k2 k3 k4 k5 fl c (nI h)) ?_ ?_ ?_) (fun r σ1 q => ?_)
  · rfl
  · simp [sAf_a]
  · apply nv_at <;> simp [sAf_a, upd_at, li0, li6, li7, li8, nI_clamp, e0, e1, e2, e3, e4, e5, sAf_f, gF]
  · have f : FrL SN σ σ1 := (((FrL_sA (by simp)).tr (FrL_sA (by simp))).tr (FrL_sA (by simp))).tr (q.2.mono (by simp))
    rw [← q.1]
    unfold clp
    refine wpO_if (fun c1 => wpO_some.mpr ⟨(if_pos c1).symm, f⟩) (fun c1 => wpO_if (fun c2 => wpO_some.mpr ⟨?_, f⟩) (fun c2 => wpO_some.mpr ⟨?_, f⟩))
    · rw [if_neg c1, if_pos c2]
    · rw [if_neg c1, if_neg c2]
theorem str162M {st j : Nat} {c k0 k1 k2 k3 k4 k5 s0 s1 : Int32} (He : EnvM σ n tr way) (hst : st < n) (hj : j < 14) (ej : s1 + s0 = nI j) (e4 : σ.2.1 9 0 k j = k4) (ht : ¬ σ.1 9 0 18 < 0) (hS : StrM σ Str) (e0 : σ.2.1 9 0 24 0 = k0) (e1 : σ.2.1 9 0 24 1 = k1) (e2 : σ.2.1 9 0 24 2 = k2) (e3 : σ.2.1 9 0 24 3 = k3) :
    wpO (g_X9_strengthAt_162 k (nI st) c (nI h) k5 s0 s1 4 σ) (fun r σ1 => r = Str (nv k0 k1 k2 k3 k4 k5 (midI n st) c (nI h)) ∧ FrL SN σ σ1) := by
  have hb := He.2.1
  unfold g_X9_strengthAt_162
  rw [ej]
  refine wpO_t (inb_nI hj (by omega)) (wpO_t (by decide) (wpO_lt (wpO_lt ?_)))
  rw [gA_nI (by omega), e4]
  have f1 : FrL SN σ (sA (sA σ 9 0 24 4 k4) 9 0 24 5 k5) := (FrL_sA (by simp)).tr (FrL_sA (by simp))
  generalize hσ : sA (sA σ 9 0 24 4 k4) 9 0 24 5 k5 = σ1 at f1 ⊢
  have He1 := He.fr f1
  have g : ∀ fl : Int32, wpO (g_X9_strengthAt_202 k c (nI h) fl 6 σ1) (fun r σ2 => r = Str (nv k0 k1 k2 k3 k4 k5 fl c (nI h)) ∧ FrL SN σ σ2) := fun fl =>
    wpO_mono (str202M (by rw [← hσ]; exact ht) (hS.fr f1) (by rw [← hσ]; simp [sAf_a, upd_at, li4, li5, nI_clamp, e0]) (by rw [← hσ]; simp [sAf_a, upd_at, li4, li5, nI_clamp, e1]) (by rw [← hσ]; simp [sAf_a, upd_at, li4, li5, nI_clamp, e2]) (by rw [← hσ]; simp [sAf_a, upd_at, li4, li5, nI_clamp, e3]) (by rw [← hσ]; simp [sAf_a, upd_at, li4, li5, nI_clamp]) (by rw [← hσ]; simp [sAf_a, upd_at, li4, li5, nI_clamp])) (fun r σ2 q => ⟨q.1, f1.tr q.2⟩)
  refine wpO_e (isRestM_eq He1.1 hb (nI st)) ?_
  by_cases c2 : inb (nI st) (n - 1)
  · rw [if_pos c2]
    have c2' := (inb_iffN (by omega)).mp c2
    refine wpO_f one_ne (wpO_e (isRestM_eq He1.1 hb (nI st - 1)) ?_)
    by_cases c1 : inb (nI st - 1) (n - 1)
    · rw [if_pos c1]
      have c1' := (inb_pred (by omega) (by omega)).mp c1
      have hm : midI n st = 1 := by unfold midI; rw [if_pos ⟨by omega, by omega⟩]
      rw [hm]
      exact wpO_f one_ne (g 1)
    · rw [if_neg c1]
      have c1' := fun z => c1 ((inb_pred (s := st) (m := n - 1) (by omega) (by omega)).mpr z)
      have hm : midI n st = 0 := by unfold midI; rw [if_neg (fun z => c1' ⟨by omega, by omega⟩)]
      rw [hm]
      exact wpO_t rfl (g 0)
  · rw [if_neg c2]
    have c2' := fun z => c2 ((inb_iffN (n := n - 1) (p := st) (by omega)).mpr z)
    have hm : midI n st = 0 := by unfold midI; rw [if_neg (fun z => c2' (by omega))]
    rw [hm]
    exact wpO_t rfl (g 0)
theorem str48M {st i p j : Nat} {c own : Int32} (He : EnvM σ n tr way) (hst : st < n) (hi : i < 7) (hp : p < n) (hS : StrM σ Str) {oth fl : Int32} (hfl : fl = 0 ∨ fl = 1) (hj : j = (if st = i then 2 * i + 1 else 2 * i)) (e4 : σ.2.1 9 0 k j = oth) (hk : kIn k) :
    wpO (g_X9_strengthAt_48 k (nI st) (nI i) c (nI h) (nI p) own fl σ) (fun r σ1 => r = Str (nv (tr p 0) (tr p 1) (tr p 2) own oth fl (midI n st) c (nI h)) ∧ FrL SN σ σ1) := by
  obtain ⟨hn, hb, htr, hwy⟩ := id He
  have a8 : (8 : Int32) + nI p = nI (8 + p) := by rw [li8, nI_add]
  have a16 : (16 : Int32) + nI p = nI (16 + p) := by rw [li16, nI_add]
  have m0 : ∀ σ1 : AS, σ1.2.1 9 0 0 = σ.2.1 9 0 0 → gA σ1 9 0 0 (nI p) = tr p 0 := fun σ1 e => by rw [gA_nI (by omega), e]; have := htr p 0 hp (by omega); rwa [show 8 * 0 + p = p by omega] at this
  have m1 : ∀ σ1 : AS, σ1.2.1 9 0 0 = σ.2.1 9 0 0 → gA σ1 9 0 0 (nI (8 + p)) = tr p 1 := fun σ1 e => by rw [gA_nI (by omega), e]; exact htr p 1 hp (by omega)
  have m2 : ∀ σ1 : AS, σ1.2.1 9 0 0 = σ.2.1 9 0 0 → gA σ1 9 0 0 (nI (16 + p)) = tr p 2 := fun σ1 e => by rw [gA_nI (by omega), e]; exact htr p 2 hp (by omega)
  unfold g_X9_strengthAt_48
  rw [a8, a16]
  refine wpO_t (inb_nI (show 8 + p < 40 by omega) (by omega)) (wpO_lt ?_)
  rw [m1 σ rfl]
  by_cases ct : σ.1 9 0 18 < 0
  · refine wpO_t ct ?_
    rcases id hS with ⟨-, hd⟩ | ⟨z, -⟩
    · rw [hd]
      refine wpO_if (fun c5 => wpO_some.mpr ⟨?_, FrL.rf⟩) (fun c5 => wpO_some.mpr ⟨?_, FrL.rf⟩)
      · show _ = if fl = 1 then (2 * tr p 1 + own) / 2 else 2 * tr p 1 + own
        rw [if_pos c5]
      · show _ = if fl = 1 then (2 * tr p 1 + own) / 2 else 2 * tr p 1 + own
        rw [if_neg c5]
    · exact absurd ct z
  · refine wpO_f ct (wpO_t (inb_nI (show p < 40 by omega) (by omega)) (wpO_lt (wpO_lt (wpO_t (inb_nI (show 16 + p < 40 by omega) (by omega)) (wpO_lt (wpO_lt ?_))))))
    rw [m0 σ rfl, m1 _ (by simp [sAf_a]), m2 _ (by simp [sAf_a])]
    have f2 : FrL SN σ (sA (sA (sA (sA σ 9 0 24 0 (tr p 0)) 9 0 24 1 (tr p 1)) 9 0 24 2 (tr p 2)) 9 0 24 3 own) := (((FrL_sA (by simp)).tr (FrL_sA (by simp))).tr (FrL_sA (by simp))).tr (FrL_sA (by simp))
    generalize hσ : sA (sA (sA (sA σ 9 0 24 0 (tr p 0)) 9 0 24 1 (tr p 1)) 9 0 24 2 (tr p 2)) 9 0 24 3 own = σ2 at f2 ⊢
    have nk : (9, 0, k) ∉ SN := by rcases hk with q | q <;> subst q <;> decide
    have g : ∀ s0 : Int32, 2 * nI i + s0 = nI j → wpO (g_X9_strengthAt_162 k (nI st) c (nI h) fl s0 (2 * nI i) 4 σ2) (fun r σ1 => r = Str (nv (tr p 0) (tr p 1) (tr p 2) own oth fl (midI n st) c (nI h)) ∧ FrL SN σ σ1) := fun s0 es =>
      wpO_mono (str162M (He.fr f2) hst (by split at hj <;> omega) es (by rw [f2.a _ _ _ nk]; exact e4) (by rw [← hσ]; exact ct) (hS.fr f2) (by rw [← hσ]; simp [sAf_a, upd_at, li0, li1, li2, li3, nI_clamp]) (by rw [← hσ]; simp [sAf_a, upd_at, li0, li1, li2, li3, nI_clamp]) (by rw [← hσ]; simp [sAf_a, upd_at, li0, li1, li2, li3, nI_clamp]) (by rw [← hσ]; simp [sAf_a, upd_at, li0, li1, li2, li3, nI_clamp])) (fun r σ3 q => ⟨q.1, f2.tr q.2⟩)
    by_cases cf : st = i
    · rw [if_pos cf] at hj
      refine wpO_t (by rw [cf]) (g 1 ?_)
      rw [hj, e2i]; exact nI_1 _
    · rw [if_neg cf] at hj
      refine wpO_f (fun z => cf ((nI_eq (by omega) (by omega)).mp z).symm) (g 0 ?_)
      rw [hj, e2i, li0, nI_add, Nat.add_zero]
theorem strengthM {st i : Nat} {c : Int32} (He : EnvM σ n tr way) (H : VM k σ who s) (hk : kIn k) (hw : ∀ j, j < n → who j < n) (hst : st = i ∨ st = i + 1) (hi : i + 1 < n) (hh : h < 24) (hS : StrM σ Str) (hwy : way (who st) h = 0 ∨ way (who st) h = 1) :
    wpO (g_X9_strengthAt k (nI st) (nI i) c (nI h) σ) (fun r σ1 => r = sgt tr way Str n who (hL s) (hR s) st i c h ∧ FrL SN σ σ1) := by
  have hb := He.2.1
  have hsn : st < n := by omega
  have hws := hw st hsn
  have a24 : (24 : Int32) * nI (who st) + nI h = nI (24 * who st + h) := by rw [li24, pk_mul, nI_add]
  unfold g_X9_strengthAt g_X9_strengthAt_22 sgt
  refine wpO_t (inb_nI (show st < 8 by omega) (by omega)) (wpO_lt ?_)
  rw [gA_nI (by omega), H.1 st (by omega)]
  rw [a24]
  have ew : gA σ 9 0 8 (nI (24 * who st + h)) = way (who st) h := by rw [gA_nI (by omega)]; exact He.2.2.2 _ _ hws hh
  have wayfl : ∀ (own oth : Int32) (jj : Nat), jj = (if st = i then 2 * i + 1 else 2 * i) → σ.2.1 9 0 k jj = oth →
      wpO (if gA σ 9 0 8 (nI (24 * who st + h)) = 1 then g_X9_strengthAt_48 k (nI st) (nI i) c (nI h) (nI (who st)) own 1 σ else g_X9_strengthAt_48 k (nI st) (nI i) c (nI h) (nI (who st)) own 0 σ) (fun r σ1 => r = Str (nv (tr (who st) 0) (tr (who st) 1) (tr (who st) 2) own oth (way (who st) h) (midI n st) c (nI h)) ∧ FrL SN σ σ1) := fun own oth jj e1 e2 => by
    rw [ew]
    rcases hwy with q | q
    · rw [q]
      exact wpO_f (by decide) (str48M He hsn (by omega) hws hS (Or.inl rfl) e1 e2 hk)
    · rw [q]
      exact wpO_t rfl (str48M He hsn (by omega) hws hS (Or.inr rfl) e1 e2 hk)
  by_cases e : st = i
  · have ei : nI i = nI st := by rw [e]
    have i0 : 2 * nI i + 0 = nI (2 * i) := by rw [e2i, li0, nI_add, Nat.add_zero]
    refine wpO_t ei ?_
    rw [i0]
    refine wpO_t (inb_nI (show 2 * i < 14 by omega) (by omega)) (wpO_lt (wpO_t (inb_nI (show 24 * who st + h < 192 by omega) (by omega)) ?_))
    rw [gA_nI (k := k) (i := 2 * i) (by omega), H.2.1 i (by omega), if_pos e, if_pos e]
    exact wayfl _ _ (2 * i + 1) (by rw [if_pos e]) (H.2.2.1 i (by omega))
  · have ei : ¬ nI i = nI st := fun z => e ((nI_eq (by omega) (by omega)).mp z).symm
    have i0 : 2 * nI i + 1 = nI (2 * i + 1) := by rw [e2i]; exact nI_1 _
    refine wpO_f ei ?_
    rw [i0]
    refine wpO_t (inb_nI (show 2 * i + 1 < 14 by omega) (by omega)) (wpO_lt (wpO_t (inb_nI (show 24 * who st + h < 192 by omega) (by omega)) ?_))
    rw [gA_nI (k := k) (i := 2 * i + 1) (by omega), H.2.2.1 i (by omega), if_neg e, if_neg e]
    exact wayfl _ _ (2 * i) (by rw [if_neg e]) (H.2.1 i (by omega))
end HM2
