section HC3
variable {o : Nat} {σ : AS} {wd who : Nat → Nat} {h n : Nat} {s : HS} {tr way : Nat → Nat → Int32} {Str : (Nat → Int32) → Int32}
theorem str193C {st : Nat} {c k0 k1 k2 k3 k4 k5 : Int32} (He : EnvC σ n tr way) (hst : st < n) (hnw : σ.1 1 o 11 = nI h) (ht : 0 < σ.1 3 0 4) (hS : StrC σ Str) (e0 : σ.2.1 3 0 3 0 = k0) (e1 : σ.2.1 3 0 3 1 = k1) (e2 : σ.2.1 3 0 3 2 = k2) (e3 : σ.2.1 3 0 3 3 = k3) :
    wpO (g_X1_strengthAt_193 o (nI st) c k5 k4 4 σ) (fun r σ1 => r = Str (nv k0 k1 k2 k3 k4 k5 (midI n st) c (nI h)) ∧ FrL SK σ σ1) := by
  have hb := He.2.1
  unfold g_X1_strengthAt_193
  refine wpO_t (by decide) (wpO_lt (wpO_lt ?_))
  have f1 : FrL SK σ (sA (sA σ 3 0 3 4 k4) 3 0 3 5 k5) := (FrL_sA (by simp)).tr (FrL_sA (by simp))
  generalize hσ : sA (sA σ 3 0 3 4 k4) 3 0 3 5 k5 = σ1 at f1 ⊢
  have He1 := He.fr f1
  have g : ∀ fl : Int32, wpO (g_X1_strengthAt_243 o c fl 6 σ1) (fun r σ2 => r = Str (nv k0 k1 k2 k3 k4 k5 fl c (nI h)) ∧ FrL SK σ σ2) := fun fl =>
    wpO_mono (str243C (by rw [← hσ]; exact hnw) (by rw [← hσ]; exact ht) (hS.fr f1) (by rw [← hσ]; simp [sAf_a, upd_at, li4, li5, nI_clamp, e0]) (by rw [← hσ]; simp [sAf_a, upd_at, li4, li5, nI_clamp, e1]) (by rw [← hσ]; simp [sAf_a, upd_at, li4, li5, nI_clamp, e2]) (by rw [← hσ]; simp [sAf_a, upd_at, li4, li5, nI_clamp, e3]) (by rw [← hσ]; simp [sAf_a, upd_at, li4, li5, nI_clamp]) (by rw [← hσ]; simp [sAf_a, upd_at, li4, li5, nI_clamp])) (fun r σ2 q => ⟨q.1, f1.tr q.2⟩)
  refine wpO_e (hasRest_eq He1.1 hb (nI st - 1)) ?_
  by_cases c1 : inb (nI st - 1) (n - 1)
  · rw [if_pos c1]
    have c1' := (inb_pred (by omega) (by omega)).mp c1
    refine wpO_f one_ne (wpO_e (hasRest_eq He1.1 hb (nI st)) ?_)
    by_cases c2 : inb (nI st) (n - 1)
    · rw [if_pos c2]
      have c2' := (inb_iffN (by omega)).mp c2
      have hm : midI n st = 1 := by unfold midI; rw [if_pos ⟨by omega, by omega⟩]
      rw [hm]
      exact wpO_f one_ne (g 1)
    · rw [if_neg c2]
      have c2' := fun z => c2 ((inb_iffN (n := n - 1) (p := st) (by omega)).mpr z)
      have hm : midI n st = 0 := by unfold midI; rw [if_neg (fun z => c2' (by omega))]
      rw [hm]
      exact wpO_t rfl (g 0)
  · rw [if_neg c1]
    have c1' := fun z => c1 ((inb_pred (s := st) (m := n - 1) (by omega) (by omega)).mpr z)
    have hm : midI n st = 0 := by unfold midI; rw [if_neg (fun z => c1' ⟨by omega, by omega⟩)]
    rw [hm]
    exact wpO_t rfl (g 0)
theorem str40C {st i p : Nat} {c own oth : Int32} {fl : Int32} (He : EnvC σ n tr way) (hst : st < n) (hi : i < 7) (hp : p < n) (hh : h < 24) (hnw : σ.1 1 o 11 = nI h) (hS : StrC σ Str) (ho : (if fl = 0 then σ.2.1 1 o 3 i else σ.2.1 1 o 4 i) = oth) :
    wpO (g_X1_strengthAt_40 o (nI st) (nI i) c (nI p) fl own σ) (fun r σ1 => r = Str (nv (tr p 0) (tr p 1) (tr p 2) own oth (way p h) (midI n st) c (nI h)) ∧ FrL SK σ σ1) := by
  have hb := He.2.1
  unfold g_X1_strengthAt_40
  refine wpO_e (trait_eq (w := 1) He.1 hb hp (by omega)) ?_
  rw [He.2.2.1 p 1 hp (by omega)]
  have e0 : gF σ 1 o 11 = nI h := hnw
  rw [e0]
  refine wpO_e (how_eq He.1 hb hp hh) ?_
  rw [He.2.2.2 p h hp hh]
  have eT : g_X3_isTold 0 σ = some (if 0 < σ.1 3 0 4 then 1 else 0, σ) := by
    unfold g_X3_isTold
    by_cases q : 0 < σ.1 3 0 4 <;> simp [gF, q]
  refine wpO_e eT ?_
  by_cases ct : 0 < σ.1 3 0 4
  · rw [if_pos ct]
    refine wpO_f one_ne (wpO_e (trait_eq (w := 0) He.1 hb hp (by omega)) ?_)
    rw [He.2.2.1 p 0 hp (by omega)]
    refine wpO_lt (wpO_lt ?_)
    have f1 : FrL SK σ (sA (sA σ 3 0 3 0 (tr p 0)) 3 0 3 1 (tr p 1)) := (FrL_sA (by simp)).tr (FrL_sA (by simp))
    have He1 := He.fr f1
    refine wpO_e (trait_eq (w := 2) He1.1 hb hp (by omega)) ?_
    rw [He1.2.2.1 p 2 hp (by omega)]
    refine wpO_lt (wpO_lt ?_)
    have f2 : FrL SK σ (sA (sA (sA (sA σ 3 0 3 0 (tr p 0)) 3 0 3 1 (tr p 1)) 3 0 3 2 (tr p 2)) 3 0 3 3 own) := f1.tr ((FrL_sA (by simp)).tr (FrL_sA (by simp)))
    generalize hσ : sA (sA (sA (sA σ 3 0 3 0 (tr p 0)) 3 0 3 1 (tr p 1)) 3 0 3 2 (tr p 2)) 3 0 3 3 own = σ2 at f2 ⊢
    have g : wpO (g_X1_strengthAt_193 o (nI st) c (way p h) oth 4 σ2) (fun r σ1 => r = Str (nv (tr p 0) (tr p 1) (tr p 2) own oth (way p h) (midI n st) c (nI h)) ∧ FrL SK σ σ1) :=
      wpO_mono (str193C (He.fr f2) hst (by rw [← hσ]; exact hnw) (by rw [← hσ]; exact ct) (hS.fr f2) (by rw [← hσ]; simp [sAf_a, upd_at, li0, li1, li2, li3, nI_clamp]) (by rw [← hσ]; simp [sAf_a, upd_at, li0, li1, li2, li3, nI_clamp]) (by rw [← hσ]; simp [sAf_a, upd_at, li0, li1, li2, li3, nI_clamp]) (by rw [← hσ]; simp [sAf_a, upd_at, li0, li1, li2, li3, nI_clamp])) (fun r σ3 q => ⟨q.1, f2.tr q.2⟩)
    have hin : inb (nI i) 7 := inb_nI hi (by omega)
    by_cases cf : fl = 0
    · rw [if_pos cf] at ho
      refine wpO_t cf (wpO_t hin ?_)
      rw [gA_nI (by omega), f2.a _ _ _ (by simp), ho]
      exact g
    · rw [if_neg cf] at ho
      refine wpO_f cf (wpO_t hin ?_)
      rw [gA_nI (by omega), f2.a _ _ _ (by simp), ho]
      exact g
  · rw [if_neg ct]
    refine wpO_t rfl ?_
    rcases hS with ⟨-, hd⟩ | ⟨z, -⟩
    · rw [hd]
      refine wpO_if (fun c5 => wpO_some.mpr ⟨?_, FrL.rf⟩) (fun c5 => wpO_some.mpr ⟨?_, FrL.rf⟩)
      · show _ = if way p h = 1 then (2 * tr p 1 + own) / 2 else 2 * tr p 1 + own
        rw [if_pos c5]
      · show _ = if way p h = 1 then (2 * tr p 1 + own) / 2 else 2 * tr p 1 + own
        rw [if_neg c5]
    · exact absurd z ct
theorem strengthC {st i : Nat} {c : Int32} (He : EnvC σ n tr way) (H : VC o σ wd who h s) (hw : ∀ j, j < n → who j < n) (hst : st = i ∨ st = i + 1) (hi : i + 1 < n) (hh : h < 24) (hS : StrC σ Str) :
    wpO (g_X1_strengthAt o (nI st) (nI i) c σ) (fun r σ1 => r = sgt tr way Str n who (hL s) (hR s) st i c h ∧ FrL SK σ σ1) := by
  have hb := He.2.1
  have hsn : st < n := by omega
  unfold g_X1_strengthAt g_X1_strengthAt_18 sgt
  refine wpO_t (inb_nI (show st < 8 by omega) (by omega)) (wpO_lt ?_)
  rw [gA_nI (by omega), H.1 st (by omega)]
  have hin : inb (nI i) 7 := inb_nI (show i < 7 by omega) (by omega)
  by_cases e : st = i
  · subst e
    refine wpO_t rfl (wpO_f one_ne (wpO_t hin ?_))
    rw [gA_nI (by omega), H.2.2.1 st (by omega), if_pos rfl, if_pos rfl]
    exact str40C He hsn (by omega) (hw st hsn) hh H.2.2.2.2.2.2.2.2.2 hS (by rw [if_neg one_ne]; exact H.2.2.2.1 st (by omega))
  · have e2 : ¬ nI st = nI i := fun z => e ((nI_eq (by omega) (by omega)).mp z)
    refine wpO_f e2 (wpO_t rfl (wpO_t hin ?_))
    rw [gA_nI (by omega), H.2.2.2.1 i (by omega), if_neg e, if_neg e]
    exact str40C He hsn (by omega) (hw st hsn) hh H.2.2.2.2.2.2.2.2.2 hS (by rw [if_pos rfl]; exact H.2.2.1 i (by omega))
theorem SK_SC : ∀ q ∈ SK, q ∈ SC o := by intro q hq; simp only [List.mem_cons, List.not_mem_nil, or_false] at hq ⊢; rcases hq with e | e | e <;> simp [e]
theorem SK_V : ∀ k ∈ [2, 3, 4, 5, 8, 9, 10, 11, 12, 13], (1, o, k) ∉ SK := by intro k _ hq; simp at hq
theorem OKH.z {z : Int32} (hk : OKH wd s) : OKH wd (hZ z s) := hk
theorem nrm {x : Option (Unit × AS)} {Q : Unit → AS → Prop} (h : wpO x Q) : wpO (bnd x fun _ σ1 => some ((), σ1)) Q := wpO_b h (fun _ _ q => wpO_some.mpr q)
theorem contendC {nx cg : Int32 → Int32} {i : Nat} (hd : DrawIs nx cg) (He : EnvC σ n tr way) (H : VC o σ wd who h s) (hk : OKH wd s) (hw : ∀ j, j < n → who j < n) (hi : i + 1 < n) (hh : h < 24) (hS : StrC σ Str) :
    wpO (g_X1_contend o (nI i) σ) (fun _ σ1 => VC o σ1 wd who h (hPush nx cg tr way Str n wd who h i s) ∧ FrL (SC o) σ σ1) := by
  have hb := He.2.1
  unfold g_X1_contend
  obtain ⟨z1, hz1⟩ : ∃ z, z = nx (hz s) := ⟨_, rfl⟩
  obtain ⟨z2, hz2⟩ : ∃ z, z = nx z1 := ⟨_, rfl⟩
  refine wpO_b (coughC hd H hz1) (fun r1 σ2 q1 => ?_)
  obtain ⟨rfl, H2, f2⟩ := q1
  have He2 := He.fr f2 (by simp) (by simp) (by simp)
  refine wpO_b (strengthC He2 H2 hw (Or.inl rfl) hi hh (hS.fr f2 (by simp) (by simp) (by simp))) (fun r3 σ4 q2 => ?_)
  obtain ⟨e3, f4⟩ := q2
  have H4 := H2.fr f4 SK_V
  have f4' := f2.tr (f4.mono SK_SC)
  refine wpO_b (coughC hd H4 hz2) (fun r5 σ6 q3 => ?_)
  obtain ⟨rfl, H6, f6⟩ := q3
  have f6' := f4'.tr f6
  have He6 := He.fr f6' (by simp) (by simp) (by simp)
  have ei : nI i + 1 = nI (i + 1) := nI_1 i
  rw [ei]
  refine wpO_b (strengthC He6 H6 hw (Or.inr rfl) hi hh (hS.fr f6' (by simp) (by simp) (by simp))) (fun r7 σ8 q4 => ?_)
  obtain ⟨e7, f8⟩ := q4
  have H8 := H6.fr f8 SK_V
  have f8' := f6'.tr (f8.mono SK_SC)
  have He8 := He.fr f8' (by simp) (by simp) (by simp)
  have hk8 : OKH wd (hZ z2 s) := hk.z
  unfold hPush
  dsimp only
  rw [← hz1, ← hz2]
  have E3 : sgt tr way Str n who (hL s) (hR s) i i (cg z1) h = r3 := e3.symm
  have E7 : sgt tr way Str n who (hL s) (hR s) (i + 1) i (cg z2) h = r7 := e7.symm
  simp only [E3, E7]
  change VC o σ8 wd who h (hZ z2 s) at H8
  have i7 : i < 7 := by omega
  have hsym : ∀ x y : Int32, x < y → ¬ y < x := fun x y a b => by rw [Int32.lt_iff_toInt_lt] at a b; omega
  refine wpO_if (fun c => ?_) (fun c => ?_)
  · simp only [c, if_true]
    refine wpO_b (takeFreeL H8 hk8 i7) (fun r15 σ16 q => ?_)
    obtain ⟨rfl, H16, f16⟩ := q
    have lst : ∀ (σ9 : AS) (s9 : HS), VC o σ9 wd who h s9 → FrL (SC o) σ σ9 → wpO (g_X1_contend_60 o (nI i) r3 r7 σ9) (fun _ σ1 => VC o σ1 wd who h s9 ∧ FrL (SC o) σ σ1) := fun σ9 s9 a b => by
      unfold g_X1_contend_60
      exact wpO_f (hsym _ _ c) (wpO_some.mpr ⟨a, b⟩)
    by_cases cf : hL s i + hR s i < wd i
    · have cf' : hL (hZ z2 s) i + hR (hZ z2 s) i < wd i := cf
      rw [if_pos cf', if_pos cf]
      exact wpO_f one_ne (lst _ _ H16 (f8'.tr f16))
    · have cf' : ¬ hL (hZ z2 s) i + hR (hZ z2 s) i < wd i := cf
      rw [if_neg cf', if_neg cf]
      have e16 : hTakeL wd i (hZ z2 s) = hZ z2 s := by unfold hTakeL; rw [if_neg cf']
      rw [e16] at H16
      refine wpO_t rfl (wpO_b (wrestCL (He8.fr f16 (by simp) (by simp) (by simp)) H16 hk8 hw hi) (fun _ σ18 q => ?_))
      exact lst _ _ q.1 ((f8'.tr f16).tr q.2)
  · simp only [c, if_false]
    unfold g_X1_contend_60
    refine wpO_if (fun c2 => ?_) (fun c2 => ?_)
    · simp only [c2, if_true]
      refine wpO_b (takeFreeR H8 hk8 i7) (fun r11 σ12 q => ?_)
      obtain ⟨rfl, H16, f16⟩ := q
      by_cases cf : hL s i + hR s i < wd i
      · have cf' : hL (hZ z2 s) i + hR (hZ z2 s) i < wd i := cf
        rw [if_pos cf', if_pos cf]
        exact wpO_f one_ne (wpO_some.mpr ⟨H16, f8'.tr f16⟩)
      · have cf' : ¬ hL (hZ z2 s) i + hR (hZ z2 s) i < wd i := cf
        rw [if_neg cf', if_neg cf]
        have e16 : hTakeR wd i (hZ z2 s) = hZ z2 s := by unfold hTakeR; rw [if_neg cf']
        rw [e16] at H16
        exact wpO_t rfl (nrm (wpO_mono (wrestCR (He8.fr f16 (by simp) (by simp) (by simp)) H16 hk8 hw hi) (fun _ σ14 q => ⟨q.1, (f8'.tr f16).tr q.2⟩)))
    · simp only [c2, if_false]
      exact wpO_some.mpr ⟨H8, f8'⟩
end HC3
