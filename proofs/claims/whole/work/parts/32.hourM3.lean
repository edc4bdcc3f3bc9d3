section HM3
variable {nx cg : Int32 → Int32} {k : Nat} {σ : AS} {wd who : Nat → Nat} {h n : Nat} {s : HS} {tr way : Nat → Nat → Int32} {Str : (Nat → Int32) → Int32}
theorem SN_SM : ∀ q ∈ SN, q ∈ SM k := by intro q hq; simp at hq ⊢; rcases hq with e | e | e | e | e | e <;> simp [e]
theorem SN_V (hk : kIn k) : ∀ z ∈ [k, 14, 25, 26, 27, 28, 29], (9, 0, z) ∉ SN := by
  intro z hz hq
  simp at hz hq
  rcases hk with q | q <;> subst q <;> omega
theorem SM_E {c o z : Nat} (hk : kIn k) (h1 : (c, o, z) ∉ SM 9 := by decide) (h2 : (c, o, z) ∉ SM 33 := by decide) : (c, o, z) ∉ SM k := by rcases hk with q | q <;> subst q <;> assumption
theorem EnvM.sm {σ1 : AS} (He : EnvM σ n tr way) (hk : kIn k) (f : FrL (SM k) σ σ1) : EnvM σ1 n tr way := He.fr f (SM_E hk) (SM_E hk) (SM_E hk)
theorem StrM.sm {σ1 : AS} (He : StrM σ Str) (hk : kIn k) (f : FrL (SM k) σ σ1) : StrM σ1 Str := He.fr f (SM_E hk) (SM_E hk)
theorem leavesL {i : Nat} (hk : kIn k) (H : VM k σ who s) (ok : OKH wd s) (hi : i < 7) (hmm : hm s ≤ 1) : wpO (g_X9_leaves k (nI (2 * i)) σ) (fun _ σ1 => VM k σ1 who (hLeaveL i s) ∧ FrL (SM k) σ σ1) := by
  have em : gF σ 9 0 27 = nI (hm s) := H.2.2.2.2.2.2.2
  have eL : gA σ 9 0 k (nI (2 * i)) = nI (hL s i) := by rw [gA_nI (by omega), H.2.1 i hi]
  have hin : inb (nI (2 * i)) 14 := inb_nI (by omega) (by omega)
  unfold g_X9_leaves hLeaveL
  -- setting 0 to 0 changes nothing
  have same : ∀ σ1, VM k σ1 who s → hL s i = 0 → VM k (sA σ1 9 0 k (nI (2 * i)) 0) who s := fun σ1 H1 e => by
    have H2 := H1.sL hk (v := 0) li0 rfl hi
    have e2 : uN (hL s) i 0 = hL s := by funext j; unfold uN; split; · rename_i q; rw [q, e]
                                         · rfl
    rw [e2] at H2; exact H2
  by_cases c0 : hm s = 0
  · refine wpO_t (by rw [em, c0]; rfl) (wpO_t hin ?_)
    rw [eL]
    by_cases c1 : hL s i = 0
    · rw [if_pos c1]
      refine wpO_f (by rw [c1]; decide) (wpO_lt (wpO_lt (wpO_some.mpr ⟨same _ ?_ c1, (FrL_sF (by simp)).tr (FrL_sA (by simp))⟩)))
      exact H.sM (v := hm s) (by rw [c0]; rfl)
    · rw [if_neg c1]
      refine wpO_t (by rw [li0]; exact nI_lt (by omega) (by have := ok.1 i hi; have := ok.2 i hi; omega)) ?_
      unfold g_X9_leaves_14
      exact wpO_lt (wpO_t hin (wpO_lt (wpO_some.mpr ⟨(H.sM li1).sL hk li0 rfl hi, (FrL_sF (by simp)).tr (FrL_sA (by simp))⟩)))
  · have c1' : hm s = 1 := by omega
    refine wpO_f (by rw [em, c1']; decide) ?_
    unfold g_X9_leaves_14
    refine wpO_lt (wpO_t hin (wpO_lt (wpO_some.mpr ⟨?_, (FrL_sF (by simp)).tr (FrL_sA (by simp))⟩)))
    by_cases c1 : hL s i = 0
    · rw [if_pos c1]
      refine same _ ?_ c1
      exact H.sM (v := hm s) (by rw [c1']; rfl)
    · rw [if_neg c1]
      exact (H.sM li1).sL hk li0 rfl hi
theorem leavesR {i : Nat} (hk : kIn k) (H : VM k σ who s) (ok : OKH wd s) (hi : i < 7) (hmm : hm s ≤ 1) : wpO (g_X9_leaves k (nI (2 * i + 1)) σ) (fun _ σ1 => VM k σ1 who (hLeaveR i s) ∧ FrL (SM k) σ σ1) := by
  have em : gF σ 9 0 27 = nI (hm s) := H.2.2.2.2.2.2.2
  have eL : gA σ 9 0 k (nI (2 * i + 1)) = nI (hR s i) := by rw [gA_nI (by omega), H.2.2.1 i hi]
  have hin : inb (nI (2 * i + 1)) 14 := inb_nI (by omega) (by omega)
  unfold g_X9_leaves hLeaveR
  -- setting 0 to 0 changes nothing
  have same : ∀ σ1, VM k σ1 who s → hR s i = 0 → VM k (sA σ1 9 0 k (nI (2 * i + 1)) 0) who s := fun σ1 H1 e => by
    have H2 := H1.sR hk (v := 0) li0 rfl hi
    have e2 : uN (hR s) i 0 = hR s := by funext j; unfold uN; split; · rename_i q; rw [q, e]
                                         · rfl
    rw [e2] at H2; exact H2
  by_cases c0 : hm s = 0
  · refine wpO_t (by rw [em, c0]; rfl) (wpO_t hin ?_)
    rw [eL]
    by_cases c1 : hR s i = 0
    · rw [if_pos c1]
      refine wpO_f (by rw [c1]; decide) (wpO_lt (wpO_lt (wpO_some.mpr ⟨same _ ?_ c1, (FrL_sF (by simp)).tr (FrL_sA (by simp))⟩)))
      exact H.sM (v := hm s) (by rw [c0]; rfl)
    · rw [if_neg c1]
      refine wpO_t (by rw [li0]; exact nI_lt (by omega) (by have := ok.1 i hi; have := ok.2 i hi; omega)) ?_
      unfold g_X9_leaves_14
      exact wpO_lt (wpO_t hin (wpO_lt (wpO_some.mpr ⟨(H.sM li1).sR hk li0 rfl hi, (FrL_sF (by simp)).tr (FrL_sA (by simp))⟩)))
  · have c1' : hm s = 1 := by omega
    refine wpO_f (by rw [em, c1']; decide) ?_
    unfold g_X9_leaves_14
    refine wpO_lt (wpO_t hin (wpO_lt (wpO_some.mpr ⟨?_, (FrL_sF (by simp)).tr (FrL_sA (by simp))⟩)))
    by_cases c1 : hR s i = 0
    · rw [if_pos c1]
      refine same _ ?_ c1
      exact H.sM (v := hm s) (by rw [c1']; rfl)
    · rw [if_neg c1]
      exact (H.sM li1).sR hk li0 rfl hi
theorem nI_sub {a b : Nat} (h : b ≤ a) : nI a - nI b = nI (a - b) := pk_sub h
/-- the stronger one takes an inch of the other's, or not -/
theorem push111L {i : Nat} {d : Int32} (hk : kIn k) (He : EnvM σ n tr way) (H : VM k σ who s) (ok : OKH wd s) (hw : ∀ j, j < n → who j < n) (hi : i + 1 < n) :
    wpO (g_X9_pushes_111 k (nI i) 0 (nI (i + 1)) d σ) (fun _ σ1 => VM k σ1 who (hWrestL tr who i d s) ∧ FrL (SM k) σ σ1) := by
  have hb := He.2.1
  have i7 : i < 7 := by omega
  have hwi := hw (i + 1) hi
  have e1 : 2 * nI i + 1 - 0 = nI (2 * i + 1) := by rw [e2i, e2i1, li0, nI_sub (by omega)]; rfl
  have e0 : 2 * nI i + 0 = nI (2 * i) := by rw [e2i, li0, nI_add, Nat.add_zero]
  have eR : gA σ 9 0 k (nI (2 * i + 1)) = nI (hR s i) := by rw [gA_nI (by omega), H.2.2.1 i i7]
  have ew : gA σ 9 0 14 (nI (i + 1)) = nI (who (i + 1)) := by rw [gA_nI (by omega), H.1 (i + 1) (by omega)]
  have o1 := ok.1 i i7
  have o2 := ok.2 i i7
  unfold g_X9_pushes_111
  rw [e1, e0, eR, ew]
  have a16 : (16 : Int32) + nI (who (i + 1)) = nI (16 + who (i + 1)) := by rw [li16, nI_add]
  have et : gA σ 9 0 0 (nI (16 + who (i + 1))) = tr (who (i + 1)) 2 := by rw [gA_nI (by omega)]; exact He.2.2.1 _ 2 hwi (by omega)
  rw [a16, et]
  refine wpO_t (inb_nI (show 2 * i + 1 < 14 by omega) (by omega)) ?_
  by_cases c : hR s i = 0
  · have eW : hWrestL tr who i d s = s := by unfold hWrestL; exact if_neg (fun z => z.1 c)
    rw [eW]
    exact wpO_f (by rw [c]; decide) (wpO_some.mpr ⟨H, FrL.rf⟩)
  · refine wpO_t (by rw [li0]; exact nI_lt (by omega) (by omega)) (wpO_t (inb_nI (show i + 1 < 8 by omega) (by omega)) (wpO_t (inb_nI (show 16 + who (i + 1) < 40 by omega) (by omega)) ?_))
    refine wpO_if (fun c2 => ?_) (fun c2 => ?_)
    · have eW : hWrestL tr who i d s = (uN (hL s) i (hL s i + 1), uN (hR s) i (hR s i - 1), uN (hF s) i 1, uN (hO s) (i + 1) 1, hz s, hc s + 1, 1) := by unfold hWrestL; exact if_pos ⟨c, c2⟩
      rw [eW]
      have e3 : nI (hR s i) - 1 = nI (hR s i - 1) := by rw [li1, nI_sub (by omega)]
      rw [e3]
      have H1 := H.sR hk (v := hR s i - 1) rfl rfl i7 (x := nI (hR s i - 1)) (j := 2 * i + 1)
      refine wpO_lt (wpO_b (takesL hk H1 i7) (fun _ σ2 q => ?_))
      refine wpO_t (inb_nI (show i < 7 by omega) (by omega)) (wpO_lt (wpO_lt (wpO_lt (wpO_some.mpr ⟨?_, ?_⟩))))
      · have H3 := (q.1.sFi hk li1 i7).sLo hk li1 (show i + 1 < 8 by omega)
        exact H3.sC (congrArg (· + 1) H3.2.2.2.2.2.2.1)
      · exact ((FrL_sA (by simp)).tr q.2).tr (((FrL_sA (by simp)).tr (FrL_sA (by simp))).tr (FrL_sF (by simp)))
    · have eW : hWrestL tr who i d s = s := by unfold hWrestL; exact if_neg (fun z => c2 z.2)
      rw [eW]
      exact wpO_some.mpr ⟨H, FrL.rf⟩
theorem push111R {i : Nat} {d : Int32} (hk : kIn k) (He : EnvM σ n tr way) (H : VM k σ who s) (ok : OKH wd s) (hw : ∀ j, j < n → who j < n) (hi : i + 1 < n) :
    wpO (g_X9_pushes_111 k (nI i) 1 (nI i) d σ) (fun _ σ1 => VM k σ1 who (hWrestR tr who i d s) ∧ FrL (SM k) σ σ1) := by
  have hb := He.2.1
  have i7 : i < 7 := by omega
  have hwi := hw i (by omega)
  have e1 : 2 * nI i + 1 - 1 = nI (2 * i) := by rw [e2i, e2i1, li1, nI_sub (by omega)]; rfl
  have e0 : 2 * nI i + 1 = nI (2 * i + 1) := by rw [e2i, e2i1]
  have eL : gA σ 9 0 k (nI (2 * i)) = nI (hL s i) := by rw [gA_nI (by omega), H.2.1 i i7]
  have ew : gA σ 9 0 14 (nI i) = nI (who i) := by rw [gA_nI (by omega), H.1 i (by omega)]
  have o1 := ok.1 i i7
  have o2 := ok.2 i i7
  unfold g_X9_pushes_111
  rw [e1, e0, eL, ew]
  have a16 : (16 : Int32) + nI (who i) = nI (16 + who i) := by rw [li16, nI_add]
  have et : gA σ 9 0 0 (nI (16 + who i)) = tr (who i) 2 := by rw [gA_nI (by omega)]; exact He.2.2.1 _ 2 hwi (by omega)
  rw [a16, et]
  refine wpO_t (inb_nI (show 2 * i < 14 by omega) (by omega)) ?_
  by_cases c : hL s i = 0
  · have eW : hWrestR tr who i d s = s := by unfold hWrestR; exact if_neg (fun z => z.1 c)
    rw [eW]
    exact wpO_f (by rw [c]; decide) (wpO_some.mpr ⟨H, FrL.rf⟩)
  · refine wpO_t (by rw [li0]; exact nI_lt (by omega) (by omega)) (wpO_t (inb_nI (show i < 8 by omega) (by omega)) (wpO_t (inb_nI (show 16 + who i < 40 by omega) (by omega)) ?_))
    refine wpO_if (fun c2 => ?_) (fun c2 => ?_)
    · have eW : hWrestR tr who i d s = (uN (hL s) i (hL s i - 1), uN (hR s) i (hR s i + 1), uN (hF s) i 1, uN (hO s) i 1, hz s, hc s + 1, 1) := by unfold hWrestR; exact if_pos ⟨c, c2⟩
      rw [eW]
      have e3 : nI (hL s i) - 1 = nI (hL s i - 1) := by rw [li1, nI_sub (by omega)]
      rw [e3]
      have H1 := H.sL hk (v := hL s i - 1) rfl rfl i7 (x := nI (hL s i - 1)) (j := 2 * i)
      refine wpO_lt (wpO_b (takesR hk H1 i7) (fun _ σ2 q => ?_))
      refine wpO_t (inb_nI (show i < 7 by omega) (by omega)) (wpO_lt (wpO_lt (wpO_lt (wpO_some.mpr ⟨?_, ?_⟩))))
      · have H3 := (q.1.sFi hk li1 i7).sLo hk li1 (show i < 8 by omega)
        exact H3.sC (congrArg (· + 1) H3.2.2.2.2.2.2.1)
      · exact ((FrL_sA (by simp)).tr q.2).tr (((FrL_sA (by simp)).tr (FrL_sA (by simp))).tr (FrL_sF (by simp)))
    · have eW : hWrestR tr who i d s = s := by unfold hWrestR; exact if_neg (fun z => c2 z.2)
      rw [eW]
      exact wpO_some.mpr ⟨H, FrL.rf⟩
/-- both are there -/
theorem pushesM {i : Nat} (hd : DrawIs nx cg) (hk : kIn k) (He : EnvM σ n tr way) (H : VM k σ who s) (ok : OKH wd s) (hw : ∀ j, j < n → who j < n) (hi : i + 1 < n) (hh : h < 24) (hS : StrM σ Str)
    (hl : way (who i) h = 0 ∨ way (who i) h = 1) (hr : way (who (i + 1)) h = 0 ∨ way (who (i + 1)) h = 1) :
    wpO (g_X9_pushes k (nI i) (nI (wd i)) (nI h) σ) (fun _ σ1 => VM k σ1 who (hPush nx cg tr way Str n wd who h i s) ∧ FrL (SM k) σ σ1) := by
  have hb := He.2.1
  have i7 : i < 7 := by omega
  unfold g_X9_pushes
  obtain ⟨z1, hz1⟩ : ∃ z, z = nx (hz s) := ⟨_, rfl⟩
  obtain ⟨z2, hz2⟩ : ∃ z, z = nx z1 := ⟨_, rfl⟩
  refine wpO_b (coughM hd H hz1) (fun r1 σ2 q1 => ?_)
  obtain ⟨rfl, H2, f2⟩ := q1
  refine wpO_b (strengthM (He.sm hk f2) H2 hk hw (Or.inl rfl) hi hh (hS.sm hk f2) hl) (fun r3 σ4 q2 => ?_)
  obtain ⟨e3, f4⟩ := q2
  have H4 := H2.fr f4 (SN_V hk)
  have f4' := f2.tr (f4.mono SN_SM)
  refine wpO_b (coughM hd H4 hz2) (fun r5 σ6 q3 => ?_)
  obtain ⟨rfl, H6, f6⟩ := q3
  have f6' := f4'.tr f6
  have ei : nI i + 1 = nI (i + 1) := nI_1 i
  rw [ei]
  refine wpO_b (strengthM (He.sm hk f6') H6 hk hw (Or.inr rfl) hi hh (hS.sm hk f6') hr) (fun r7 σ8 q4 => ?_)
  obtain ⟨e7, f8⟩ := q4
  have H8 := H6.fr f8 (SN_V hk)
  have f8' := f6'.tr (f8.mono SN_SM)
  have He8 := He.sm hk f8'
  have ok8 : OKH wd (hZ z2 s) := ok.z
  unfold hPush
  dsimp only
  rw [← hz1, ← hz2]
  have E3 : sgt tr way Str n who (hL s) (hR s) i i (cg z1) h = r3 := e3.symm
  have E7 : sgt tr way Str n who (hL s) (hR s) (i + 1) i (cg z2) h = r7 := e7.symm
  simp only [E3, E7]
  change VM k σ8 who (hZ z2 s) at H8
  have hir : ∀ x : Int32, ¬ x < x := fun x a => by rw [Int32.lt_iff_toInt_lt] at a; omega
  have hsym : ∀ x y : Int32, x < y → ¬ y < x := fun x y a b => by rw [Int32.lt_iff_toInt_lt] at a b; omega
  have o1 := ok.1 i i7
  have o2 := ok.2 i i7
  have eL : gA σ8 9 0 k (nI (2 * i)) = nI (hL s i) := by rw [gA_nI (by omega)]; exact H8.2.1 i i7
  have eR : gA σ8 9 0 k (nI (2 * i + 1)) = nI (hR s i) := by rw [gA_nI (by omega)]; exact H8.2.2.1 i i7
  by_cases c : r7 < r3
  · refine wpO_f (fun z => hir r7 (by rw [z] at c; exact c)) (wpO_t c ?_)
    rw [if_pos c]
    unfold g_X9_pushes_52
    have e0 : nI i + 1 - 0 = nI (i + 1) := by rw [nI_1, li0, nI_sub (by omega)]; rfl
    have e00 : 2 * nI i + 0 = nI (2 * i) := by rw [e2i, li0, nI_add, Nat.add_zero]
    rw [e0, e00, e2i, e2i1, eL, eR, nI_add]
    refine wpO_lt (wpO_t (inb_nI (show 2 * i < 14 by omega) (by omega)) (wpO_t (inb_nI (show 2 * i + 1 < 14 by omega) (by omega)) ?_))
    by_cases cf : hL s i + hR s i < wd i
    · rw [if_pos cf]
      have et : hTakeL wd i (hZ z2 s) = (uN (hL s) i (hL s i + 1), hR s, hF s, hO s, z2, hc s, 1) := if_pos cf
      rw [et]
      exact wpO_t (nI_lt cf (by omega)) (nrm (wpO_mono (takesL hk H8 i7) (fun _ _ q => ⟨q.1, f8'.tr q.2⟩)))
    · rw [if_neg cf]
      refine wpO_f (nI_nlt (by omega) (by omega)) (wpO_t c ?_)
      exact wpO_mono (push111L hk He8 H8 ok8 hw hi) (fun _ _ q => ⟨q.1, f8'.tr q.2⟩)
  · simp only [c, if_false]
    by_cases c2 : r3 < r7
    · simp only [c2, if_true]
      refine wpO_f (fun z => hir r7 (by rw [z] at c2; exact c2)) ?_
      unfold g_X9_pushes_52
      have e0 : nI i + 1 - 1 = nI i := by rw [nI_1, li1, nI_sub (by omega)]; rfl
      rw [e0, e2i, e2i1, eL, eR, nI_add]
      refine wpO_lt (wpO_t (inb_nI (show 2 * i < 14 by omega) (by omega)) (wpO_t (inb_nI (show 2 * i + 1 < 14 by omega) (by omega)) ?_))
      by_cases cf : hL s i + hR s i < wd i
      · rw [if_pos cf]
        have et : hTakeR wd i (hZ z2 s) = (hL s, uN (hR s) i (hR s i + 1), hF s, hO s, z2, hc s, 1) := if_pos cf
        rw [et]
        exact wpO_t (nI_lt cf (by omega)) (nrm (wpO_mono (takesR hk H8 i7) (fun _ _ q => ⟨q.1, f8'.tr q.2⟩)))
      · rw [if_neg cf]
        refine wpO_f (nI_nlt (by omega) (by omega)) (wpO_f c ?_)
        exact wpO_mono (push111R hk He8 H8 ok8 hw hi) (fun _ _ q => ⟨q.1, f8'.tr q.2⟩)
    · simp only [c2, if_false]
      have e : r3 = r7 := by
        rw [Int32.lt_iff_toInt_lt] at c c2
        exact Int32.toInt_inj.mp (by omega)
      exact wpO_t e (wpO_some.mpr ⟨H8, f8'⟩)
end HM3
