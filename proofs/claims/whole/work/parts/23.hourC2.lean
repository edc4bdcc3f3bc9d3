section HC2
variable {o : Nat} {σ : AS} {wd who : Nat → Nat} {h n : Nat} {s : HS} {tr way : Nat → Nat → Int32} {Str : (Nat → Int32) → Int32}
theorem wrestCL {i : Nat} {d : Int32} (He : EnvC σ n tr way) (H : VC o σ wd who h s) (hk : OKH wd s) (hw : ∀ j, j < n → who j < n) (hi : i + 1 < n) : wpO (g_X1_wrest o 3 4 (nI i) (nI (i + 1)) d σ) (fun _ σ1 => VC o σ1 wd who h (hWrestL tr who i d s) ∧ FrL (SC o) σ σ1) := by
  obtain ⟨hn, hb, htr, hwy⟩ := He
  have hk1 := hk.1 i (by omega)
  have hk2 := hk.2 i (by omega)
  have hwi := hw (i + 1) hi
  unfold g_X1_wrest hWrestL
  refine wpO_t (inb_nI (show i < 7 by omega) (by omega)) ?_
  have eR : gA σ 1 o 4 (nI i) = nI (hR s i) := by simp (disch := omega) only [li0, li1, li2, li3, li4, li5, li6, li7, li8, li9, li10, li14, li16, li20, li23, li24, li30, li32, li37, li38, li40, li41, li42, li43, li45, li47, li50, li53, li57, li58, li59, li60, li61, li62, li63, li70, li80, li81, li99, li100, li110, li120, li123, li124, li126, li128, li168, li192, li255, li336, li360, li400, li999, nI_add, pk_mul, nI_clamp, nI_ltI, nI_leI, nI_eq, pk_sub, bnd_some, if_pos, if_neg, and_self, and_true, true_and, false_and, and_false, not_false_eq_true, not_true_eq_false, Nat.zero_le, Nat.not_lt_zero, if_false, if_true, gA, gF, gL, inb, lt, nI_inj0, Nat.reduceEqDiff, ↓reduceIte, eq_self, H.2.2.2.1 i (by omega)]
  have eL : gA σ 1 o 3 (nI i) = nI (hL s i) := by simp (disch := omega) only [li0, li1, li2, li3, li4, li5, li6, li7, li8, li9, li10, li14, li16, li20, li23, li24, li30, li32, li37, li38, li40, li41, li42, li43, li45, li47, li50, li53, li57, li58, li59, li60, li61, li62, li63, li70, li80, li81, li99, li100, li110, li120, li123, li124, li126, li128, li168, li192, li255, li336, li360, li400, li999, nI_add, pk_mul, nI_clamp, nI_ltI, nI_leI, nI_eq, pk_sub, bnd_some, if_pos, if_neg, and_self, and_true, true_and, false_and, and_false, not_false_eq_true, not_true_eq_false, Nat.zero_le, Nat.not_lt_zero, if_false, if_true, gA, gF, gL, inb, lt, nI_inj0, Nat.reduceEqDiff, ↓reduceIte, eq_self, H.2.2.1 i (by omega)]
  have ew : gA σ 1 o 8 (nI (i + 1)) = nI (who (i + 1)) := by simp (disch := omega) only [li0, li1, li2, li3, li4, li5, li6, li7, li8, li9, li10, li14, li16, li20, li23, li24, li30, li32, li37, li38, li40, li41, li42, li43, li45, li47, li50, li53, li57, li58, li59, li60, li61, li62, li63, li70, li80, li81, li99, li100, li110, li120, li123, li124, li126, li128, li168, li192, li255, li336, li360, li400, li999, nI_add, pk_mul, nI_clamp, nI_ltI, nI_leI, nI_eq, pk_sub, bnd_some, if_pos, if_neg, and_self, and_true, true_and, false_and, and_false, not_false_eq_true, not_true_eq_false, Nat.zero_le, Nat.not_lt_zero, if_false, if_true, gA, gF, gL, inb, lt, nI_inj0, Nat.reduceEqDiff, ↓reduceIte, eq_self, H.1 (i + 1) (by omega)]
  rw [eR]
  by_cases c : hR s i = 0
  · refine wpO_t ((nI_eq0 (by omega)).mpr c) ?_
    rw [if_neg (fun z => z.1 c)]
    exact wpO_some.mpr ⟨H, FrL.rf⟩
  · refine wpO_f (fun z => c ((nI_eq0 (by omega)).mp z)) (wpO_t (inb_nI (show i + 1 < 8 by omega) (by omega)) ?_)
    rw [ew]
    refine wpO_e (trait_eq (w := 2) hn hb hwi (by omega)) ?_
    rw [htr _ 2 hwi (by omega)]
    refine wpO_if (fun c2 => ?_) (fun c2 => ?_)
    · rw [if_pos ⟨c, c2⟩]
      have e1 : gA σ 1 o 4 (nI i) - 1 = nI (hR s i - 1) := by rw [eR]; simp (disch := omega) only [li0, li1, li2, li3, li4, li5, li6, li7, li8, li9, li10, li14, li16, li20, li23, li24, li30, li32, li37, li38, li40, li41, li42, li43, li45, li47, li50, li53, li57, li58, li59, li60, li61, li62, li63, li70, li80, li81, li99, li100, li110, li120, li123, li124, li126, li128, li168, li192, li255, li336, li360, li400, li999, nI_add, pk_mul, nI_clamp, nI_ltI, nI_leI, nI_eq, pk_sub, bnd_some, if_pos, if_neg, and_self, and_true, true_and, false_and, and_false, not_false_eq_true, not_true_eq_false, Nat.zero_le, Nat.not_lt_zero, if_false, if_true, gA, gF, gL, inb, lt, nI_inj0, Nat.reduceEqDiff, ↓reduceIte, eq_self]
      have H1 := H.sR e1 (show i < 7 by omega)
      have H2 := H1.sL (v := hL s i + 1) (x := gA (sA σ 1 o 4 (nI i) (gA σ 1 o 4 (nI i) - 1)) 1 o 3 (nI i) + 1) (by rw [gA_nI (by omega), H1.2.2.1 i (by omega)]; simp (disch := omega) only [li0, li1, li2, li3, li4, li5, li6, li7, li8, li9, li10, li14, li16, li20, li23, li24, li30, li32, li37, li38, li40, li41, li42, li43, li45, li47, li50, li53, li57, li58, li59, li60, li61, li62, li63, li70, li80, li81, li99, li100, li110, li120, li123, li124, li126, li128, li168, li192, li255, li336, li360, li400, li999, nI_add, pk_mul, nI_clamp, nI_ltI, nI_leI, nI_eq, pk_sub, bnd_some, if_pos, if_neg, and_self, and_true, true_and, false_and, and_false, not_false_eq_true, not_true_eq_false, Nat.zero_le, Nat.not_lt_zero, if_false, if_true, gA, gF, gL, inb, lt, nI_inj0, Nat.reduceEqDiff, ↓reduceIte, eq_self]) (show i < 7 by omega)
      have H3 := H2.sLo (li1) (show i + 1 < 8 by omega)
      have H4 := H3.sFi (li1) (show i < 7 by omega)
      have H5 := (H4.sC (congrArg (· + 1) H4.2.2.2.2.2.2.2.1)).sM li1
      exact wpO_some.mpr ⟨H5, ((((((FrL_sA (by simp)).tr (FrL_sA (by simp))).tr (FrL_sA (by simp))).tr (FrL_sA (by simp))).tr (FrL_sF (by simp))).tr (FrL_sF (by simp)))⟩
    · rw [if_neg (fun z => c2 z.2)]
      exact wpO_some.mpr ⟨H, FrL.rf⟩
theorem wrestCR {i : Nat} {d : Int32} (He : EnvC σ n tr way) (H : VC o σ wd who h s) (hk : OKH wd s) (hw : ∀ j, j < n → who j < n) (hi : i + 1 < n) : wpO (g_X1_wrest o 4 3 (nI i) (nI i) d σ) (fun _ σ1 => VC o σ1 wd who h (hWrestR tr who i d s) ∧ FrL (SC o) σ σ1) := by
  obtain ⟨hn, hb, htr, hwy⟩ := He
  have hk1 := hk.1 i (by omega)
  have hk2 := hk.2 i (by omega)
  have hwi := hw i (by omega)
  unfold g_X1_wrest hWrestR
  refine wpO_t (inb_nI (show i < 7 by omega) (by omega)) ?_
  have eR : gA σ 1 o 4 (nI i) = nI (hR s i) := by simp (disch := omega) only [li0, li1, li2, li3, li4, li5, li6, li7, li8, li9, li10, li14, li16, li20, li23, li24, li30, li32, li37, li38, li40, li41, li42, li43, li45, li47, li50, li53, li57, li58, li59, li60, li61, li62, li63, li70, li80, li81, li99, li100, li110, li120, li123, li124, li126, li128, li168, li192, li255, li336, li360, li400, li999, nI_add, pk_mul, nI_clamp, nI_ltI, nI_leI, nI_eq, pk_sub, bnd_some, if_pos, if_neg, and_self, and_true, true_and, false_and, and_false, not_false_eq_true, not_true_eq_false, Nat.zero_le, Nat.not_lt_zero, if_false, if_true, gA, gF, gL, inb, lt, nI_inj0, Nat.reduceEqDiff, ↓reduceIte, eq_self, H.2.2.2.1 i (by omega)]
  have eL : gA σ 1 o 3 (nI i) = nI (hL s i) := by simp (disch := omega) only [li0, li1, li2, li3, li4, li5, li6, li7, li8, li9, li10, li14, li16, li20, li23, li24, li30, li32, li37, li38, li40, li41, li42, li43, li45, li47, li50, li53, li57, li58, li59, li60, li61, li62, li63, li70, li80, li81, li99, li100, li110, li120, li123, li124, li126, li128, li168, li192, li255, li336, li360, li400, li999, nI_add, pk_mul, nI_clamp, nI_ltI, nI_leI, nI_eq, pk_sub, bnd_some, if_pos, if_neg, and_self, and_true, true_and, false_and, and_false, not_false_eq_true, not_true_eq_false, Nat.zero_le, Nat.not_lt_zero, if_false, if_true, gA, gF, gL, inb, lt, nI_inj0, Nat.reduceEqDiff, ↓reduceIte, eq_self, H.2.2.1 i (by omega)]
  have ew : gA σ 1 o 8 (nI i) = nI (who i) := by simp (disch := omega) only [li0, li1, li2, li3, li4, li5, li6, li7, li8, li9, li10, li14, li16, li20, li23, li24, li30, li32, li37, li38, li40, li41, li42, li43, li45, li47, li50, li53, li57, li58, li59, li60, li61, li62, li63, li70, li80, li81, li99, li100, li110, li120, li123, li124, li126, li128, li168, li192, li255, li336, li360, li400, li999, nI_add, pk_mul, nI_clamp, nI_ltI, nI_leI, nI_eq, pk_sub, bnd_some, if_pos, if_neg, and_self, and_true, true_and, false_and, and_false, not_false_eq_true, not_true_eq_false, Nat.zero_le, Nat.not_lt_zero, if_false, if_true, gA, gF, gL, inb, lt, nI_inj0, Nat.reduceEqDiff, ↓reduceIte, eq_self, H.1 i (by omega)]
  rw [eL]
  by_cases c : hL s i = 0
  · refine wpO_t ((nI_eq0 (by omega)).mpr c) ?_
    rw [if_neg (fun z => z.1 c)]
    exact wpO_some.mpr ⟨H, FrL.rf⟩
  · refine wpO_f (fun z => c ((nI_eq0 (by omega)).mp z)) (wpO_t (inb_nI (show i < 8 by omega) (by omega)) ?_)
    rw [ew]
    refine wpO_e (trait_eq (w := 2) hn hb hwi (by omega)) ?_
    rw [htr _ 2 hwi (by omega)]
    refine wpO_if (fun c2 => ?_) (fun c2 => ?_)
    · rw [if_pos ⟨c, c2⟩]
      have e1 : gA σ 1 o 3 (nI i) - 1 = nI (hL s i - 1) := by rw [eL]; simp (disch := omega) only [li0, li1, li2, li3, li4, li5, li6, li7, li8, li9, li10, li14, li16, li20, li23, li24, li30, li32, li37, li38, li40, li41, li42, li43, li45, li47, li50, li53, li57, li58, li59, li60, li61, li62, li63, li70, li80, li81, li99, li100, li110, li120, li123, li124, li126, li128, li168, li192, li255, li336, li360, li400, li999, nI_add, pk_mul, nI_clamp, nI_ltI, nI_leI, nI_eq, pk_sub, bnd_some, if_pos, if_neg, and_self, and_true, true_and, false_and, and_false, not_false_eq_true, not_true_eq_false, Nat.zero_le, Nat.not_lt_zero, if_false, if_true, gA, gF, gL, inb, lt, nI_inj0, Nat.reduceEqDiff, ↓reduceIte, eq_self]
      have H1 := H.sL e1 (show i < 7 by omega)
      have H2 := H1.sR (v := hR s i + 1) (x := gA (sA σ 1 o 3 (nI i) (gA σ 1 o 3 (nI i) - 1)) 1 o 4 (nI i) + 1) (by rw [gA_nI (by omega), H1.2.2.2.1 i (by omega)]; simp (disch := omega) only [li0, li1, li2, li3, li4, li5, li6, li7, li8, li9, li10, li14, li16, li20, li23, li24, li30, li32, li37, li38, li40, li41, li42, li43, li45, li47, li50, li53, li57, li58, li59, li60, li61, li62, li63, li70, li80, li81, li99, li100, li110, li120, li123, li124, li126, li128, li168, li192, li255, li336, li360, li400, li999, nI_add, pk_mul, nI_clamp, nI_ltI, nI_leI, nI_eq, pk_sub, bnd_some, if_pos, if_neg, and_self, and_true, true_and, false_and, and_false, not_false_eq_true, not_true_eq_false, Nat.zero_le, Nat.not_lt_zero, if_false, if_true, gA, gF, gL, inb, lt, nI_inj0, Nat.reduceEqDiff, ↓reduceIte, eq_self]) (show i < 7 by omega)
      have H3 := H2.sLo (li1) (show i < 8 by omega)
      have H4 := H3.sFi (li1) (show i < 7 by omega)
      have H5 := (H4.sC (congrArg (· + 1) H4.2.2.2.2.2.2.2.1)).sM li1
      exact wpO_some.mpr ⟨H5, ((((((FrL_sA (by simp)).tr (FrL_sA (by simp))).tr (FrL_sA (by simp))).tr (FrL_sA (by simp))).tr (FrL_sF (by simp))).tr (FrL_sF (by simp)))⟩
    · rw [if_neg (fun z => c2 z.2)]
      exact wpO_some.mpr ⟨H, FrL.rf⟩
theorem coughC {nx cg : Int32 → Int32} {z1 : Int32} (hd : DrawIs nx cg) (H : VC o σ wd who h s) (e1 : z1 = nx (hz s)) : wpO (g_X1_nextCough o σ) (fun r σ1 => r = cg z1 ∧ VC o σ1 wd who h (hZ z1 s) ∧ FrL (SC o) σ σ1) := by
  unfold g_X1_nextCough
  rw [hd.1, show gF σ 1 o 13 = hz s from H.2.2.2.2.2.2.1, ← e1]
  have H1 := H.sZ z1
  refine wpO_some.mpr ⟨?_, H1, FrL_sF (by simp)⟩
  rw [hd.2, show gF (sF σ 1 o 13 z1) 1 o 13 = z1 from H1.2.2.2.2.2.2.1]
theorem nv_at {f : Nat → Int32} {a0 a1 a2 a3 a4 a5 a6 a7 a8 : Int32} (h0 : f 0 = a0) (h1 : f 1 = a1) (h2 : f 2 = a2) (h3 : f 3 = a3) (h4 : f 4 = a4) (h5 : f 5 = a5) (h6 : f 6 = a6) (h7 : f 7 = a7) (h8 : f 8 = a8) : ∀ k, k < 9 → f k = nv a0 a1 a2 a3 a4 a5 a6 a7 a8 k := by
  intro k hk
  rcases (show k = 0 ∨ k = 1 ∨ k = 2 ∨ k = 3 ∨ k = 4 ∨ k = 5 ∨ k = 6 ∨ k = 7 ∨ k = 8 by omega) with e | e | e | e | e | e | e | e | e <;> subst e <;> assumption
abbrev SK : List (Nat × Nat × Nat) := [(3, 0, 2), (3, 0, 3), (3, 0, 5)]
theorem str243C {fl c : Int32} {k0 k1 k2 k3 k4 k5 : Int32} (hn : σ.1 1 o 11 = nI h) (ht : 0 < σ.1 3 0 4) (hS : StrC σ Str) (e0 : σ.2.1 3 0 3 0 = k0) (e1 : σ.2.1 3 0 3 1 = k1) (e2 : σ.2.1 3 0 3 2 = k2) (e3 : σ.2.1 3 0 3 3 = k3) (e4 : σ.2.1 3 0 3 4 = k4) (e5 : σ.2.1 3 0 3 5 = k5) :
    wpO (g_X1_strengthAt_243 o c fl 6 σ) (fun r σ1 => r = Str (nv k0 k1 k2 k3 k4 k5 fl c (nI h)) ∧ FrL SK σ σ1) := by
  unfold g_X1_strengthAt_243
  refine wpO_t (by decide) ?_
  rcases hS with ⟨z, -⟩ | ⟨-, hS⟩
  · exact absurd ht z
  refine wpO_b (hS _ (nv k0 k1 k2 k3 k4 k5 fl c (nI h)) ?_ ?_ ?_ ?_) (fun r σ1 q => wpO_some.mpr ⟨q.1, ?_⟩)
  · rfl
  · simp [sAf_a]
  · simp [sAf_a]
  · apply nv_at <;> simp [sAf_a, upd_at, li0, li6, li7, li8, nI_clamp, e0, e1, e2, e3, e4, e5, hn, sAf_f, gF]
  · exact (((FrL_sA (by simp)).tr (FrL_sA (by simp))).tr (FrL_sA (by simp))).tr (q.2.mono (by simp))
end HC2
