/-! an hour, rest by rest, as both sides have it -/
/-- the draw's next number and its cough: kept as variables, for a multiplication by a large number must not be looked into -/
def DrawIs (nx cg : Int32 → Int32) : Prop := (∀ z : Int32, z * 1103515245 + 12345 = nx z) ∧ ∀ z : Int32, rmi (ush z 8) 100 = cg z
def hTakeL (wd : Nat → Nat) (i : Nat) (s : HS) : HS := if hL s i + hR s i < wd i then (uN (hL s) i (hL s i + 1), hR s, hF s, hO s, hz s, hc s, 1) else s
def hTakeR (wd : Nat → Nat) (i : Nat) (s : HS) : HS := if hL s i + hR s i < wd i then (hL s, uN (hR s) i (hR s i + 1), hF s, hO s, hz s, hc s, 1) else s
def hLeaveL (i : Nat) (s : HS) : HS := if hL s i = 0 then s else (uN (hL s) i 0, hR s, hF s, hO s, hz s, hc s, 1)
def hLeaveR (i : Nat) (s : HS) : HS := if hR s i = 0 then s else (hL s, uN (hR s) i 0, hF s, hO s, hz s, hc s, 1)
def hWrestL (tr : Nat → Nat → Int32) (who : Nat → Nat) (i : Nat) (d : Int32) (s : HS) : HS :=
  if hR s i ≠ 0 ∧ tr (who (i + 1)) 2 < d then (uN (hL s) i (hL s i + 1), uN (hR s) i (hR s i - 1), uN (hF s) i 1, uN (hO s) (i + 1) 1, hz s, hc s + 1, 1) else s
def hWrestR (tr : Nat → Nat → Int32) (who : Nat → Nat) (i : Nat) (d : Int32) (s : HS) : HS :=
  if hL s i ≠ 0 ∧ tr (who i) 2 < d then (uN (hL s) i (hL s i - 1), uN (hR s) i (hR s i + 1), uN (hF s) i 1, uN (hO s) i 1, hz s, hc s + 1, 1) else s
def hZ (z : Int32) (s : HS) : HS := (hL s, hR s, hF s, hO s, z, hc s, hm s)
def hPush (nx cg : Int32 → Int32) (tr way : Nat → Nat → Int32) (Str : (Nat → Int32) → Int32) (n : Nat) (wd who : Nat → Nat) (h i : Nat) (s : HS) : HS :=
  let z1 := nx (hz s)
  let z2 := nx z1
  let a := sgt tr way Str n who (hL s) (hR s) i i (cg z1) h
  let b := sgt tr way Str n who (hL s) (hR s) (i + 1) i (cg z2) h
  if b < a then (if hL s i + hR s i < wd i then hTakeL wd i (hZ z2 s) else hWrestL tr who i (a - b) (hZ z2 s))
  else if a < b then (if hL s i + hR s i < wd i then hTakeR wd i (hZ z2 s) else hWrestR tr who i (b - a) (hZ z2 s))
  else hZ z2 s
def hRest (nx cg : Int32 → Int32) (tr way : Nat → Nat → Int32) (Str : (Nat → Int32) → Int32) (n : Nat) (wd who : Nat → Nat) (h i : Nat) (s : HS) : HS :=
  let a := thr (way (who i) h)
  let b := thr (way (who (i + 1)) h)
  let s1 := if a then s else hLeaveL i s
  let s2 := if b then s1 else hLeaveR i s1
  if a then (if b then hPush nx cg tr way Str n wd who h i s2 else hTakeL wd i s2) else (if b then hTakeR wd i s2 else s2)
/-! the class's hour -/
abbrev SC (o : Nat) : List (Nat × Nat × Nat) := [(1, o, 3), (1, o, 4), (1, o, 5), (1, o, 9), (1, o, 10), (1, o, 12), (1, o, 13), (3, 0, 2), (3, 0, 3), (3, 0, 5)]
theorem gA_nI {σ : AS} {c o k i : Nat} (h : i < 2 ^ 31) : gA σ c o k (nI i) = σ.2.1 c o k i := by simp only [gA, nI_clamp h]
section HC
variable {o : Nat} {σ : AS} {wd who : Nat → Nat} {h : Nat} {s : HS}
theorem VC.sL (H : VC o σ wd who h s) {i v : Nat} {x : Int32} (hx : x = nI v) (hi : i < 7) : VC o (sA σ 1 o 3 (nI i) x) wd who h (uN (hL s) i v, hR s, hF s, hO s, hz s, hc s, hm s) := by
  obtain ⟨h1, h2, h3, h4, h5, h6, h7, h8, h9, h10⟩ := H
  have e : (nI i).toNatClampNeg = i := nI_clamp (by omega)
  subst hx
  refine ⟨fun j hj => ?_, fun j hj => ?_, fun j hj => ?_, fun j hj => ?_, fun j hj => ?_, fun j hj => ?_, h7, h8, h9, h10⟩
  · simpa [sAf_a] using h1 j hj
  · simpa [sAf_a] using h2 j hj
  · by_cases q : j = i <;> simp [sAf_a, upd_at, uN, hL, hR, hF, hO, e, q, h3 j hj]
  · simpa [sAf_a] using h4 j hj
  · simpa [sAf_a] using h5 j hj
  · simpa [sAf_a] using h6 j hj
theorem VC.sR (H : VC o σ wd who h s) {i v : Nat} {x : Int32} (hx : x = nI v) (hi : i < 7) : VC o (sA σ 1 o 4 (nI i) x) wd who h (hL s, uN (hR s) i v, hF s, hO s, hz s, hc s, hm s) := by
  obtain ⟨h1, h2, h3, h4, h5, h6, h7, h8, h9, h10⟩ := H
  have e : (nI i).toNatClampNeg = i := nI_clamp (by omega)
  subst hx
  refine ⟨fun j hj => ?_, fun j hj => ?_, fun j hj => ?_, fun j hj => ?_, fun j hj => ?_, fun j hj => ?_, h7, h8, h9, h10⟩
  · simpa [sAf_a] using h1 j hj
  · simpa [sAf_a] using h2 j hj
  · simpa [sAf_a] using h3 j hj
  · by_cases q : j = i <;> simp [sAf_a, upd_at, uN, hL, hR, hF, hO, e, q, h4 j hj]
  · simpa [sAf_a] using h5 j hj
  · simpa [sAf_a] using h6 j hj
theorem VC.sFi (H : VC o σ wd who h s) {i v : Nat} {x : Int32} (hx : x = nI v) (hi : i < 7) : VC o (sA σ 1 o 5 (nI i) x) wd who h (hL s, hR s, uN (hF s) i v, hO s, hz s, hc s, hm s) := by
  obtain ⟨h1, h2, h3, h4, h5, h6, h7, h8, h9, h10⟩ := H
  have e : (nI i).toNatClampNeg = i := nI_clamp (by omega)
  subst hx
  refine ⟨fun j hj => ?_, fun j hj => ?_, fun j hj => ?_, fun j hj => ?_, fun j hj => ?_, fun j hj => ?_, h7, h8, h9, h10⟩
  · simpa [sAf_a] using h1 j hj
  · simpa [sAf_a] using h2 j hj
  · simpa [sAf_a] using h3 j hj
  · simpa [sAf_a] using h4 j hj
  · by_cases q : j = i <;> simp [sAf_a, upd_at, uN, hL, hR, hF, hO, e, q, h5 j hj]
  · simpa [sAf_a] using h6 j hj
theorem VC.sLo (H : VC o σ wd who h s) {i v : Nat} {x : Int32} (hx : x = nI v) (hi : i < 8) : VC o (sA σ 1 o 9 (nI i) x) wd who h (hL s, hR s, hF s, uN (hO s) i v, hz s, hc s, hm s) := by
  obtain ⟨h1, h2, h3, h4, h5, h6, h7, h8, h9, h10⟩ := H
  have e : (nI i).toNatClampNeg = i := nI_clamp (by omega)
  subst hx
  refine ⟨fun j hj => ?_, fun j hj => ?_, fun j hj => ?_, fun j hj => ?_, fun j hj => ?_, fun j hj => ?_, h7, h8, h9, h10⟩
  · simpa [sAf_a] using h1 j hj
  · simpa [sAf_a] using h2 j hj
  · simpa [sAf_a] using h3 j hj
  · simpa [sAf_a] using h4 j hj
  · simpa [sAf_a] using h5 j hj
  · by_cases q : j = i <;> simp [sAf_a, upd_at, uN, hL, hR, hF, hO, e, q, h6 j hj]
theorem VC.sM (H : VC o σ wd who h s) {v : Nat} {x : Int32} (hx : x = nI v) : VC o (sF σ 1 o 10 x) wd who h (hL s, hR s, hF s, hO s, hz s, hc s, v) := by
  obtain ⟨h1, h2, h3, h4, h5, h6, h7, h8, h9, h10⟩ := H
  subst hx
  exact ⟨h1, h2, h3, h4, h5, h6, by simpa [sF_f] using h7, by simpa [sF_f] using h8, by simp [sF_f], by simpa [sF_f] using h10⟩
theorem VC.sC (H : VC o σ wd who h s) {x y : Int32} (hx : x = y) : VC o (sF σ 1 o 12 x) wd who h (hL s, hR s, hF s, hO s, hz s, y, hm s) := by
  obtain ⟨h1, h2, h3, h4, h5, h6, h7, h8, h9, h10⟩ := H
  subst hx
  exact ⟨h1, h2, h3, h4, h5, h6, by simpa [sF_f] using h7, by simp [sF_f], by simpa [sF_f] using h9, by simpa [sF_f] using h10⟩
theorem VC.sZ (H : VC o σ wd who h s) (x : Int32) : VC o (sF σ 1 o 13 x) wd who h (hL s, hR s, hF s, hO s, x, hc s, hm s) := by
  obtain ⟨h1, h2, h3, h4, h5, h6, h7, h8, h9, h10⟩ := H
  exact ⟨h1, h2, h3, h4, h5, h6, by simp [sF_f], by simpa [sF_f] using h8, by simpa [sF_f] using h9, by simpa [sF_f] using h10⟩
theorem VC.fr {S : List (Nat × Nat × Nat)} {σ1 : AS} (H : VC o σ wd who h s) (f : FrL S σ σ1) (hS : ∀ k ∈ [2, 3, 4, 5, 8, 9, 10, 11, 12, 13], (1, o, k) ∉ S) : VC o σ1 wd who h s := by
  obtain ⟨h1, h2, h3, h4, h5, h6, h7, h8, h9, h10⟩ := H
  refine ⟨?_, ?_, ?_, ?_, ?_, ?_, (f.f _ _ _ (hS 13 (by simp))).trans h7, (f.f _ _ _ (hS 12 (by simp))).trans h8, (f.f _ _ _ (hS 10 (by simp))).trans h9, (f.f _ _ _ (hS 11 (by simp))).trans h10⟩
  · rw [f.a _ _ _ (hS 8 (by simp))]; exact h1
  · rw [f.a _ _ _ (hS 2 (by simp))]; exact h2
  · rw [f.a _ _ _ (hS 3 (by simp))]; exact h3
  · rw [f.a _ _ _ (hS 4 (by simp))]; exact h4
  · rw [f.a _ _ _ (hS 5 (by simp))]; exact h5
  · rw [f.a _ _ _ (hS 9 (by simp))]; exact h6
theorem freeC_eq {i : Nat} (H : VC o σ wd who h s) (hk : OKH wd s) (hi : i < 7) : g_X1_free o (nI i) σ = some (nI (wd i - hL s i - hR s i), σ) := by
  obtain ⟨h1, h2, h3, h4, h5, h6, h7, h8, h9, h10⟩ := H
  have hk1 := hk.1 i hi
  have hk2 := hk.2 i hi
  unfold g_X1_free
  simp (disch := omega) only [li0, li1, li2, li3, li4, li5, li6, li7, li8, li9, li10, li14, li16, li20, li23, li24, li30, li32, li37, li38, li40, li41, li42, li43, li45, li47, li50, li53, li57, li58, li59, li60, li61, li62, li63, li70, li80, li81, li99, li100, li110, li120, li123, li124, li126, li128, li168, li192, li255, li336, li360, li400, li999, nI_add, pk_mul, nI_clamp, nI_ltI, nI_leI, nI_eq, pk_sub, bnd_some, if_pos, if_neg, and_self, and_true, true_and, false_and, and_false, not_false_eq_true, not_true_eq_false, Nat.zero_le, Nat.not_lt_zero, if_false, if_true, gA, gF, gL, inb, lt, nI_inj0, Nat.reduceEqDiff, ↓reduceIte, eq_self, h2 i hi, h3 i hi, h4 i hi]
theorem takeFreeL {i : Nat} (H : VC o σ wd who h s) (hk : OKH wd s) (hi : i < 7) : wpO (g_X1_takeFree o 3 (nI i) σ) (fun r σ1 => r = (if hL s i + hR s i < wd i then 1 else 0) ∧ VC o σ1 wd who h (hTakeL wd i s) ∧ FrL (SC o) σ σ1) := by
  have hk1 := hk.1 i hi
  have hk2 := hk.2 i hi
  unfold g_X1_takeFree hTakeL
  refine wpO_e (freeC_eq H hk hi) ?_
  by_cases c : hL s i + hR s i < wd i
  · refine wpO_t (by simp (disch := omega) only [li0, li1, li2, li3, li4, li5, li6, li7, li8, li9, li10, li14, li16, li20, li23, li24, li30, li32, li37, li38, li40, li41, li42, li43, li45, li47, li50, li53, li57, li58, li59, li60, li61, li62, li63, li70, li80, li81, li99, li100, li110, li120, li123, li124, li126, li128, li168, li192, li255, li336, li360, li400, li999, nI_add, pk_mul, nI_clamp, nI_ltI, nI_leI, nI_eq, pk_sub, bnd_some, if_pos, if_neg, and_self, and_true, true_and, false_and, and_false, not_false_eq_true, not_true_eq_false, Nat.zero_le, Nat.not_lt_zero, if_false, if_true, gA, gF, gL, inb, lt, nI_inj0, Nat.reduceEqDiff, ↓reduceIte, eq_self]; omega) (wpO_t (inb_nI hi (by omega)) ?_)
    rw [if_pos c, if_pos c]
    have e : gA σ 1 o 3 (nI i) + 1 = nI (hL s i + 1) := by simp (disch := omega) only [li0, li1, li2, li3, li4, li5, li6, li7, li8, li9, li10, li14, li16, li20, li23, li24, li30, li32, li37, li38, li40, li41, li42, li43, li45, li47, li50, li53, li57, li58, li59, li60, li61, li62, li63, li70, li80, li81, li99, li100, li110, li120, li123, li124, li126, li128, li168, li192, li255, li336, li360, li400, li999, nI_add, pk_mul, nI_clamp, nI_ltI, nI_leI, nI_eq, pk_sub, bnd_some, if_pos, if_neg, and_self, and_true, true_and, false_and, and_false, not_false_eq_true, not_true_eq_false, Nat.zero_le, Nat.not_lt_zero, if_false, if_true, gA, gF, gL, inb, lt, nI_inj0, Nat.reduceEqDiff, ↓reduceIte, eq_self, H.2.2.1 i hi]
    exact wpO_some.mpr ⟨rfl, (H.sL e hi).sM (li1), (FrL_sA (by simp)).tr (FrL_sF (by simp))⟩
  · refine wpO_f (by simp (disch := omega) only [li0, li1, li2, li3, li4, li5, li6, li7, li8, li9, li10, li14, li16, li20, li23, li24, li30, li32, li37, li38, li40, li41, li42, li43, li45, li47, li50, li53, li57, li58, li59, li60, li61, li62, li63, li70, li80, li81, li99, li100, li110, li120, li123, li124, li126, li128, li168, li192, li255, li336, li360, li400, li999, nI_add, pk_mul, nI_clamp, nI_ltI, nI_leI, nI_eq, pk_sub, bnd_some, if_pos, if_neg, and_self, and_true, true_and, false_and, and_false, not_false_eq_true, not_true_eq_false, Nat.zero_le, Nat.not_lt_zero, if_false, if_true, gA, gF, gL, inb, lt, nI_inj0, Nat.reduceEqDiff, ↓reduceIte, eq_self]; omega) ?_
    rw [if_neg c, if_neg c]
    exact wpO_some.mpr ⟨rfl, H, FrL.rf⟩
theorem takeFreeR {i : Nat} (H : VC o σ wd who h s) (hk : OKH wd s) (hi : i < 7) : wpO (g_X1_takeFree o 4 (nI i) σ) (fun r σ1 => r = (if hL s i + hR s i < wd i then 1 else 0) ∧ VC o σ1 wd who h (hTakeR wd i s) ∧ FrL (SC o) σ σ1) := by
  have hk1 := hk.1 i hi
  have hk2 := hk.2 i hi
  unfold g_X1_takeFree hTakeR
  refine wpO_e (freeC_eq H hk hi) ?_
  by_cases c : hL s i + hR s i < wd i
  · refine wpO_t (by simp (disch := omega) only [li0, li1, li2, li3, li4, li5, li6, li7, li8, li9, li10, li14, li16, li20, li23, li24, li30, li32, li37, li38, li40, li41, li42, li43, li45, li47, li50, li53, li57, li58, li59, li60, li61, li62, li63, li70, li80, li81, li99, li100, li110, li120, li123, li124, li126, li128, li168, li192, li255, li336, li360, li400, li999, nI_add, pk_mul, nI_clamp, nI_ltI, nI_leI, nI_eq, pk_sub, bnd_some, if_pos, if_neg, and_self, and_true, true_and, false_and, and_false, not_false_eq_true, not_true_eq_false, Nat.zero_le, Nat.not_lt_zero, if_false, if_true, gA, gF, gL, inb, lt, nI_inj0, Nat.reduceEqDiff, ↓reduceIte, eq_self]; omega) (wpO_t (inb_nI hi (by omega)) ?_)
    rw [if_pos c, if_pos c]
    have e : gA σ 1 o 4 (nI i) + 1 = nI (hR s i + 1) := by simp (disch := omega) only [li0, li1, li2, li3, li4, li5, li6, li7, li8, li9, li10, li14, li16, li20, li23, li24, li30, li32, li37, li38, li40, li41, li42, li43, li45, li47, li50, li53, li57, li58, li59, li60, li61, li62, li63, li70, li80, li81, li99, li100, li110, li120, li123, li124, li126, li128, li168, li192, li255, li336, li360, li400, li999, nI_add, pk_mul, nI_clamp, nI_ltI, nI_leI, nI_eq, pk_sub, bnd_some, if_pos, if_neg, and_self, and_true, true_and, false_and, and_false, not_false_eq_true, not_true_eq_false, Nat.zero_le, Nat.not_lt_zero, if_false, if_true, gA, gF, gL, inb, lt, nI_inj0, Nat.reduceEqDiff, ↓reduceIte, eq_self, H.2.2.2.1 i hi]
    exact wpO_some.mpr ⟨rfl, (H.sR e hi).sM (li1), (FrL_sA (by simp)).tr (FrL_sF (by simp))⟩
  · refine wpO_f (by simp (disch := omega) only [li0, li1, li2, li3, li4, li5, li6, li7, li8, li9, li10, li14, li16, li20, li23, li24, li30, li32, li37, li38, li40, li41, li42, li43, li45, li47, li50, li53, li57, li58, li59, li60, li61, li62, li63, li70, li80, li81, li99, li100, li110, li120, li123, li124, li126, li128, li168, li192, li255, li336, li360, li400, li999, nI_add, pk_mul, nI_clamp, nI_ltI, nI_leI, nI_eq, pk_sub, bnd_some, if_pos, if_neg, and_self, and_true, true_and, false_and, and_false, not_false_eq_true, not_true_eq_false, Nat.zero_le, Nat.not_lt_zero, if_false, if_true, gA, gF, gL, inb, lt, nI_inj0, Nat.reduceEqDiff, ↓reduceIte, eq_self]; omega) ?_
    rw [if_neg c, if_neg c]
    exact wpO_some.mpr ⟨rfl, H, FrL.rf⟩
theorem leaveCL {i : Nat} (H : VC o σ wd who h s) (hk : OKH wd s) (hi : i < 7) : wpO (g_X1_leave o 3 (nI i) σ) (fun _ σ1 => VC o σ1 wd who h (hLeaveL i s) ∧ FrL (SC o) σ σ1) := by
  have hk1 := hk.1 i hi
  have hk2 := hk.2 i hi
  unfold g_X1_leave hLeaveL
  refine wpO_t (inb_nI hi (by omega)) ?_
  have e : gA σ 1 o 3 (nI i) = nI (hL s i) := by simp (disch := omega) only [li0, li1, li2, li3, li4, li5, li6, li7, li8, li9, li10, li14, li16, li20, li23, li24, li30, li32, li37, li38, li40, li41, li42, li43, li45, li47, li50, li53, li57, li58, li59, li60, li61, li62, li63, li70, li80, li81, li99, li100, li110, li120, li123, li124, li126, li128, li168, li192, li255, li336, li360, li400, li999, nI_add, pk_mul, nI_clamp, nI_ltI, nI_leI, nI_eq, pk_sub, bnd_some, if_pos, if_neg, and_self, and_true, true_and, false_and, and_false, not_false_eq_true, not_true_eq_false, Nat.zero_le, Nat.not_lt_zero, if_false, if_true, gA, gF, gL, inb, lt, nI_inj0, Nat.reduceEqDiff, ↓reduceIte, eq_self, H.2.2.1 i hi]
  rw [e]
  by_cases c : hL s i = 0
  · refine wpO_t ((nI_eq0 (by omega)).mpr c) ?_
    rw [if_pos c]
    exact wpO_some.mpr ⟨H, FrL.rf⟩
  · refine wpO_f (fun z => c ((nI_eq0 (by omega)).mp z)) ?_
    rw [if_neg c]
    exact wpO_some.mpr ⟨(H.sL li0 hi).sM li1, (FrL_sA (by simp)).tr (FrL_sF (by simp))⟩
theorem leaveCR {i : Nat} (H : VC o σ wd who h s) (hk : OKH wd s) (hi : i < 7) : wpO (g_X1_leave o 4 (nI i) σ) (fun _ σ1 => VC o σ1 wd who h (hLeaveR i s) ∧ FrL (SC o) σ σ1) := by
  have hk1 := hk.1 i hi
  have hk2 := hk.2 i hi
  unfold g_X1_leave hLeaveR
  refine wpO_t (inb_nI hi (by omega)) ?_
  have e : gA σ 1 o 4 (nI i) = nI (hR s i) := by simp (disch := omega) only [li0, li1, li2, li3, li4, li5, li6, li7, li8, li9, li10, li14, li16, li20, li23, li24, li30, li32, li37, li38, li40, li41, li42, li43, li45, li47, li50, li53, li57, li58, li59, li60, li61, li62, li63, li70, li80, li81, li99, li100, li110, li120, li123, li124, li126, li128, li168, li192, li255, li336, li360, li400, li999, nI_add, pk_mul, nI_clamp, nI_ltI, nI_leI, nI_eq, pk_sub, bnd_some, if_pos, if_neg, and_self, and_true, true_and, false_and, and_false, not_false_eq_true, not_true_eq_false, Nat.zero_le, Nat.not_lt_zero, if_false, if_true, gA, gF, gL, inb, lt, nI_inj0, Nat.reduceEqDiff, ↓reduceIte, eq_self, H.2.2.2.1 i hi]
  rw [e]
  by_cases c : hR s i = 0
  · refine wpO_t ((nI_eq0 (by omega)).mpr c) ?_
    rw [if_pos c]
    exact wpO_some.mpr ⟨H, FrL.rf⟩
  · refine wpO_f (fun z => c ((nI_eq0 (by omega)).mp z)) ?_
    rw [if_neg c]
    exact wpO_some.mpr ⟨(H.sR li0 hi).sM li1, (FrL_sA (by simp)).tr (FrL_sF (by simp))⟩
end HC
