/-! the reference's hour -/
theorem restsM_eq {σ : AS} {n : Nat} (hn : σ.1 9 0 6 = nI n) (hb : n ≤ 8) : g_X9_rests σ = some (nI (n - 1), σ) := by
  unfold g_X9_rests
  simp only [gF, hn]
  by_cases h0 : n < 2
  · rw [if_pos (by rw [li2]; exact nI_lt h0 (by omega))]
    have e : n - 1 = 0 := by omega
    rw [e]; rfl
  · rw [if_neg (by rw [li2]; exact nI_nlt (by omega) (by omega)), li1, pk_sub (by omega)]
theorem within_eq (a b c : Int64) (σ : AS) : g_X9_within a b c σ = some (if b ≤ a ∧ a ≤ c then 1 else 0, σ) := by
  unfold g_X9_within
  have h1 := lg_cmp_lt a b
  have h2 := lg_cmp_gt a c
  by_cases c1 : a < b
  · rw [if_pos (h1.mpr c1), if_neg (fun z => absurd c1 (Int64.not_lt.mpr z.1))]
  · rw [if_neg (fun z => c1 (h1.mp z))]
    by_cases c2 : c < a
    · rw [if_pos (h2.mpr c2), if_neg (fun z => absurd c2 (Int64.not_lt.mpr z.2))]
    · rw [if_neg (fun z => c2 (h2.mp z)), if_pos ⟨Int64.not_lt.mp c1, Int64.not_lt.mp c2⟩]
theorem i64_le (a b : Int32) : a.toInt64 ≤ b.toInt64 ↔ a ≤ b := by
  rw [Int64.le_iff_toInt_le, Int32.le_iff_toInt_le, Int32.toInt_toInt64, Int32.toInt_toInt64]
theorem il0 : (0 : Int64) = (0 : Int32).toInt64 := by decide
/-- a whole number in a range from 0 -/
theorem within0_eq (a : Int32) (b : Int64) (m : Nat) (hb : b = (nI m - 1).toInt64) (hm : m < 2 ^ 30) (σ : AS) : g_X9_within a.toInt64 0 b σ = some (if inb a m then 1 else 0, σ) := by
  rw [within_eq, hb]
  have h0 : (0 ≤ a.toInt64 ∧ a.toInt64 ≤ (nI m - 1).toInt64) ↔ (0 ≤ a ∧ a ≤ nI m - 1) := by rw [il0, i64_le, i64_le]
  have h : (0 ≤ a ∧ a ≤ nI m - 1) ↔ inb a m := by
    rw [inb_iff (by omega), Int32.le_iff_toInt_le, Int32.le_iff_toInt_le, Int32.lt_iff_toInt_lt, Int32.lt_iff_toInt_lt, nI_toInt (by omega)]
    have e : (nI m - 1).toInt = (m : Int) - 1 := by
      rw [Int32.toInt_sub, nI_toInt (by omega)]
      have e1 : (1 : Int32).toInt = 1 := by decide
      rw [e1]
      rw [Int.bmod_eq_of_le] <;> omega
    have e0 : (0 : Int32).toInt = 0 := by decide
    rw [e, e0]; omega
  by_cases c : inb a m
  · rw [if_pos (h0.mpr (h.mpr c)), if_pos c]
  · rw [if_neg (fun z => c (h.mp (h0.mp z))), if_neg c]
theorem isRestM_eq {σ : AS} {n : Nat} (hn : σ.1 9 0 6 = nI n) (hb : n ≤ 8) (a : Int32) : g_X9_isRest a σ = some (if inb a (n - 1) then 1 else 0, σ) := by
  unfold g_X9_isRest
  rw [restsM_eq hn hb, bnd_some, within0_eq a _ (n - 1) rfl (by omega), bnd_some]
  by_cases c : inb a (n - 1)
  · rw [if_pos c]; rfl
  · rw [if_neg c]; rfl
theorem isSitterM_eq {σ : AS} {n : Nat} (hn : σ.1 9 0 6 = nI n) (hb : n ≤ 8) (a : Int32) : g_X9_isSitter a σ = some (if inb a n then 1 else 0, σ) := by
  unfold g_X9_isSitter
  simp only [gF, hn]
  rw [within0_eq a _ n rfl (by omega), bnd_some]
  by_cases c : inb a n
  · rw [if_pos c]; rfl
  · rw [if_neg c]; rfl
abbrev SW : List (Nat × Nat × Nat) := [(9, 0, 19), (9, 0, 20), (9, 0, 21), (9, 0, 22), (9, 0, 23)]
def clp (r : Int32) : Int32 := if r < 0 then 0 else if 999 < r then 999 else r
def StrM (σ : AS) (Str : (Nat → Int32) → Int32) : Prop :=
  (σ.1 9 0 18 < 0 ∧ ∀ v, Str v = dfl v) ∨ (¬ σ.1 9 0 18 < 0 ∧ ∀ (σ1 : AS) (v : Nat → Int32), σ1.1 9 0 18 = σ.1 9 0 18 → σ1.2.1 9 0 17 = σ.2.1 9 0 17 → (∀ k, k < 9 → σ1.2.1 9 0 24 k = v k) →
    wpO (g_X9_workOut 0 (σ.1 9 0 18) σ1) (fun r σ2 => clp r = Str v ∧ FrL SW σ1 σ2))
theorem StrM.fr {S : List (Nat × Nat × Nat)} {σ σ1 : AS} {Str : (Nat → Int32) → Int32} (h : StrM σ Str) (f : FrL S σ σ1) (h1 : (9, 0, 18) ∉ S := by decide) (h2 : (9, 0, 17) ∉ S := by decide) : StrM σ1 Str := by
  rcases h with ⟨a, b⟩ | ⟨a, b⟩
  · exact Or.inl ⟨by rw [f.f _ _ _ h1]; exact a, b⟩
  · refine Or.inr ⟨by rw [f.f _ _ _ h1]; exact a, fun σ2 v e1 e2 e3 => ?_⟩
    rw [f.f _ _ _ h1]
    exact b σ2 v (e1.trans (f.f _ _ _ h1)) (e2.trans (f.a _ _ _ h2)) e3
def VM (k : Nat) (σ : AS) (who : Nat → Nat) (s : HS) : Prop :=
  (∀ j, j < 8 → σ.2.1 9 0 14 j = nI (who j)) ∧ (∀ i, i < 7 → σ.2.1 9 0 k (2 * i) = nI (hL s i)) ∧ (∀ i, i < 7 → σ.2.1 9 0 k (2 * i + 1) = nI (hR s i)) ∧
  (∀ i, i < 7 → σ.2.1 9 0 28 i = nI (hF s i)) ∧ (∀ j, j < 8 → σ.2.1 9 0 29 j = nI (hO s j)) ∧ σ.1 9 0 25 = hz s ∧ σ.1 9 0 26 = hc s ∧ σ.1 9 0 27 = nI (hm s)
/-- the rows of inches: those in deed, those thought of -/
def kIn (k : Nat) : Prop := k = 9 ∨ k = 33
abbrev SM (k : Nat) : List (Nat × Nat × Nat) := [(9, 0, k), (9, 0, 24), (9, 0, 25), (9, 0, 26), (9, 0, 27), (9, 0, 28), (9, 0, 29)] ++ SW
abbrev SN : List (Nat × Nat × Nat) := [(9, 0, 24)] ++ SW
section HM1
variable {k : Nat} {σ : AS} {wd who : Nat → Nat} {h n : Nat} {s : HS} {tr way : Nat → Nat → Int32} {Str : (Nat → Int32) → Int32}
theorem VM.fr {S : List (Nat × Nat × Nat)} {σ1 : AS} (H : VM k σ who s) (f : FrL S σ σ1) (hS : ∀ z ∈ [k, 14, 25, 26, 27, 28, 29], (9, 0, z) ∉ S) : VM k σ1 who s := by
  obtain ⟨h1, h2, h3, h4, h5, h6, h7, h8⟩ := H
  refine ⟨?_, ?_, ?_, ?_, ?_, (f.f _ _ _ (hS 25 (by simp))).trans h6, (f.f _ _ _ (hS 26 (by simp))).trans h7, (f.f _ _ _ (hS 27 (by simp))).trans h8⟩
  · rw [f.a _ _ _ (hS 14 (by simp))]; exact h1
  · rw [f.a _ _ _ (hS k (by simp))]; exact h2
  · rw [f.a _ _ _ (hS k (by simp))]; exact h3
  · rw [f.a _ _ _ (hS 28 (by simp))]; exact h4
  · rw [f.a _ _ _ (hS 29 (by simp))]; exact h5
theorem VM.sL (H : VM k σ who s) (hk : kIn k) {i v j : Nat} {x : Int32} (hx : x = nI v) (hj : j = 2 * i) (hi : i < 7) : VM k (sA σ 9 0 k (nI j) x) who (uN (hL s) i v, hR s, hF s, hO s, hz s, hc s, hm s) := by
  obtain ⟨h1, h2, h3, h4, h5, h6, h7, h8⟩ := H
  have e : (nI j).toNatClampNeg = j := nI_clamp (by omega)
  subst hx
  have n14 : ¬ 14 = k := by rcases hk with q | q <;> omega
  have n28 : ¬ 28 = k := by rcases hk with q | q <;> omega
  have n29 : ¬ 29 = k := by rcases hk with q | q <;> omega
  refine ⟨fun z hz => ?_, fun z hz => ?_, fun z hz => ?_, fun z hz => ?_, fun z hz => ?_, h6, h7, h8⟩
  · simpa [sAf_a, n14] using h1 z hz
  · have q2 : (2 * z = j) = (z = i) := propext ⟨fun q => by omega, fun q => by omega⟩
    simp only [sAf_a, and_self, if_true, upd_at, e, q2, uN, hL]
    split
    · rfl
    · exact h2 z hz
  · have q2 : ¬ 2 * z + 1 = j := by omega
    simpa [sAf_a, upd_at, e, q2, hR] using h3 z hz
  · simpa [sAf_a, n28] using h4 z hz
  · simpa [sAf_a, n29] using h5 z hz
theorem VM.sR (H : VM k σ who s) (hk : kIn k) {i v j : Nat} {x : Int32} (hx : x = nI v) (hj : j = 2 * i + 1) (hi : i < 7) : VM k (sA σ 9 0 k (nI j) x) who (hL s, uN (hR s) i v, hF s, hO s, hz s, hc s, hm s) := by
  obtain ⟨h1, h2, h3, h4, h5, h6, h7, h8⟩ := H
  have e : (nI j).toNatClampNeg = j := nI_clamp (by omega)
  subst hx
  have n14 : ¬ 14 = k := by rcases hk with q | q <;> omega
  have n28 : ¬ 28 = k := by rcases hk with q | q <;> omega
  have n29 : ¬ 29 = k := by rcases hk with q | q <;> omega
  refine ⟨fun z hz => ?_, fun z hz => ?_, fun z hz => ?_, fun z hz => ?_, fun z hz => ?_, h6, h7, h8⟩
  · simpa [sAf_a, n14] using h1 z hz
  · have q2 : ¬ 2 * z = j := by omega
    simpa [sAf_a, upd_at, e, q2, hL] using h2 z hz
  · have q2 : (2 * z + 1 = j) = (z = i) := propext ⟨fun q => by omega, fun q => by omega⟩
    simp only [sAf_a, and_self, if_true, upd_at, e, q2, uN, hR]
    split
    · rfl
    · exact h3 z hz
  · simpa [sAf_a, n28] using h4 z hz
  · simpa [sAf_a, n29] using h5 z hz
theorem VM.sFi (H : VM k σ who s) (hk : kIn k) {i v : Nat} {x : Int32} (hx : x = nI v) (hi : i < 7) : VM k (sA σ 9 0 28 (nI i) x) who (hL s, hR s, uN (hF s) i v, hO s, hz s, hc s, hm s) := by
  obtain ⟨h1, h2, h3, h4, h5, h6, h7, h8⟩ := H
  have e : (nI i).toNatClampNeg = i := nI_clamp (by omega)
  subst hx
  have n28 : ¬ k = 28 := by rcases hk with q | q <;> omega
  refine ⟨fun z hz => ?_, fun z hz => ?_, fun z hz => ?_, fun z hz => ?_, fun z hz => ?_, h6, h7, h8⟩
  · simpa [sAf_a] using h1 z hz
  · simpa [sAf_a, n28] using h2 z hz
  · simpa [sAf_a, n28] using h3 z hz
  · by_cases q : z = i <;> simp [sAf_a, upd_at, uN, hF, e, q, h4 z hz]
  · simpa [sAf_a] using h5 z hz
theorem VM.sLo (H : VM k σ who s) (hk : kIn k) {i v : Nat} {x : Int32} (hx : x = nI v) (hi : i < 8) : VM k (sA σ 9 0 29 (nI i) x) who (hL s, hR s, hF s, uN (hO s) i v, hz s, hc s, hm s) := by
  obtain ⟨h1, h2, h3, h4, h5, h6, h7, h8⟩ := H
  have e : (nI i).toNatClampNeg = i := nI_clamp (by omega)
  subst hx
  have n29 : ¬ k = 29 := by rcases hk with q | q <;> omega
  refine ⟨fun z hz => ?_, fun z hz => ?_, fun z hz => ?_, fun z hz => ?_, fun z hz => ?_, h6, h7, h8⟩
  · simpa [sAf_a] using h1 z hz
  · simpa [sAf_a, n29] using h2 z hz
  · simpa [sAf_a, n29] using h3 z hz
  · simpa [sAf_a] using h4 z hz
  · by_cases q : z = i <;> simp [sAf_a, upd_at, uN, hO, e, q, h5 z hz]
theorem VM.sM (H : VM k σ who s) {v : Nat} {x : Int32} (hx : x = nI v) : VM k (sF σ 9 0 27 x) who (hL s, hR s, hF s, hO s, hz s, hc s, v) := by
  obtain ⟨h1, h2, h3, h4, h5, h6, h7, h8⟩ := H
  subst hx
  exact ⟨h1, h2, h3, h4, h5, by simpa [sF_f] using h6, by simpa [sF_f] using h7, by simp [sF_f]⟩
theorem VM.sC (H : VM k σ who s) {x y : Int32} (hx : x = y) : VM k (sF σ 9 0 26 x) who (hL s, hR s, hF s, hO s, hz s, y, hm s) := by
  obtain ⟨h1, h2, h3, h4, h5, h6, h7, h8⟩ := H
  subst hx
  exact ⟨h1, h2, h3, h4, h5, by simpa [sF_f] using h6, by simp [sF_f], by simpa [sF_f] using h8⟩
theorem VM.sZ (H : VM k σ who s) (x : Int32) : VM k (sF σ 9 0 25 x) who (hL s, hR s, hF s, hO s, x, hc s, hm s) := by
  obtain ⟨h1, h2, h3, h4, h5, h6, h7, h8⟩ := H
  exact ⟨h1, h2, h3, h4, h5, by simp [sF_f], by simpa [sF_f] using h7, by simpa [sF_f] using h8⟩
theorem coughM {nx cg : Int32 → Int32} {z1 : Int32} (hd : DrawIs nx cg) (H : VM k σ who s) (e1 : z1 = nx (hz s)) : wpO (g_X9_coughs σ) (fun r σ1 => r = cg z1 ∧ VM k σ1 who (hZ z1 s) ∧ FrL (SM k) σ σ1) := by
  unfold g_X9_coughs
  rw [hd.1, show gF σ 9 0 25 = hz s from H.2.2.2.2.2.1, ← e1]
  have H1 := H.sZ z1
  refine wpO_some.mpr ⟨?_, H1, FrL_sF (by simp)⟩
  rw [hd.2, show gF (sF σ 9 0 25 z1) 9 0 25 = z1 from H1.2.2.2.2.2.1]
theorem e2i (i : Nat) : 2 * nI i = nI (2 * i) := by rw [li2, pk_mul]
theorem e2i1 (i : Nat) : nI (2 * i) + 1 = nI (2 * i + 1) := nI_1 _
/-- an inch is taken: held goes up by one -/
theorem takesL {i : Nat} (hk : kIn k) (H : VM k σ who s) (hi : i < 7) : wpO (g_X9_takesFree k (nI (2 * i)) σ) (fun _ σ1 => VM k σ1 who (uN (hL s) i (hL s i + 1), hR s, hF s, hO s, hz s, hc s, 1) ∧ FrL (SM k) σ σ1) := by
  unfold g_X9_takesFree
  refine wpO_t (inb_nI (show 2 * i < 14 by omega) (by omega)) ?_
  have e : gA σ 9 0 k (nI (2 * i)) + 1 = nI (hL s i + 1) := by rw [gA_nI (by omega), H.2.1 i hi]; exact nI_1 _
  exact wpO_some.mpr ⟨(H.sL hk e rfl hi).sM li1, (FrL_sA (by simp)).tr (FrL_sF (by simp))⟩
theorem takesR {i : Nat} (hk : kIn k) (H : VM k σ who s) (hi : i < 7) : wpO (g_X9_takesFree k (nI (2 * i + 1)) σ) (fun _ σ1 => VM k σ1 who (hL s, uN (hR s) i (hR s i + 1), hF s, hO s, hz s, hc s, 1) ∧ FrL (SM k) σ σ1) := by
  unfold g_X9_takesFree
  refine wpO_t (inb_nI (show 2 * i + 1 < 14 by omega) (by omega)) ?_
  have e : gA σ 9 0 k (nI (2 * i + 1)) + 1 = nI (hR s i + 1) := by rw [gA_nI (by omega), H.2.2.1 i hi]; exact nI_1 _
  exact wpO_some.mpr ⟨(H.sR hk e rfl hi).sM li1, (FrL_sA (by simp)).tr (FrL_sF (by simp))⟩
end HM1
