/-! in thought -/
theorem exNI (x : Int32) : ∃ k : Nat, x = nI k := by
  refine ⟨x.toBitVec.toNat, ?_⟩
  apply Int32.toBitVec_inj.mp
  show x.toBitVec = BitVec.ofNat 32 x.toBitVec.toNat
  rw [BitVec.ofNat_toNat, BitVec.setWidth_eq]
theorem exNI_row {m : Nat} (f : Nat → Int32) : ∃ g : Nat → Nat, ∀ i, i < m → f i = nI (g i) :=
  ⟨fun i => (f i).toBitVec.toNat, fun i _ => by
    apply Int32.toBitVec_inj.mp
    show (f i).toBitVec = BitVec.ofNat 32 (f i).toBitVec.toNat
    rw [BitVec.ofNat_toNat, BitVec.setWidth_eq]⟩
def XCw (o : Nat) (σ : AS) (wd who : Nat → Nat) (h : Nat) (X : HX) : Prop := ∃ F O m, XC o σ wd who h ((hL X.1, hR X.1, F, O, hz X.1, hc X.1, m), X.2)
def VMw (k : Nat) (σ : AS) (who : Nat → Nat) (X : HX) : Prop := (∃ F O m, VM k σ who (hL X.1, hR X.1, F, O, hz X.1, hc X.1, m)) ∧ ∀ p, p < 8 → σ.2.1 9 0 30 p = X.2.1 p
def X0 (L R : Nat → Nat) (z : Int32) (now : Nat) : HX := ((L, R, fun _ => 0, fun _ => 0, z, 0, 0), fun _ => 0, fun _ => 0, nI now)
theorem XC.w {o : Nat} {σ : AS} {wd who : Nat → Nat} {h : Nat} {X : HX} (H : XC o σ wd who h X) : XCw o σ wd who h X := ⟨hF X.1, hO X.1, hm X.1, H⟩
theorem hHours_beg (nx cg : Int32 → Int32) (tr way : Nat → Nat → Int32) (Str : (Nat → Int32) → Int32) (n : Nat) (wd who : Nat → Nat) (m h : Nat) (X : HX) (F O : Nat → Nat) (k : Nat) :
    hHours nx cg tr way Str n wd who (m + 1) h ((hL X.1, hR X.1, F, O, hz X.1, hc X.1, k), X.2) = hHours nx cg tr way Str n wd who (m + 1) h X := rfl
theorem passW {nx cg : Int32 → Int32} {o : Nat} {σ : AS} {wd who : Nat → Nat} {h n m : Nat} {tr way : Nat → Nat → Int32} {Str : (Nat → Int32) → Int32} {X : HX} (hd : DrawIs nx cg) (hw : ∀ j, j < n → who j < n) (hm : h + m ≤ 24) (H : XCw o σ wd who h X) (ok : OKH wd X.1) (He : EnvC σ n tr way) (hS : StrC σ Str) :
    wpO (g_X1_passHours o (nI m) σ) (fun _ σ2 => XCw o σ2 wd who (h + m) (hHours nx cg tr way Str n wd who m h X) ∧ (0 < m → XC o σ2 wd who (h + m) (hHours nx cg tr way Str n wd who m h X)) ∧ FrL (SP o) σ σ2) := by
  obtain ⟨F, O, k, H⟩ := H
  refine wpO_mono (passC hd hw hm H ok He hS) ?_
  intro _ σ2 q
  obtain ⟨q1, q2⟩ := q
  cases m with
  | zero => exact ⟨⟨F, O, k, q1⟩, fun z => absurd z (Nat.lt_irrefl 0), q2⟩
  | succ m =>
    rw [hHours_beg] at q1
    exact ⟨q1.w, fun _ => q1, q2⟩
abbrev SB : List (Nat × Nat × Nat) := [(1, 1, 2), (1, 1, 3), (1, 1, 4), (1, 1, 6), (1, 1, 7), (1, 1, 8), (1, 1, 11), (1, 1, 12), (1, 1, 13), (1, 1, 14)]
theorem begin63 {σ0 : AS} {z : Int32} {Q : Unit → AS → Prop} (hQ : ∀ σ1 : AS, (∀ j, j < 8 → σ1.2.1 1 1 8 j = nI j) → FrL [(1, 1, 8)] σ0 σ1 → wpO (lt (sF σ1 1 1 11 (gF σ1 1 0 11)) fun σ7 => (lt (sF σ7 1 1 12 0) fun σ8 => (lt (sF σ8 1 1 13 z) fun σ9 => (lt (sF σ9 1 1 14 (gF σ9 1 1 11)) fun σ10 => some ((), σ10))))) Q) :
    ∀ (d j f : Nat) (σ : AS), j + d = 8 → d < f → (∀ i, i < j → σ.2.1 1 1 8 i = nI i) → FrL [(1, 1, 8)] σ0 σ → wpO (g_X1_begin_63 1 0 f z (nI j) σ) Q := by
  intro d
  induction d with
  | zero =>
    intro j f σ hj hf a fr
    obtain ⟨f, rfl⟩ : ∃ g, f = g + 1 := ⟨f - 1, by omega⟩
    rw [g_X1_begin_63]
    exact wpO_f (show ¬ nI j < nI 8 from nI_nlt (by omega) (by omega)) (hQ σ (fun i hi => a i (by omega)) fr)
  | succ d ih =>
    intro j f σ hj hf a fr
    obtain ⟨f, rfl⟩ : ∃ g, f = g + 1 := ⟨f - 1, by omega⟩
    rw [g_X1_begin_63, nI_1]
    refine wpO_t (show nI j < nI 8 from nI_lt (by omega) (by omega)) (wpO_t (inb_nI (by omega) (by omega)) (wpO_lt ?_))
    refine ih (j + 1) f _ (by omega) (by omega) ?_ (fr.tr (FrL_sA (by decide)))
    intro i hi
    unfold sA
    rw [sAf_a, if_pos ⟨rfl, rfl, rfl⟩, nI_clamp (by omega), upd_at]
    by_cases e : i = j
    · rw [if_pos e, e]
    · rw [if_neg e]; exact a i (by omega)
theorem beginC1 {σ : AS} {wd L R : Nat → Nat} {now : Nat} {z : Int32} (h2 : ∀ i, i < 7 → σ.2.1 1 0 2 i = nI (wd i)) (h3 : ∀ i, i < 7 → σ.2.1 1 0 3 i = nI (L i)) (h4 : ∀ i, i < 7 → σ.2.1 1 0 4 i = nI (R i)) (h11 : σ.1 1 0 11 = nI now) :
    wpO (g_X1_begin 1 0 z σ) (fun _ σ1 => XCw 1 σ1 wd id now (X0 L R z now) ∧ FrL SB σ σ1) := by
  unfold g_X1_begin
  refine wpO_lt (wpO_lt (wpO_lt (wpO_lt (wpO_lt ?_))))
  generalize hs : filA _ 1 1 7 8 0 = σ5
  have f5 : FrL [(1, 1, 2), (1, 1, 3), (1, 1, 4), (1, 1, 6), (1, 1, 7)] σ σ5 := by rw [← hs]; exact ((((FrL_sA (by decide)).tr (FrL_sA (by decide))).tr (FrL_sA (by decide))).tr (FrL_sA (by decide))).tr (FrL_sA (by decide))
  have e2 : ∀ i, i < 7 → σ5.2.1 1 1 2 i = nI (wd i) := fun i hi => by
    rw [← hs]; exact (cpy0 (n := 7) (f := σ.2.1 1 0 2) (by decide) hi).trans (h2 i hi)
  have e3 : ∀ i, i < 7 → σ5.2.1 1 1 3 i = nI (L i) := fun i hi => by
    rw [← hs]; exact (cpy0 (n := 7) (f := σ.2.1 1 0 3) (by decide) hi).trans (h3 i hi)
  have e4 : ∀ i, i < 7 → σ5.2.1 1 1 4 i = nI (R i) := fun i hi => by
    rw [← hs]; exact (cpy0 (n := 7) (f := σ.2.1 1 0 4) (by decide) hi).trans (h4 i hi)
  have e6 : ∀ i, i < 8 → σ5.2.1 1 1 6 i = 0 := fun i hi => by rw [← hs]; exact if_pos hi
  have e7 : ∀ i, i < 8 → σ5.2.1 1 1 7 i = 0 := fun i hi => by rw [← hs]; exact if_pos hi
  refine begin63 (σ0 := σ5) ?_ 8 0 400 σ5 (by omega) (by omega) (fun i hi => absurd hi (Nat.not_lt_zero i)) FrL.rf
  intro σ6 a8 f6
  refine wpO_lt (wpO_lt (wpO_lt (wpO_lt (wpO_some.mpr ?_))))
  generalize hs7 : sF _ 1 1 14 _ = σ7
  have f7 : FrL [(1, 1, 11), (1, 1, 12), (1, 1, 13), (1, 1, 14)] σ6 σ7 := by rw [← hs7]; exact (((FrL_sF (by decide)).tr (FrL_sF (by decide))).tr (FrL_sF (by decide))).tr (FrL_sF (by decide))
  have F : FrL SB σ σ7 := ((f5.mono (by decide)).tr (f6.mono (by decide))).tr (f7.mono (by decide))
  have v11 : σ6.1 1 0 11 = nI now := by rw [f6.f 1 0 11 (by decide), f5.f 1 0 11 (by decide)]; exact h11
  obtain ⟨F5, hF5⟩ := exNI_row (m := 7) (σ7.2.1 1 1 5)
  obtain ⟨O9, hO9⟩ := exNI_row (m := 8) (σ7.2.1 1 1 9)
  obtain ⟨k, hk⟩ := exNI (σ7.1 1 1 10)
  refine ⟨⟨F5, O9, k, ⟨⟨?_, ?_, ?_, ?_, hF5, hO9, ?_, ?_, hk, ?_⟩, ?_, ?_, ?_⟩⟩, F⟩
  · intro j hj; rw [f7.a 1 1 8 (by decide)]; exact a8 j hj
  · intro i hi; rw [f7.a 1 1 2 (by decide), f6.a 1 1 2 (by decide)]; exact e2 i hi
  · intro i hi; rw [f7.a 1 1 3 (by decide), f6.a 1 1 3 (by decide)]; exact e3 i hi
  · intro i hi; rw [f7.a 1 1 4 (by decide), f6.a 1 1 4 (by decide)]; exact e4 i hi
  · rw [← hs7]; rfl
  · rw [← hs7]; rfl
  · rw [← hs7]; exact v11
  · intro p hp; rw [f7.a 1 1 6 (by decide), f6.a 1 1 6 (by decide)]; exact e6 p hp
  · intro p hp; rw [f7.a 1 1 7 (by decide), f6.a 1 1 7 (by decide)]; exact e7 p hp
  · rw [← hs7]; exact v11
theorem startsM {σ : AS} {z : Int32} : wpO (g_X9_starts z σ) (fun _ σ1 => σ1.1 9 0 25 = z ∧ σ1.1 9 0 26 = 0 ∧ (∀ p, p < 8 → σ1.2.1 9 0 30 p = 0) ∧ FrL [(9, 0, 25), (9, 0, 26), (9, 0, 30)] σ σ1) := by
  unfold g_X9_starts
  refine wpO_lt (wpO_lt ?_)
  generalize hs : sF (sF σ 9 0 25 z) 9 0 26 0 = σ0
  have f0 : FrL [(9, 0, 25), (9, 0, 26), (9, 0, 30)] σ σ0 := by rw [← hs]; exact (FrL_sF (by decide)).tr (FrL_sF (by decide))
  have a25 : σ0.1 9 0 25 = z := by rw [← hs]; rfl
  have a26 : σ0.1 9 0 26 = 0 := by rw [← hs]; rfl
  have loop : ∀ (d j f : Nat) (σ1 : AS), j + d = 8 → d < f → (∀ i, i < j → σ1.2.1 9 0 30 i = 0) → FrL [(9, 0, 30)] σ0 σ1 → wpO (g_X9_starts_12 f (nI j) σ1) (fun _ σ1 => (∀ p, p < 8 → σ1.2.1 9 0 30 p = 0) ∧ FrL [(9, 0, 30)] σ0 σ1) := by
    intro d
    induction d with
    | zero =>
      intro j f σ1 hj hf a fr
      obtain ⟨f, rfl⟩ : ∃ g, f = g + 1 := ⟨f - 1, by omega⟩
      rw [g_X9_starts_12]
      exact wpO_f (show ¬ nI j < nI 8 from nI_nlt (by omega) (by omega)) (wpO_some.mpr ⟨fun i hi => a i (by omega), fr⟩)
    | succ d ih =>
      intro j f σ1 hj hf a fr
      obtain ⟨f, rfl⟩ : ∃ g, f = g + 1 := ⟨f - 1, by omega⟩
      rw [g_X9_starts_12, nI_1]
      refine wpO_t (show nI j < nI 8 from nI_lt (by omega) (by omega)) (wpO_t (inb_nI (by omega) (by omega)) (wpO_lt ?_))
      refine ih (j + 1) f _ (by omega) (by omega) ?_ (fr.tr (FrL_sA (by decide)))
      intro i hi
      unfold sA
      rw [sAf_a, if_pos ⟨rfl, rfl, rfl⟩, nI_clamp (by omega), upd_at]
      by_cases e : i = j
      · rw [if_pos e]
      · rw [if_neg e]; exact a i (by omega)
  refine wpO_mono (loop 8 0 400 σ0 (by omega) (by omega) (fun i hi => absurd hi (Nat.not_lt_zero i)) FrL.rf) ?_
  intro _ σ1 q
  exact ⟨by rw [q.2.f 9 0 25 (by decide)]; exact a25, by rw [q.2.f 9 0 26 (by decide)]; exact a26, q.1, f0.tr (q.2.mono (by decide))⟩
abbrev SThk : List (Nat × Nat × Nat) := [(9, 0, 25), (9, 0, 26), (9, 0, 30), (9, 0, 33)]
theorem VMw_of {σ : AS} {who L R : Nat → Nat} {z : Int32} {now : Nat} (h14 : ∀ j, j < 8 → σ.2.1 9 0 14 j = nI (who j)) (h1 : ∀ i, i < 7 → σ.2.1 9 0 33 (2 * i) = nI (L i)) (h2 : ∀ i, i < 7 → σ.2.1 9 0 33 (2 * i + 1) = nI (R i)) (h25 : σ.1 9 0 25 = z) (h26 : σ.1 9 0 26 = 0) (h30 : ∀ p, p < 8 → σ.2.1 9 0 30 p = 0) : VMw 33 σ who (X0 L R z now) := by
  obtain ⟨F5, hF5⟩ := exNI_row (m := 7) (σ.2.1 9 0 28)
  obtain ⟨O9, hO9⟩ := exNI_row (m := 8) (σ.2.1 9 0 29)
  obtain ⟨k, hk⟩ := exNI (σ.1 9 0 27)
  exact ⟨⟨F5, O9, k, h14, h1, h2, hF5, hO9, h25, h26, hk⟩, h30⟩
theorem thinksM {σ : AS} {who L R : Nat → Nat} {z : Int32} {now : Nat} (h14 : ∀ j, j < 8 → σ.2.1 9 0 14 j = nI (who j)) (h1 : ∀ i, i < 7 → σ.2.1 9 0 9 (2 * i) = nI (L i)) (h2 : ∀ i, i < 7 → σ.2.1 9 0 9 (2 * i + 1) = nI (R i)) :
    wpO (g_X9_thinks z σ) (fun _ σ1 => VMw 33 σ1 who (X0 L R z now) ∧ FrL SThk σ σ1) := by
  unfold g_X9_thinks
  refine wpO_b startsM (fun _ σ0 q => ?_)
  obtain ⟨q25, q26, q30, f0⟩ := q
  have loop : ∀ (d j f : Nat) (σ1 : AS), j + d = 14 → d < f → (∀ i, i < j → σ1.2.1 9 0 33 i = σ0.2.1 9 0 9 i) → FrL [(9, 0, 33)] σ0 σ1 → wpO (g_X9_thinks_7 f (nI j) σ1) (fun _ σ1 => (∀ i, i < 14 → σ1.2.1 9 0 33 i = σ0.2.1 9 0 9 i) ∧ FrL [(9, 0, 33)] σ0 σ1) := by
    intro d
    induction d with
    | zero =>
      intro j f σ1 hj hf a fr
      obtain ⟨f, rfl⟩ : ∃ g, f = g + 1 := ⟨f - 1, by omega⟩
      rw [g_X9_thinks_7]
      exact wpO_f (show ¬ nI j < nI 14 from nI_nlt (by omega) (by omega)) (wpO_some.mpr ⟨fun i hi => a i (by omega), fr⟩)
    | succ d ih =>
      intro j f σ1 hj hf a fr
      obtain ⟨f, rfl⟩ : ∃ g, f = g + 1 := ⟨f - 1, by omega⟩
      rw [g_X9_thinks_7, nI_1]
      refine wpO_t (show nI j < nI 14 from nI_lt (by omega) (by omega)) (wpO_t (inb_nI (by omega) (by omega)) (wpO_lt ?_))
      refine ih (j + 1) f _ (by omega) (by omega) ?_ (fr.tr (FrL_sA (by decide)))
      intro i hi
      unfold sA
      rw [sAf_a, if_pos ⟨rfl, rfl, rfl⟩, nI_clamp (by omega), gA_nI (by omega), upd_at, fr.a 9 0 9 (by decide)]
      by_cases e : i = j
      · rw [if_pos e, e]
      · rw [if_neg e]; exact a i (by omega)
  refine wpO_mono (loop 14 0 400 σ0 (by omega) (by omega) (fun i hi => absurd hi (Nat.not_lt_zero i)) FrL.rf) ?_
  intro _ σ1 w
  obtain ⟨w1, w2⟩ := w
  refine ⟨VMw_of ?_ ?_ ?_ ?_ ?_ ?_, (f0.mono (by decide)).tr (w2.mono (by decide))⟩
  · intro j hj; rw [w2.a 9 0 14 (by decide), f0.a 9 0 14 (by decide)]; exact h14 j hj
  · intro i hi; rw [w1 _ (by omega), f0.a 9 0 9 (by decide)]; exact h1 i hi
  · intro i hi; rw [w1 _ (by omega), f0.a 9 0 9 (by decide)]; exact h2 i hi
  · rw [w2.f 9 0 25 (by decide)]; exact q25
  · rw [w2.f 9 0 26 (by decide)]; exact q26
  · intro p hp; rw [w2.a 9 0 30 (by decide)]; exact q30 p hp
theorem hourW {nx cg : Int32 → Int32} {k : Nat} {σ : AS} {wd who : Nat → Nat} {h n : Nat} {tr way : Nat → Nat → Int32} {Str : (Nat → Int32) → Int32} {X : HX} {oth wv : Int32} (hd : DrawIs nx cg) (hk : kIn k) (hwo : WayOK n way) (hw : ∀ j, j < n → who j < n) (hh : h < 24) (ok : OKH wd X.1) (He : EnvM σ n tr way) (hS : StrM σ Str)
    (hwd : ∀ i, i < 7 → (if nI i = oth then wv else σ.2.1 9 0 7 i) = nI (wd i)) (H : VMw k σ who X) :
    wpO (g_X9_hourGoes k (nI h) oth wv σ) (fun _ σ2 => VM k σ2 who (hStep nx cg tr way Str n wd who h X).1 ∧ VMw k σ2 who (hStep nx cg tr way Str n wd who h X) ∧ FrL (SH k) σ σ2) := by
  obtain ⟨⟨F, O, m, V⟩, hcm⟩ := H
  refine wpO_mono (hourM (s := (hL X.1, hR X.1, F, O, hz X.1, hc X.1, m)) hd hk hwo hw hh ok He hS hwd V hcm) ?_
  intro _ σ2 q
  obtain ⟨q1, q2, q3⟩ := q
  exact ⟨q1, ⟨⟨_, _, _, q1⟩, q2⟩, q3⟩
theorem nI_m1 {i : Nat} (h : i < 2 ^ 31) : ¬ nI i = (-1 : Int32) := fun z => absurd (z ▸ nI_pos (n := i) h) (by decide)
theorem wd_no {σ : AS} {wd : Nat → Nat} {wv : Int32} (h7 : ∀ i, i < 7 → σ.2.1 9 0 7 i = nI (wd i)) : ∀ i, i < 7 → (if nI i = (-1 : Int32) then wv else σ.2.1 9 0 7 i) = nI (wd i) := fun i hi => by
  rw [if_neg (nI_m1 (by omega))]; exact h7 i hi
theorem goesLoop {nx cg : Int32 → Int32} {σ0 : AS} {wd who : Nat → Nat} {now n m : Nat} {tr way : Nat → Nat → Int32} {Str : (Nat → Int32) → Int32} (hd : DrawIs nx cg) (hwo : WayOK n way) (hw : ∀ j, j < n → who j < n) (hm : now + m ≤ 24) (He : EnvM σ0 n tr way) (hS : StrM σ0 Str) (h13 : σ0.1 9 0 13 = nI now)
    (h7 : ∀ i, i < 7 → σ0.2.1 9 0 7 i = nI (wd i)) : ∀ (d j f : Nat) (σ : AS) (X : HX), j + d = m → d < f → VMw 33 σ who X → OKH wd X.1 → FrL (SH 33) σ0 σ →
      wpO (g_X9_goesOn_7 f (nI m) (nI j) σ) (fun _ σ2 => VMw 33 σ2 who (hHours nx cg tr way Str n wd who d (now + j) X) ∧ FrL (SH 33) σ0 σ2) := by
  intro d
  induction d with
  | zero =>
    intro j f σ X hj hf V ok fr
    obtain ⟨f, rfl⟩ : ∃ g, f = g + 1 := ⟨f - 1, by omega⟩
    rw [g_X9_goesOn_7]
    exact wpO_f (nI_nlt (by omega) (by omega)) (wpO_some.mpr ⟨V, fr⟩)
  | succ d ih =>
    intro j f σ X hj hf V ok fr
    obtain ⟨f, rfl⟩ : ∃ g, f = g + 1 := ⟨f - 1, by omega⟩
    have e13 : gF σ 9 0 13 + nI j = nI (now + j) := by rw [show gF σ 9 0 13 = nI now from (fr.f 9 0 13 (by decide)).trans h13, nI_add]
    rw [g_X9_goesOn_7, e13, nI_1]
    refine wpO_t (nI_lt (by omega) (by omega)) (wpO_b (hourW (wd := wd) hd (Or.inr rfl) hwo hw (by omega) ok (He.fr fr) (hS.fr fr) (wd_no (fun i hi => by rw [fr.a 9 0 7 (by decide)]; exact h7 i hi)) V) (fun _ σ1 q => ?_))
    obtain ⟨-, q2, q3⟩ := q
    exact ih (j + 1) f σ1 _ (by omega) (by omega) q2 ok.step (fr.tr q3)
theorem goesOnM {nx cg : Int32 → Int32} {σ : AS} {wd who L R : Nat → Nat} {now n m : Nat} {tr way : Nat → Nat → Int32} {Str : (Nat → Int32) → Int32} {z : Int32} (hd : DrawIs nx cg) (hwo : WayOK n way) (hw : ∀ j, j < n → who j < n) (hm : now + m ≤ 24) (He : EnvM σ n tr way) (hS : StrM σ Str) (h13 : σ.1 9 0 13 = nI now)
    (h7 : ∀ i, i < 7 → σ.2.1 9 0 7 i = nI (wd i)) (h14 : ∀ j, j < 8 → σ.2.1 9 0 14 j = nI (who j)) (h1 : ∀ i, i < 7 → σ.2.1 9 0 9 (2 * i) = nI (L i)) (h2 : ∀ i, i < 7 → σ.2.1 9 0 9 (2 * i + 1) = nI (R i)) (ok : OKH wd (X0 L R z now).1) :
    wpO (g_X9_goesOn z (nI m) σ) (fun _ σ2 => VMw 33 σ2 who (hHours nx cg tr way Str n wd who m now (X0 L R z now)) ∧ FrL (SH 33) σ σ2) := by
  unfold g_X9_goesOn
  refine wpO_b (thinksM (now := now) h14 h1 h2) (fun _ σ1 q => ?_)
  obtain ⟨q1, f1⟩ := q
  refine wpO_mono (goesLoop (σ0 := σ1) (wd := wd) (now := now) (m := m) hd hwo hw hm (He.fr f1) (hS.fr f1) (by rw [f1.f 9 0 13 (by decide)]; exact h13) (fun i hi => by rw [f1.a 9 0 7 (by decide)]; exact h7 i hi) m 0 400 σ1 _ (by omega) (by omega) q1 ok FrL.rf) ?_
  intro _ σ2 w
  exact ⟨w.1, (f1.mono (by decide)).tr w.2⟩
