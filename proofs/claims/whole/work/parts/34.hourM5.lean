section HM5
variable {nx cg : Int32 → Int32} {k : Nat} {σ : AS} {wd who : Nat → Nat} {h n : Nat} {s : HS} {tr way : Nat → Nat → Int32} {Str : (Nat → Int32) → Int32}
abbrev SH (k : Nat) : List (Nat × Nat × Nat) := [(9, 0, 30)] ++ SM k
theorem SH_E {c o z : Nat} (hk : kIn k) (h1 : (c, o, z) ∉ SH 9 := by decide) (h2 : (c, o, z) ∉ SH 33 := by decide) : (c, o, z) ∉ SH k := by rcases hk with q | q <;> subst q <;> assumption
theorem SM_SH : ∀ q ∈ SM k, q ∈ SH k := fun q hq => List.mem_append_right _ hq
theorem EnvM.sh {σ1 : AS} (He : EnvM σ n tr way) (hk : kIn k) (f : FrL (SH k) σ σ1) : EnvM σ1 n tr way := He.fr f (SH_E hk) (SH_E hk) (SH_E hk)
theorem StrM.sh {σ1 : AS} (He : StrM σ Str) (hk : kIn k) (f : FrL (SH k) σ σ1) : StrM σ1 Str := He.fr f (SH_E hk) (SH_E hk)
theorem mloop100 {cm0 : Nat → Int32} (hk : kIn k) (hw : ∀ j, j < n → who j < n) (hh : h < 24) :
    ∀ (d j f : Nat) (σ1 : AS), j + d = n → d < f → VM k σ1 who s → EnvM σ1 n tr way → (∀ p, p < 8 → σ1.2.1 9 0 30 p = cmN who (cmf tr way n who h s) cm0 j p) → FrL (SH k) σ σ1 →
      wpO (g_X9_hourGoes_100 k f (nI h) (nI j) σ1) (fun _ σ2 => VM k σ2 who s ∧ (∀ p, p < 8 → σ2.2.1 9 0 30 p = cmN who (cmf tr way n who h s) cm0 n p) ∧ FrL (SH k) σ σ2) := by
  intro d
  induction d with
  | zero =>
    intro j f σ1 hj hf H He hc fr
    obtain ⟨f, rfl⟩ : ∃ g, f = g + 1 := ⟨f - 1, by omega⟩
    have e : j = n := by omega
    subst e
    have hb := He.2.1
    rw [g_X9_hourGoes_100]
    rw [show gF σ1 9 0 6 = nI j from He.1]
    exact wpO_f (nI_nlt (Nat.le_refl j) (by omega)) (wpO_some.mpr ⟨H, hc, fr⟩)
  | succ d ih =>
    intro j f σ1 hj hf H He hc fr
    obtain ⟨f, rfl⟩ : ∃ g, f = g + 1 := ⟨f - 1, by omega⟩
    have hb := He.2.1
    have hjn : j < n := by omega
    have hwj := hw j hjn
    rw [g_X9_hourGoes_100]
    rw [show gF σ1 9 0 6 = nI n from He.1]
    have e14 : gA σ1 9 0 14 (nI j) = nI (who j) := by rw [gA_nI (by omega), H.1 j (by omega)]
    rw [e14]
    have e30 : gA σ1 9 0 30 (nI (who j)) = cmN who (cmf tr way n who h s) cm0 j (who j) := by rw [gA_nI (by omega)]; exact hc _ (by omega)
    rw [e30]
    refine wpO_t (nI_lt hjn (by omega)) (wpO_t (inb_nI (show j < 8 by omega) (by omega)) (wpO_t (inb_nI (show who j < 8 by omega) (by omega)) (wpO_e (comfortM hk He H hw hjn hh) (wpO_lt ?_))))
    have f1 : FrL [(9, 0, 30)] σ1 (sA σ1 9 0 30 (nI (who j)) (cmN who (cmf tr way n who h s) cm0 j (who j) + cmf tr way n who h s j)) := FrL_sA (by simp)
    have ew : (nI (who j)).toNatClampNeg = who j := nI_clamp (by omega)
    rw [nI_1]
    refine ih (j + 1) f _ (by omega) (by omega) (H.fr f1 ?_) (He.fr f1) (fun p hp => ?_) (fr.tr (f1.mono (by simp)))
    · intro z hz hq; simp at hz hq; rcases hk with q | q <;> subst q <;> omega
    · show (sAf σ1 9 0 30 _).2.1 9 0 30 p = upd (cmN who (cmf tr way n who h s) cm0 j) (who j) _ p
      rw [sAf_a, if_pos ⟨rfl, rfl, rfl⟩, ew, upd_at, upd_at, hc p hp]
theorem mloop56 {oth wv : Int32} {Q : Unit → AS → Prop} (hd : DrawIs nx cg) (hk : kIn k) (hwo : WayOK n way) (hw : ∀ j, j < n → who j < n) (hh : h < 24) (ok : OKH wd s) (hmm : hm s ≤ 1) (He : EnvM σ n tr way) (hS : StrM σ Str)
    (hwd : ∀ i, i < 7 → (if nI i = oth then wv else σ.2.1 9 0 7 i) = nI (wd i))
    (hk2 : ∀ σ1, VM k σ1 who (hRests nx cg tr way Str n wd who h (n - 1) s) → FrL (SM k) σ σ1 → wpO (g_X9_hourGoes_100 k 400 (nI h) 0 σ1) Q) :
    ∀ (d i f : Nat) (σ1 : AS), i + d = n - 1 → d < f → VM k σ1 who (hRests nx cg tr way Str n wd who h i s) → FrL (SM k) σ σ1 → wpO (g_X9_hourGoes_56 k f (nI h) oth wv (nI i) σ1) Q := by
  have hb := He.2.1
  intro d
  induction d with
  | zero =>
    intro i f σ1 hi hf H fr
    obtain ⟨f, rfl⟩ : ∃ g, f = g + 1 := ⟨f - 1, by omega⟩
    have e : i = n - 1 := by omega
    subst e
    rw [g_X9_hourGoes_56]
    refine wpO_e (restsM_eq (He.sm hk fr).1 hb) ?_
    exact wpO_f (nI_nlt (Nat.le_refl _) (by omega)) (hk2 σ1 H fr)
  | succ d ih =>
    intro i f σ1 hi hf H fr
    obtain ⟨f, rfl⟩ : ∃ g, f = g + 1 := ⟨f - 1, by omega⟩
    have i7 : i < 7 := by omega
    rw [g_X9_hourGoes_56]
    refine wpO_e (restsM_eq (He.sm hk fr).1 hb) ?_
    refine wpO_t (nI_lt (by omega) (by omega)) ?_
    have hwi := hwd i i7
    have go : ∀ w : Int32, w = nI (wd i) → wpO (g_X9_hourGoes_87 k (g_X9_hourGoes_56 k f) (nI h) oth wv (nI i) w (nI i) σ1) Q := fun w ew => by
      unfold g_X9_hourGoes_87
      rw [ew]
      refine wpO_b (restM hd hk (He.sm hk fr) hwo H (ok.rests i) (HM.rests hmm i) hw (by omega) hh (hS.sm hk fr)) (fun _ σ2 q => ?_)
      rw [nI_1]
      exact ih (i + 1) f σ2 (by omega) (by omega) q.1 (fr.tr q.2)
    by_cases c : nI i = oth
    · rw [if_pos c] at hwi
      exact wpO_t c (go wv hwi)
    · rw [if_neg c] at hwi
      refine wpO_f c (wpO_t (inb_nI i7 (by omega)) (go _ ?_))
      rw [gA_nI (by omega), fr.a _ _ _ (SM_E hk)]
      exact hwi
theorem mloop32 {oth wv : Int32} {Q : Unit → AS → Prop} (hQ : ∀ σ1, (∀ j, j < 8 → σ1.2.1 9 0 29 j = 0) → FrL [(9, 0, 29)] σ σ1 → wpO (g_X9_hourGoes_56 k 400 (nI h) oth wv 0 σ1) Q) :
    ∀ (d j f : Nat) (σ1 : AS), j + d = 8 → d < f → (∀ i, i < j → σ1.2.1 9 0 29 i = 0) → FrL [(9, 0, 29)] σ σ1 → wpO (g_X9_hourGoes_32 k f (nI h) oth wv (nI j) σ1) Q := by
  intro d
  induction d with
  | zero =>
    intro j f σ1 hj hf H fr
    obtain ⟨f, rfl⟩ : ∃ g, f = g + 1 := ⟨f - 1, by omega⟩
    have e : j = 8 := by omega
    subst e
    rw [g_X9_hourGoes_32]
    exact wpO_f (by decide) (hQ σ1 H fr)
  | succ d ih =>
    intro j f σ1 hj hf H fr
    obtain ⟨f, rfl⟩ : ∃ g, f = g + 1 := ⟨f - 1, by omega⟩
    rw [g_X9_hourGoes_32]
    refine wpO_t (by rw [li8]; exact nI_lt (by omega) (by omega)) (wpO_t (inb_nI (show j < 8 by omega) (by omega)) (wpO_lt ?_))
    rw [nI_1]
    refine ih (j + 1) f _ (by omega) (by omega) (fun i hi => ?_) (fr.tr (FrL_sA (by simp)))
    have ew : (nI j).toNatClampNeg = j := nI_clamp (by omega)
    show (sAf σ1 9 0 29 _).2.1 9 0 29 i = 0
    rw [sAf_a, if_pos ⟨rfl, rfl, rfl⟩, ew, upd_at]
    by_cases q : i = j
    · rw [if_pos q]
    · rw [if_neg q]; exact H i (by omega)
theorem mloop8 {oth wv : Int32} {Q : Unit → AS → Prop} (hQ : ∀ σ1, (∀ j, j < 7 → σ1.2.1 9 0 28 j = 0) → FrL [(9, 0, 28)] σ σ1 → wpO (g_X9_hourGoes_32 k 400 (nI h) oth wv 0 σ1) Q) :
    ∀ (d j f : Nat) (σ1 : AS), j + d = 7 → d < f → (∀ i, i < j → σ1.2.1 9 0 28 i = 0) → FrL [(9, 0, 28)] σ σ1 → wpO (g_X9_hourGoes_8 k f (nI h) oth wv (nI j) σ1) Q := by
  intro d
  induction d with
  | zero =>
    intro j f σ1 hj hf H fr
    obtain ⟨f, rfl⟩ : ∃ g, f = g + 1 := ⟨f - 1, by omega⟩
    have e : j = 7 := by omega
    subst e
    rw [g_X9_hourGoes_8]
    exact wpO_f (by decide) (hQ σ1 H fr)
  | succ d ih =>
    intro j f σ1 hj hf H fr
    obtain ⟨f, rfl⟩ : ∃ g, f = g + 1 := ⟨f - 1, by omega⟩
    rw [g_X9_hourGoes_8]
    refine wpO_t (by rw [li7]; exact nI_lt (by omega) (by omega)) (wpO_t (inb_nI (show j < 7 by omega) (by omega)) (wpO_lt ?_))
    rw [nI_1]
    refine ih (j + 1) f _ (by omega) (by omega) (fun i hi => ?_) (fr.tr (FrL_sA (by simp)))
    have ew : (nI j).toNatClampNeg = j := nI_clamp (by omega)
    show (sAf σ1 9 0 28 _).2.1 9 0 28 i = 0
    rw [sAf_a, if_pos ⟨rfl, rfl, rfl⟩, ew, upd_at]
    by_cases q : i = j
    · rw [if_pos q]
    · rw [if_neg q]; exact H i (by omega)
/-- AN HOUR OF THE REFERENCE -/
theorem hourM {oth wv : Int32} {cm : Nat → Int32} (hd : DrawIs nx cg) (hk : kIn k) (hwo : WayOK n way) (hw : ∀ j, j < n → who j < n) (hh : h < 24) (ok : OKH wd s) (He : EnvM σ n tr way) (hS : StrM σ Str)
    (hwd : ∀ i, i < 7 → (if nI i = oth then wv else σ.2.1 9 0 7 i) = nI (wd i)) (H : VM k σ who s) (hc : ∀ p, p < 8 → σ.2.1 9 0 30 p = cm p) :
    wpO (g_X9_hourGoes k (nI h) oth wv σ) (fun _ σ2 => VM k σ2 who (hRests nx cg tr way Str n wd who h (n - 1) (hBeg s)) ∧
      (∀ p, p < 8 → σ2.2.1 9 0 30 p = cmN who (cmf tr way n who h (hRests nx cg tr way Str n wd who h (n - 1) (hBeg s))) cm n p) ∧ FrL (SH k) σ σ2) := by
  have hb := He.2.1
  unfold g_X9_hourGoes
  refine wpO_lt ?_
  have f0 : FrL [(9, 0, 27)] σ (sF σ 9 0 27 0) := FrL_sF (by simp)
  have g0 : (sF σ 9 0 27 0).1 9 0 27 = nI 0 := by simp [sF_f, li0]
  generalize sF σ 9 0 27 0 = σ1 at f0 g0 ⊢
  refine mloop8 (σ := σ1) (fun σ2 z28 f2 => mloop32 (σ := σ2) (fun σ3 z29 f3 => ?_) 8 0 400 σ2 (by omega) (by omega) (fun i hi => absurd hi (by omega)) FrL.rf) 7 0 400 σ1 (by omega) (by omega) (fun i hi => absurd hi (by omega)) FrL.rf
  have fT : FrL (SM k) σ σ3 := (f0.mono (by simp)).tr ((f2.mono (by simp)).tr (f3.mono (by simp)))
  have nk : (9, 0, k) ∉ [(9, 0, 27), (9, 0, 28), (9, 0, 29)] := by rcases hk with q | q <;> subst q <;> decide
  have f123 : FrL [(9, 0, 27), (9, 0, 28), (9, 0, 29)] σ σ3 := (f0.mono (by simp)).tr ((f2.mono (by simp)).tr (f3.mono (by simp)))
  have HB : VM k σ3 who (hBeg s) := by
    obtain ⟨h1, h2, h3, h4, h5, h6, h7, h8⟩ := H
    refine ⟨?_, ?_, ?_, fun i hi => ?_, fun j hj => ?_, ?_, ?_, ?_⟩
    · rw [f123.a _ _ _ (by decide)]; exact h1
    · rw [f123.a _ _ _ nk]; exact h2
    · rw [f123.a _ _ _ nk]; exact h3
    · rw [f3.a _ _ _ (by decide), z28 i hi]; rfl
    · rw [z29 j hj]; rfl
    · rw [f123.f _ _ _ (by decide)]; exact h6
    · rw [f123.f _ _ _ (by decide)]; exact h7
    · rw [f3.f _ _ _ (by decide), f2.f _ _ _ (by decide), g0]; rfl
  have He3 := He.sm hk fT
  refine mloop56 (σ := σ3) hd hk hwo hw hh ok.beg HM.beg He3 (hS.sm hk fT) (by rw [f123.a _ _ _ (by decide)]; exact hwd) (fun σ4 H4 f4 => ?_) (n - 1) 0 400 σ3 (by omega) (by omega) HB FrL.rf
  have f34 := fT.tr f4
  exact mloop100 (σ := σ) hk hw hh n 0 400 σ4 (by omega) (by omega) H4 (He.sm hk f34) (fun p hp => by rw [f34.a _ _ _ (SM_E hk)]; exact hc p hp) (f34.mono SM_SH)
end HM5
