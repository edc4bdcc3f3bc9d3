section HC6
variable {nx cg : Int32 → Int32} {o : Nat} {σ : AS} {wd who : Nat → Nat} {h n : Nat} {s : HS} {tr way : Nat → Nat → Int32} {Str : (Nat → Int32) → Int32}
theorem OKH.rests (hk : OKH wd s) : ∀ m, OKH wd (hRests nx cg tr way Str n wd who h m s)
  | 0 => hk
  | m + 1 => (OKH.rests hk m).rest
theorem OKH.beg (hk : OKH wd s) : OKH wd (hBeg s) := hk
theorem OKH.step {X : HX} (hk : OKH wd X.1) : OKH wd (hStep nx cg tr way Str n wd who h X).1 := hk.beg.rests _
theorem OKH.hours : ∀ (m h : Nat) (X : HX), OKH wd X.1 → OKH wd (hHours nx cg tr way Str n wd who m h X).1
  | 0, _, _, hk => hk
  | m + 1, h, X, hk => OKH.hours m (h + 1) _ hk.step
theorem HM.leaveL {i : Nat} (hk : hm s ≤ 1) : hm (hLeaveL i s) ≤ 1 := by unfold hLeaveL; split; exact hk; exact Nat.le_refl 1
theorem HM.leaveR {i : Nat} (hk : hm s ≤ 1) : hm (hLeaveR i s) ≤ 1 := by unfold hLeaveR; split; exact hk; exact Nat.le_refl 1
theorem HM.takeL {i : Nat} (hk : hm s ≤ 1) : hm (hTakeL wd i s) ≤ 1 := by unfold hTakeL; split; exact Nat.le_refl 1; exact hk
theorem HM.takeR {i : Nat} (hk : hm s ≤ 1) : hm (hTakeR wd i s) ≤ 1 := by unfold hTakeR; split; exact Nat.le_refl 1; exact hk
theorem HM.wrestL {i : Nat} {d : Int32} (hk : hm s ≤ 1) : hm (hWrestL tr who i d s) ≤ 1 := by unfold hWrestL; split; exact Nat.le_refl 1; exact hk
theorem HM.wrestR {i : Nat} {d : Int32} (hk : hm s ≤ 1) : hm (hWrestR tr who i d s) ≤ 1 := by unfold hWrestR; split; exact Nat.le_refl 1; exact hk
theorem HM.z {z : Int32} (hk : hm s ≤ 1) : hm (hZ z s) ≤ 1 := hk
theorem HM.push {i : Nat} (hk : hm s ≤ 1) : hm (hPush nx cg tr way Str n wd who h i s) ≤ 1 := by
  unfold hPush
  obtain ⟨z1, hz1⟩ : ∃ z, z = nx (hz s) := ⟨_, rfl⟩
  obtain ⟨z2, hz2⟩ : ∃ z, z = nx z1 := ⟨_, rfl⟩
  dsimp only
  rw [← hz1, ← hz2]
  have hk2 : hm (hZ z2 s) ≤ 1 := HM.z hk
  split
  · split
    · exact HM.takeL hk2
    · exact HM.wrestL hk2
  · split
    · split
      · exact HM.takeR hk2
      · exact HM.wrestR hk2
    · exact hk2
theorem HM.rest {i : Nat} (hk : hm s ≤ 1) : hm (hRest nx cg tr way Str n wd who h i s) ≤ 1 := by
  unfold hRest
  dsimp only
  generalize thr (way (who i) h) = a
  generalize thr (way (who (i + 1)) h) = b
  cases a <;> cases b
  · exact HM.leaveR (HM.leaveL hk)
  · exact HM.takeR (HM.leaveL hk)
  · exact HM.takeL (HM.leaveR hk)
  · exact HM.push hk
theorem HM.rests (hk : hm s ≤ 1) : ∀ m, hm (hRests nx cg tr way Str n wd who h m s) ≤ 1
  | 0 => hk
  | m + 1 => HM.rest (HM.rests hk m)
theorem HM.beg : hm (hBeg s) ≤ 1 := Nat.zero_le 1
/-- the rests' loop -/
theorem loop39 {k2 : Int32 → Int32 → AS → Option (Unit × AS)} {v1 v2 : Int32} {Q : Unit → AS → Prop} (hd : DrawIs nx cg) (hw : ∀ j, j < n → who j < n) (hh : h < 24) (hk0 : OKH wd s)
    (hk : ∀ σ1, VC o σ1 wd who h (hRests nx cg tr way Str n wd who h (n - 1) s) → FrL (SC o) σ σ1 → wpO (g_X1_passHours_63 o k2 400 v1 v2 0 σ1) Q) (He : EnvC σ n tr way) (hS : StrC σ Str) :
    ∀ (d i f : Nat) (σ1 : AS), i + d = n - 1 → d < f → VC o σ1 wd who h (hRests nx cg tr way Str n wd who h i s) → FrL (SC o) σ σ1 → wpO (g_X1_passHours_39 o k2 f v1 v2 (nI i) σ1) Q := by
  have hb := He.2.1
  intro d
  induction d with
  | zero =>
    intro i f σ1 hi hf H fr
    obtain ⟨f, rfl⟩ : ∃ g, f = g + 1 := ⟨f - 1, by omega⟩
    have e : i = n - 1 := by omega
    subst e
    rw [g_X1_passHours_39]
    refine wpO_e (rests_eq (He.fr fr (by simp) (by simp) (by simp)).1 hb) ?_
    exact wpO_f (nI_nlt (Nat.le_refl _) (by omega)) (hk σ1 H fr)
  | succ d ih =>
    intro i f σ1 hi hf H fr
    obtain ⟨f, rfl⟩ : ∃ g, f = g + 1 := ⟨f - 1, by omega⟩
    have He1 := He.fr fr (by simp) (by simp) (by simp)
    rw [g_X1_passHours_39]
    refine wpO_e (rests_eq He1.1 hb) ?_
    refine wpO_t (nI_lt (by omega) (by omega)) (wpO_b (meetC hd He1 H (hk0.rests i) hw (by omega) hh (hS.fr fr (by simp) (by simp) (by simp))) (fun _ σ2 q => ?_))
    rw [nI_1]
    exact ih (i + 1) f σ2 (by omega) (by omega) q.1 (fr.tr q.2)
theorem SC_SP : ∀ q ∈ SC o, q ∈ SP o := fun q hq => List.mem_append_right _ hq
/-- the hours' loop -/
theorem loop2 {v1 m : Nat} (hv : v1 = m) (hv2 : v1 ≤ 24) (hd : DrawIs nx cg) (hw : ∀ j, j < n → who j < n) :
    ∀ (d k h f : Nat) (σ1 : AS) (X : HX), k + d = v1 → h + d ≤ 24 → d < f → XC o σ1 wd who h X → OKH wd X.1 → EnvC σ1 n tr way → StrC σ1 Str →
      wpO (g_X1_passHours_2 o f (nI v1) (nI k) σ1) (fun _ σ2 => XC o σ2 wd who (h + d) (hHours nx cg tr way Str n wd who d h X) ∧ FrL (SP o) σ1 σ2) := by
  intro d
  induction d with
  | zero =>
    intro k h f σ1 X hk hh hf H ok He hS
    obtain ⟨f, rfl⟩ : ∃ g, f = g + 1 := ⟨f - 1, by omega⟩
    have e : k = v1 := by omega
    subst e
    rw [g_X1_passHours_2]
    exact wpO_f (nI_nlt (Nat.le_refl _) (by omega)) (wpO_some.mpr ⟨H, FrL.rf⟩)
  | succ d ih =>
    intro k h f σ1 X hk hh hf H ok He hS
    obtain ⟨f, rfl⟩ : ∃ g, f = g + 1 := ⟨f - 1, by omega⟩
    have hb := He.2.1
    obtain ⟨HV, H6, H7, H14⟩ := H
    have en : gF σ1 1 o 11 = nI h := HV.2.2.2.2.2.2.2.2.2
    rw [g_X1_passHours_2]
    refine wpO_t (nI_lt (by omega) (by omega)) (wpO_t ?_ ?_)
    · rw [en, li24]; exact nI_lt (by omega) (by omega)
    · refine wpO_lt (wpO_lt (wpO_lt ?_))
      have f3 : FrL (SC o) σ1 (sF (filA (filA σ1 1 o 5 7 0) 1 o 9 8 0) 1 o 10 0) := ((FrL_sA (by simp)).tr (FrL_sA (by simp))).tr (FrL_sF (by simp))
      have HB : VC o (sF (filA (filA σ1 1 o 5 7 0) 1 o 9 8 0) 1 o 10 0) wd who h (hBeg X.1) := by
        obtain ⟨h1, h2, h3, h4, h5, h6, h7, h8, h9, h10⟩ := HV
        refine ⟨fun j hj => ?_, fun j hj => ?_, fun j hj => ?_, fun j hj => ?_, fun j hj => ?_, fun j hj => ?_, ?_, ?_, ?_, ?_⟩
        · simpa [sF_a, sAf_a] using h1 j hj
        · simpa [sF_a, sAf_a] using h2 j hj
        · simpa [sF_a, sAf_a, hBeg, hL] using h3 j hj
        · simpa [sF_a, sAf_a, hBeg, hR] using h4 j hj
        · simp [sF_a, sAf_a, hBeg, hF, hj, li0]
        · simp [sF_a, sAf_a, hBeg, hO, hj, li0]
        · simpa [sF_f, sAf_f, hBeg, hz] using h7
        · simpa [sF_f, sAf_f, hBeg, hc] using h8
        · simp [sF_f, hBeg, hm, li0]
        · simpa [sF_f, sAf_f] using h10
      generalize sF (filA (filA σ1 1 o 5 7 0) 1 o 9 8 0) 1 o 10 0 = σ5 at f3 HB ⊢
      have He5 := He.fr f3 (by simp) (by simp) (by simp)
      have hS5 := hS.fr f3 (by simp) (by simp) (by simp)
      refine loop39 hd hw (show h < 24 by omega) ok.beg (fun σ6 H6' f6 => ?_) He5 hS5 (n - 1) 0 400 σ5 (by omega) (by omega) HB FrL.rf
      have f36 := f3.tr f6
      have He6 := He.fr f36 (by simp) (by simp) (by simp)
      refine loop63 (σ := σ1) (cm0 := X.2.1) (yl0 := X.2.2.1) (q := X.2.2.2) hw (show h < 24 by omega) hb (fun σ7 G1 G2 G3 G4 G5 G6 => ?_) n 0 400 σ6 (by omega) (by omega) H6' He6 (fun p hp => ?_) (fun p hp => ?_) ?_ (f36.mono SC_SP)
      · -- behind the seats: NOW, and whether an inch moved
        refine wpO_lt ?_
        have e11 : gF σ7 1 o 11 + 1 = nI (h + 1) := by rw [show gF σ7 1 o 11 = nI h from G1.2.2.2.2.2.2.2.2.2]; exact nI_1 h
        rw [e11]
        have f8 : FrL [(1, o, 11)] σ7 (sF σ7 1 o 11 (nI (h + 1))) := FrL_sF (by simp)
        have V8 : VC o (sF σ7 1 o 11 (nI (h + 1))) wd who (h + 1) (hRests nx cg tr way Str n wd who h (n - 1) (hBeg X.1)) := by
          obtain ⟨h1, h2, h3, h4, h5, h6, h7, h8, h9, h10⟩ := G1
          exact ⟨h1, h2, h3, h4, h5, h6, by simpa [sF_f] using h7, by simpa [sF_f] using h8, by simpa [sF_f] using h9, by simp [sF_f]⟩
        have g6 : ∀ p, p < 8 → (sF σ7 1 o 11 (nI (h + 1))).2.1 1 o 6 p = cmN who (cmf tr way n who h (hRests nx cg tr way Str n wd who h (n - 1) (hBeg X.1))) X.2.1 n p := G3
        have g7 : ∀ p, p < 8 → (sF σ7 1 o 11 (nI (h + 1))).2.1 1 o 7 p = cmN who (fun j => nI (hO (hRests nx cg tr way Str n wd who h (n - 1) (hBeg X.1)) j)) X.2.2.1 n p := G4
        have g14 : (sF σ7 1 o 11 (nI (h + 1))).1 1 o 14 = X.2.2.2 := by rw [f8.f _ _ _ (by simp)]; exact G5
        generalize sF σ7 1 o 11 (nI (h + 1)) = σ8 at f8 V8 g6 g7 g14 ⊢
        have f18 : FrL (SP o) σ1 σ8 := G6.tr (f8.mono (by simp))
        have e10 : gF σ8 1 o 10 = nI (hm (hRests nx cg tr way Str n wd who h (n - 1) (hBeg X.1))) := V8.2.2.2.2.2.2.2.2.1
        have go : ∀ (σ9 : AS), XC o σ9 wd who (h + 1) (hStep nx cg tr way Str n wd who h X) → FrL (SP o) σ1 σ9 → wpO (g_X1_passHours_2 o f (nI v1) (nI k + 1) σ9) (fun _ σ2 => XC o σ2 wd who (h + (d + 1)) (hHours nx cg tr way Str n wd who (d + 1) h X) ∧ FrL (SP o) σ1 σ2) := by
          intro σ9 X9 f9
          rw [nI_1]
          refine wpO_mono (ih (k + 1) (h + 1) f σ9 _ (by omega) (by omega) (by omega) X9 ok.step (He.fr f9 (by simp) (by simp) (by simp)) (hS.fr f9 (by simp) (by simp) (by simp))) (fun _ σ2 q => ⟨?_, f9.tr q.2⟩)
          have e : h + (d + 1) = h + 1 + d := by omega
          rw [e]
          exact q.1
        have hm1 : hm (hRests nx cg tr way Str n wd who h (n - 1) (hBeg X.1)) ≤ 1 := HM.rests HM.beg _
        by_cases cm : hm (hRests nx cg tr way Str n wd who h (n - 1) (hBeg X.1)) = 0
        · refine wpO_t (by rw [e10, cm]; rfl) (go σ8 ⟨V8, g6, g7, ?_⟩ f18)
          show σ8.1 1 o 14 = if hm (hRests nx cg tr way Str n wd who h (n - 1) (hBeg X.1)) = 0 then X.2.2.2 else nI (h + 1)
          rw [if_pos cm]; exact g14
        · refine wpO_f (by rw [e10]; exact fun z => cm ((nI_eq0 (by omega)).mp z)) (wpO_lt ?_)
          rw [show gF σ8 1 o 11 = nI (h + 1) from V8.2.2.2.2.2.2.2.2.2]
          have f9 : FrL [(1, o, 14)] σ8 (sF σ8 1 o 14 (nI (h + 1))) := FrL_sF (by simp)
          refine go _ ⟨V8.fr f9 (by intro k hk; simp at hk ⊢; omega), g6, g7, ?_⟩ (f18.tr (f9.mono (by simp)))
          show (sF σ8 1 o 14 (nI (h + 1))).1 1 o 14 = if hm (hRests nx cg tr way Str n wd who h (n - 1) (hBeg X.1)) = 0 then X.2.2.2 else nI (h + 1)
          rw [if_neg cm]; simp [sF_f]
      · rw [f36.a _ _ _ (by simp)]; exact H6 p hp
      · rw [f36.a _ _ _ (by simp)]; exact H7 p hp
      · rw [f36.f _ _ _ (by simp)]; exact H14
/-- THE CLASS'S HOURS -/
theorem passC {m : Nat} {X : HX} (hd : DrawIs nx cg) (hw : ∀ j, j < n → who j < n) (hm : h + m ≤ 24) (H : XC o σ wd who h X) (ok : OKH wd X.1) (He : EnvC σ n tr way) (hS : StrC σ Str) :
    wpO (g_X1_passHours o (nI m) σ) (fun _ σ2 => XC o σ2 wd who (h + m) (hHours nx cg tr way Str n wd who m h X) ∧ FrL (SP o) σ σ2) := by
  unfold g_X1_passHours
  exact loop2 (v1 := m) (m := m) rfl (by omega) hd hw m 0 h 400 σ X (by omega) hm (by omega) H ok He hS
end HC6
