/-! inches keep their room -/
section HOK
variable {nx cg : Int32 → Int32} {wd who : Nat → Nat} {h n i : Nat} {s : HS} {tr way : Nat → Nat → Int32} {Str : (Nat → Int32) → Int32}
theorem OKH.leaveL (hk : OKH wd s) : OKH wd (hLeaveL i s) := by
  unfold hLeaveL
  split
  · exact hk
  · refine ⟨fun j hj => ?_, hk.2⟩
    have := hk.1 j hj
    show uN (hL s) i 0 j + hR s j ≤ wd j
    unfold uN; split <;> omega
theorem OKH.leaveR (hk : OKH wd s) : OKH wd (hLeaveR i s) := by
  unfold hLeaveR
  split
  · exact hk
  · refine ⟨fun j hj => ?_, hk.2⟩
    have := hk.1 j hj
    show hL s j + uN (hR s) i 0 j ≤ wd j
    unfold uN; split <;> omega
theorem OKH.takeL (hk : OKH wd s) : OKH wd (hTakeL wd i s) := by
  unfold hTakeL
  split
  · rename_i c
    refine ⟨fun j hj => ?_, hk.2⟩
    have := hk.1 j hj
    show uN (hL s) i (hL s i + 1) j + hR s j ≤ wd j
    unfold uN; split
    · rename_i e; subst e; omega
    · omega
  · exact hk
theorem OKH.takeR (hk : OKH wd s) : OKH wd (hTakeR wd i s) := by
  unfold hTakeR
  split
  · rename_i c
    refine ⟨fun j hj => ?_, hk.2⟩
    have := hk.1 j hj
    show hL s j + uN (hR s) i (hR s i + 1) j ≤ wd j
    unfold uN; split
    · rename_i e; subst e; omega
    · omega
  · exact hk
theorem OKH.wrestL {d : Int32} (hk : OKH wd s) : OKH wd (hWrestL tr who i d s) := by
  unfold hWrestL
  split
  · rename_i c
    have c1 := c.1
    refine ⟨fun j hj => ?_, hk.2⟩
    have := hk.1 j hj
    show uN (hL s) i (hL s i + 1) j + uN (hR s) i (hR s i - 1) j ≤ wd j
    unfold uN; split
    · rename_i e; subst e; omega
    · omega
  · exact hk
theorem OKH.wrestR {d : Int32} (hk : OKH wd s) : OKH wd (hWrestR tr who i d s) := by
  unfold hWrestR
  split
  · rename_i c
    have c1 := c.1
    refine ⟨fun j hj => ?_, hk.2⟩
    have := hk.1 j hj
    show uN (hL s) i (hL s i - 1) j + uN (hR s) i (hR s i + 1) j ≤ wd j
    unfold uN; split
    · rename_i e; subst e; omega
    · omega
  · exact hk
theorem OKH.push (hk : OKH wd s) : OKH wd (hPush nx cg tr way Str n wd who h i s) := by
  unfold hPush
  obtain ⟨z1, hz1⟩ : ∃ z, z = nx (hz s) := ⟨_, rfl⟩
  obtain ⟨z2, hz2⟩ : ∃ z, z = nx z1 := ⟨_, rfl⟩
  dsimp only
  rw [← hz1, ← hz2]
  have hk2 : OKH wd (hZ z2 s) := hk.z
  split
  · split
    · exact hk2.takeL
    · exact hk2.wrestL
  · split
    · split
      · exact hk2.takeR
      · exact hk2.wrestR
    · exact hk2
theorem OKH.rest (hk : OKH wd s) : OKH wd (hRest nx cg tr way Str n wd who h i s) := by
  unfold hRest
  dsimp only
  generalize thr (way (who i) h) = a
  generalize thr (way (who (i + 1)) h) = b
  cases a <;> cases b
  · exact hk.leaveL.leaveR
  · exact hk.leaveL.takeR
  · exact hk.leaveR.takeL
  · exact hk.push
end HOK
section HC4
variable {o : Nat} {σ : AS} {wd who : Nat → Nat} {h n : Nat} {s : HS} {tr way : Nat → Nat → Int32} {Str : (Nat → Int32) → Int32}
theorem meetC {nx cg : Int32 → Int32} {i : Nat} (hd : DrawIs nx cg) (He : EnvC σ n tr way) (H : VC o σ wd who h s) (hk : OKH wd s) (hw : ∀ j, j < n → who j < n) (hi : i + 1 < n) (hh : h < 24) (hS : StrC σ Str) :
    wpO (g_X1_meet o (nI i) σ) (fun _ σ1 => VC o σ1 wd who h (hRest nx cg tr way Str n wd who h i s) ∧ FrL (SC o) σ σ1) := by
  have hb := He.2.1
  have i7 : i < 7 := by omega
  have ei : nI i + 1 = nI (i + 1) := nI_1 i
  have en : gF σ 1 o 11 = nI h := H.2.2.2.2.2.2.2.2.2
  unfold g_X1_meet
  refine wpO_t (inb_nI (show i < 8 by omega) (by omega)) ?_
  rw [gA_nI (by omega), H.1 i (by omega), en, ei]
  refine wpO_e (isThere_eq He.1 hb (hw i (by omega)) hh) ?_
  refine wpO_t (inb_nI (show i + 1 < 8 by omega) (by omega)) ?_
  rw [gA_nI (by omega), H.1 (i + 1) (by omega), en]
  refine wpO_e (isThere_eq He.1 hb (hw (i + 1) hi) hh) ?_
  rw [He.2.2.2 _ h (hw i (by omega)) hh, He.2.2.2 _ h (hw (i + 1) hi) hh]
  unfold hRest
  dsimp only
  generalize thr (way (who i) h) = a
  generalize thr (way (who (i + 1)) h) = b
  -- behind the leavings
  have last : ∀ (σ2 : AS) (s2 : HS), VC o σ2 wd who h s2 → OKH wd s2 → FrL (SC o) σ σ2 → wpO (g_X1_meet_64 o (nI i) (if a = true then 1 else 0) (if b = true then 1 else 0) σ2) (fun _ σ1 => VC o σ1 wd who h (if a = true then (if b = true then hPush nx cg tr way Str n wd who h i s2 else hTakeL wd i s2) else (if b = true then hTakeR wd i s2 else s2)) ∧ FrL (SC o) σ σ1) := by
    intro σ2 s2 H2 k2 f2
    unfold g_X1_meet_64 g_X1_meet_80
    cases a <;> cases b
    · exact wpO_t rfl (wpO_t rfl (wpO_t rfl (wpO_some.mpr ⟨H2, f2⟩)))
    · exact wpO_t rfl (wpO_t rfl (wpO_f one_ne (wpO_b (takeFreeR H2 k2 i7) (fun _ _ q => wpO_some.mpr ⟨q.2.1, f2.tr q.2.2⟩))))
    · exact wpO_f one_ne (wpO_t rfl (wpO_f one_ne (wpO_b (takeFreeL H2 k2 i7) (fun _ _ q => wpO_some.mpr ⟨q.2.1, f2.tr q.2.2⟩))))
    · exact wpO_f one_ne (wpO_f one_ne (nrm (wpO_mono (contendC hd (He.fr f2 (by simp) (by simp) (by simp)) H2 k2 hw hi hh (hS.fr f2 (by simp) (by simp) (by simp))) (fun _ _ q => ⟨q.1, f2.tr q.2⟩))))
  have mid : ∀ (σ2 : AS) (s2 : HS), VC o σ2 wd who h s2 → OKH wd s2 → FrL (SC o) σ σ2 → wpO (g_X1_meet_51 o (nI i) (if a = true then 1 else 0) (if b = true then 1 else 0) σ2) (fun _ σ1 => VC o σ1 wd who h (if a = true then (if b = true then hPush nx cg tr way Str n wd who h i (if b = true then s2 else hLeaveR i s2) else hTakeL wd i (if b = true then s2 else hLeaveR i s2)) else (if b = true then hTakeR wd i (if b = true then s2 else hLeaveR i s2) else (if b = true then s2 else hLeaveR i s2))) ∧ FrL (SC o) σ σ1) := by
    intro σ2 s2 H2 k2 f2
    unfold g_X1_meet_51
    cases b
    · exact wpO_t rfl (wpO_b (leaveCR H2 k2 i7) (fun _ σ3 q => last σ3 _ q.1 k2.leaveR (f2.tr q.2)))
    · exact wpO_f one_ne (last σ2 s2 H2 k2 f2)
  cases a
  · exact wpO_t rfl (wpO_b (leaveCL H hk i7) (fun _ σ3 q => mid σ3 _ q.1 hk.leaveL q.2))
  · exact wpO_f one_ne (mid σ s H hk FrL.rf)
end HC4
