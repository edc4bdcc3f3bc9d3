theorem StrM_of {T : Nat → Nat} {len : Nat} {σ : AS} {ls : List LINE} (hb : len ≤ 120) (h1 : σ.1 9 0 18 = nI len) (hT : ∀ i, i < len → T i ≤ 255) (h2 : ∀ i, i < len → σ.2.1 9 0 17 i = nI (T i)) (hp : pText (tnx T len) len (PE (tnx T len)) = .ok ls) : StrM σ (StrL ls) := by
  refine Or.inr ⟨by rw [h1, li0]; exact nI_nlt (by omega) (by omega), fun σ1 v e1 e2 e3 => ?_⟩
  rw [h1]
  have he : EnvX T len v (sF (sF σ1 9 0 19 0) 9 0 21 (nI len)) := by
    refine ⟨hb, rfl, hT, Or.inr ⟨rfl, fun i hi => ?_⟩, e3⟩
    show σ1.2.1 9 0 17 i = _
    rw [e2]; exact h2 i hi
  refine wpO_mono (workOut_is (a0 := 0) he) (fun r σ2 w => ⟨?_, w.1⟩)
  have w2 := w.2
  rw [hp] at w2
  show clp r = clp (wk v ls)
  rw [w2.2]
