/-! the reference reads and works the law's text at once -/
section XM
variable {T : Nat → Nat} {len k : Nat} {e : Nat → Int32}
def SX : List (Nat × Nat × Nat) := [(9, 0, 20), (9, 0, 22), (9, 0, 23)]
def EnvX (T : Nat → Nat) (len : Nat) (e : Nat → Int32) (σ : AS) : Prop :=
  len ≤ 120 ∧ σ.1 9 0 21 = nI len ∧ (∀ i, i < len → T i ≤ 255) ∧ ((σ.1 9 0 19 < 0 ∧ ∀ i, i < len → σ.2.1 9 0 15 i = nI (T i)) ∨ (σ.1 9 0 19 = 0 ∧ ∀ i, i < len → σ.2.1 9 0 17 i = nI (T i))) ∧ ∀ j, j < 9 → σ.2.1 9 0 24 j = e j
theorem EnvX.fr {σ σ1 : AS} (h : EnvX T len e σ) (f : FrL SX σ σ1) : EnvX T len e σ1 := by
  obtain ⟨h1, h2, h3, h4, h5⟩ := h
  refine ⟨h1, ?_, h3, ?_, ?_⟩
  · rw [f.f 9 0 21 (by decide)]; exact h2
  · rw [f.f 9 0 19 (by decide), f.a 9 0 15 (by decide), f.a 9 0 17 (by decide)]; exact h4
  · rw [f.a 9 0 24 (by decide)]; exact h5
def RX (σ : AS) (len q k : Nat) : Prop := σ.1 9 0 20 = nI q ∧ q ≤ len ∧ σ.1 9 0 22 = -1 ∧ σ.1 9 0 23 = nI (6 - k) ∧ k ≤ 6
def RXF (σ : AS) (len p : Nat) : Prop := σ.1 9 0 22 = nI p ∧ p ≤ len ∧ ∃ q, q ≤ len ∧ σ.1 9 0 20 = nI q
def MX (σb : AS) (len k : Nat) (e : Nat → Int32) (res : Except Nat (Nat × CODE)) (r : Int32) (σ1 : AS) : Prop :=
  FrL SX σb σ1 ∧ match res with
    | .ok z => RX σ1 len z.1 k ∧ r = evc e z.2
    | .error p => RXF σ1 len p
def RdX (T : Nat → Nat) (len : Nat) (e : Nat → Int32) (k : Nat) (g : AS → Option (Int32 × AS)) (P : PRS) : Prop :=
  ∀ σ q, EnvX T len e σ → RX σ len q k → wpO (g σ) (fun r σ1 => MX σ len k e (P q) r σ1)
theorem byte_is {σ : AS} {q : Nat} (h : EnvX T len e σ) (hq : σ.1 9 0 20 = nI q) (hl : q ≤ len) : g_X9_byteAt σ = some (nI (tnx T len q), σ) := by
  obtain ⟨h1, h2, h3, h4, -⟩ := h
  unfold g_X9_byteAt tnx
  show (if σ.1 9 0 20 < σ.1 9 0 21 then (if σ.1 9 0 19 < 0 then (if inb (σ.1 9 0 20) 120 then some (gA σ 9 0 15 (σ.1 9 0 20), σ) else none) else (if inb (σ.1 9 0 19 + σ.1 9 0 20) 120 then some (gA σ 9 0 17 (σ.1 9 0 19 + σ.1 9 0 20), σ) else none)) else some (0, σ)) = _
  rw [hq, h2]
  by_cases c : q < len
  · rw [if_pos (nI_lt c (by omega)), if_pos c]
    rcases h4 with ⟨a, b⟩ | ⟨a, b⟩
    · rw [if_pos a, if_pos (inb_nI (by omega) (by omega)), gA_nI (by omega), b q c]
    · rw [a, if_neg (by decide), Int32.zero_add, if_pos (inb_nI (by omega) (by omega)), gA_nI (by omega), b q c]
  · rw [if_neg (nI_nlt (by omega) (by omega)), if_neg c]; rfl
theorem pl9 {σ : AS} {q : Nat} (h : σ.1 9 0 20 = nI q) : sF σ 9 0 20 (gF σ 9 0 20 + 1) = sF σ 9 0 20 (nI (q + 1)) := by
  unfold gF
  rw [h, nI_1]
theorem RX.go {σ : AS} {q q1 : Nat} (h : RX σ len q k) (h2 : q1 ≤ len) : RX (sF σ 9 0 20 (nI q1)) len q1 k :=
  ⟨by rw [sF_f]; rfl, h2, by rw [sF_f]; exact h.2.2.1, by rw [sF_f]; exact h.2.2.2.1, h.2.2.2.2⟩
theorem RX.lt {σ : AS} {q : Nat} (h : RX σ len q k) : gF σ 9 0 22 < 0 := by show σ.1 9 0 22 < 0; rw [h.2.2.1]; decide
theorem RXF.nlt {σ : AS} {p : Nat} (h : RXF σ len p) (hl : len ≤ 120) : ¬ gF σ 9 0 22 < 0 := by
  have h1 := h.1
  have h2 := h.2.1
  show ¬ σ.1 9 0 22 < 0
  rw [h1, li0]; exact nI_nlt (by omega) (by omega)
theorem wrong_is {σ : AS} {q : Nat} (h : RX σ len q k) : wpO (g_X9_wrong σ) (fun _ σ1 => RXF σ1 len q ∧ FrL SX σ σ1) := by
  unfold g_X9_wrong
  refine wpO_t h.lt (wpO_lt (wpO_some.mpr ⟨⟨?_, h.2.1, q, h.2.1, ?_⟩, FrL_sF (by decide)⟩))
  · rw [sF_f, if_pos ⟨rfl, rfl, rfl⟩]; exact h.1
  · rw [sF_f]; exact h.1
theorem wrong_f {σ : AS} {p : Nat} (h : RXF σ len p) (hl : len ≤ 120) : wpO (g_X9_wrong σ) (fun _ σ1 => RXF σ1 len p ∧ FrL SX σ σ1) := by
  unfold g_X9_wrong
  refine wpO_f (h.nlt hl) (wpO_lt (wpO_some.mpr ⟨⟨?_, h.2.1, ?_⟩, FrL_sF (by decide)⟩))
  · rw [sF_f, if_pos ⟨rfl, rfl, rfl⟩]; exact h.1
  · obtain ⟨q, a, b⟩ := h.2.2
    exact ⟨q, a, by rw [sF_f]; exact b⟩
theorem tnx_le (h : ∀ i, i < len → T i ≤ 255) (q : Nat) : tnx T len q ≤ 255 := by
  unfold tnx; split
  · exact h _ (by assumption)
  · omega
theorem takes_t {σ : AS} {q n : Nat} (he : EnvX T len e σ) (h : RX σ len q k) (c : tnx T len q = n) : g_X9_takes (nI n) σ = some (1, sF σ 9 0 20 (nI (q + 1))) := by
  unfold g_X9_takes
  rw [if_pos h.lt, byte_is he h.1 h.2.1, bnd_some, if_pos (by rw [c])]
  show some (1, sF σ 9 0 20 (gF σ 9 0 20 + 1)) = _
  rw [pl9 h.1]
theorem takes_n {σ : AS} {q n : Nat} (he : EnvX T len e σ) (h : RX σ len q k) (hn : n < 256) (c : tnx T len q ≠ n) : g_X9_takes (nI n) σ = some (0, σ) := by
  have h1 := tnx_le he.2.2.1 q
  unfold g_X9_takes
  rw [if_pos h.lt, byte_is he h.1 h.2.1, bnd_some, if_neg]
  exact fun z => c ((nI_eq (by omega) (by omega)).mp z)
theorem takes_f {σ : AS} {p : Nat} {a : Int32} (h : RXF σ len p) (hl : len ≤ 120) : g_X9_takes a σ = some (0, σ) := by
  unfold g_X9_takes
  rw [if_neg (h.nlt hl)]
/-- loops, all alike -/
theorem gl {t : Nat} {sub : AS → Option (Int32 × AS)} {P : PRS} {L : Nat → Int32 → AS → Option (Int32 × AS)} (hs : RdX T len e k sub P) (hg : Good len P)
    (H0 : ∀ f v σ q, EnvX T len e σ → RX σ len q k → tOf (tnx T len q) ≠ t + 1 → wpO (L (f + 1) v σ) (fun r σ1 => r = v ∧ RX σ1 len q k ∧ FrL SX σ σ1))
    (H1 : ∀ f v σ p, EnvX T len e σ → RXF σ len p → wpO (L (f + 1) v σ) (fun _ σ1 => RXF σ1 len p ∧ FrL SX σ σ1))
    (H2 : ∀ f v σ q (Q : Int32 → AS → Prop), EnvX T len e σ → RX σ len q k → tOf (tnx T len q) = t + 1 → wpO (sub (sF σ 9 0 20 (nI (q + 1)))) (fun r σ1 => FrL SX (sF σ 9 0 20 (nI (q + 1))) σ1 ∧ ((∃ q, RX σ1 len q k) ∨ ∃ p, RXF σ1 len p) ∧ wpO (L f (jn (tnx T len q) v r) σ1) Q) → wpO (L (f + 1) v σ) Q) :
    ∀ (n f q : Nat) (σb σ : AS) (cl : CODE), len ≤ q + n → n < f → EnvX T len e σ → FrL SX σb σ → RX σ len q k → IsE cl → wpO (L f (evc e cl) σ) (fun r σ1 => MX σb len k e (pLoop (tnx T len) t P n q cl) r σ1)
  | n, 0, q, σb, σ, cl, _, h, _, _, _, _ => absurd h (Nat.not_lt_zero _)
  | 0, f + 1, q, σb, σ, cl, hn, hf, he, fb, hr, hc => by
    have e0 : tnx T len q = 0 := by unfold tnx; rw [if_neg (by omega)]
    exact wpO_mono (H0 f _ σ q he hr (by rw [e0]; exact Nat.zero_ne_add_one t)) (fun r σ1 w => ⟨fb.tr w.2.2, w.2.1, w.1⟩)
  | n + 1, f + 1, q, σb, σ, cl, hn, hf, he, fb, hr, hc => by
    unfold pLoop
    by_cases ct : tOf (tnx T len q) = t + 1
    · rw [if_pos ct]
      have n0 : tnx T len q ≠ 0 := fun z => by rw [z] at ct; cases ct
      have hq : q < len := tnx_lt n0
      have f1 : FrL SX σ (sF σ 9 0 20 (nI (q + 1))) := FrL_sF (by decide)
      refine H2 f _ σ q _ he hr ct (wpO_mono (hs _ (q + 1) (he.fr f1) (hr.go (by omega))) (fun r σ1 w => ⟨w.1, ?_⟩))
      have w2 := w.2
      have f2 : FrL SX σ σ1 := f1.tr w.1
      cases ep : P (q + 1) with
      | error p =>
        rw [ep] at w2
        have w2 : RXF σ1 len p := w2
        cases f with
        | zero => omega
        | succ f =>
          exact ⟨Or.inr ⟨p, w2⟩, wpO_mono (H1 f _ σ1 p (he.fr f2) w2) (fun _ σ3 y => ⟨fb.tr (f2.tr y.2), y.1⟩)⟩
      | ok z =>
        rw [ep] at w2
        obtain ⟨a1, a2⟩ := w2
        obtain ⟨g1, g2, g3, g4⟩ := hg _ _ ep
        have b := IsE.bin hc g4 (op := tnx T len q) (by omega)
        refine ⟨Or.inl ⟨z.1, a1⟩, ?_⟩
        rw [a2, ← b.2 e]
        exact gl hs hg H0 H1 H2 n f z.1 σb σ1 _ (by omega) (by omega) (he.fr f2) (fb.tr f2) a1 b.1
    · rw [if_neg ct]
      exact wpO_mono (H0 f _ σ q he hr ct) (fun r σ1 w => ⟨fb.tr w.2.2, w.2.1, w.1⟩)
/-- a level by its loop -/
theorem gLev {t : Nat} (ht : t ≠ 2) {sub : AS → Option (Int32 × AS)} {P : PRS} {L : Nat → Int32 → AS → Option (Int32 × AS)} (hs : RdX T len e k sub P) (hg : Good len P)
    (H0 : ∀ f v σ q, EnvX T len e σ → RX σ len q k → tOf (tnx T len q) ≠ t + 1 → wpO (L (f + 1) v σ) (fun r σ1 => r = v ∧ RX σ1 len q k ∧ FrL SX σ σ1))
    (H1 : ∀ f v σ p, EnvX T len e σ → RXF σ len p → wpO (L (f + 1) v σ) (fun _ σ1 => RXF σ1 len p ∧ FrL SX σ σ1))
    (H2 : ∀ f v σ q (Q : Int32 → AS → Prop), EnvX T len e σ → RX σ len q k → tOf (tnx T len q) = t + 1 → wpO (sub (sF σ 9 0 20 (nI (q + 1)))) (fun r σ1 => FrL SX (sF σ 9 0 20 (nI (q + 1))) σ1 ∧ ((∃ q, RX σ1 len q k) ∨ ∃ p, RXF σ1 len p) ∧ wpO (L f (jn (tnx T len q) v r) σ1) Q) → wpO (L (f + 1) v σ) Q) :
    RdX T len e k (fun σ => bnd (sub σ) fun r1 σ2 => L 400 r1 σ2) (pLev (tnx T len) t P) := by
  intro σ q he hr
  refine wpO_b (hs σ q he hr) (fun r σ1 w => ?_)
  have w2 := w.2
  have hb := he.1
  unfold pLev
  rw [if_neg ht]
  cases ep : P q with
  | error p =>
    rw [ep] at w2
    exact wpO_mono (H1 399 r σ1 p (he.fr w.1) w2) (fun _ σ3 y => ⟨w.1.tr y.2, y.1⟩)
  | ok z =>
    rw [ep] at w2
    obtain ⟨a1, a2⟩ := w2
    obtain ⟨g1, g2, g3, g4⟩ := hg _ _ ep
    rw [a2]
    exact gl hs hg H0 H1 H2 120 400 z.1 σ σ1 z.2 (by omega) (by omega) (he.fr w.1) w.1 a1 g4
end XM
