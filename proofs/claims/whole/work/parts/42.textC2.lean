section TC2
variable {T : Nat → Nat} {len : Nat}
def MRd (σb : AS) (len : Nat) (c0 : CODE) (res : Except Nat (Nat × CODE)) (σ1 : AS) : Prop :=
  FrL ST σb σ1 ∧ match res with
    | .ok r => RS σ1 len r.1 (c0 ++ r.2)
    | .error p => RF σ1 len p
def RdOK (T : Nat → Nat) (len : Nat) (g : AS → Option (Unit × AS)) (P : PRS) : Prop :=
  ∀ σ q c, EnvT T len σ → RS σ len q c → wpO (g σ) (fun _ σ1 => MRd σ len c (P q) σ1)
def RdF (T : Nat → Nat) (len : Nat) (g : AS → Option (Unit × AS)) : Prop :=
  ∀ σ p, EnvT T len σ → RF σ len p → wpO (g σ) (fun _ σ1 => FrL ST σ σ1 ∧ RF σ1 len p)
theorem nxI_nI {q : Nat} (h : tnx T len q ≠ 0) : nxI T len q = nI (tnx T len q) := by
  have := tnx_lt h
  unfold nxI tnx
  rw [if_pos this, if_pos this]
theorem num_is : ∀ (k f v q : Nat) (σ : AS) (c : CODE), k ≤ 4 → k < f → EnvT T len σ → RS σ len q c → c.length + 1 ≤ (pNum (tnx T len) k v q).1 →
    wpO (g_X7_readNumber_4 f (nI v) (nI (4 - k)) σ) (fun _ σ1 => FrL ST σ σ1 ∧ RS σ1 len (pNum (tnx T len) k v q).1 (c ++ [(35, (pNum (tnx T len) k v q).2)]))
  | k, 0, v, q, σ, c, _, h, _, _, _ => absurd h (Nat.not_lt_zero k)
  | 0, f + 1, v, q, σ, c, _, _, he, hs, hr => by
    unfold g_X7_readNumber_4
    refine wpO_f (by decide) ?_
    unfold g_X7_readNumber_52
    refine wpO_b (RS.add (s := 35) (v := v) hs he.1 hr) (fun _ σ1 w => wpO_some.mpr ⟨w.2, w.1⟩)
  | k + 1, f + 1, v, q, σ, c, hk, hf, he, hs, hr => by
    have hb := he.1
    unfold g_X7_readNumber_4
    refine wpO_t (by rw [li4]; exact nI_lt (by omega) (by omega)) ?_
    refine wpO_e (next_is he hs.1 hs.2.2.2.2) (wpO_e dig_is ?_)
    rw [dgI_eq he.le]
    unfold pNum at hr ⊢
    by_cases c1 : isDg (tnx T len q) = true
    · rw [if_pos c1] at hr ⊢
      rw [if_pos c1]
      have h9 : 48 ≤ tnx T len q ∧ tnx T len q ≤ 57 := by
        unfold isDg at c1
        simp only [Bool.and_eq_true, Nat.ble_eq] at c1
        exact c1
      have n0 : tnx T len q ≠ 0 := by omega
      have hq : q < len := tnx_lt n0
      refine wpO_f one_ne (wpO_e (next_is he hs.1 hs.2.2.2.2) (wpO_lt (wpO_lt ?_)))
      rw [pl1 hs.1, nxI_nI (by omega)]
      have e1 : (10 : Int32) * nI v + nI (tnx T len q) - 48 = nI (10 * v + (tnx T len q - 48)) := by
        rw [li10, pk_mul, nI_add, show (48 : Int32) = nI 48 from rfl, pk_sub (by omega)]
        congr 1; omega
      have e2 : nI (4 - (k + 1)) + 1 = nI (4 - k) := by rw [nI_1]; congr 1; omega
      rw [e1, e2]
      have f1 : FrL ST σ (sF σ 7 0 2 (nI (q + 1))) := FrL_sF (by decide)
      exact wpO_mono (num_is k f _ (q + 1) _ c (by omega) (by omega) (he.fr f1) (hs.go (by omega) (by omega)) hr) (fun _ _ w => ⟨f1.tr w.1, w.2⟩)
    · rw [if_neg c1] at hr ⊢
      rw [if_neg c1]
      refine wpO_t rfl ?_
      unfold g_X7_readNumber_52
      refine wpO_b (RS.add (s := 35) (v := v) hs he.1 hr) (fun _ σ1 w => wpO_some.mpr ⟨w.2, w.1⟩)
theorem loop_is {rc : GT1} {t o : Nat} {P : PRS} {m : Nat} (ht : t ≤ 4) (hm : m ≤ 120) (hs : RdOK T len (rc.1 (nI (t + 1)) (nI o)) P) (hg : Good len P) :
    ∀ (n f q : Nat) (σb σ : AS) (c0 cl : CODE), n ≤ m → n < f → EnvT T len σ → FrL ST σb σ → RS σ len q (c0 ++ cl) →
    wpO (g_X7_readPart_37 rc f (nI t) (nI o) (nI m) (nI (m - n)) σ) (fun _ σ1 => MRd σb len c0 (pLoop (tnx T len) t P n q cl) σ1)
  | n, 0, q, σb, σ, c0, cl, _, h, _, _, _ => absurd h (Nat.not_lt_zero n)
  | 0, f + 1, q, σb, σ, c0, cl, hn, hf, he, fb, hr => by
    unfold g_X7_readPart_37
    exact wpO_f (nI_nlt (by omega) (by omega)) (wpO_some.mpr ⟨fb, hr⟩)
  | n + 1, f + 1, q, σb, σ, c0, cl, hn, hf, he, fb, hr => by
    have hb := he.1
    unfold g_X7_readPart_37
    refine wpO_t (nI_lt (by omega) (by omega)) (wpO_t (by show σ.1 7 0 3 < 0; rw [hr.2.1]; decide) ?_)
    refine wpO_e (next_is he hr.1 hr.2.2.2.2) (wpO_e tg_is ?_)
    rw [tgI_eq he.le]
    have et : (nI (tOf (tnx T len q)) - 1 = nI t) ↔ tOf (tnx T len q) = t + 1 := by
      have hl : tOf (tnx T len q) ≤ 5 := by unfold tOf; repeat' split
                                            all_goals omega
      generalize tOf (tnx T len q) = z at hl
      match z, hl with
      | 0, _ => exact ⟨fun e => absurd e (n1_ne (by omega)), fun e => absurd e (by omega)⟩
      | z + 1, _ => 
        rw [li1, pk_sub (by omega), nI_eq (by omega) (by omega)]
        omega
    unfold pLoop
    by_cases ct : tOf (tnx T len q) = t + 1
    · rw [if_pos ct]
      have n0 : tnx T len q ≠ 0 := fun z => by rw [z] at ct; cases ct
      have hq : q < len := tnx_lt n0
      refine wpO_t (et.mpr ct) (wpO_e (next_is he hr.1 hr.2.2.2.2) (wpO_lt ?_))
      rw [pl1 hr.1, nI_1]
      have f1 : FrL ST σ (sF σ 7 0 2 (nI (q + 1))) := FrL_sF (by decide)
      refine wpO_b (hs _ (q + 1) (c0 ++ cl) (he.fr f1) (hr.go (by omega) (by omega))) (fun _ σ2 w => ?_)
      have f2 : FrL ST σ σ2 := f1.tr w.1
      have w2 := w.2
      rw [nxI_nI n0, li0]
      cases e : P (q + 1) with
      | error p =>
        rw [e] at w2
        refine wpO_b (RF.add w2) (fun _ σ3 w3 => ?_)
        have f3 := f2.tr w3.2
        have e2 : nI (m - (n + 1)) + 1 = nI (m - n) := by rw [nI_1]; congr 1; omega
        rw [e2]
        cases f with
        | zero => omega
        | succ f =>
          unfold g_X7_readPart_37
          refine wpO_if (fun _ => wpO_f (w3.1.nlt hb) (wpO_some.mpr ⟨fb.tr f3, w3.1⟩)) (fun _ => wpO_some.mpr ⟨fb.tr f3, w3.1⟩)
      | ok r =>
        rw [e] at w2
        have g := hg _ _ e
        have hl : (c0 ++ cl).length ≤ q := hr.2.2.2.1
        have w2 : RS σ2 len r.1 (c0 ++ cl ++ r.2) := w2
        refine wpO_b (w2.add (s := tnx T len q) (v := 0) hb (by rw [List.length_append]; omega)) (fun _ σ3 w3 => ?_)
        have f3 := f2.tr w3.2
        have e2 : nI (m - (n + 1)) + 1 = nI (m - n) := by rw [nI_1]; congr 1; omega
        rw [e2]
        have w4 := w3.1
        rw [List.append_assoc, List.append_assoc, ← List.append_assoc cl] at w4
        exact loop_is ht hm hs hg n f r.1 σb σ3 c0 (cl ++ r.2 ++ [(tnx T len q, 0)]) (by omega) (by omega) (he.fr f3) (fb.tr f3) w4
    · rw [if_neg ct]
      exact wpO_f (fun z => ct (et.mp z)) (wpO_some.mpr ⟨fb, hr⟩)
end TC2
