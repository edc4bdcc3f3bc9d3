/-! lines of the reference -/
def wst (e : Nat → Int32) (s : Int32 × Int32) (l : LINE) : Int32 × Int32 :=
  match l with
  | (none, a) => if s.1 = 0 then (1, evc e a) else s
  | (some t, a) => if evc e t = 0 then s else if s.1 = 0 then (1, evc e a) else s
theorem wst_some {e : Nat → Int32} {s : Int32 × Int32} {t a : CODE} : wst e s (some t, a) = if evc e t = 0 then s else if s.1 = 0 then (1, evc e a) else s := rfl
theorem wst_none {e : Nat → Int32} {s : Int32 × Int32} {a : CODE} : wst e s (none, a) = if s.1 = 0 then (1, evc e a) else s := rfl
theorem wst_1 {e : Nat → Int32} {v : Int32} : ∀ (ls : List LINE), ls.foldl (wst e) (1, v) = (1, v)
  | [] => rfl
  | (none, a) :: r => by
    show r.foldl (wst e) (wst e (1, v) (none, a)) = _
    rw [wst_none, if_neg (by exact one_ne)]; exact wst_1 r
  | (some t, a) :: r => by
    show r.foldl (wst e) (wst e (1, v) (some t, a)) = _
    rw [wst_some]
    have : (if evc e t = 0 then ((1 : Int32), v) else if ((1 : Int32), v).1 = 0 then (1, evc e a) else (1, v)) = (1, v) := by
      split
      · rfl
      · exact if_neg one_ne
    rw [this]; exact wst_1 r
theorem wst_wk {e : Nat → Int32} : ∀ (ls : List LINE), (ls.foldl (wst e) (0, 0)).2 = wk e ls
  | [] => rfl
  | (none, a) :: r => by
    show (r.foldl (wst e) (wst e (0, 0) (none, a))).2 = evc e a
    rw [wst_none, if_pos (by rfl), wst_1]
  | (some t, a) :: r => by
    show (r.foldl (wst e) (wst e (0, 0) (some t, a))).2 = if evc e t = 0 then wk e r else evc e a
    rw [wst_some]
    by_cases c : evc e t = 0
    · rw [if_pos c, if_pos c]; exact wst_wk r
    · rw [if_neg c, if_neg c, if_pos (by rfl), wst_1]
section XM4
variable {T : Nat → Nat} {len : Nat} {e : Nat → Int32}
theorem w74_f {k33 : Int32 → Int32 → Int32 → AS → Option (Int32 × AS)} {v3 v4 v6 v7 : Int32} {σ : AS} {Q : Int32 → AS → Prop} (h : ¬ gF σ 9 0 22 < 0) (w : wpO (g_X9_workOut_96 k33 v3 v4 σ) Q) : wpO (g_X9_workOut_74 k33 v3 v4 v6 v7 σ) Q := by
  unfold g_X9_workOut_74
  exact wpO_f h w
theorem lineX {f q : Nat} {s : Int32 × Int32} {σ : AS} {Q : Int32 → AS → Prop} (he : EnvX T len e σ) (hr : RX σ len q 6)
    (HF : ∀ p, pLine (tnx T len) (PE (tnx T len)) q = .error p → ∀ σ1, FrL SX σ σ1 → RXF σ1 len p → wpO (g_X9_workOut_96 (g_X9_workOut_33 f) s.1 s.2 σ1) Q)
    (HO : ∀ r, pLine (tnx T len) (PE (tnx T len)) q = .ok r → ∀ σ1, FrL SX σ σ1 → RX σ1 len r.1 6 → wpO (g_X9_workOut_96 (g_X9_workOut_33 f) (wst e s r.2).1 (wst e s r.2).2 σ1) Q) :
    wpO (g_X9_workOut_33 (f + 1) s.1 s.2 1 σ) Q := by
  have hb := he.1
  have hP : RdX T len e 6 g_X9_either (PE (tnx T len)) := (X_is (T := T) (len := len) (e := e) 6 (by omega)).2 100 (by omega)
  unfold g_X9_workOut_33
  refine wpO_f one_ne (wpO_b (hP σ q he hr) (fun r σ1 w => ?_))
  have w2 := w.2
  have f1 := w.1
  unfold pLine at HF HO
  cases e1 : PE (tnx T len) q with
  | error p =>
    rw [e1] at w2 HF
    have w2 : RXF σ1 len p := w2
    refine wpO_e (takes_f w2 hb) (wpO_t rfl (w74_f (w2.nlt hb) (HF p rfl σ1 f1 w2)))
  | ok z =>
    rw [e1] at w2 HF HO
    obtain ⟨a1, a2⟩ := w2
    dsimp only at HF HO
    by_cases c : tnx T len z.1 = 63
    · rw [if_pos c] at HF HO
      have hz : z.1 < len := tnx_lt (T := T) (len := len) (q := z.1) (by rw [c]; omega)
      refine wpO_e (takes_t (n := 63) (he.fr f1) a1 c) (wpO_f one_ne ?_)
      have f2 : FrL SX σ (sF σ1 9 0 20 (nI (z.1 + 1))) := f1.tr (FrL_sF (by decide))
      have a3 := a1.go (q1 := z.1 + 1) (by omega)
      have main : ∀ v : Int32, ((v = 0) ↔ (r = 0)) → wpO (g_X9_workOut_66 (g_X9_workOut_33 f) s.1 s.2 v (sF σ1 9 0 20 (nI (z.1 + 1)))) Q := by
        intro v hv
        unfold g_X9_workOut_66
        refine wpO_b (hP _ (z.1 + 1) (he.fr f2) a3) (fun r2 σ2 y => ?_)
        have y2 := y.2
        have f3 := f2.tr y.1
        cases e2 : PE (tnx T len) (z.1 + 1) with
        | error p =>
          rw [e2] at y2 HF
          have y2 : RXF σ2 len p := y2
          exact w74_f (y2.nlt hb) (HF p rfl σ2 f3 y2)
        | ok z2 =>
          rw [e2] at y2 HO
          obtain ⟨b1, b2⟩ := y2
          have h := HO _ rfl σ2 f3 b1
          rw [wst_some, ← a2, ← b2] at h
          unfold g_X9_workOut_74
          refine wpO_t b1.lt ?_
          by_cases c1 : r = 0
          · rw [if_pos c1] at h
            exact wpO_t (hv.mpr c1) h
          · rw [if_neg c1] at h
            refine wpO_f (fun y => c1 (hv.mp y)) ?_
            by_cases c2 : s.1 = 0
            · rw [if_pos c2] at h; exact wpO_t c2 h
            · rw [if_neg c2] at h; exact wpO_f c2 h
      by_cases c1 : r = 0
      · exact wpO_t c1 (main 0 ⟨fun _ => c1, fun _ => rfl⟩)
      · exact wpO_f c1 (main 1 ⟨fun y => absurd y one_ne, fun y => absurd y c1⟩)
    · rw [if_neg c] at HF HO
      refine wpO_e (takes_n (n := 63) (he.fr f1) a1 (by omega) c) (wpO_t rfl ?_)
      have h := HO _ rfl σ1 f1 a1
      rw [wst_none, ← a2] at h
      unfold g_X9_workOut_74
      refine wpO_t a1.lt (wpO_f one_ne ?_)
      by_cases c2 : s.1 = 0
      · rw [if_pos c2] at h; exact wpO_t c2 h
      · rw [if_neg c2] at h; exact wpO_f c2 h
def MY (σb : AS) (len : Nat) (e : Nat → Int32) (res : Except Nat (List LINE)) (r : Int32) (σ1 : AS) : Prop :=
  FrL SX σb σ1 ∧ match res with
    | .ok ls => σ1.1 9 0 22 = -1 ∧ r = wk e ls
    | .error p => σ1.1 9 0 22 = nI p ∧ p ≤ len
theorem endX {f q : Nat} {s : Int32 × Int32} {σb σ : AS} {ls : List LINE} (hb : len ≤ 120) (he : EnvX T len e σ) (fb : FrL SX σb σ) (hr : RX σ len q 6) (hs : s = ls.foldl (wst e) (0, 0)) :
    wpO (g_X9_workOut_33 (f + 1) s.1 s.2 0 σ) (fun r σ1 => MY σb len e (if q < len then .error q else .ok ls) r σ1) := by
  unfold g_X9_workOut_33
  have hq := hr.2.1
  refine wpO_t rfl (wpO_t hr.lt ?_)
  by_cases c : q < len
  · rw [if_pos c]
    refine wpO_t (show σ.1 9 0 20 < σ.1 9 0 21 by rw [hr.1, he.2.1]; exact nI_lt c (by omega)) (wpO_b (wrong_is hr) (fun _ σ2 y => wpO_some.mpr ⟨fb.tr y.2, y.1.1, y.1.2.1⟩))
  · rw [if_neg c]
    refine wpO_f (show ¬ σ.1 9 0 20 < σ.1 9 0 21 by rw [hr.1, he.2.1]; exact nI_nlt (by omega) (by omega)) (wpO_some.mpr ⟨fb, hr.2.2.1, ?_⟩)
    rw [hs]; exact wst_wk ls
theorem end_f {f p : Nat} {v3 v4 : Int32} {σb σ : AS} (hb : len ≤ 120) (fb : FrL SX σb σ) (hr : RXF σ len p) :
    wpO (g_X9_workOut_96 (g_X9_workOut_33 (f + 1)) v3 v4 σ) (fun r σ1 => MY σb len e (.error p) r σ1) := by
  unfold g_X9_workOut_96
  refine wpO_e (takes_f hr hb) ?_
  unfold g_X9_workOut_33
  exact wpO_t rfl (wpO_f (hr.nlt hb) (wpO_some.mpr ⟨fb, hr.1, hr.2.1⟩))
theorem pLine_ge {q : Nat} {r : Nat × LINE} (h : pLine (tnx T len) (PE (tnx T len)) q = .ok r) : q + 1 ≤ r.1 := by
  have hG : Good len (PE (tnx T len)) := (pP_good 6).1
  unfold pLine at h
  cases e1 : PE (tnx T len) q with
  | error p => rw [e1] at h; cases h
  | ok z =>
    rw [e1] at h
    dsimp only at h
    have g := hG _ _ e1
    by_cases c : tnx T len z.1 = 63
    · rw [if_pos c] at h
      cases e2 : PE (tnx T len) (z.1 + 1) with
      | error p => rw [e2] at h; cases h
      | ok z2 =>
        rw [e2] at h
        have g2 := hG _ _ e2
        cases h
        show q + 1 ≤ z2.1
        omega
    · rw [if_neg c] at h; cases h; exact g.1
theorem restX : ∀ (n f q : Nat) (s : Int32 × Int32) (σb σ : AS) (ls : List LINE), len ≤ q + n → n + 1 < f → EnvX T len e σ → FrL SX σb σ → RX σ len q 6 → s = ls.foldl (wst e) (0, 0) →
    wpO (g_X9_workOut_96 (g_X9_workOut_33 f) s.1 s.2 σ) (fun r σ1 => MY σb len e (pRest (tnx T len) len (PE (tnx T len)) n q ls) r σ1)
  | n, 0, q, s, σb, σ, ls, _, h, _, _, _, _ => absurd h (Nat.not_lt_zero _)
  | 0, f + 1, q, s, σb, σ, ls, hn, hf, he, fb, hr, hs => by
    have e0 : tnx T len q = 0 := by unfold tnx; rw [if_neg (by omega)]
    unfold g_X9_workOut_96 pRest
    exact wpO_e (takes_n (n := 59) he hr (by omega) (by omega)) (endX he.1 he fb hr hs)
  | n + 1, f + 1, q, s, σb, σ, ls, hn, hf, he, fb, hr, hs => by
    unfold g_X9_workOut_96 pRest
    by_cases c : tnx T len q = 59
    · rw [if_pos c]
      have hq : q < len := tnx_lt (T := T) (len := len) (q := q) (by rw [c]; omega)
      refine wpO_e (takes_t (n := 59) he hr c) ?_
      have f1 : FrL SX σ (sF σ 9 0 20 (nI (q + 1))) := FrL_sF (by decide)
      refine lineX (he.fr f1) (hr.go (by omega)) (fun p e1 σ1 f2 w => ?_) (fun r e1 σ1 f2 w => ?_)
      · rw [e1]
        obtain ⟨g, rfl⟩ : ∃ g, f = g + 1 := ⟨f - 1, by omega⟩
        exact end_f he.1 (fb.tr (f1.tr f2)) w
      · rw [e1]
        refine restX n f r.1 (wst e s r.2) σb σ1 (ls ++ [r.2]) ?_ (by omega) (he.fr (f1.tr f2)) (fb.tr (f1.tr f2)) w ?_
        · have := (pLine_ge e1); omega
        · rw [List.foldl_append, ← hs]; rfl
    · rw [if_neg c]
      exact wpO_e (takes_n (n := 59) he hr (by omega) c) (endX he.1 he fb hr hs)
/-- a law's text worked -/
theorem workOut_is {a0 : Int32} {σ : AS} (he : EnvX T len e (sF (sF σ 9 0 19 a0) 9 0 21 (nI len))) :
    wpO (g_X9_workOut a0 (nI len) σ) (fun r σ1 => FrL SW σ σ1 ∧ match pText (tnx T len) len (PE (tnx T len)) with | .ok ls => σ1.1 9 0 22 = -1 ∧ r = wk e ls | .error p => σ1.1 9 0 22 = nI p ∧ p ≤ len) := by
  unfold g_X9_workOut
  refine wpO_lt (wpO_lt (wpO_lt (wpO_lt (wpO_lt ?_))))
  generalize hs : sF (sF (sF (sF (sF σ 9 0 19 a0) 9 0 20 0) 9 0 21 (nI len)) 9 0 22 (-1)) 9 0 23 0 = σ0
  have hsx : ∀ q ∈ SX, q ∈ SW := by decide
  have f0 : FrL SW σ σ0 := by
    rw [← hs]
    exact ((((FrL_sF (by decide)).tr (FrL_sF (by decide))).tr (FrL_sF (by decide))).tr (FrL_sF (by decide))).tr (FrL_sF (by decide))
  have he0 : EnvX T len e σ0 := by rw [← hs]; exact he
  have hr0 : RX σ0 len 0 6 := by rw [← hs]; exact ⟨rfl, Nat.zero_le _, rfl, rfl, Nat.le_refl 6⟩
  have hb := he.1
  refine lineX (s := (0, 0)) (f := 399) he0 hr0 (fun p e1 σ1 f2 w => ?_) (fun r e1 σ1 f2 w => ?_)
  · unfold pText
    rw [e1]
    exact wpO_mono (end_f (e := e) (f := 398) hb f2 w) (fun r σ2 y => ⟨f0.tr (y.1.mono hsx), y.2⟩)
  · unfold pText
    rw [e1]
    exact wpO_mono (restX 120 399 r.1 (wst e (0, 0) r.2) σ0 σ1 [r.2] (by omega) (by omega) (he0.fr f2) f2 w rfl) (fun r σ2 y => ⟨f0.tr (y.1.mono hsx), y.2⟩)
end XM4
