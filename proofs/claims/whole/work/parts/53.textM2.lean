section XM2
variable {T : Nat → Nat} {len k : Nat} {e : Nat → Int32} {rc : GT2} {P : PRS}
theorem tOf1 {x : Nat} (h : tOf x = 1) : x = 124 := by
  unfold tOf at h
  repeat' split at h
  all_goals omega
theorem tOf2 {x : Nat} (h : tOf x = 2) : x = 38 := by
  unfold tOf at h
  repeat' split at h
  all_goals omega
theorem tOf3 {x : Nat} (h : tOf x = 3) : x = 60 ∨ x = 61 ∨ x = 62 := by
  unfold tOf at h
  repeat' split at h
  all_goals omega
theorem tOf4 {x : Nat} (h : tOf x = 4) : x = 43 ∨ x = 45 := by
  unfold tOf at h
  repeat' split at h
  all_goals omega
theorem tOf5 {x : Nat} (h : tOf x = 5) : x = 42 ∨ x = 47 ∨ x = 37 := by
  unfold tOf at h
  repeat' split at h
  all_goals omega
theorem nIe {x n : Nat} (hx : x ≤ 255) (hn : n ≤ 255) : nI x = nI n ↔ x = n := nI_eq (by omega) (by omega)
theorem either_is (hs : RdX T len e k rc.2.1 P) (hg : Good len P) : RdX T len e k (gb_X9_either rc) (pLev (tnx T len) 0 P) := by
  refine gLev (L := g_X9_either_5 rc) (by omega) hs hg ?_ ?_ ?_
  · intro f v σ q he hr hc
    unfold g_X9_either_5
    exact wpO_e (takes_n (n := 124) he hr (by omega) (fun z => hc (by rw [z]; rfl))) (wpO_t rfl (wpO_some.mpr ⟨rfl, hr, FrL.rf⟩))
  · intro f v σ p he hr
    unfold g_X9_either_5
    exact wpO_e (takes_f hr he.1) (wpO_t rfl (wpO_some.mpr ⟨hr, FrL.rf⟩))
  · intro f v σ q Q he hr hc w
    have ex := tOf1 hc
    unfold g_X9_either_5
    refine wpO_e (takes_t (n := 124) he hr ex) (wpO_f one_ne (wpO_b w (fun r σ1 y => ?_)))
    have y2 := y.2.2
    rw [ex] at y2
    have ej : jn 124 v r = if v = 0 then (if r = 0 then 0 else 1) else 1 := rfl
    rw [ej] at y2
    by_cases c1 : v = 0
    · rw [if_pos c1] at y2
      refine wpO_t c1 ?_
      by_cases c2 : r = 0
      · rw [if_pos c2] at y2; exact wpO_t c2 y2
      · rw [if_neg c2] at y2; exact wpO_f c2 y2
    · rw [if_neg c1] at y2; exact wpO_f c1 y2
theorem bothOf_is (hs : RdX T len e k rc.2.2.1 P) (hg : Good len P) : RdX T len e k (gb_X9_bothOf rc) (pLev (tnx T len) 1 P) := by
  refine gLev (L := g_X9_bothOf_5 rc) (by omega) hs hg ?_ ?_ ?_
  · intro f v σ q he hr hc
    unfold g_X9_bothOf_5
    exact wpO_e (takes_n (n := 38) he hr (by omega) (fun z => hc (by rw [z]; rfl))) (wpO_t rfl (wpO_some.mpr ⟨rfl, hr, FrL.rf⟩))
  · intro f v σ p he hr
    unfold g_X9_bothOf_5
    exact wpO_e (takes_f hr he.1) (wpO_t rfl (wpO_some.mpr ⟨hr, FrL.rf⟩))
  · intro f v σ q Q he hr hc w
    have ex := tOf2 hc
    unfold g_X9_bothOf_5
    refine wpO_e (takes_t (n := 38) he hr ex) (wpO_f one_ne (wpO_b w (fun r σ1 y => ?_)))
    have y2 := y.2.2
    rw [ex] at y2
    have ej : jn 38 v r = if v = 0 then 0 else if r = 0 then 0 else 1 := rfl
    rw [ej] at y2
    by_cases c1 : v = 0
    · rw [if_pos c1] at y2; exact wpO_t c1 y2
    · rw [if_neg c1] at y2
      refine wpO_f c1 ?_
      by_cases c2 : r = 0
      · rw [if_pos c2] at y2; exact wpO_t c2 y2
      · rw [if_neg c2] at y2; exact wpO_f c2 y2
theorem sums_is (hs : RdX T len e k rc.2.2.2.2.1 P) (hg : Good len P) : RdX T len e k (gb_X9_sums rc) (pLev (tnx T len) 3 P) := by
  refine gLev (L := g_X9_sums_5 rc) (by omega) hs hg ?_ ?_ ?_
  · intro f v σ q he hr hc
    have hx := tnx_le he.2.2.1 q
    unfold g_X9_sums_5
    refine wpO_t hr.lt (wpO_e (byte_is he hr.1 hr.2.1) (wpO_f ?_ (wpO_e (byte_is he hr.1 hr.2.1) (wpO_f ?_ (wpO_some.mpr ⟨rfl, hr, FrL.rf⟩)))))
    · exact fun z => hc (by rw [(nIe (n := 43) hx (by omega)).mp z]; rfl)
    · exact fun z => hc (by rw [(nIe (n := 45) hx (by omega)).mp z]; rfl)
  · intro f v σ p he hr
    unfold g_X9_sums_5
    exact wpO_f (hr.nlt he.1) (wpO_some.mpr ⟨hr, FrL.rf⟩)
  · intro f v σ q Q he hr hc w
    have hby := byte_is he hr.1 hr.2.1
    unfold g_X9_sums_5
    refine wpO_t hr.lt (wpO_e hby ?_)
    unfold g_X9_sums_30 g_X9_sums_44
    rcases tOf4 hc with ex | ex
    · rw [ex] at hby w ⊢
      refine wpO_t rfl (wpO_e hby (wpO_t rfl (wpO_lt ?_)))
      rw [pl9 hr.1]
      exact wpO_b w (fun r σ1 y => wpO_f one_ne (wpO_lt y.2.2))
    · rw [ex] at hby w ⊢
      refine wpO_f (by decide) (wpO_e hby (wpO_t rfl (wpO_e hby (wpO_f (by decide) (wpO_lt ?_)))))
      rw [pl9 hr.1]
      exact wpO_b w (fun r σ1 y => wpO_t rfl (wpO_lt y.2.2))
theorem product_is (hs : RdX T len e k rc.2.2.2.2.2 P) (hg : Good len P) : RdX T len e k (gb_X9_product rc) (pLev (tnx T len) 4 P) := by
  refine gLev (L := fun f v σ => bnd (g_X9_byteAt σ) fun r σ1 => g_X9_product_10 rc f v r σ1) (by omega) hs hg ?_ ?_ ?_
  · intro f v σ q he hr hc
    have hx := tnx_le he.2.2.1 q
    refine wpO_e (byte_is he hr.1 hr.2.1) ?_
    unfold g_X9_product_10
    refine wpO_t hr.lt (wpO_f ?_ (wpO_f ?_ (wpO_f ?_ (wpO_some.mpr ⟨rfl, hr, FrL.rf⟩))))
    · exact fun z => hc (by rw [(nIe (n := 42) hx (by omega)).mp z]; rfl)
    · exact fun z => hc (by rw [(nIe (n := 47) hx (by omega)).mp z]; rfl)
    · exact fun z => hc (by rw [(nIe (n := 37) hx (by omega)).mp z]; rfl)
  · intro f v σ p he hr
    obtain ⟨q, a, b⟩ := hr.2.2
    refine wpO_e (byte_is he b a) ?_
    unfold g_X9_product_10
    exact wpO_f (hr.nlt he.1) (wpO_some.mpr ⟨hr, FrL.rf⟩)
  · intro f v σ q Q he hr hc w
    have hby := byte_is he hr.1 hr.2.1
    refine wpO_e hby ?_
    unfold g_X9_product_10
    refine wpO_t hr.lt ?_
    unfold g_X9_product_35 g_X9_product_85
    rcases tOf5 hc with ex | ex | ex
    · rw [ex] at w ⊢
      refine wpO_t rfl (wpO_lt ?_)
      rw [pl9 hr.1]
      exact wpO_b w (fun r σ1 y => wpO_t rfl y.2.2)
    · rw [ex] at w ⊢
      refine wpO_f (by decide) (wpO_t rfl (wpO_lt ?_))
      rw [pl9 hr.1]
      refine wpO_b w (fun r σ1 y => wpO_f (by decide) ?_)
      have y2 := y.2.2
      have ej : jn 47 v r = if r = 0 then 0 else v / r := rfl
      rw [ej] at y2
      by_cases c : r = 0
      · rw [if_pos c] at y2; exact wpO_t c y2
      · rw [if_neg c] at y2; exact wpO_f c (wpO_t rfl (wpO_t c y2))
    · rw [ex] at w ⊢
      refine wpO_f (by decide) (wpO_f (by decide) (wpO_t rfl (wpO_lt ?_)))
      rw [pl9 hr.1]
      refine wpO_b w (fun r σ1 y => wpO_f (by decide) ?_)
      have y2 := y.2.2
      have ej : jn 37 v r = if r = 0 then 0 else rmi v r := rfl
      rw [ej] at y2
      by_cases c : r = 0
      · rw [if_pos c] at y2; exact wpO_t c y2
      · rw [if_neg c] at y2; exact wpO_f c (wpO_f (by decide) (wpO_t c y2))
theorem compared_is (hs : RdX T len e k rc.2.2.2.1 P) (hg : Good len P) : RdX T len e k (gb_X9_compared rc) (pLev (tnx T len) 2 P) := by
  intro σ q he hr
  have hb := he.1
  unfold gb_X9_compared pLev
  refine wpO_b (hs σ q he hr) (fun r σ1 w => ?_)
  have w2 := w.2
  have he1 := he.fr w.1
  rw [if_pos rfl]
  cases ep : P q with
  | error p =>
    rw [ep] at w2
    have w2 : RXF σ1 len p := w2
    obtain ⟨q1, a, b⟩ := w2.2.2
    exact wpO_e (byte_is he1 b a) (wpO_f (w2.nlt hb) (wpO_some.mpr ⟨w.1, w2⟩))
  | ok z =>
    rw [ep] at w2
    obtain ⟨a1, a2⟩ := w2
    obtain ⟨g1, g2, g3, g4⟩ := hg _ _ ep
    have hx := tnx_le he.2.2.1 z.1
    refine wpO_e (byte_is he1 a1.1 a1.2.1) (wpO_t a1.lt ?_)
    show wpO _ (fun r σ1 => MX σ len k e (pLoop (tnx T len) 2 P 1 z.1 z.2) r σ1)
    unfold pLoop
    by_cases ct : tOf (tnx T len z.1) = 2 + 1
    · rw [if_pos ct]
      have n0 : tnx T len z.1 ≠ 0 := fun z => by rw [z] at ct; cases ct
      have hq : z.1 < len := tnx_lt n0
      have f1 : FrL SX σ1 (sF σ1 9 0 20 (nI (z.1 + 1))) := FrL_sF (by decide)
      have main : ∀ x, x = tnx T len z.1 → x = 60 ∨ x = 61 ∨ x = 62 → wpO (g_X9_compared_37 rc r (nI x) σ1) (fun r σ2 => MX σ len k e (match P (z.1 + 1) with | .error p => .error p | .ok r => pLoop (tnx T len) 2 P 0 r.1 (z.2 ++ r.2 ++ [(tnx T len z.1, 0)])) r σ2) := by
        intro x hx hx3
        unfold g_X9_compared_37
        refine wpO_lt ?_
        rw [pl9 a1.1]
        refine wpO_b (hs _ (z.1 + 1) (he1.fr f1) (a1.go (by omega))) (fun r2 σ2 y => ?_)
        have y2 := y.2
        have f2 := w.1.tr (f1.tr y.1)
        have fin : ∀ v : Int32, v = jn x r r2 → MX σ len k e (match P (z.1 + 1) with | .error p => .error p | .ok r => pLoop (tnx T len) 2 P 0 r.1 (z.2 ++ r.2 ++ [(tnx T len z.1, 0)])) v σ2 := by
          intro v hv
          refine ⟨f2, ?_⟩
          cases ep2 : P (z.1 + 1) with
          | error p => rw [ep2] at y2; exact y2
          | ok z2 =>
            rw [ep2] at y2
            obtain ⟨b1, b2⟩ := y2
            obtain ⟨-, -, -, g5⟩ := hg _ _ ep2
            have b := IsE.bin g4 g5 (op := tnx T len z.1) (by omega)
            refine ⟨b1, ?_⟩
            show v = evc e (z.2 ++ z2.2 ++ [(tnx T len z.1, 0)])
            rw [b.2 e, hv, a2, b2, hx]
        rcases hx3 with c | c | c
        · subst c
          refine wpO_t rfl ?_
          by_cases c2 : r < r2
          · exact wpO_t c2 (wpO_some.mpr (fin 1 (show (1 : Int32) = if r < r2 then 1 else 0 by rw [if_pos c2])))
          · exact wpO_f c2 (wpO_some.mpr (fin 0 (show (0 : Int32) = if r < r2 then 1 else 0 by rw [if_neg c2])))
        · subst c
          refine wpO_f (by decide) (wpO_t rfl ?_)
          by_cases c2 : r = r2
          · exact wpO_t c2 (wpO_some.mpr (fin 1 (show (1 : Int32) = if r = r2 then 1 else 0 by rw [if_pos c2])))
          · exact wpO_f c2 (wpO_some.mpr (fin 0 (show (0 : Int32) = if r = r2 then 1 else 0 by rw [if_neg c2])))
        · subst c
          refine wpO_f (by decide) (wpO_f (by decide) ?_)
          by_cases c2 : r2 < r
          · exact wpO_t c2 (wpO_some.mpr (fin 1 (show (1 : Int32) = if r2 < r then 1 else 0 by rw [if_pos c2])))
          · exact wpO_f c2 (wpO_some.mpr (fin 0 (show (0 : Int32) = if r2 < r then 1 else 0 by rw [if_neg c2])))
      have m2 := main _ rfl (tOf3 ct)
      refine wpO_if (fun _ => m2) (fun c1 => wpO_if (fun _ => m2) (fun c2 => wpO_if (fun _ => m2) (fun c3 => ?_)))
      rcases tOf3 ct with c | c | c
      · exact absurd (by rw [c]; rfl) c1
      · exact absurd (by rw [c]; rfl) c2
      · exact absurd (by rw [c]; rfl) c3
    · rw [if_neg ct]
      refine wpO_f ?_ (wpO_f ?_ (wpO_f ?_ (wpO_some.mpr ⟨w.1, a1, a2⟩)))
      · exact fun y => ct (by rw [(nIe (n := 60) hx (by omega)).mp y]; rfl)
      · exact fun y => ct (by rw [(nIe (n := 61) hx (by omega)).mp y]; rfl)
      · exact fun y => ct (by rw [(nIe (n := 62) hx (by omega)).mp y]; rfl)
end XM2
