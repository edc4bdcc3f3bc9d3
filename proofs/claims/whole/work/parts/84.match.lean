/-! match: where no cough is asked for, every seed goes alike -/
section MA1
variable {nx cg : Int32 → Int32} {wd who : Nat → Nat} {h n : Nat} {s : HS} {tr way : Nat → Nat → Int32} {Str : (Nat → Int32) → Int32}
/-- the law hears no cough -/
def NoC (Str : (Nat → Int32) → Int32) : Prop := ∀ v v' : Nat → Int32, (∀ k, k ≠ 7 → v k = v' k) → Str v = Str v'
theorem nv_7 {a0 a1 a2 a3 a4 a5 a6 a7 b7 a8 : Int32} : ∀ k, k ≠ 7 → nv a0 a1 a2 a3 a4 a5 a6 a7 a8 k = nv a0 a1 a2 a3 a4 a5 a6 b7 a8 k
  | 0, _ => rfl
  | 1, _ => rfl
  | 2, _ => rfl
  | 3, _ => rfl
  | 4, _ => rfl
  | 5, _ => rfl
  | 6, _ => rfl
  | 7, h => absurd rfl h
  | 8, _ => rfl
  | k + 9, _ => rfl
theorem sgt_nc (hn : NoC Str) {L R : Nat → Nat} {st i : Nat} {c c' : Int32} : sgt tr way Str n who L R st i c h = sgt tr way Str n who L R st i c' h := hn _ _ nv_7
variable {z : Int32}
theorem ite_hZ {c : Prop} [Decidable c] {x y : HS} : (if c then hZ z x else hZ z y) = hZ z (if c then x else y) := by split <;> rfl
theorem hZ_takeL {i : Nat} : hTakeL wd i (hZ z s) = hZ z (hTakeL wd i s) := by
  unfold hTakeL
  by_cases c : hL s i + hR s i < wd i
  · rw [if_pos (show hL (hZ z s) i + hR (hZ z s) i < wd i from c), if_pos c]; rfl
  · rw [if_neg (show ¬ hL (hZ z s) i + hR (hZ z s) i < wd i from c), if_neg c]
theorem hZ_takeR {i : Nat} : hTakeR wd i (hZ z s) = hZ z (hTakeR wd i s) := by
  unfold hTakeR
  by_cases c : hL s i + hR s i < wd i
  · rw [if_pos (show hL (hZ z s) i + hR (hZ z s) i < wd i from c), if_pos c]; rfl
  · rw [if_neg (show ¬ hL (hZ z s) i + hR (hZ z s) i < wd i from c), if_neg c]
theorem hZ_leaveL {i : Nat} : hLeaveL i (hZ z s) = hZ z (hLeaveL i s) := by
  unfold hLeaveL
  by_cases c : hL s i = 0
  · rw [if_pos (show hL (hZ z s) i = 0 from c), if_pos c]
  · rw [if_neg (show ¬ hL (hZ z s) i = 0 from c), if_neg c]; rfl
theorem hZ_leaveR {i : Nat} : hLeaveR i (hZ z s) = hZ z (hLeaveR i s) := by
  unfold hLeaveR
  by_cases c : hR s i = 0
  · rw [if_pos (show hR (hZ z s) i = 0 from c), if_pos c]
  · rw [if_neg (show ¬ hR (hZ z s) i = 0 from c), if_neg c]; rfl
theorem hZ_wrestL {i : Nat} {d : Int32} : hWrestL tr who i d (hZ z s) = hZ z (hWrestL tr who i d s) := by
  unfold hWrestL
  by_cases c : hR s i ≠ 0 ∧ tr (who (i + 1)) 2 < d
  · rw [if_pos (show hR (hZ z s) i ≠ 0 ∧ tr (who (i + 1)) 2 < d from c), if_pos c]; rfl
  · rw [if_neg (show ¬ (hR (hZ z s) i ≠ 0 ∧ tr (who (i + 1)) 2 < d) from c), if_neg c]
theorem hZ_wrestR {i : Nat} {d : Int32} : hWrestR tr who i d (hZ z s) = hZ z (hWrestR tr who i d s) := by
  unfold hWrestR
  by_cases c : hL s i ≠ 0 ∧ tr (who i) 2 < d
  · rw [if_pos (show hL (hZ z s) i ≠ 0 ∧ tr (who i) 2 < d from c), if_pos c]; rfl
  · rw [if_neg (show ¬ (hL (hZ z s) i ≠ 0 ∧ tr (who i) 2 < d) from c), if_neg c]
theorem hZ_hZ {z' : Int32} : hZ z' (hZ z s) = hZ z' s := rfl
theorem hZ_push (hn : NoC Str) {i : Nat} : ∃ z', hPush nx cg tr way Str n wd who h i (hZ z s) = hZ z' (hPush nx cg tr way Str n wd who h i s) := by
  refine ⟨nx (nx z), ?_⟩
  have e1 : ∀ c c', sgt tr way Str n who (hL s) (hR s) i i c h = sgt tr way Str n who (hL s) (hR s) i i c' h := fun _ _ => sgt_nc hn
  have e2 : ∀ c c', sgt tr way Str n who (hL s) (hR s) (i + 1) i c h = sgt tr way Str n who (hL s) (hR s) (i + 1) i c' h := fun _ _ => sgt_nc hn
  have l : ∀ z1 z2 : Int32, ∀ s1 : HS, s1 = s → hPush nx cg tr way Str n wd who h i (hZ z1 s) = (if sgt tr way Str n who (hL s) (hR s) (i + 1) i z2 h < sgt tr way Str n who (hL s) (hR s) i i z2 h then (if hL s i + hR s i < wd i then hZ (nx (nx z1)) (hTakeL wd i s) else hZ (nx (nx z1)) (hWrestL tr who i (sgt tr way Str n who (hL s) (hR s) i i z2 h - sgt tr way Str n who (hL s) (hR s) (i + 1) i z2 h) s)) else if sgt tr way Str n who (hL s) (hR s) i i z2 h < sgt tr way Str n who (hL s) (hR s) (i + 1) i z2 h then (if hL s i + hR s i < wd i then hZ (nx (nx z1)) (hTakeR wd i s) else hZ (nx (nx z1)) (hWrestR tr who i (sgt tr way Str n who (hL s) (hR s) (i + 1) i z2 h - sgt tr way Str n who (hL s) (hR s) i i z2 h) s)) else hZ (nx (nx z1)) s) := by
    intro z1 z2 s1 _
    rw [e1 z2 (cg (nx z1)), e2 z2 (cg (nx (nx z1))), ← hZ_takeL, ← hZ_takeR, ← hZ_wrestL, ← hZ_wrestR]
    rfl
  have s0 : s = hZ (hz s) s := rfl
  have r := l (hz s) 0 s rfl
  rw [← s0] at r
  rw [r, l z 0 s rfl]
  simp only [ite_hZ, hZ_hZ]
theorem hZ_rest (hn : NoC Str) {i : Nat} : ∃ z', hRest nx cg tr way Str n wd who h i (hZ z s) = hZ z' (hRest nx cg tr way Str n wd who h i s) := by
  unfold hRest
  dsimp only
  simp only [hZ_leaveL, hZ_leaveR, ite_hZ]
  generalize (if thr (way (who (i + 1)) h) = true then if thr (way (who i) h) = true then s else hLeaveL i s else hLeaveR i (if thr (way (who i) h) = true then s else hLeaveL i s)) = s2
  cases thr (way (who i) h) <;> cases thr (way (who (i + 1)) h)
  · exact ⟨z, rfl⟩
  · exact ⟨z, hZ_takeR⟩
  · exact ⟨z, hZ_takeL⟩
  · exact hZ_push hn
theorem hZ_rests (hn : NoC Str) : ∀ m, ∃ z', hRests nx cg tr way Str n wd who h m (hZ z s) = hZ z' (hRests nx cg tr way Str n wd who h m s)
  | 0 => ⟨z, rfl⟩
  | m + 1 => by
    obtain ⟨z1, e1⟩ := hZ_rests hn m
    obtain ⟨z2, e2⟩ := hZ_rest (nx := nx) (cg := cg) (wd := wd) (who := who) (h := h) (n := n) (tr := tr) (way := way) (z := z1) (s := hRests nx cg tr way Str n wd who h m s) hn (i := m)
    exact ⟨z2, by rw [hRests, e1, e2]; rfl⟩
theorem hZ_step (hn : NoC Str) {X : HX} : ∃ z', hStep nx cg tr way Str n wd who h (hZ z X.1, X.2) = (hZ z' (hStep nx cg tr way Str n wd who h X).1, (hStep nx cg tr way Str n wd who h X).2) := by
  obtain ⟨z1, e1⟩ := hZ_rests (nx := nx) (cg := cg) (wd := wd) (who := who) (h := h) (n := n) (tr := tr) (way := way) (z := z) (s := hBeg X.1) hn (n - 1)
  have e : hRests nx cg tr way Str n wd who h (n - 1) (hBeg (hZ z X.1, X.2).1) = hZ z1 (hRests nx cg tr way Str n wd who h (n - 1) (hBeg X.1)) := e1
  refine ⟨z1, ?_⟩
  unfold hStep
  rw [e]
  rfl
end MA1
def eqB (X : HX) (y : LEDS) (h : Nat) : Nat → Nat → Bool
  | 0, _ => true
  | d + 1, i => if nI (hL X.1 i) = y.1 h i then (if nI (hR X.1 i) = y.2.1 h i then (if nI (hF X.1 i) = y.2.2 h i then eqB X y h d (i + 1) else false) else false) else false
theorem eqB_z {X : HX} {y : LEDS} {h : Nat} {z : Int32} : ∀ d i, eqB (hZ z X.1, X.2) y h d i = eqB X y h d i
  | 0, _ => rfl
  | d + 1, i => by rw [eqB, eqB, eqB_z d (i + 1)]; rfl
def wentR (nx cg : Int32 → Int32) (tr way : Nat → Nat → Int32) (Str : (Nat → Int32) → Int32) (n : Nat) (wd : Nat → Nat) (y : LEDS) : Nat → Nat → HX → Bool
  | 0, _, _ => true
  | d + 1, h, X => if eqB (hStep nx cg tr way Str n wd id h X) y h (n - 1) 0 = true then wentR nx cg tr way Str n wd y d (h + 1) (hStep nx cg tr way Str n wd id h X) else false
theorem wentR_z {nx cg : Int32 → Int32} {wd : Nat → Nat} {n : Nat} {tr way : Nat → Nat → Int32} {Str : (Nat → Int32) → Int32} {y : LEDS} (hn : NoC Str) : ∀ (d h : Nat) (X : HX) (z : Int32), wentR nx cg tr way Str n wd y d h (hZ z X.1, X.2) = wentR nx cg tr way Str n wd y d h X
  | 0, _, _, _ => rfl
  | d + 1, h, X, z => by
    obtain ⟨z', e⟩ := hZ_step (nx := nx) (cg := cg) (wd := wd) (who := id) (h := h) (n := n) (tr := tr) (way := way) (z := z) hn (X := X)
    rw [wentR, wentR, e, eqB_z, wentR_z hn d]
def fstS (w : Nat → Bool) : Nat → Nat → Int32
  | 0, _ => -2
  | d + 1, j => if w j = true then nI j else fstS w d (j + 1)
theorem fstS_no {w : Nat → Bool} (h : ∀ j, ¬ w j = true) : ∀ d j, fstS w d j = -2
  | 0, _ => rfl
  | d + 1, j => by rw [fstS, if_neg (h j), fstS_no h d]
theorem isAsC {σ : AS} {wd : Nat → Nat} {n h now : Nat} {X : HX} {y : LEDS} (hn8 : n ≤ 8) (hN : now ≤ 24) (hh : h < now) (H : XC 1 σ wd id (h + 1) X) (hl : LdC σ now y) : g_X4_isAs 1 (nI (n - 1)) σ = some (if eqB X y h (n - 1) 0 = true then 1 else 0, σ) := by
  obtain ⟨⟨v8, v2, v3, v4, v5, v9, v13, v12, v10, v11⟩, -⟩ := H
  have loop : ∀ (d i f : Nat), i + d = n - 1 → d < f → g_X4_isAs_10 1 f (nI (n - 1)) (nI h) (nI i) σ = some (if eqB X y h d i = true then 1 else 0, σ) := by
    intro d
    induction d with
    | zero =>
      intro i f hi hf
      obtain ⟨f, rfl⟩ : ∃ g, f = g + 1 := ⟨f - 1, by omega⟩
      rw [g_X4_isAs_10, if_neg (nI_nlt (by omega) (by omega))]; rfl
    | succ d ih =>
      intro i f hi hf
      obtain ⟨f, rfl⟩ : ∃ g, f = g + 1 := ⟨f - 1, by omega⟩
      obtain ⟨a1, a2, a3⟩ := led_eqs hN hl hh (show i < 7 by omega)
      rw [g_X4_isAs_10, if_pos (nI_lt (by omega) (by omega)), if_pos (inb_nI (by omega) (by omega)), a1, bnd_some, gA_nI (by omega), v3 i (by omega), eqB]
      by_cases e1 : nI (hL X.1 i) = y.1 h i
      · rw [if_pos e1, if_pos e1, a2, bnd_some, gA_nI (by omega), v4 i (by omega)]
        by_cases e2 : nI (hR X.1 i) = y.2.1 h i
        · rw [if_pos e2, if_pos e2, a3, bnd_some, gA_nI (by omega), v5 i (by omega)]
          by_cases e3 : nI (hF X.1 i) = y.2.2 h i
          · rw [if_pos e3, if_pos e3, nI_1]; exact ih (i + 1) f (by omega) (by omega)
          · rw [if_neg e3, if_neg e3]; rfl
        · rw [if_neg e2, if_neg e2]; rfl
      · rw [if_neg e1, if_neg e1]; rfl
  unfold g_X4_isAs
  rw [show gF σ 1 1 11 - 1 = nI h from by rw [show gF σ 1 1 11 = nI (h + 1) from v11, nI_pred]]
  exact loop (n - 1) 0 400 (by omega) (by omega)
theorem beginAnewC {σ : AS} {wd L R : Nat → Nat} {now : Nat} {z : Int32} (h2 : ∀ i, i < 7 → σ.2.1 1 0 2 i = nI (wd i)) (h3 : ∀ i, i < 7 → σ.2.1 1 0 3 i = nI (L i)) (h4 : ∀ i, i < 7 → σ.2.1 1 0 4 i = nI (R i)) (h11 : σ.1 1 0 11 = nI now) :
    wpO (g_X1_beginAnew 1 0 z σ) (fun _ σ1 => XCw 1 σ1 wd id 0 (X0 (fun _ => 0) (fun _ => 0) z 0) ∧ FrL SB σ σ1) := by
  unfold g_X1_beginAnew
  refine wpO_b (beginC1 h2 h3 h4 h11) (fun _ σ1 w => wpO_lt (wpO_lt (wpO_lt (wpO_lt (wpO_some.mpr ?_)))))
  obtain ⟨⟨F, O, m, ⟨v8, v2, v3, v4, v5, v9, v13, v12, v10, v11⟩, x6, x7, x14⟩, f1⟩ := w
  generalize hs : sF (sF (filA (filA σ1 1 1 3 7 0) 1 1 4 7 0) 1 1 11 0) 1 1 14 0 = σ2
  have f2 : FrL [(1, 1, 3), (1, 1, 4), (1, 1, 11), (1, 1, 14)] σ1 σ2 := by rw [← hs]; exact (((FrL_sA (by decide)).tr (FrL_sA (by decide))).tr (FrL_sF (by decide))).tr (FrL_sF (by decide))
  refine ⟨⟨F, O, m, ⟨?_, ?_, ?_, ?_, ?_, ?_, ?_, ?_, ?_, ?_⟩, ?_, ?_, ?_⟩, f1.tr (f2.mono (by decide))⟩
  · rw [f2.a 1 1 8 (by decide)]; exact v8
  · rw [f2.a 1 1 2 (by decide)]; exact v2
  · intro i hi; rw [← hs]; exact if_pos hi
  · intro i hi; rw [← hs]; exact if_pos hi
  · rw [f2.a 1 1 5 (by decide)]; exact v5
  · rw [f2.a 1 1 9 (by decide)]; exact v9
  · rw [f2.f 1 1 13 (by decide)]; exact v13
  · rw [f2.f 1 1 12 (by decide)]; exact v12
  · rw [f2.f 1 1 10 (by decide)]; exact v10
  · rw [← hs]; rfl
  · rw [f2.a 1 1 6 (by decide)]; exact x6
  · rw [f2.a 1 1 7 (by decide)]; exact x7
  · rw [← hs]; rfl
theorem wentC {nx cg : Int32 → Int32} {σ0 : AS} {n : Nat} {tr way : Nat → Nat → Int32} {Str : (Nat → Int32) → Int32} {wd L R : Nat → Nat} {now : Nat} {z : Int32} {y : LEDS} (hd : DrawIs nx cg) (h : CTX σ0 n tr way Str wd L R now) (hp : CTP n way wd L R now) (hl : LdC σ0 now y) :
    wpO (g_X8_wentSo z σ0) (fun r σ2 => r = (if wentR nx cg tr way Str n wd y now 0 (X0 (fun _ => 0) (fun _ => 0) z 0) = true then 1 else 0) ∧ FrL SAC σ0 σ2) := by
  have hN := hp.2.2
  have hn8 := h.1.2.1
  have loop : ∀ (d j f : Nat) (σ : AS) (X : HX), j + d = now → d < f → XCw 1 σ wd id j X → OKH wd X.1 → FrL SAC σ0 σ → wpO (g_X8_wentSo_14 f (nI j) σ) (fun r σ2 => r = (if wentR nx cg tr way Str n wd y d j X = true then 1 else 0) ∧ FrL SAC σ0 σ2) := by
    intro d
    induction d with
    | zero =>
      intro j f σ X hj hf V ok fr
      obtain ⟨f, rfl⟩ : ∃ g, f = g + 1 := ⟨f - 1, by omega⟩
      rw [g_X8_wentSo_14, show gF σ 1 0 11 = nI now from (fr.f 1 0 11 (by decide)).trans h.2.2.2.2.2.2.2.1]
      exact wpO_f (nI_nlt (by omega) (by omega)) (wpO_some.mpr ⟨rfl, fr⟩)
    | succ d ih =>
      intro j f σ X hj hf V ok fr
      obtain ⟨f, rfl⟩ : ∃ g, f = g + 1 := ⟨f - 1, by omega⟩
      have cx := h.fr fr (by decide)
      rw [g_X8_wentSo_14, show gF σ 1 0 11 = nI now from cx.2.2.2.2.2.2.2.1, nI_1]
      refine wpO_t (nI_lt (by omega) (by omega)) (wpO_b (show wpO (g_X1_passHours 1 (nI 1) σ) _ from passW (m := 1) (n := n) (tr := tr) (way := way) (Str := Str) hd (fun j hj => hj) (show j + 1 ≤ 24 by omega) V ok cx.1 cx.2.2.1) (fun _ σ1 q => ?_))
      obtain ⟨-, q2, f1⟩ := q
      have xc : XC 1 σ1 wd id (j + 1) (hStep nx cg tr way Str n wd id j X) := q2 (by omega)
      have fr1 : FrL SAC σ0 σ1 := fr.tr (f1.mono (by decide))
      refine wpO_e (rests_eq (h.fr fr1 (by decide)).1.1 hn8) (wpO_e (isAsC hn8 hN (by omega) xc (hl.fr fr1 (by decide))) ?_)
      rw [wentR]
      by_cases c : eqB (hStep nx cg tr way Str n wd id j X) y j (n - 1) 0 = true
      · rw [if_pos c, if_pos c]
        exact wpO_f one_ne (ih (j + 1) f σ1 _ (by omega) (by omega) xc.w ok.step fr1)
      · rw [if_neg c, if_neg c]
        exact wpO_t rfl (wpO_some.mpr ⟨rfl, fr1⟩)
  unfold g_X8_wentSo
  refine wpO_b (beginAnewC h.2.2.2.2.1 h.2.2.2.2.2.1 h.2.2.2.2.2.2.1 h.2.2.2.2.2.2.2.1) (fun _ σ1 w => ?_)
  exact loop now 0 400 σ1 _ (by omega) (by omega) w.1 ⟨fun i hi => Nat.zero_le _, hp.2.1.2⟩ (w.2.mono (by decide))
theorem matchLoopC {nx cg : Int32 → Int32} {σ0 : AS} {n : Nat} {tr way : Nat → Nat → Int32} {Str : (Nat → Int32) → Int32} {wd L R : Nat → Nat} {now S : Nat} {y : LEDS} (hd : DrawIs nx cg) (h : CTX σ0 n tr way Str wd L R now) (hp : CTP n way wd L R now) (hl : LdC σ0 now y) (hS : S ≤ 100) :
    ∀ (d j f : Nat) (σ : AS), j + d = S → d < f → FrL SAC σ0 σ → wpO (g_X8_match_32 f (nI S) (nI j) σ) (fun r σ2 => r = fstS (fun j => wentR nx cg tr way Str n wd y now 0 (X0 (fun _ => 0) (fun _ => 0) (nI j) 0)) d j ∧ FrL SAC σ0 σ2) := by
  intro d
  induction d with
  | zero =>
    intro j f σ hj hf fr
    obtain ⟨f, rfl⟩ : ∃ g, f = g + 1 := ⟨f - 1, by omega⟩
    rw [g_X8_match_32]
    exact wpO_f (nI_nlt (by omega) (by omega)) (wpO_some.mpr ⟨rfl, fr⟩)
  | succ d ih =>
    intro j f σ hj hf fr
    obtain ⟨f, rfl⟩ : ∃ g, f = g + 1 := ⟨f - 1, by omega⟩
    rw [g_X8_match_32, nI_1]
    refine wpO_t (nI_lt (by omega) (by omega)) (wpO_b (wentC hd (h.fr fr (by decide)) hp (hl.fr fr (by decide))) (fun r σ1 w => ?_))
    obtain ⟨rfl, f1⟩ := w
    rw [fstS]
    by_cases c : wentR nx cg tr way Str n wd y now 0 (X0 (fun _ => 0) (fun _ => 0) (nI j) 0) = true
    · rw [if_pos c, if_pos c]
      exact wpO_f one_ne (wpO_some.mpr ⟨rfl, fr.tr f1⟩)
    · rw [if_neg c, if_neg c]
      exact wpO_t rfl (ih (j + 1) f σ1 (by omega) (by omega) (fr.tr f1))
theorem isAsM {K : Int32 → AS → Option (Int32 × AS)} {σ : AS} {n h now : Nat} {X : HX} {y : LEDS} {Q : Int32 → AS → Prop} (hn : σ.1 9 0 6 = nI n) (hn8 : n ≤ 8) (hN : now ≤ 24) (hh : h < now) (V : VM 33 σ id X.1) (hl : LdM σ 31 32 now y) :
    ∀ (d i f : Nat), i + d = n - 1 → d < f → (eqB X y h d i = true → wpO (K (nI (h + 1)) σ) Q) → (¬ eqB X y h d i = true → Q 0 σ) → wpO (g_X9_isAsItWas_49 K f (nI h) (nI i) σ) Q := by
  obtain ⟨v1, v2, v3, v4, v5, v6, v7, v8⟩ := V
  obtain ⟨l1, l2, l3⟩ := hl
  intro d
  induction d with
  | zero =>
    intro i f hi hf k1 _
    obtain ⟨f, rfl⟩ : ∃ g, f = g + 1 := ⟨f - 1, by omega⟩
    rw [g_X9_isAsItWas_49]
    have e : (nI h : Int32) + 1 = nI (h + 1) := nI_1 h
    rw [e]
    refine wpO_e (restsM_eq hn hn8) (wpO_f (nI_nlt (by omega) (by omega)) (k1 rfl))
  | succ d ih =>
    intro i f hi hf k1 k0
    obtain ⟨f, rfl⟩ : ∃ g, f = g + 1 := ⟨f - 1, by omega⟩
    have e1 : (14 : Int32) * nI h + 2 * nI i = nI (14 * h + 2 * i) := by rw [li14, e2i, pk_mul, nI_add]
    have e7 : (7 : Int32) * nI h + nI i = nI (7 * h + i) := by rw [li7, pk_mul, nI_add]
    have ei : (nI i : Int32) + 1 = nI (i + 1) := nI_1 i
    have e2 : nI (14 * h + 2 * i) + 1 = nI (14 * h + 2 * i + 1) := nI_1 _
    have e3 : (2 : Int32) * nI i + 1 = nI (2 * i + 1) := by rw [e2i, nI_1]
    rw [g_X9_isAsItWas_49, e1, e7, ei, e3, e2i]
    refine wpO_e (restsM_eq hn hn8) (wpO_t (nI_lt (by omega) (by omega)) (wpO_lt ?_))
    rw [e2, gA_nI (by omega), gA_nI (by omega), gA_nI (by omega), gA_nI (by omega), gA_nI (by omega), gA_nI (by omega), v2 i (by omega), v3 i (by omega), v4 i (by omega), l1 h i hh (by omega), l2 h i hh (by omega), l3 h i hh (by omega)]
    rw [eqB] at k1 k0
    refine wpO_t (inb_nI (by omega) (by omega)) (wpO_t (inb_nI (by omega) (by omega)) ?_)
    by_cases c1 : nI (hL X.1 i) = y.1 h i
    · rw [if_pos c1] at k1 k0
      refine wpO_t c1 (wpO_t (inb_nI (by omega) (by omega)) (wpO_t (inb_nI (by omega) (by omega)) ?_))
      by_cases c2 : nI (hR X.1 i) = y.2.1 h i
      · rw [if_pos c2] at k1 k0
        refine wpO_t c2 (wpO_t (inb_nI (by omega) (by omega)) (wpO_t (inb_nI (by omega) (by omega)) ?_))
        by_cases c3 : nI (hF X.1 i) = y.2.2 h i
        · rw [if_pos c3] at k1 k0
          exact wpO_t c3 (ih (i + 1) f (by omega) (by omega) k1 k0)
        · rw [if_neg c3] at k0
          exact wpO_f c3 (wpO_some.mpr (k0 (by decide)))
      · rw [if_neg c2] at k0
        exact wpO_f c2 (wpO_some.mpr (k0 (by decide)))
    · rw [if_neg c1] at k0
      exact wpO_f c1 (wpO_some.mpr (k0 (by decide)))
theorem wentM {nx cg : Int32 → Int32} {σ0 : AS} {n : Nat} {tr way : Nat → Nat → Int32} {Str : (Nat → Int32) → Int32} {wd L R : Nat → Nat} {now : Nat} {z : Int32} {y : LEDS} (hd : DrawIs nx cg) (h : CTX σ0 n tr way Str wd L R now) (hp : CTP n way wd L R now) (hl : LdM σ0 31 32 now y) (h14 : ∀ j, j < 8 → σ0.2.1 9 0 14 j = nI j) :
    wpO (g_X9_isAsItWas z σ0) (fun r σ2 => r = (if wentR nx cg tr way Str n wd y now 0 (X0 (fun _ => 0) (fun _ => 0) z 0) = true then 1 else 0) ∧ FrL SAM σ0 σ2) := by
  have hN := hp.2.2
  have hn8 := h.1.2.1
  have loop : ∀ (d j f : Nat) (σ : AS) (X : HX), j + d = now → d < f → VMw 33 σ id X → OKH wd X.1 → FrL SAM σ0 σ → wpO (g_X9_isAsItWas_28 f (nI j) σ) (fun r σ2 => r = (if wentR nx cg tr way Str n wd y d j X = true then 1 else 0) ∧ FrL SAM σ0 σ2) := by
    intro d
    induction d with
    | zero =>
      intro j f σ X hj hf V ok fr
      obtain ⟨f, rfl⟩ : ∃ g, f = g + 1 := ⟨f - 1, by omega⟩
      rw [g_X9_isAsItWas_28, show gF σ 9 0 13 = nI now from (fr.f 9 0 13 (by decide)).trans h.2.2.2.2.2.2.2.2.2.2.2]
      exact wpO_f (nI_nlt (by omega) (by omega)) (wpO_some.mpr ⟨rfl, fr⟩)
    | succ d ih =>
      intro j f σ X hj hf V ok fr
      obtain ⟨f, rfl⟩ : ∃ g, f = g + 1 := ⟨f - 1, by omega⟩
      have cx := h.fr fr (by decide)
      rw [g_X9_isAsItWas_28, show gF σ 9 0 13 = nI now from cx.2.2.2.2.2.2.2.2.2.2.2]
      refine wpO_t (nI_lt (by omega) (by omega)) (wpO_b (hourW (wd := wd) hd (Or.inr rfl) hp.1 (fun j hj => hj) (by omega) ok cx.2.1 cx.2.2.2.1 (wd_no cx.2.2.2.2.2.2.2.2.1) V) (fun _ σ1 q => ?_))
      obtain ⟨q1, q2, f1⟩ := q
      have fr1 : FrL SAM σ0 σ1 := fr.tr (f1.mono (by decide))
      refine isAsM (X := hStep nx cg tr way Str n wd id j X) (h.fr fr1 (by decide)).2.1.1 hn8 hN (by omega) q1 (hl.fr fr1 (by decide) (by decide)) (n - 1) 0 400 (by omega) (by omega) ?_ ?_
      · intro c
        rw [wentR, if_pos c]
        exact ih (j + 1) f σ1 _ (by omega) (by omega) q2 ok.step fr1
      · intro c
        rw [wentR, if_neg c]
        exact ⟨rfl, fr1⟩
  unfold g_X9_isAsItWas
  refine wpO_b startsM (fun _ σ1 w => ?_)
  obtain ⟨w25, w26, w30, f1⟩ := w
  have zero : ∀ (d j f : Nat) (σ : AS), j + d = 14 → d < f → (∀ i, i < j → σ.2.1 9 0 33 i = 0) → FrL [(9, 0, 33)] σ1 σ → wpO (g_X9_isAsItWas_7 f (nI j) σ) (fun r σ2 => r = (if wentR nx cg tr way Str n wd y now 0 (X0 (fun _ => 0) (fun _ => 0) z 0) = true then 1 else 0) ∧ FrL SAM σ0 σ2) := by
    intro d
    induction d with
    | zero =>
      intro j f σ hj hf a fr
      obtain ⟨f, rfl⟩ : ∃ g, f = g + 1 := ⟨f - 1, by omega⟩
      rw [g_X9_isAsItWas_7]
      refine wpO_f (show ¬ nI j < nI 14 from nI_nlt (by omega) (by omega)) ?_
      have vm : VMw 33 σ id (X0 (fun _ => 0) (fun _ => 0) z 0) := VMw_of (fun j hj => by rw [fr.a 9 0 14 (by decide), f1.a 9 0 14 (by decide)]; exact h14 j hj) (fun i hi => a _ (by omega)) (fun i hi => a _ (by omega)) (by rw [fr.f 9 0 25 (by decide)]; exact w25) (by rw [fr.f 9 0 26 (by decide)]; exact w26) (by rw [fr.a 9 0 30 (by decide)]; exact w30)
      exact loop now 0 400 σ _ (by omega) (by omega) vm ⟨fun i hi => Nat.zero_le _, hp.2.1.2⟩ ((f1.mono (by decide)).tr (fr.mono (by decide)))
    | succ d ih =>
      intro j f σ hj hf a fr
      obtain ⟨f, rfl⟩ : ∃ g, f = g + 1 := ⟨f - 1, by omega⟩
      rw [g_X9_isAsItWas_7, nI_1]
      refine wpO_t (show nI j < nI 14 from nI_lt (by omega) (by omega)) (wpO_t (inb_nI (by omega) (by omega)) (wpO_lt ?_))
      refine ih (j + 1) f _ (by omega) (by omega) ?_ (fr.tr (FrL_sA (by decide)))
      intro i hi
      unfold sA
      rw [sAf_a, if_pos ⟨rfl, rfl, rfl⟩, nI_clamp (by omega), upd_at]
      by_cases e : i = j
      · rw [if_pos e]
      · rw [if_neg e]; exact a i (by omega)
  exact zero 14 0 400 σ1 (by omega) (by omega) (fun i hi => absurd hi (Nat.not_lt_zero i)) FrL.rf
theorem matchLoopM {nx cg : Int32 → Int32} {σ0 : AS} {n : Nat} {tr way : Nat → Nat → Int32} {Str : (Nat → Int32) → Int32} {wd L R : Nat → Nat} {now : Nat} {y : LEDS} (hd : DrawIs nx cg) (h : CTX σ0 n tr way Str wd L R now) (hp : CTP n way wd L R now) (hl : LdM σ0 31 32 now y) (h14 : ∀ j, j < 8 → σ0.2.1 9 0 14 j = nI j) :
    ∀ (d j f : Nat) (σ : AS), j + d = 100 → d < f → FrL SAM σ0 σ → wpO (g_X9_match_12 f (nI j) σ) (fun r σ2 => r = fstS (fun j => wentR nx cg tr way Str n wd y now 0 (X0 (fun _ => 0) (fun _ => 0) (nI j) 0)) d j ∧ FrL SAM σ0 σ2) := by
  intro d
  induction d with
  | zero =>
    intro j f σ hj hf fr
    obtain ⟨f, rfl⟩ : ∃ g, f = g + 1 := ⟨f - 1, by omega⟩
    rw [g_X9_match_12]
    exact wpO_f (show ¬ nI j < nI 100 from nI_nlt (by omega) (by omega)) (wpO_some.mpr ⟨rfl, fr⟩)
  | succ d ih =>
    intro j f σ hj hf fr
    obtain ⟨f, rfl⟩ : ∃ g, f = g + 1 := ⟨f - 1, by omega⟩
    rw [g_X9_match_12, nI_1]
    refine wpO_t (show nI j < nI 100 from nI_lt (by omega) (by omega)) (wpO_b (wentM hd (h.fr fr (by decide)) hp (hl.fr fr (by decide) (by decide)) (fun j hj => by rw [fr.a 9 0 14 (by decide)]; exact h14 j hj)) (fun r σ1 w => ?_))
    obtain ⟨rfl, f1⟩ := w
    rw [fstS]
    by_cases c : wentR nx cg tr way Str n wd y now 0 (X0 (fun _ => 0) (fun _ => 0) (nI j) 0) = true
    · rw [if_pos c, if_pos c]
      exact wpO_f one_ne (wpO_some.mpr ⟨rfl, fr.tr f1⟩)
    · rw [if_neg c, if_neg c]
      exact wpO_t rfl (ih (j + 1) f σ1 (by omega) (by omega) (fr.tr f1))
theorem Inv.ctx2 {σ : AS} (h : Inv σ) : ∃ n tr way ls wd L R now y, CTX σ n tr way (lawS ls) wd L R now ∧ CTP n way wd L R now ∧ (∀ j, j < 8 → σ.2.1 9 0 14 j = nI j) ∧ LdC σ now y ∧ LdM σ 31 32 now y ∧ ((g_X3_hearsCoughs 0 σ = some (1, σ)) ∨ (g_X3_hearsCoughs 0 σ = some (0, σ) ∧ NoC (lawS ls))) := by
  obtain ⟨n, t, w, d, aa, c0, h1, h2, h3⟩ := h.1
  obtain ⟨⟨wd, L, R, cm, yl, fi, now⟩, y, z, g1, g2, g3⟩ := h.2.1
  obtain ⟨ls, len, T, k1, k2, k3⟩ := h.2.2.2.1
  obtain ⟨sC, sM⟩ := G4.strs k1 k2 k3
  obtain ⟨c0, c1, c2, c3, c4, c5, c6, c7⟩ := (g1.1 : CrC σ (wd, L, R, cm, yl, fi, now))
  obtain ⟨d0, d1, d2, d3, d4, d5, d6, d7⟩ := (g2.1 : CrM σ (wd, L, R, cm, yl, fi, now))
  refine ⟨n, _, _, ls, wd, L, R, now, y, ⟨G1.envC h1 h3, G1.envM h2 h3, sC, sM, c0, c1, c2, c6, d0, d1, d2, d6⟩, ⟨fun p hh hp hhh => ?_, ⟨g3.1.1, g3.1.2.1⟩, g3.1.2.2⟩, d7, g1.2.1, g2.2.1, ?_⟩
  · have hn := h3.1
    have := (h3.2.2.1 p hh (by omega) hhh).1
    show nI (w p hh) = 0 ∨ nI (w p hh) = 1 ∨ nI (w p hh) = 2 ∨ nI (w p hh) = 3
    have : w p hh = 0 ∨ w p hh = 1 ∨ w p hh = 2 ∨ w p hh = 3 := by omega
    rcases this with e | e | e | e <;> rw [e] <;> simp [nI]
  · obtain ⟨a, b, c, d⟩ := k3
    have gl : ∀ l ∈ ls, GLine l := by
      by_cases e : ls = []
      · rw [e]; intro l hl; cases hl
      · exact (pText_good (pP_good 6).1 (d e)).1
    rcases hears_is (σ := σ) (o := 0) (cLines 0 ls) [] 400 k1 (by rw [List.nil_append]; omega) (cLines_sm ls 0 gl (by omega)) (by omega) with q | q
    · exact Or.inl q.2
    · refine Or.inr ⟨q.2, fun v v' hv => ?_⟩
      unfold lawS
      by_cases e : ls = []
      · rw [if_pos e]
        unfold dfl
        rw [hv 5 (by decide), hv 1 (by decide), hv 3 (by decide)]
      · rw [if_neg e]
        unfold StrL
        rw [wk_nc hv ls 0 q.1]
theorem op_match : Both g_X8_match g_X9_match := by
  intro σ h
  obtain ⟨n, tr, way, ls, wd, L, R, now, y, cx, cp, h14, lc, lm, hc⟩ := h.ctx2
  obtain ⟨nx, cg, hd⟩ : ∃ nx cg, DrawIs nx cg := ⟨_, _, fun _ => rfl, fun _ => rfl⟩
  have hN := cp.2.2
  unfold g_X8_match g_X9_match
  rw [show gF σ 1 0 11 = nI now from cx.2.2.2.2.2.2.2.1]
  by_cases c0 : now = 0
  · refine wpO_t (by rw [c0]; rfl) (wpO_some.mpr (wpO_t ?_ (wpO_some.mpr ⟨rfl, h⟩)))
    rw [show gF σ 9 0 13 = nI now from cx.2.2.2.2.2.2.2.2.2.2.2, c0]; rfl
  · refine wpO_f (nI_ne0 (by omega) (by omega)) ?_
    have ref : ∀ (r : Int32) (σ2 : AS), FrL SAC σ σ2 → r = fstS (fun j => wentR nx cg tr way (lawS ls) n wd y now 0 (X0 (fun _ => 0) (fun _ => 0) (nI j) 0)) 100 0 → wpO (if gF σ2 9 0 13 = 0 then some (-5, σ2) else g_X9_match_12 400 0 σ2) (fun r' σ3 => r = r' ∧ Inv σ3) := by
      intro r σ2 f2 er
      have cx2 := cx.fr f2 (by decide)
      rw [show gF σ2 9 0 13 = nI now from cx2.2.2.2.2.2.2.2.2.2.2.2]
      refine wpO_f (nI_ne0 (by omega) (by omega)) (wpO_mono (matchLoopM (σ0 := σ2) hd cx2 cp (lm.fr f2 (by decide) (by decide)) (fun j hj => by rw [f2.a 9 0 14 (by decide)]; exact h14 j hj) 100 0 400 σ2 (by omega) (by omega) FrL.rf) ?_)
      intro r' σ3 w
      exact ⟨er.trans w.1.symm, h.fr0 (S := SAll) ((f2.mono (by decide)).tr (w.2.mono (by decide))) (by decide)⟩
    rcases hc with hc | ⟨hc, nc⟩
    · refine wpO_e hc (wpO_f one_ne (wpO_mono (show wpO (g_X8_match_32 400 (nI 100) (nI 0) σ) _ from matchLoopC (σ0 := σ) (S := 100) hd cx cp lc (by omega) 100 0 400 σ (by omega) (by omega) FrL.rf) (fun r σ2 w => ref r σ2 w.2 w.1)))
    · refine wpO_e hc (wpO_t rfl (wpO_mono (show wpO (g_X8_match_32 400 (nI 1) (nI 0) σ) _ from matchLoopC (σ0 := σ) (S := 1) hd cx cp lc (by omega) 1 0 400 σ (by omega) (by omega) FrL.rf) (fun r σ2 w => ref r σ2 w.2 (w.1.trans ?_))))
      have all : ∀ j, wentR nx cg tr way (lawS ls) n wd y now 0 (X0 (fun _ => 0) (fun _ => 0) (nI j) 0) = wentR nx cg tr way (lawS ls) n wd y now 0 (X0 (fun _ => 0) (fun _ => 0) (nI 0) 0) := fun j => wentR_z nc now 0 (X0 (fun _ => 0) (fun _ => 0) (nI 0) 0) (nI j)
      by_cases c : wentR nx cg tr way (lawS ls) n wd y now 0 (X0 (fun _ => 0) (fun _ => 0) (nI 0) 0) = true
      · exact (if_pos c).trans (show fstS (fun j => wentR nx cg tr way (lawS ls) n wd y now 0 (X0 (fun _ => 0) (fun _ => 0) (nI j) 0)) (99 + 1) 0 = nI 0 from if_pos c).symm
      · rw [fstS_no (fun j z => c ((all j).symm.trans z)), fstS_no (fun j z => c ((all j).symm.trans z))]
