/-! go: fights and comfort are counted on from what they were, or from nothing -/
def sh (δ : Int32) (s : HS) : HS := (hL s, hR s, hF s, hO s, hz s, δ + hc s, hm s)
section GO1
variable {nx cg : Int32 → Int32} {wd who : Nat → Nat} {h n : Nat} {s : HS} {tr way : Nat → Nat → Int32} {Str : (Nat → Int32) → Int32} {δ : Int32}
theorem ite_sh {c : Prop} [Decidable c] {x y : HS} : (if c then sh δ x else sh δ y) = sh δ (if c then x else y) := by split <;> rfl
theorem sh_L : hL (sh δ s) = hL s := rfl
theorem sh_R : hR (sh δ s) = hR s := rfl
theorem sh_z : hz (sh δ s) = hz s := rfl
theorem sh_hZ {z : Int32} : hZ z (sh δ s) = sh δ (hZ z s) := rfl
theorem sh_takeL {i : Nat} : hTakeL wd i (sh δ s) = sh δ (hTakeL wd i s) := by
  unfold hTakeL
  by_cases c : hL s i + hR s i < wd i
  · rw [if_pos (show hL (sh δ s) i + hR (sh δ s) i < wd i from c), if_pos c]; rfl
  · rw [if_neg (show ¬ hL (sh δ s) i + hR (sh δ s) i < wd i from c), if_neg c]
theorem sh_takeR {i : Nat} : hTakeR wd i (sh δ s) = sh δ (hTakeR wd i s) := by
  unfold hTakeR
  by_cases c : hL s i + hR s i < wd i
  · rw [if_pos (show hL (sh δ s) i + hR (sh δ s) i < wd i from c), if_pos c]; rfl
  · rw [if_neg (show ¬ hL (sh δ s) i + hR (sh δ s) i < wd i from c), if_neg c]
theorem sh_leaveL {i : Nat} : hLeaveL i (sh δ s) = sh δ (hLeaveL i s) := by
  unfold hLeaveL
  by_cases c : hL s i = 0
  · rw [if_pos (show hL (sh δ s) i = 0 from c), if_pos c]
  · rw [if_neg (show ¬ hL (sh δ s) i = 0 from c), if_neg c]; rfl
theorem sh_leaveR {i : Nat} : hLeaveR i (sh δ s) = sh δ (hLeaveR i s) := by
  unfold hLeaveR
  by_cases c : hR s i = 0
  · rw [if_pos (show hR (sh δ s) i = 0 from c), if_pos c]
  · rw [if_neg (show ¬ hR (sh δ s) i = 0 from c), if_neg c]; rfl
theorem sh_wrestL {i : Nat} {d : Int32} : hWrestL tr who i d (sh δ s) = sh δ (hWrestL tr who i d s) := by
  unfold hWrestL
  by_cases c : hR s i ≠ 0 ∧ tr (who (i + 1)) 2 < d
  · rw [if_pos (show hR (sh δ s) i ≠ 0 ∧ tr (who (i + 1)) 2 < d from c), if_pos c]
    show (_, _, _, _, _, δ + hc s + 1, _) = (_, _, _, _, _, δ + (hc s + 1), _)
    rw [Int32.add_assoc]; rfl
  · rw [if_neg (show ¬ (hR (sh δ s) i ≠ 0 ∧ tr (who (i + 1)) 2 < d) from c), if_neg c]
theorem sh_wrestR {i : Nat} {d : Int32} : hWrestR tr who i d (sh δ s) = sh δ (hWrestR tr who i d s) := by
  unfold hWrestR
  by_cases c : hL s i ≠ 0 ∧ tr (who i) 2 < d
  · rw [if_pos (show hL (sh δ s) i ≠ 0 ∧ tr (who i) 2 < d from c), if_pos c]
    show (_, _, _, _, _, δ + hc s + 1, _) = (_, _, _, _, _, δ + (hc s + 1), _)
    rw [Int32.add_assoc]; rfl
  · rw [if_neg (show ¬ (hL (sh δ s) i ≠ 0 ∧ tr (who i) 2 < d) from c), if_neg c]
theorem sh_push {i : Nat} : hPush nx cg tr way Str n wd who h i (sh δ s) = sh δ (hPush nx cg tr way Str n wd who h i s) := by
  unfold hPush
  simp only [sh_L, sh_R, sh_z, sh_hZ, sh_takeL, sh_takeR, sh_wrestL, sh_wrestR, ite_sh]
theorem sh_rest {i : Nat} : hRest nx cg tr way Str n wd who h i (sh δ s) = sh δ (hRest nx cg tr way Str n wd who h i s) := by
  unfold hRest
  simp only [sh_leaveL, sh_leaveR, ite_sh, sh_push, sh_takeL, sh_takeR]
theorem sh_rests : ∀ m, hRests nx cg tr way Str n wd who h m (sh δ s) = sh δ (hRests nx cg tr way Str n wd who h m s)
  | 0 => rfl
  | m + 1 => by rw [hRests, sh_rests m, sh_rest]; rfl
def shX (δ : Int32) (cm : Nat → Int32) (X : HX) : HX := (sh δ X.1, fun p => cm p + X.2.1 p, X.2.2.1, X.2.2.2)
theorem cmN_add {f cm c : Nat → Int32} : ∀ m, cmN id f (fun p => cm p + c p) m = fun p => cm p + cmN id f c m p
  | 0 => rfl
  | m + 1 => by
    rw [cmN, cmN_add m]
    funext p
    show upd (fun p => cm p + cmN id f c m p) m ((cm m + cmN id f c m m) + f m) p = cm p + upd (cmN id f c m) m (cmN id f c m m + f m) p
    rw [upd_at, upd_at]
    by_cases e : p = m
    · rw [if_pos e, if_pos e, e, Int32.add_assoc]
    · rw [if_neg e, if_neg e]
theorem cmN_ge {f c : Nat → Int32} {p : Nat} : ∀ m, m ≤ p → cmN id f c m p = c p
  | 0, _ => rfl
  | m + 1, h => by
    show upd (cmN id f c m) m _ p = c p
    rw [upd_at, if_neg (by omega)]
    exact cmN_ge m (by omega)
theorem shX_step {cm : Nat → Int32} {X : HX} : hStep nx cg tr way Str n wd id h (shX δ cm X) = shX δ cm (hStep nx cg tr way Str n wd id h X) := by
  have e : hRests nx cg tr way Str n wd id h (n - 1) (hBeg (shX δ cm X).1) = sh δ (hRests nx cg tr way Str n wd id h (n - 1) (hBeg X.1)) := sh_rests (s := hBeg X.1) (n - 1)
  unfold hStep
  rw [e]
  show (_, cmN id _ (fun p => cm p + X.2.1 p) n, _, _) = _
  rw [cmN_add]
  rfl
theorem shX_hours {cm : Nat → Int32} : ∀ (m h : Nat) (X : HX), hHours nx cg tr way Str n wd id m h (shX δ cm X) = shX δ cm (hHours nx cg tr way Str n wd id m h X)
  | 0, _, _ => rfl
  | m + 1, h, X => by
    show hHours nx cg tr way Str n wd id m (h + 1) (hStep nx cg tr way Str n wd id h (shX δ cm X)) = _
    rw [shX_step, shX_hours m]; rfl
theorem hours_ge {p : Nat} (hp : n ≤ p) : ∀ (m h : Nat) (X : HX), (hHours nx cg tr way Str n wd id m h X).2.1 p = X.2.1 p
  | 0, _, _ => rfl
  | m + 1, h, X => by
    show (hHours nx cg tr way Str n wd id m (h + 1) (hStep nx cg tr way Str n wd id h X)).2.1 p = _
    rw [hours_ge hp m]
    exact cmN_ge n hp
def ledUp (h : Nat) (X : HX) (y : LEDS) : LEDS := (fun g i => if g = h then nI (hL X.1 i) else y.1 g i, fun g i => if g = h then nI (hR X.1 i) else y.2.1 g i, fun g i => if g = h then nI (hF X.1 i) else y.2.2 g i)
end GO1
def ledH (nx cg : Int32 → Int32) (tr way : Nat → Nat → Int32) (Str : (Nat → Int32) → Int32) (n : Nat) (wd who : Nat → Nat) : Nat → Nat → HX → LEDS → LEDS
  | 0, _, _, y => y
  | m + 1, h, X, y => ledH nx cg tr way Str n wd who m (h + 1) (hStep nx cg tr way Str n wd who h X) (ledUp h (hStep nx cg tr way Str n wd who h X) y)
theorem shX_led {nx cg : Int32 → Int32} {wd : Nat → Nat} {n : Nat} {tr way : Nat → Nat → Int32} {Str : (Nat → Int32) → Int32} {δ : Int32} {cm : Nat → Int32} : ∀ (m h : Nat) (X : HX) (y : LEDS), ledH nx cg tr way Str n wd id m h (shX δ cm X) y = ledH nx cg tr way Str n wd id m h X y
  | 0, _, _, _ => rfl
  | m + 1, h, X, y => by
    show ledH nx cg tr way Str n wd id m (h + 1) (hStep nx cg tr way Str n wd id h (shX δ cm X)) (ledUp h (hStep nx cg tr way Str n wd id h (shX δ cm X)) y) = _
    rw [shX_step, shX_led m]; rfl
theorem writeC {σ : AS} {wd who : Nat → Nat} {h : Nat} {X : HX} {y : LEDS} (hh : h < 24) (H : XC 0 σ wd who (h + 1) X) (hl : LdC σ h y) : wpO (g_X4_write 0 σ) (fun _ σ1 => LdC σ1 (h + 1) (ledUp h X y) ∧ FrL DLd σ σ1) := by
  obtain ⟨⟨v8, v2, v3, v4, v5, v9, v13, v12, v10, v11⟩, -⟩ := H
  obtain ⟨l1, l2, l3⟩ := hl
  have e1 : (gF σ 1 0 11 - 1) * 7 = nI (h * 7) := by rw [show gF σ 1 0 11 = nI (h + 1) from v11, nI_pred, li7, pk_mul]
  have ok : cpy_ok 0 (nI (h * 7)) 7 7 168 := by
    refine ⟨by decide, nI_pos' (by omega), by decide, by decide, ?_⟩
    rw [nI_clamp (by omega), show (7 : Int32).toNatClampNeg = 7 from by decide]; omega
  unfold g_X4_write
  rw [e1]
  refine wpO_lt (wpO_f (nI_pos (by omega)) (wpO_f ?_ (wpO_t ok (wpO_lt (wpO_t ok (wpO_lt (wpO_t ok (wpO_lt (wpO_some.mpr ?_)))))))))
  · rw [li7, nI_add]; exact (show ¬ nI 168 < nI (h * 7 + 7) from nI_nlt (by omega) (by omega))
  · have cp : ∀ (f g : Nat → Int32) (a i : Nat), i < 7 → a < h + 1 → va_cpy f g (0 : Int32).toNatClampNeg (nI (h * 7)).toNatClampNeg (7 : Int32).toNatClampNeg (7 * a + i) = if a = h then f i else g (7 * a + i) := by
      intro f g a i hi ha
      rw [nI_clamp (by omega), show (7 : Int32).toNatClampNeg = 7 from by decide, show (0 : Int32).toNatClampNeg = 0 from by decide, cpy_at]
      by_cases e : a = h
      · rw [if_pos e, if_pos (by omega), show 0 + (7 * a + i - h * 7) = i from by omega]
      · rw [if_neg e, if_neg (by omega)]
    refine ⟨⟨fun g i hg hi => ?_, fun g i hg hi => ?_, fun g i hg hi => ?_⟩, ((FrL_sA (by decide)).tr (FrL_sA (by decide))).tr (FrL_sA (by decide))⟩
    · show va_cpy (σ.2.1 1 0 3) (σ.2.1 4 0 0) _ _ _ (7 * g + i) = if g = h then nI (hL X.1 i) else y.1 g i
      rw [cp _ _ g i hi hg]
      by_cases e : g = h
      · rw [if_pos e, if_pos e]; exact v3 i hi
      · rw [if_neg e, if_neg e]; exact l1 g i (by omega) hi
    · show va_cpy (σ.2.1 1 0 4) (σ.2.1 4 0 1) _ _ _ (7 * g + i) = if g = h then nI (hR X.1 i) else y.2.1 g i
      rw [cp _ _ g i hi hg]
      by_cases e : g = h
      · rw [if_pos e, if_pos e]; exact v4 i hi
      · rw [if_neg e, if_neg e]; exact l2 g i (by omega) hi
    · show va_cpy (σ.2.1 1 0 5) (σ.2.1 4 0 2) _ _ _ (7 * g + i) = if g = h then nI (hF X.1 i) else y.2.2 g i
      rw [cp _ _ g i hi hg]
      by_cases e : g = h
      · rw [if_pos e, if_pos e]; exact v5 i hi
      · rw [if_neg e, if_neg e]; exact l3 g i (by omega) hi
abbrev SGc : List (Nat × Nat × Nat) := SP 0 ++ DLd
theorem XC.frD {σ σ1 : AS} {wd who : Nat → Nat} {h : Nat} {X : HX} (H : XC 0 σ wd who h X) (f : FrL DLd σ σ1) : XC 0 σ1 wd who h X := by
  obtain ⟨a, b, c, d⟩ := H
  refine ⟨a.fr f (by decide), ?_, ?_, ?_⟩
  · rw [f.a 1 0 6 (by decide)]; exact b
  · rw [f.a 1 0 7 (by decide)]; exact c
  · rw [f.f 1 0 14 (by decide)]; exact d
theorem goLoopC {nx cg : Int32 → Int32} {σ0 : AS} {wd : Nat → Nat} {n m : Nat} {tr way : Nat → Nat → Int32} {Str : (Nat → Int32) → Int32} {v3 : Int32} (hd : DrawIs nx cg) (hm24 : m ≤ 24) (He : EnvC σ0 n tr way) (hS : StrC σ0 Str) :
    ∀ (d j h f : Nat) (σ : AS) (X : HX) (y : LEDS), j + d = m → h + d ≤ 24 → d < f → XC 0 σ wd id h X → OKH wd X.1 → LdC σ h y → FrL SGc σ0 σ →
      wpO (g_X8_go_49 f (nI m) v3 (nI j) σ) (fun r σ2 => r = hc (hHours nx cg tr way Str n wd id d h X).1 - v3 ∧ XC 0 σ2 wd id (h + d) (hHours nx cg tr way Str n wd id d h X) ∧ LdC σ2 (h + d) (ledH nx cg tr way Str n wd id d h X y) ∧ FrL SGc σ0 σ2) := by
  intro d
  induction d with
  | zero =>
    intro j h f σ X y hj hh hf H ok hl fr
    obtain ⟨f, rfl⟩ : ∃ g, f = g + 1 := ⟨f - 1, by omega⟩
    rw [g_X8_go_49, show gF σ 1 0 12 = hc X.1 from H.1.2.2.2.2.2.2.2.1]
    exact wpO_f (nI_nlt (by omega) (by omega)) (wpO_some.mpr ⟨rfl, H, hl, fr⟩)
  | succ d ih =>
    intro j h f σ X y hj hh hf H ok hl fr
    obtain ⟨f, rfl⟩ : ∃ g, f = g + 1 := ⟨f - 1, by omega⟩
    rw [g_X8_go_49, nI_1]
    refine wpO_t (nI_lt (by omega) (by omega)) (wpO_b (show wpO (g_X1_passHours 0 (nI 1) σ) _ from passC (m := 1) (n := n) (tr := tr) (way := way) (Str := Str) hd (fun j hj => hj) (show h + 1 ≤ 24 by omega) H ok (He.fr fr) (hS.fr fr)) (fun _ σ1 q => ?_))
    obtain ⟨q1, f1⟩ := q
    have q1 : XC 0 σ1 wd id (h + 1) (hStep nx cg tr way Str n wd id h X) := q1
    refine wpO_b (writeC (by omega) q1 (hl.fr f1 (by decide))) (fun _ σ2 w => ?_)
    obtain ⟨w1, f2⟩ := w
    have s := ih (j + 1) (h + 1) f σ2 _ _ (by omega) (by omega) (by omega) (q1.frD f2) ok.step w1 ((fr.tr (f1.mono (by decide))).tr (f2.mono (by decide)))
    rw [show h + (d + 1) = h + 1 + d from by omega]
    exact s
/-! the reference's -/
theorem go57 {K : Int32 → Int32 → AS → Option (Int32 × AS)} {σ0 : AS} {h : Nat} {v2 v3 : Int32} {Q : Int32 → AS → Prop} (hh : h < 24) (h13 : σ0.1 9 0 13 = nI h) (hQ : ∀ σ1 : AS, (∀ t, σ1.2.1 9 0 31 t = if 14 * h ≤ t ∧ t < 14 * h + 14 then σ0.2.1 9 0 9 (t - 14 * h) else σ0.2.1 9 0 31 t) → FrL [(9, 0, 31)] σ0 σ1 → wpO (g_X9_go_95 K 400 v2 v3 0 σ1) Q) :
    ∀ (d j f : Nat) (σ : AS), j + d = 14 → d < f → (∀ t, σ.2.1 9 0 31 t = if 14 * h ≤ t ∧ t < 14 * h + j then σ0.2.1 9 0 9 (t - 14 * h) else σ0.2.1 9 0 31 t) → FrL [(9, 0, 31)] σ0 σ → wpO (g_X9_go_57 K f v2 v3 (nI j) σ) Q := by
  intro d
  induction d with
  | zero =>
    intro j f σ hj hf a fr
    obtain ⟨f, rfl⟩ : ∃ g, f = g + 1 := ⟨f - 1, by omega⟩
    have e : j = 14 := by omega
    subst e
    rw [g_X9_go_57]
    exact wpO_f (show ¬ nI 14 < nI 14 from nI_nlt (by omega) (by omega)) (hQ σ a fr)
  | succ d ih =>
    intro j f σ hj hf a fr
    obtain ⟨f, rfl⟩ : ∃ g, f = g + 1 := ⟨f - 1, by omega⟩
    have e : (14 : Int32) * gF σ 9 0 13 + nI j = nI (14 * h + j) := by rw [show gF σ 9 0 13 = nI h from (fr.f 9 0 13 (by decide)).trans h13, li14, pk_mul, nI_add]
    rw [g_X9_go_57, e, nI_1]
    refine wpO_t (show nI j < nI 14 from nI_lt (by omega) (by omega)) (wpO_t (inb_nI (by omega) (by omega)) (wpO_t (inb_nI (by omega) (by omega)) (wpO_lt ?_)))
    refine ih (j + 1) f _ (by omega) (by omega) ?_ (fr.tr (FrL_sA (by decide)))
    intro t
    unfold sA
    rw [sAf_a, if_pos ⟨rfl, rfl, rfl⟩, nI_clamp (by omega), gA_nI (by omega), upd_at, fr.a 9 0 9 (by decide), a t]
    by_cases e : t = 14 * h + j
    · rw [if_pos e, if_pos (by omega), show t - 14 * h = j from by omega]
    · rw [if_neg e]
      by_cases e2 : 14 * h ≤ t ∧ t < 14 * h + j
      · rw [if_pos e2, if_pos (by omega)]
      · rw [if_neg e2, if_neg (by omega)]
theorem go95 {K : Int32 → Int32 → AS → Option (Int32 × AS)} {σ0 : AS} {h : Nat} {v2 v3 : Int32} {Q : Int32 → AS → Prop} (hh : h < 24) (h13 : σ0.1 9 0 13 = nI h) (hQ : ∀ σ1 : AS, (∀ t, σ1.2.1 9 0 32 t = if 7 * h ≤ t ∧ t < 7 * h + 7 then σ0.2.1 9 0 28 (t - 7 * h) else σ0.2.1 9 0 32 t) → FrL [(9, 0, 32)] σ0 σ1 → wpO (g_X9_go_133 K 400 v2 v3 0 σ1) Q) :
    ∀ (d j f : Nat) (σ : AS), j + d = 7 → d < f → (∀ t, σ.2.1 9 0 32 t = if 7 * h ≤ t ∧ t < 7 * h + j then σ0.2.1 9 0 28 (t - 7 * h) else σ0.2.1 9 0 32 t) → FrL [(9, 0, 32)] σ0 σ → wpO (g_X9_go_95 K f v2 v3 (nI j) σ) Q := by
  intro d
  induction d with
  | zero =>
    intro j f σ hj hf a fr
    obtain ⟨f, rfl⟩ : ∃ g, f = g + 1 := ⟨f - 1, by omega⟩
    have e : j = 7 := by omega
    subst e
    rw [g_X9_go_95]
    exact wpO_f (show ¬ nI 7 < nI 7 from nI_nlt (by omega) (by omega)) (hQ σ a fr)
  | succ d ih =>
    intro j f σ hj hf a fr
    obtain ⟨f, rfl⟩ : ∃ g, f = g + 1 := ⟨f - 1, by omega⟩
    have e : (7 : Int32) * gF σ 9 0 13 + nI j = nI (7 * h + j) := by rw [show gF σ 9 0 13 = nI h from (fr.f 9 0 13 (by decide)).trans h13, li7, pk_mul, nI_add]
    rw [g_X9_go_95, e, nI_1]
    refine wpO_t (show nI j < nI 7 from nI_lt (by omega) (by omega)) (wpO_t (inb_nI (by omega) (by omega)) (wpO_t (inb_nI (by omega) (by omega)) (wpO_lt ?_)))
    refine ih (j + 1) f _ (by omega) (by omega) ?_ (fr.tr (FrL_sA (by decide)))
    intro t
    unfold sA
    rw [sAf_a, if_pos ⟨rfl, rfl, rfl⟩, nI_clamp (by omega), gA_nI (by omega), upd_at, fr.a 9 0 28 (by decide), a t]
    by_cases e : t = 7 * h + j
    · rw [if_pos e, if_pos (by omega), show t - 7 * h = j from by omega]
    · rw [if_neg e]
      by_cases e2 : 7 * h ≤ t ∧ t < 7 * h + j
      · rw [if_pos e2, if_pos (by omega)]
      · rw [if_neg e2, if_neg (by omega)]
theorem go133 {K : Int32 → Int32 → AS → Option (Int32 × AS)} {σ0 : AS} {h n : Nat} {v2 v3 : Int32} {Q : Int32 → AS → Prop} {f29 c11 : Nat → Int32} (hn8 : n ≤ 8) (hn : σ0.1 9 0 6 = nI n) (h13 : σ0.1 9 0 13 = nI h) (e29 : ∀ p, p < 8 → σ0.2.1 9 0 29 p = f29 p)
    (hQ : ∀ σ1 : AS, (∀ p, p < 8 → σ1.2.1 9 0 11 p = cmN id f29 c11 n p) → σ1.1 9 0 13 = nI (h + 1) → FrL [(9, 0, 11), (9, 0, 13)] σ0 σ1 → wpO (K v2 (v3 + 1) σ1) Q) :
    ∀ (d j f : Nat) (σ : AS), j + d = n → d < f → (∀ p, p < 8 → σ.2.1 9 0 11 p = cmN id f29 c11 j p) → FrL [(9, 0, 11)] σ0 σ → wpO (g_X9_go_133 K f v2 v3 (nI j) σ) Q := by
  intro d
  induction d with
  | zero =>
    intro j f σ hj hf a fr
    obtain ⟨f, rfl⟩ : ∃ g, f = g + 1 := ⟨f - 1, by omega⟩
    have e : j = n := by omega
    subst e
    rw [g_X9_go_133, show gF σ 9 0 6 = nI j from (fr.f 9 0 6 (by decide)).trans hn, show gF σ 9 0 13 = nI h from (fr.f 9 0 13 (by decide)).trans h13, nI_1]
    exact wpO_f (nI_nlt (by omega) (by omega)) (wpO_lt (hQ _ a (show nI h + 1 = nI (h + 1) from nI_1 h) ((fr.mono (by decide)).tr (FrL_sF (by decide)))))
  | succ d ih =>
    intro j f σ hj hf a fr
    obtain ⟨f, rfl⟩ : ∃ g, f = g + 1 := ⟨f - 1, by omega⟩
    rw [g_X9_go_133, show gF σ 9 0 6 = nI n from (fr.f 9 0 6 (by decide)).trans hn, nI_1]
    refine wpO_t (nI_lt (by omega) (by omega)) (wpO_t (inb_nI (by omega) (by omega)) (wpO_lt ?_))
    refine ih (j + 1) f _ (by omega) (by omega) ?_ (fr.tr (FrL_sA (by decide)))
    intro p hp
    unfold sA
    rw [sAf_a, if_pos ⟨rfl, rfl, rfl⟩, nI_clamp (by omega), gA_nI (by omega), gA_nI (by omega), a j (by omega), fr.a 9 0 29 (by decide), e29 j (by omega)]
    show upd (σ.2.1 9 0 11) j (cmN id f29 c11 j j + f29 j) p = upd (cmN id f29 c11 j) j (cmN id f29 c11 j j + f29 j) p
    rw [upd_at, upd_at]
    by_cases e : p = j
    · rw [if_pos e, if_pos e]
    · rw [if_neg e, if_neg e]; exact a p hp
theorem go183 {σ0 : AS} {n : Nat} {fi x26 : Int32} {cm c30 : Nat → Int32} (hn8 : n ≤ 8) (hn : σ0.1 9 0 6 = nI n) (e12 : σ0.1 9 0 12 = fi) (e26 : σ0.1 9 0 26 = x26) (e30 : ∀ p, p < 8 → σ0.2.1 9 0 30 p = c30 p) :
    ∀ (d j f : Nat) (σ : AS), j + d = n → d < f → (∀ p, p < 8 → σ.2.1 9 0 10 p = if p < j then cm p + c30 p else cm p) → FrL [(9, 0, 10)] σ0 σ →
      wpO (g_X9_go_183 f (nI j) σ) (fun r σ1 => r = x26 ∧ σ1.1 9 0 12 = fi + x26 ∧ (∀ p, p < 8 → σ1.2.1 9 0 10 p = if p < n then cm p + c30 p else cm p) ∧ FrL [(9, 0, 10), (9, 0, 12)] σ0 σ1) := by
  intro d
  induction d with
  | zero =>
    intro j f σ hj hf a fr
    obtain ⟨f, rfl⟩ : ∃ g, f = g + 1 := ⟨f - 1, by omega⟩
    have e : j = n := by omega
    subst e
    rw [g_X9_go_183, show gF σ 9 0 6 = nI j from (fr.f 9 0 6 (by decide)).trans hn]
    refine wpO_f (nI_nlt (by omega) (by omega)) (wpO_lt (wpO_some.mpr ⟨?_, ?_, a, (fr.mono (by decide)).tr (FrL_sF (by decide))⟩))
    · exact (fr.f 9 0 26 (by decide)).trans e26
    · show σ.1 9 0 12 + σ.1 9 0 26 = _
      rw [fr.f 9 0 12 (by decide), fr.f 9 0 26 (by decide), e12, e26]
  | succ d ih =>
    intro j f σ hj hf a fr
    obtain ⟨f, rfl⟩ : ∃ g, f = g + 1 := ⟨f - 1, by omega⟩
    rw [g_X9_go_183, show gF σ 9 0 6 = nI n from (fr.f 9 0 6 (by decide)).trans hn, nI_1]
    refine wpO_t (nI_lt (by omega) (by omega)) (wpO_t (inb_nI (by omega) (by omega)) (wpO_lt ?_))
    refine ih (j + 1) f _ (by omega) (by omega) ?_ (fr.tr (FrL_sA (by decide)))
    intro p hp
    unfold sA
    rw [sAf_a, if_pos ⟨rfl, rfl, rfl⟩, nI_clamp (by omega), gA_nI (by omega), gA_nI (by omega), a j (by omega), fr.a 9 0 30 (by decide), e30 j (by omega), if_neg (Nat.lt_irrefl j), upd_at]
    by_cases e : p = j
    · rw [if_pos e, if_pos (by omega), e]
    · rw [if_neg e, a p hp]
      by_cases q : p < j
      · rw [if_pos q, if_pos (by omega)]
      · rw [if_neg q, if_neg (by omega)]
abbrev SGm : List (Nat × Nat × Nat) := SH 9 ++ [(9, 0, 31), (9, 0, 32), (9, 0, 11), (9, 0, 13)]
theorem VMw.fr9 {S : List (Nat × Nat × Nat)} {k : Nat} {σ σ1 : AS} {who : Nat → Nat} {X : HX} (H : VMw k σ who X) (f : FrL S σ σ1) (q : ∀ z ∈ [k, 14, 25, 26, 27, 28, 29, 30], (9, 0, z) ∉ S) : VMw k σ1 who X := by
  obtain ⟨⟨F, O, m, V⟩, h30⟩ := H
  refine ⟨⟨F, O, m, V.fr f (fun z hz => q z (by simp only [List.mem_cons, List.not_mem_nil, or_false] at hz ⊢; rcases hz with e | e | e | e | e | e | e <;> simp [e]))⟩, ?_⟩
  rw [f.a 9 0 30 (q 30 (by simp))]; exact h30
theorem goLoopM {nx cg : Int32 → Int32} {σ0 : AS} {wd : Nat → Nat} {n m : Nat} {tr way : Nat → Nat → Int32} {Str : (Nat → Int32) → Int32} {fi : Int32} {cm : Nat → Int32} (hd : DrawIs nx cg) (hm24 : m ≤ 24) (hwo : WayOK n way) (He : EnvM σ0 n tr way) (hS : StrM σ0 Str) (h7 : ∀ i, i < 7 → σ0.2.1 9 0 7 i = nI (wd i)) (h12 : σ0.1 9 0 12 = fi) (h10 : ∀ p, p < 8 → σ0.2.1 9 0 10 p = cm p) :
    ∀ (d j h f : Nat) (σ : AS) (X : HX) (y : LEDS), j + d = m → h + d ≤ 24 → d < f → VMw 9 σ id X → OKH wd X.1 → LdM σ 31 32 h y → (∀ p, p < 8 → σ.2.1 9 0 11 p = X.2.2.1 p) → σ.1 9 0 13 = nI h → FrL SGm σ0 σ →
      wpO (g_X9_go_35 f (nI m) (nI j) σ) (fun r σ2 => r = hc (hHours nx cg tr way Str n wd id d h X).1 ∧ VMw 9 σ2 id (hHours nx cg tr way Str n wd id d h X) ∧ LdM σ2 31 32 (h + d) (ledH nx cg tr way Str n wd id d h X y) ∧ (∀ p, p < 8 → σ2.2.1 9 0 11 p = (hHours nx cg tr way Str n wd id d h X).2.2.1 p) ∧ σ2.1 9 0 13 = nI (h + d) ∧
        σ2.1 9 0 12 = fi + hc (hHours nx cg tr way Str n wd id d h X).1 ∧ (∀ p, p < 8 → σ2.2.1 9 0 10 p = if p < n then cm p + (hHours nx cg tr way Str n wd id d h X).2.1 p else cm p) ∧ FrL (SGm ++ [(9, 0, 10), (9, 0, 12)]) σ0 σ2) := by
  have hn8 := He.2.1
  intro d
  induction d with
  | zero =>
    intro j h f σ X y hj hh hf V ok hl h11 h13 fr
    obtain ⟨f, rfl⟩ : ∃ g, f = g + 1 := ⟨f - 1, by omega⟩
    rw [g_X9_go_35]
    refine wpO_f (nI_nlt (by omega) (by omega)) ?_
    have e26 : σ.1 9 0 26 = hc X.1 := by obtain ⟨⟨F, O, mm, V⟩, -⟩ := V; exact V.2.2.2.2.2.2.1
    refine wpO_mono (go183 (σ0 := σ) (cm := cm) hn8 (He.fr fr).1 ((fr.f 9 0 12 (by decide)).trans h12) e26 V.2 n 0 400 σ (by omega) (by omega) (fun p hp => by rw [if_neg (Nat.not_lt_zero p), fr.a 9 0 10 (by decide)]; exact h10 p hp) FrL.rf) ?_
    intro r σ2 q
    obtain ⟨q1, q2, q3, f2⟩ := q
    exact ⟨q1, V.fr9 f2 (by decide), hl.fr f2 (by decide) (by decide), by rw [f2.a 9 0 11 (by decide)]; exact h11, by rw [f2.f 9 0 13 (by decide)]; exact h13, q2, q3, (fr.mono (by decide)).tr (f2.mono (by decide))⟩
  | succ d ih =>
    intro j h f σ X y hj hh hf V ok hl h11 h13 fr
    obtain ⟨f, rfl⟩ : ∃ g, f = g + 1 := ⟨f - 1, by omega⟩
    rw [g_X9_go_35, show gF σ 9 0 13 = nI h from h13]
    refine wpO_t (nI_lt (by omega) (by omega)) (wpO_b (hourW (wd := wd) hd (Or.inl rfl) hwo (fun j hj => hj) (by omega) ok (He.fr fr) (hS.fr fr) (wd_no (fun i hi => by rw [fr.a 9 0 7 (by decide)]; exact h7 i hi)) V) (fun _ σ1 q => ?_))
    obtain ⟨q1, q2, f1⟩ := q
    have fr1 : FrL SGm σ0 σ1 := fr.tr (f1.mono (by decide))
    have e13 : σ1.1 9 0 13 = nI h := by rw [f1.f 9 0 13 (by decide)]; exact h13
    refine go57 (σ0 := σ1) (by omega) e13 ?_ 14 0 400 σ1 (by omega) (by omega) (fun t => by rw [if_neg (by omega)]) FrL.rf
    intro σ2 a31 f2
    have e13' : σ2.1 9 0 13 = nI h := by rw [f2.f 9 0 13 (by decide)]; exact e13
    refine go95 (σ0 := σ2) (by omega) e13' ?_ 7 0 400 σ2 (by omega) (by omega) (fun t => by rw [if_neg (by omega)]) FrL.rf
    intro σ3 a32 f3
    have f13 : FrL [(9, 0, 31), (9, 0, 32)] σ1 σ3 := (f2.mono (by decide)).tr (f3.mono (by decide))
    have q1' := q1
    obtain ⟨v1, v2, v3, v4, v5, v6, v7, v8⟩ := q1'
    refine go133 (σ0 := σ3) (h := h) (f29 := fun j => nI (hO (hStep nx cg tr way Str n wd id h X).1 j)) (c11 := X.2.2.1) hn8 ((f13.f 9 0 6 (by decide)).trans (He.fr fr1).1) ((f13.f 9 0 13 (by decide)).trans e13) (fun p hp => by rw [f13.a 9 0 29 (by decide)]; exact v5 p hp) ?_ n 0 400 σ3 (by omega) (by omega) (fun p hp => by rw [f13.a 9 0 11 (by decide), f1.a 9 0 11 (by decide)]; exact h11 p hp) FrL.rf
    intro σ4 a11 a13 f4
    rw [nI_1]
    have f14 : FrL [(9, 0, 31), (9, 0, 32), (9, 0, 11), (9, 0, 13)] σ1 σ4 := (f13.mono (by decide)).tr (f4.mono (by decide))
    have hl1 : LdM σ1 31 32 h y := hl.fr f1 (by decide) (by decide)
    have s := ih (j + 1) (h + 1) f σ4 _ (ledUp h (hStep nx cg tr way Str n wd id h X) y) (by omega) (by omega) (by omega) (q2.fr9 f14 (by decide)) ok.step ?_ a11 a13 (fr1.tr (f14.mono (by decide)))
    · rw [show h + (d + 1) = h + 1 + d from by omega]
      exact s
    · obtain ⟨l1, l2, l3⟩ := hl1
      refine ⟨fun g i hg hi => ?_, fun g i hg hi => ?_, fun g i hg hi => ?_⟩
      · rw [f4.a 9 0 31 (by decide), f3.a 9 0 31 (by decide), a31]
        show _ = if g = h then nI (hL (hStep nx cg tr way Str n wd id h X).1 i) else y.1 g i
        by_cases e : g = h
        · rw [if_pos e, if_pos (by omega), show 14 * g + 2 * i - 14 * h = 2 * i from by omega]; exact v2 i hi
        · rw [if_neg e, if_neg (by omega)]; exact l1 g i (by omega) hi
      · rw [f4.a 9 0 31 (by decide), f3.a 9 0 31 (by decide), a31]
        show _ = if g = h then nI (hR (hStep nx cg tr way Str n wd id h X).1 i) else y.2.1 g i
        by_cases e : g = h
        · rw [if_pos e, if_pos (by omega), show 14 * g + 2 * i + 1 - 14 * h = 2 * i + 1 from by omega]; exact v3 i hi
        · rw [if_neg e, if_neg (by omega)]; exact l2 g i (by omega) hi
      · rw [f4.a 9 0 32 (by decide), a32]
        show _ = if g = h then nI (hF (hStep nx cg tr way Str n wd id h X).1 i) else y.2.2 g i
        by_cases e : g = h
        · rw [if_pos e, if_pos (by omega), show 7 * g + i - 7 * h = i from by omega, f2.a 9 0 28 (by decide)]; exact v4 i hi
        · rw [if_neg e, if_neg (by omega), f2.a 9 0 32 (by decide)]; exact l3 g i (by omega) hi
