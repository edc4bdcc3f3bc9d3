/-! a whole hour: rests, then comfort -/
def inS (n : Nat) (X Y : Nat → Nat) (j : Nat) : Nat := (if j + 1 < n then X j else 0) + (if 0 < j then Y (j - 1) else 0)
def cmf (tr way : Nat → Nat → Int32) (n : Nat) (who : Nat → Nat) (h : Nat) (s : HS) (j : Nat) : Int32 :=
  if way (who j) h = 2 then 0 else 3 * mni (nI (inS n (hL s) (hR s) j)) (tr (who j) 0) - 2 * nI (inS n (hF s) (hF s) j)
def cmN (who : Nat → Nat) (f : Nat → Int32) (cm : Nat → Int32) : Nat → Nat → Int32
  | 0 => cm
  | j + 1 => upd (cmN who f cm j) (who j) (cmN who f cm j (who j) + f j)
def hBeg (s : HS) : HS := (hL s, hR s, fun _ => 0, fun _ => 0, hz s, hc s, 0)
def hRests (nx cg : Int32 → Int32) (tr way : Nat → Nat → Int32) (Str : (Nat → Int32) → Int32) (n : Nat) (wd who : Nat → Nat) (h : Nat) : Nat → HS → HS
  | 0, s => s
  | m + 1, s => hRest nx cg tr way Str n wd who h m (hRests nx cg tr way Str n wd who h m s)
abbrev HX : Type := HS × ((Nat → Int32) × ((Nat → Int32) × Int32))
def hStep (nx cg : Int32 → Int32) (tr way : Nat → Nat → Int32) (Str : (Nat → Int32) → Int32) (n : Nat) (wd who : Nat → Nat) (h : Nat) (X : HX) : HX :=
  (hRests nx cg tr way Str n wd who h (n - 1) (hBeg X.1),
   cmN who (cmf tr way n who h (hRests nx cg tr way Str n wd who h (n - 1) (hBeg X.1))) X.2.1 n,
   cmN who (fun j => nI (hO (hRests nx cg tr way Str n wd who h (n - 1) (hBeg X.1)) j)) X.2.2.1 n,
   if hm (hRests nx cg tr way Str n wd who h (n - 1) (hBeg X.1)) = 0 then X.2.2.2 else nI (h + 1))
def hHours (nx cg : Int32 → Int32) (tr way : Nat → Nat → Int32) (Str : (Nat → Int32) → Int32) (n : Nat) (wd who : Nat → Nat) : Nat → Nat → HX → HX
  | 0, _, X => X
  | m + 1, h, X => hHours nx cg tr way Str n wd who m (h + 1) (hStep nx cg tr way Str n wd who h X)
def XC (o : Nat) (σ : AS) (wd who : Nat → Nat) (h : Nat) (X : HX) : Prop :=
  VC o σ wd who h X.1 ∧ (∀ p, p < 8 → σ.2.1 1 o 6 p = X.2.1 p) ∧ (∀ p, p < 8 → σ.2.1 1 o 7 p = X.2.2.1 p) ∧ σ.1 1 o 14 = X.2.2.2
abbrev SP (o : Nat) : List (Nat × Nat × Nat) := [(1, o, 6), (1, o, 7), (1, o, 11), (1, o, 14)] ++ SC o
section HC5
variable {nx cg : Int32 → Int32} {o : Nat} {σ : AS} {wd who : Nat → Nat} {h n : Nat} {s : HS} {tr way : Nat → Nat → Int32} {Str : (Nat → Int32) → Int32}
theorem inS_le (hk : OKH wd s) {j : Nat} (hj : j < n) (hn : n ≤ 8) : inS n (hL s) (hR s) j ≤ 18 := by
  unfold inS
  have h1 : j + 1 < n → hL s j ≤ 9 := fun z => by have a := hk.1 j (by omega); have b := hk.2 j (by omega); omega
  have h2 : 0 < j → hR s (j - 1) ≤ 9 := fun z => by have a := hk.1 (j - 1) (by omega); have b := hk.2 (j - 1) (by omega); omega
  split <;> split <;> omega
theorem inchesSeatC {j : Nat} (He : EnvC σ n tr way) (H : VC o σ wd who h s) (hj : j < n) : g_X1_inchesOfSeat o (nI j) σ = some (nI (inS n (hL s) (hR s) j), σ) := by
  have hb := He.2.1
  unfold g_X1_inchesOfSeat g_X1_inchesOfSeat_21 inS
  simp only [hasRest_eq He.1 hb, bnd_some]
  have e : 0 < j → nI j - 1 = nI (j - 1) := fun z => by rw [li1, pk_sub (by omega)]
  by_cases c1 : j + 1 < n
  · have a1 : inb (nI j) (n - 1) := inb_nI (by omega) (by omega)
    have a2 : inb (nI j) 7 := inb_nI (by omega) (by omega)
    rw [if_pos a1, if_neg one_ne, if_pos a2, gA_nI (by omega), H.2.2.1 j (by omega), if_pos c1]
    by_cases c2 : 0 < j
    · have a3 : inb (nI j - 1) (n - 1) := (inb_pred (by omega) (by omega)).mpr ⟨c2, by omega⟩
      have a4 : inb (nI j - 1) 7 := (inb_pred (by omega) (by omega)).mpr ⟨c2, by omega⟩
      rw [if_pos a3, if_neg one_ne, if_pos a4, if_pos c2, e c2, gA_nI (by omega), H.2.2.2.1 (j - 1) (by omega), nI_add]
    · have a3 : ¬ inb (nI j - 1) (n - 1) := fun z => c2 ((inb_pred (by omega) (by omega)).mp z).1
      rw [if_neg a3, if_pos rfl, if_neg c2]; rfl
  · have a1 : ¬ inb (nI j) (n - 1) := fun z => c1 (by have := (inb_iffN (by omega)).mp z; omega)
    rw [if_neg a1, if_pos rfl, if_neg c1]
    by_cases c2 : 0 < j
    · have a3 : inb (nI j - 1) (n - 1) := (inb_pred (by omega) (by omega)).mpr ⟨c2, by omega⟩
      have a4 : inb (nI j - 1) 7 := (inb_pred (by omega) (by omega)).mpr ⟨c2, by omega⟩
      rw [if_pos a3, if_neg one_ne, if_pos a4, if_pos c2, e c2, gA_nI (by omega), H.2.2.2.1 (j - 1) (by omega), li0, nI_add]
    · have a3 : ¬ inb (nI j - 1) (n - 1) := fun z => c2 ((inb_pred (by omega) (by omega)).mp z).1
      rw [if_neg a3, if_pos rfl, if_neg c2]; rfl
theorem fightsSeatC {j : Nat} (He : EnvC σ n tr way) (H : VC o σ wd who h s) (hj : j < n) : g_X1_fightsOfSeat o (nI j) σ = some (nI (inS n (hF s) (hF s) j), σ) := by
  have hb := He.2.1
  unfold g_X1_fightsOfSeat g_X1_fightsOfSeat_21 inS
  simp only [hasRest_eq He.1 hb, bnd_some]
  have e : 0 < j → nI j - 1 = nI (j - 1) := fun z => by rw [li1, pk_sub (by omega)]
  by_cases c1 : j + 1 < n
  · have a1 : inb (nI j) (n - 1) := inb_nI (by omega) (by omega)
    have a2 : inb (nI j) 7 := inb_nI (by omega) (by omega)
    rw [if_pos a1, if_neg one_ne, if_pos a2, gA_nI (by omega), H.2.2.2.2.1 j (by omega), if_pos c1]
    by_cases c2 : 0 < j
    · have a3 : inb (nI j - 1) (n - 1) := (inb_pred (by omega) (by omega)).mpr ⟨c2, by omega⟩
      have a4 : inb (nI j - 1) 7 := (inb_pred (by omega) (by omega)).mpr ⟨c2, by omega⟩
      rw [if_pos a3, if_neg one_ne, if_pos a4, if_pos c2, e c2, gA_nI (by omega), H.2.2.2.2.1 (j - 1) (by omega), nI_add]
    · have a3 : ¬ inb (nI j - 1) (n - 1) := fun z => c2 ((inb_pred (by omega) (by omega)).mp z).1
      rw [if_neg a3, if_pos rfl, if_neg c2]; rfl
  · have a1 : ¬ inb (nI j) (n - 1) := fun z => c1 (by have := (inb_iffN (by omega)).mp z; omega)
    rw [if_neg a1, if_pos rfl, if_neg c1]
    by_cases c2 : 0 < j
    · have a3 : inb (nI j - 1) (n - 1) := (inb_pred (by omega) (by omega)).mpr ⟨c2, by omega⟩
      have a4 : inb (nI j - 1) 7 := (inb_pred (by omega) (by omega)).mpr ⟨c2, by omega⟩
      rw [if_pos a3, if_neg one_ne, if_pos a4, if_pos c2, e c2, gA_nI (by omega), H.2.2.2.2.1 (j - 1) (by omega), li0, nI_add]
    · have a3 : ¬ inb (nI j - 1) (n - 1) := fun z => c2 ((inb_pred (by omega) (by omega)).mp z).1
      rw [if_neg a3, if_pos rfl, if_neg c2]; rfl
theorem comfortC {j : Nat} (He : EnvC σ n tr way) (H : VC o σ wd who h s) (hw : ∀ j, j < n → who j < n) (hj : j < n) (hh : h < 24) : g_X1_comfortAt o (nI j) σ = some (cmf tr way n who h s j, σ) := by
  have hb := He.2.1
  unfold g_X1_comfortAt cmf
  rw [if_pos (inb_nI (show j < 8 by omega) (by omega))]
  show lt (gA σ 1 o 8 (nI j)) _ = _
  rw [gA_nI (by omega), H.1 j (by omega), show gF σ 1 o 11 = nI h from H.2.2.2.2.2.2.2.2.2]
  unfold lt
  dsimp only
  rw [how_eq He.1 hb (hw j hj) hh, He.2.2.2 _ h (hw j hj) hh, bnd_some]
  by_cases c : way (who j) h = 2
  · rw [if_pos c, if_pos c]
  · rw [if_neg c, if_neg c, inchesSeatC He H hj, bnd_some, li0, trait_eq He.1 hb (hw j hj) (by omega), bnd_some, fightsSeatC He H hj, bnd_some, He.2.2.1 _ 0 (hw j hj) (by omega)]
/-- the seats' loop -/
theorem loop63 {k2 : Int32 → Int32 → AS → Option (Unit × AS)} {v1 v2 : Int32} {Q : Unit → AS → Prop} {cm0 yl0 : Nat → Int32} {q : Int32} (hw : ∀ j, j < n → who j < n) (hh : h < 24) (hb : n ≤ 8)
    (hk : ∀ σ1, VC o σ1 wd who h s → EnvC σ1 n tr way → (∀ p, p < 8 → σ1.2.1 1 o 6 p = cmN who (cmf tr way n who h s) cm0 n p) → (∀ p, p < 8 → σ1.2.1 1 o 7 p = cmN who (fun j => nI (hO s j)) yl0 n p) → σ1.1 1 o 14 = q → FrL (SP o) σ σ1 →
      wpO (lt (sF σ1 1 o 11 (gF σ1 1 o 11 + 1)) fun σ12 => if gF σ12 1 o 10 = 0 then k2 v1 (v2 + 1) σ12 else lt (sF σ12 1 o 14 (gF σ12 1 o 11)) fun σ14 => k2 v1 (v2 + 1) σ14) Q) :
    ∀ (d j f : Nat) (σ1 : AS), j + d = n → d < f → VC o σ1 wd who h s → EnvC σ1 n tr way → (∀ p, p < 8 → σ1.2.1 1 o 6 p = cmN who (cmf tr way n who h s) cm0 j p) → (∀ p, p < 8 → σ1.2.1 1 o 7 p = cmN who (fun j => nI (hO s j)) yl0 j p) → σ1.1 1 o 14 = q → FrL (SP o) σ σ1 →
      wpO (g_X1_passHours_63 o k2 f v1 v2 (nI j) σ1) Q := by
  intro d
  induction d with
  | zero =>
    intro j f σ1 hj hf H He hc hy hq fr
    obtain ⟨f, rfl⟩ : ∃ g, f = g + 1 := ⟨f - 1, by omega⟩
    have e : j = n := by omega
    subst e
    rw [g_X1_passHours_63]
    refine wpO_e (number_eq He.1) ?_
    exact wpO_f (nI_nlt (Nat.le_refl j) (by omega)) (hk σ1 H He hc hy hq fr)
  | succ d ih =>
    intro j f σ1 hj hf H He hc hy hq fr
    obtain ⟨f, rfl⟩ : ∃ g, f = g + 1 := ⟨f - 1, by omega⟩
    have hjn : j < n := by omega
    have hwj := hw j hjn
    rw [g_X1_passHours_63]
    refine wpO_e (number_eq He.1) ?_
    refine wpO_t (nI_lt hjn (by omega)) (wpO_t (inb_nI (show j < 8 by omega) (by omega)) ?_)
    rw [gA_nI (by omega), H.1 j (by omega)]
    refine wpO_t (inb_nI (show who j < 8 by omega) (by omega)) (wpO_e (comfortC He H hw hjn hh) (wpO_lt ?_))
    have g6 : gA σ1 1 o 6 (nI (who j)) = cmN who (cmf tr way n who h s) cm0 j (who j) := by rw [gA_nI (by omega)]; exact hc _ (by omega)
    rw [g6]
    have f1 : FrL (SP o) σ1 (sA σ1 1 o 6 (nI (who j)) (cmN who (cmf tr way n who h s) cm0 j (who j) + cmf tr way n who h s j)) := FrL_sA (by simp)
    generalize hσ : sA σ1 1 o 6 (nI (who j)) (cmN who (cmf tr way n who h s) cm0 j (who j) + cmf tr way n who h s j) = σ2 at f1 ⊢
    have g8 : ∀ i, i < 8 → gA σ2 1 o 8 (nI i) = nI (who i) := fun i hi => by rw [gA_nI (by omega), ← hσ]; simpa [sAf_a] using H.1 i hi
    have g9 : gA σ2 1 o 9 (nI j) = nI (hO s j) := by rw [gA_nI (by omega), ← hσ]; simpa [sAf_a] using H.2.2.2.2.2.1 j (by omega)
    have g7 : gA σ2 1 o 7 (nI (who j)) = cmN who (fun j => nI (hO s j)) yl0 j (who j) := by rw [gA_nI (by omega), ← hσ]; simpa [sAf_a] using hy (who j) (by omega)
    rw [g8 j (by omega)]
    refine wpO_t (inb_nI (show who j < 8 by omega) (by omega)) (wpO_lt ?_)
    rw [g9, g7]
    have f2 : FrL [(1, o, 7)] σ2 (sA σ2 1 o 7 (nI (who j)) (cmN who (fun j => nI (hO s j)) yl0 j (who j) + nI (hO s j))) := FrL_sA (by simp)
    have f1' : FrL [(1, o, 6)] σ1 σ2 := by rw [← hσ]; exact FrL_sA (by simp)
    rw [nI_1]
    have ew : (nI (who j)).toNatClampNeg = who j := nI_clamp (by omega)
    refine ih (j + 1) f _ (by omega) (by omega) ?_ ?_ (fun p hp => ?_) (fun p hp => ?_) ?_ (fr.tr (f1.tr (f2.mono (by simp))))
    · exact (H.fr f1' (by intro k hk; simp at hk ⊢; omega)).fr f2 (by intro k hk; simp at hk ⊢; omega)
    · exact (He.fr f1' (by simp) (by simp) (by simp)).fr f2 (by simp) (by simp) (by simp)
    · rw [f2.a _ _ _ (by simp), ← hσ]
      show (sAf σ1 1 o 6 _).2.1 1 o 6 p = upd (cmN who (cmf tr way n who h s) cm0 j) (who j) _ p
      rw [sAf_a, if_pos ⟨rfl, rfl, rfl⟩, ew, upd_at, upd_at, hc p hp]
    · show (sAf σ2 1 o 7 _).2.1 1 o 7 p = upd (cmN who (fun j => nI (hO s j)) yl0 j) (who j) _ p
      have e7 : σ2.2.1 1 o 7 = σ1.2.1 1 o 7 := f1'.a _ _ _ (by simp)
      rw [sAf_a, if_pos ⟨rfl, rfl, rfl⟩, ew, upd_at, upd_at, e7, hy p hp]
    · rw [f2.f _ _ _ (by simp), f1'.f _ _ _ (by simp)]; exact hq
end HC5
