/-! shelves -/
theorem isShelfC_eq (a : Int32) (σ : AS) : g_X8_isShelf a σ = some (if inb a 6 then 1 else 0, σ) := by
  unfold g_X8_isShelf
  rw [ifr li6 (by omega)]
  split <;> rfl
theorem isShelfM_eq (a : Int32) (σ : AS) : g_X9_isShelf a σ = some (if inb a 6 then 1 else 0, σ) := by
  unfold g_X9_isShelf
  rw [within0_eq a 5 6 (by decide) (by omega), bnd_some]
  by_cases c : inb a 6
  · rw [if_pos c]; rfl
  · rw [if_neg c]; rfl
theorem hasB_eq {σ : AS} {n : Nat} (hn : σ.1 2 0 2 = nI n) (hb : n ≤ 50) (a : Int32) : g_X2_has a σ = some (if inb a n then 1 else 0, σ) := by
  unfold g_X2_has
  rw [ifr (show gF σ 2 0 2 = nI n from hn) (by omega)]
  split <;> rfl
theorem isBodyM_eq {σ : AS} {n : Nat} (hn : σ.1 9 0 44 = nI n) (hb : n ≤ 50) (a : Int32) : g_X9_isBody a σ = some (if inb a n then 1 else 0, σ) := by
  unfold g_X9_isBody
  rw [show gF σ 9 0 44 = nI n from hn, within0_eq a _ n rfl (by omega), bnd_some]
  by_cases c : inb a n
  · rw [if_pos c]; rfl
  · rw [if_neg c]; rfl
theorem hasPlace_eq {σ : AS} {p n : Nat} (hn : σ.1 5 p 1 = nI n) (hb : n ≤ 60) (a : Int32) : g_X5_hasPlace p a σ = some (if inb a n then 1 else 0, σ) := by
  unfold g_X5_hasPlace
  rw [ifr (show gF σ 5 p 1 = nI n from hn) (by omega)]
  split <;> rfl
theorem k_e2 : ∀ k : Nat, k < 7 → ((nI k - 2 = -2) ↔ k = 0) := by decide
theorem k_n0 : ∀ k : Nat, k < 7 → ((nI k - 2 < 0) ↔ k < 2) := by decide
theorem k_z0 : ∀ k : Nat, k < 7 → ((nI k - 2 = 0) ↔ k = 2) := by decide
theorem shM_n0 {k b : Nat} (hk : k < 7) (hb : b < 50) : shM k b < 0 ↔ k = 0 := by
  unfold shM
  by_cases c0 : k = 0
  · rw [if_pos c0]; exact ⟨fun _ => c0, fun _ => by decide⟩
  · rw [if_neg c0]
    by_cases c1 : k = 1
    · rw [if_pos c1]; exact ⟨fun z => absurd z (nI_pos (by omega)), fun z => absurd z c0⟩
    · rw [if_neg c1]; exact ⟨fun z => absurd z (nI_pos (by omega)), fun z => absurd z c0⟩
theorem shM_50 {k b : Nat} (hk : k < 7) (hb : b < 50) : shM k b < nI 50 ↔ k < 2 := by
  unfold shM
  by_cases c0 : k = 0
  · rw [if_pos c0]; exact ⟨fun _ => by omega, fun _ => by decide⟩
  · rw [if_neg c0]
    by_cases c1 : k = 1
    · rw [if_pos c1]; exact ⟨fun _ => by omega, fun _ => nI_lt (by omega) (by omega)⟩
    · rw [if_neg c1]; exact ⟨fun z => absurd z (nI_nlt (by omega) (by omega)), fun z => by omega⟩
theorem shM_e50 {k b : Nat} (hk : k < 7) (hb : b < 50) : shM k b = nI 50 ↔ k = 2 := by
  unfold shM
  by_cases c0 : k = 0
  · rw [if_pos c0]; exact ⟨fun z => absurd z (by decide), fun _ => by omega⟩
  · rw [if_neg c0]
    by_cases c1 : k = 1
    · rw [if_pos c1]; exact ⟨fun z => by have := (nI_eq (by omega) (by omega)).mp z; omega, fun _ => by omega⟩
    · rw [if_neg c1]; exact ⟨fun z => by have := (nI_eq (by omega) (by omega)).mp z; omega, fun z => by rw [z]⟩
/-- the shelf's own body if it holds one -/
theorem shM_b {k b : Nat} (h : k = 1 → b < 50) : ∃ b', b' < 50 ∧ shM k b = shM k b' ∧ (k = 1 → b' = b) := by
  by_cases c : k = 1
  · exact ⟨b, h c, rfl, fun _ => rfl⟩
  · refine ⟨0, by omega, ?_, fun z => absurd z c⟩
    unfold shM
    rw [if_neg c, if_neg c]
/-- what a shelf's place is refused by -/
def rfs (k ln : Nat) (i : Int32) : Int32 := if k = 0 then -11 else if k = 1 then -12 else if inb i ln then 0 else -13
theorem refC {σ : AS} {y : SHV} {p : Nat} (hp : p < 6) (h : ShC σ y) (hk : y.1 p ≤ 6) (hl : y.2.2.1 p ≤ 60) (i : Int32) : g_X8_refusalAt (nI p) i σ = some (rfs (y.1 p) (y.2.2.1 p) i, σ) := by
  obtain ⟨s1, s2, s3, s4⟩ := h p hp
  have e1 : gF σ 5 (nI p).toNatClampNeg 2 = nI (y.1 p) - 2 := by rw [nI_clamp (by omega)]; exact s1
  unfold g_X8_refusalAt g_X5_isRow rfs
  rw [isShelfC_eq, if_pos (inb_nI hp (by omega)), bnd_some, if_neg one_ne, if_pos (inb_nI hp (by omega)), e1]
  by_cases c0 : y.1 p = 0
  · rw [if_pos ((k_e2 _ (by omega)).mpr c0), if_pos c0]
  · rw [if_neg (fun z => c0 ((k_e2 _ (by omega)).mp z)), if_neg c0]
    by_cases c1 : y.1 p = 1
    · rw [if_pos ((k_n0 _ (by omega)).mpr (by omega)), if_pos c1]; rfl
    · rw [if_neg (fun z => by have := (k_n0 _ (by omega)).mp z; omega), if_neg c1, bnd_some, if_neg one_ne, hasPlace_eq (by rw [nI_clamp (by omega)]; exact s3) hl, bnd_some]
      by_cases c2 : inb i (y.2.2.1 p)
      · rw [if_pos c2, if_neg one_ne, if_pos c2]
      · rw [if_neg c2, if_pos rfl, if_neg c2]
theorem refM {σ : AS} {y : SHV} {p : Nat} {b : Nat} (hp : p < 6) (h : ShM σ y) (hP : ShP b y) (hb : b ≤ 50) (i : Int32) : g_X9_refusal (nI p) i σ = some (rfs (y.1 p) (y.2.2.1 p) i, σ) := by
  obtain ⟨s1, s2, s3⟩ := h p hp
  obtain ⟨r1, r2, r3, r4⟩ := hP p hp
  obtain ⟨b', hb', e, -⟩ := shM_b (k := y.1 p) (b := y.2.1 p) (fun z => by have := r2 z; omega)
  have i6 : inb (nI p) 6 := inb_nI hp (by omega)
  unfold g_X9_refusal rfs
  rw [isShelfM_eq, if_pos i6, bnd_some, if_neg one_ne, if_pos i6, gA_nI (by omega), gA_nI (by omega), s1, s2, e]
  by_cases c0 : y.1 p = 0
  · rw [if_pos ((shM_n0 (by omega) hb').mpr c0), if_pos c0]
  · rw [if_neg (fun z => c0 ((shM_n0 (by omega) hb').mp z)), if_neg c0]
    by_cases c1 : y.1 p = 1
    · rw [if_pos (show shM (y.1 p) b' < 50 from (shM_50 (by omega) hb').mpr (by omega)), if_pos c1]
    · rw [if_neg (show ¬ shM (y.1 p) b' < 50 from fun z => by have := (shM_50 (by omega) hb').mp z; omega), if_neg c1, ifr (K := nI (y.2.2.1 p)) rfl (by omega)]
      by_cases c2 : inb i (y.2.2.1 p)
      · rw [if_pos c2, if_pos c2]
      · rw [if_neg c2, if_neg c2]
theorem rfs_0 {k ln : Nat} {i : Int32} : rfs k ln i = 0 ↔ ¬ k = 0 ∧ ¬ k = 1 ∧ inb i ln := by
  unfold rfs
  by_cases c0 : k = 0
  · rw [if_pos c0]; exact ⟨fun z => absurd z (by decide), fun z => absurd c0 z.1⟩
  · rw [if_neg c0]
    by_cases c1 : k = 1
    · rw [if_pos c1]; exact ⟨fun z => absurd z (by decide), fun z => absurd c1 z.2.1⟩
    · rw [if_neg c1]
      by_cases c2 : inb i ln
      · rw [if_pos c2]; exact ⟨fun _ => ⟨c0, c1, c2⟩, fun _ => rfl⟩
      · rw [if_neg c2]; exact ⟨fun z => absurd z (by decide), fun z => absurd z.2.2 c2⟩
theorem ref_no {a : Int32} (c : ¬ inb a 6) (i : Int32) (σ : AS) : g_X8_refusalAt a i σ = some (-1, σ) ∧ g_X9_refusal a i σ = some (-1, σ) := by
  unfold g_X8_refusalAt g_X9_refusal
  rw [isShelfC_eq, isShelfM_eq, if_neg c]
  exact ⟨rfl, rfl⟩
/-- a call's two sides, where it answers a long -/
def BothL (x y : AS → Option (Int64 × AS)) : Prop := ∀ σ, Inv σ → wpO (x σ) (fun r σ1 => wpO (y σ1) (fun r' σ2 => r = r' ∧ Inv σ2))
theorem e60 (p q : Nat) : (60 : Int32) * nI p + nI q = nI (60 * p + q) := by rw [li60, pk_mul, nI_add]
theorem op_element (a b : Int32) : BothL (g_X8_element a b) (g_X9_element a b) := by
  intro σ h
  obtain ⟨x, y, b1, b2, b3⟩ := h.2.2.2.2
  unfold g_X8_element g_X9_element
  by_cases c : inb a 6
  · obtain ⟨p, hp, rfl⟩ := inb_ex c
    obtain ⟨r1, r2, r3, r4⟩ := b3.2 p hp
    obtain ⟨s1, s2, s3, s4⟩ := b1.2 p hp
    obtain ⟨t1, t2, t3⟩ := b2.2 p hp
    refine wpO_e (refC hp b1.2 r1 r4 b) ?_
    by_cases c0 : rfs (y.1 p) (y.2.2.1 p) b = 0
    · obtain ⟨k0, k1, k2⟩ := rfs_0.mp c0
      obtain ⟨q, hq, rfl⟩ := inb_ex k2
      refine wpO_t c0 (wpO_t c ?_)
      refine wpO_e (r := y.2.2.2 p q) (σ := σ) ?_ (wpO_some.mpr (wpO_e (refM hp b2.2 b3.2 b3.1.1 _) (wpO_t c0 ?_)))
      · unfold g_X5_at
        rw [nI_clamp (by omega), hasPlace_eq s3 r4, bnd_some, if_pos k2, if_neg one_ne, if_pos (inb_nI (by omega) (by omega))]
        show some (σ.2.2 5 p 0 (nI q).toNatClampNeg, σ) = _
        rw [nI_clamp (by omega), s4 q hq]
      · rw [e60]
        refine wpO_t (inb_nI (by omega) (by omega)) (wpO_some.mpr ⟨?_, h⟩)
        show _ = σ.2.2 9 0 52 (nI (60 * p + q)).toNatClampNeg
        rw [nI_clamp (by omega), t3 q hq]
    · exact wpO_f c0 (wpO_some.mpr (wpO_e (refM hp b2.2 b3.2 b3.1.1 _) (wpO_f c0 (wpO_some.mpr ⟨rfl, h⟩))))
  · obtain ⟨e1, e2⟩ := ref_no c b σ
    exact wpO_e e1 (wpO_f (by decide) (wpO_some.mpr (wpO_e e2 (wpO_f (by decide) (wpO_some.mpr ⟨rfl, h⟩)))))
/-- shelves are written on both sides -/
theorem Inv.sh {S : List (Nat × Nat × Nat)} {σ σ2 : AS} {x : HLD} {y y' : SHV} (h : Inv σ) (b1 : G5C σ x y) (b2 : G5M σ x y) (b3 : G5P x y) (F : FrL S σ σ2) (q : ∀ z ∈ DHl ++ (DHm ++ (D1 ++ (D2 ++ (D3 ++ D4)))), z ∉ S) (c : ShC σ2 y') (m : ShM σ2 y') (p : ShP x.1 y') : Inv σ2 :=
  h.of5 F ⟨x, y', ⟨b1.1.fr F (inL q), c⟩, ⟨b2.1.fr F (inL (inR q)), m⟩, b3.1, p⟩ (inR (inR q))
abbrev SS : List (Nat × Nat × Nat) := DSh ++ (DSm ++ [(9, 0, 53)])
theorem DSh_S {p k : Nat} (hp : p < 6) (hk : k < 4) : ((5, p, k) : Nat × Nat × Nat) ∈ SS := by
  obtain ⟨a, b, c, d⟩ := DSh_in p hp
  have : k = 0 ∨ k = 1 ∨ k = 2 ∨ k = 3 := by omega
  refine List.mem_append.mpr (Or.inl ?_)
  rcases this with rfl | rfl | rfl | rfl
  · exact d
  · exact c
  · exact a
  · exact b
theorem becomeS {p : Nat} {a b c : Int32} {σ : AS} (hp : p < 6) : wpO (g_X5_become p a b c σ) (fun _ σ1 => (∀ d, σ1.1 5 d 2 = if d = p then a else σ.1 5 d 2) ∧ (∀ d, σ1.1 5 d 1 = if d = p then b else σ.1 5 d 1) ∧ (∀ d, σ1.1 5 d 3 = if d = p then c else σ.1 5 d 3) ∧ σ1.2 = σ.2 ∧ FrL SS σ σ1) := by
  unfold g_X5_become
  refine wpO_lt (wpO_lt (wpO_lt (wpO_some.mpr ⟨fun d => ?_, fun d => ?_, fun d => ?_, rfl, ((FrL_sF (DSh_S hp (by omega))).tr (FrL_sF (DSh_S hp (by omega)))).tr (FrL_sF (DSh_S hp (by omega)))⟩)))
  · simp [sF_f]
  · simp [sF_f]
  · simp [sF_f]
theorem op_keep (a b : Int32) : Both (g_X8_keep a b) (g_X9_keep a b) := by
  intro σ h
  obtain ⟨x, y, b1, b2, b3⟩ := h.2.2.2.2
  have hb := b3.1.1
  unfold g_X8_keep g_X9_keep
  refine wpO_e (isShelfC_eq a σ) ?_
  by_cases c : inb a 6
  · obtain ⟨p, hp, rfl⟩ := inb_ex c
    rw [if_pos c]
    refine wpO_f one_ne ?_
    have q : ∀ {f : Int32 → AS → Option (Int32 × AS)} {Q : Int32 → AS → Prop} {σ1 : AS}, wpO (f 1 σ1) Q → wpO (bnd (g_X9_isShelf (nI p) σ1) f) Q := fun z => wpO_e (isShelfM_eq _ _) (by rw [if_pos c]; exact z)
    have fin : ∀ (k w : Nat) (r : Int32), k ≤ 1 → (k = 1 → w < x.1) → (k = 0 → b = -1) → (k = 1 → b = nI w) → wpO (g_X8_keep_25 (nI p) b σ) (fun r σ1 => FrL SS σ σ1 → wpO (g_X9_keep_22 (nI p) b σ1) (fun r' σ2 => r = r' ∧ Inv σ2)) := by
      intro k w _ hk hw h0 h1
      have bec : wpO (g_X8_keep_25 (nI p) b σ) (fun r σ1 => r = 1 ∧ (∀ d, σ1.1 5 d 2 = if d = p then nI k - 2 else σ.1 5 d 2) ∧ (∀ d, σ1.1 5 d 1 = if d = p then 0 else σ.1 5 d 1) ∧ (∀ d, σ1.1 5 d 3 = if d = p then b else σ.1 5 d 3) ∧ σ1.2 = σ.2 ∧ FrL SS σ σ1) := by
        unfold g_X8_keep_25
        by_cases ck : k = 0
        · have := h0 ck
          subst this; subst ck
          refine wpO_t rfl (wpO_t c ?_)
          unfold g_X5_clear
          rw [nI_clamp (by omega)]
          refine wpO_b (P := fun _ σ1 => (∀ d, σ1.1 5 d 2 = if d = p then nI 0 - 2 else σ.1 5 d 2) ∧ (∀ d, σ1.1 5 d 1 = if d = p then 0 else σ.1 5 d 1) ∧ (∀ d, σ1.1 5 d 3 = if d = p then -1 else σ.1 5 d 3) ∧ σ1.2 = σ.2 ∧ FrL SS σ σ1) (wpO_b (becomeS hp) (fun _ _ z => wpO_some.mpr z)) (fun _ _ z => wpO_some.mpr ⟨rfl, z⟩)
        · have k1 : k = 1 := by omega
          have := h1 k1
          subst this; subst k1
          have hw := hw rfl
          refine wpO_f (fun z => absurd (z ▸ nI_pos (n := w) (by omega)) (by decide)) (wpO_t c ?_)
          unfold g_X5_hold
          rw [nI_clamp (by omega)]
          refine wpO_b (P := fun _ σ1 => (∀ d, σ1.1 5 d 2 = if d = p then nI 1 - 2 else σ.1 5 d 2) ∧ (∀ d, σ1.1 5 d 1 = if d = p then 0 else σ.1 5 d 1) ∧ (∀ d, σ1.1 5 d 3 = if d = p then nI w else σ.1 5 d 3) ∧ σ1.2 = σ.2 ∧ FrL SS σ σ1) (wpO_b (becomeS hp) (fun _ _ z => wpO_some.mpr z)) (fun _ _ z => wpO_some.mpr ⟨rfl, z⟩)
      refine wpO_mono bec ?_
      intro r σ1 z f1
      obtain ⟨rfl, z2, z1, z3, z4, -⟩ := z
      have g5 : ShM σ1 y := by
        intro d hd
        rw [z4]; exact b2.2 d hd
      unfold g_X9_keep_22
      refine wpO_t c (wpO_lt (wpO_lt (wpO_some.mpr ⟨rfl, ?_⟩)))
      refine h.sh (S := SS) (y' := (uN y.1 p k, uN y.2.1 p w, uN y.2.2.1 p 0, y.2.2.2)) b1 b2 b3 (f1.tr ((FrL_sA (by decide)).tr (FrL_sA (by decide)))) (by decide) ?_ ?_ ?_
      · intro d hd
        obtain ⟨s1, s2, s3, s4⟩ := b1.2 d hd
        refine ⟨?_, fun e => ?_, ?_, fun i hi => ?_⟩
        · show σ1.1 5 d 2 = nI (uN y.1 p k d) - 2
          rw [z2 d]; unfold uN
          by_cases e : d = p
          · rw [if_pos e, if_pos e]
          · rw [if_neg e, if_neg e]; exact s1
        · show σ1.1 5 d 3 = nI (uN y.2.1 p w d)
          have e : uN y.1 p k d = 1 := e
          rw [z3 d]; unfold uN at e ⊢
          by_cases e2 : d = p
          · rw [if_pos e2] at e; rw [if_pos e2, if_pos e2]; exact h1 e
          · rw [if_neg e2] at e; rw [if_neg e2, if_neg e2]; exact s2 e
        · show σ1.1 5 d 1 = nI (uN y.2.2.1 p 0 d)
          rw [z1 d]; unfold uN
          by_cases e : d = p
          · rw [if_pos e, if_pos e]; rfl
          · rw [if_neg e, if_neg e]; exact s3
        · show σ1.2.2 5 d 0 i = _
          rw [z4]
          refine s4 i ?_
          have hi : i < uN y.2.2.1 p 0 d := hi
          unfold uN at hi
          by_cases e : d = p
          · rw [if_pos e] at hi; omega
          · rw [if_neg e] at hi; exact hi
      · intro d hd
        obtain ⟨t1, t2, t3⟩ := g5 d hd
        refine ⟨?_, ?_, fun i hi => ?_⟩
        · show (if d = (nI p).toNatClampNeg then b else σ1.2.1 9 0 50 d) = shM (uN y.1 p k d) (uN y.2.1 p w d)
          rw [nI_clamp (by omega)]; unfold uN
          by_cases e : d = p
          · rw [if_pos e, if_pos e, if_pos e]
            unfold shM
            by_cases ck : k = 0
            · rw [if_pos ck]; exact h0 ck
            · rw [if_neg ck, if_pos (by omega)]; exact h1 (by omega)
          · rw [if_neg e, if_neg e, if_neg e]; exact t1
        · show (if d = (nI p).toNatClampNeg then 0 else σ1.2.1 9 0 51 d) = nI (uN y.2.2.1 p 0 d)
          rw [nI_clamp (by omega)]; unfold uN
          by_cases e : d = p
          · rw [if_pos e, if_pos e]; rfl
          · rw [if_neg e, if_neg e]; exact t2
        · show σ1.2.2 9 0 52 (60 * d + i) = _
          refine t3 i ?_
          have hi : i < uN y.2.2.1 p 0 d := hi
          unfold uN at hi
          by_cases e : d = p
          · rw [if_pos e] at hi; omega
          · rw [if_neg e] at hi; exact hi
      · intro d hd
        obtain ⟨r1, r2, r3, r4⟩ := b3.2 d hd
        show uN y.1 p k d ≤ 6 ∧ (uN y.1 p k d = 1 → uN y.2.1 p w d < x.1) ∧ (uN y.1 p k d ≤ 1 → uN y.2.2.1 p 0 d = 0) ∧ uN y.2.2.1 p 0 d ≤ 60
        unfold uN
        by_cases e : d = p
        · rw [if_pos e, if_pos e, if_pos e]; exact ⟨by omega, hw, fun _ => rfl, by omega⟩
        · rw [if_neg e, if_neg e, if_neg e]; exact ⟨r1, r2, r3, r4⟩
    have fr25 : ∀ (k w : Nat), (k = 0 → b = -1) → (k = 1 → b = nI w ∧ w < x.1) → k ≤ 1 → wpO (g_X8_keep_25 (nI p) b σ) (fun r σ1 => FrL SS σ σ1 ∧ wpO (g_X9_keep_22 (nI p) b σ1) (fun r' σ2 => r = r' ∧ Inv σ2)) := by
      intro k w h0 h1 hk
      obtain ⟨r, σ1, e1, e2⟩ := fin k w 0 hk (fun z => (h1 z).2) h0 (fun z => (h1 z).1)
      have f1 : FrL SS σ σ1 := by
        have bec : wpO (g_X8_keep_25 (nI p) b σ) (fun _ σ1 => FrL SS σ σ1) := by
          have hp' : (nI p).toNatClampNeg < 6 := by rw [nI_clamp (by omega)]; exact hp
          unfold g_X8_keep_25 g_X5_clear g_X5_hold
          refine wpO_if (fun _ => wpO_t c (wpO_b (P := fun _ σ1 => FrL SS σ σ1) (wpO_b (becomeS hp') (fun _ _ z => wpO_some.mpr z.2.2.2.2)) (fun _ _ z => wpO_some.mpr z))) (fun _ => wpO_t c (wpO_b (P := fun _ σ1 => FrL SS σ σ1) (wpO_b (becomeS hp') (fun _ _ z => wpO_some.mpr z.2.2.2.2)) (fun _ _ z => wpO_some.mpr z)))
        obtain ⟨r', σ', e3, e4⟩ := bec
        rw [e1] at e3
        obtain ⟨-, e5⟩ := Prod.mk.inj (Option.some.inj e3)
        rw [e5]; exact e4
      exact ⟨r, σ1, e1, f1, e2 f1⟩
    have nb : ¬ inb (-1 : Int32) x.1 := fun z => absurd z.1 (by decide)
    by_cases c0 : b = -1
    · refine wpO_t c0 (wpO_mono (fr25 0 0 (fun _ => c0) (fun z => by omega) (by omega)) ?_)
      intro r σ1 z
      exact q (wpO_f one_ne (wpO_t c0 z.2))
    · refine wpO_f c0 (wpO_e (hasB_eq b1.1.1 hb b) ?_)
      by_cases c1 : inb b x.1
      · obtain ⟨w, hw, rfl⟩ := inb_ex c1
        rw [if_pos c1]
        refine wpO_f one_ne (wpO_mono (fr25 1 w (fun z => by omega) (fun _ => ⟨rfl, hw⟩) (by omega)) ?_)
        intro r σ1 z
        refine q (wpO_f one_ne (wpO_f c0 (wpO_e (isBodyM_eq (n := x.1) ?_ hb _) ?_)))
        · rw [z.1.f 9 0 44 (by decide)]; exact b2.1.1
        · rw [if_pos c1]; exact wpO_f one_ne z.2
      · rw [if_neg c1]
        refine wpO_t rfl (wpO_some.mpr (q (wpO_f one_ne (wpO_f c0 (wpO_e (isBodyM_eq b2.1.1 hb _) ?_)))))
        rw [if_neg c1]
        exact wpO_t rfl (wpO_some.mpr ⟨rfl, h⟩)
  · rw [if_neg c]
    refine wpO_t rfl (wpO_some.mpr (wpO_e (isShelfM_eq _ _) ?_))
    rw [if_neg c]
    exact wpO_t rfl (wpO_some.mpr ⟨rfl, h⟩)
