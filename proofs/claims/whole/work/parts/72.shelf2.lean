theorem rowLoop {p : Nat} {σ0 : AS} (hp : p < 6) : ∀ (d j f : Nat) (σ : AS), j + d = 60 → d < f → FrL [(9, 0, 52)] σ0 σ → (∀ t, σ.2.2 9 0 52 t = if 60 * p ≤ t ∧ t < 60 * p + j then 0 else σ0.2.2 9 0 52 t) → σ.1 = σ0.1 → σ.2.1 = σ0.2.1 →
    wpO (g_X9_row_57 f (nI p) (nI (60 * p + j)) σ) (fun r σ1 => r = 1 ∧ FrL [(9, 0, 52)] σ0 σ1 ∧ (∀ t, σ1.2.2 9 0 52 t = if 60 * p ≤ t ∧ t < 60 * p + 60 then 0 else σ0.2.2 9 0 52 t) ∧ σ1.1 = σ0.1 ∧ σ1.2.1 = σ0.2.1) := by
  have e : (60 : Int32) * nI p + 60 = nI (60 * p + 60) := by rw [li60, pk_mul, nI_add]
  intro d
  induction d with
  | zero =>
    intro j f σ hj hf fr a b1 b2
    obtain ⟨f, rfl⟩ : ∃ g, f = g + 1 := ⟨f - 1, by omega⟩
    have ej : j = 60 := by omega
    subst ej
    rw [g_X9_row_57, e]
    exact wpO_f (nI_nlt (by omega) (by omega)) (wpO_some.mpr ⟨rfl, fr, a, b1, b2⟩)
  | succ d ih =>
    intro j f σ hj hf fr a b1 b2
    obtain ⟨f, rfl⟩ : ∃ g, f = g + 1 := ⟨f - 1, by omega⟩
    rw [g_X9_row_57, e, nI_1]
    refine wpO_t (nI_lt (by omega) (by omega)) (wpO_t (inb_nI (by omega) (by omega)) (wpO_lt ?_))
    refine ih (j + 1) f _ (by omega) (by omega) (fr.tr (FrL_sL (by decide))) ?_ b1 b2
    intro t
    show (if t = (nI (60 * p + j)).toNatClampNeg then 0 else σ.2.2 9 0 52 t) = _
    rw [nI_clamp (by omega), a t]
    by_cases c : t = 60 * p + j
    · rw [if_pos c, if_pos (by omega)]
    · rw [if_neg c]
      by_cases c2 : 60 * p ≤ t ∧ t < 60 * p + j
      · rw [if_pos c2, if_pos (by omega)]
      · rw [if_neg c2, if_neg (by omega)]
theorem op_row (a b v0 : Int32) : Both (g_X8_row a b v0) (g_X9_row a b v0) := by
  intro σ h
  obtain ⟨x, y, b1, b2, b3⟩ := h.2.2.2.2
  unfold g_X8_row g_X9_row
  refine wpO_e (isShelfC_eq a σ) ?_
  by_cases c : inb a 6
  · obtain ⟨p, hp, rfl⟩ := inb_ex c
    rw [if_pos c, ifr2 (show (4 : Int32) = nI 4 from rfl) (by omega)]
    refine wpO_f one_ne ?_
    have q : ∀ {f : Int32 → AS → Option (Int32 × AS)} {Q : Int32 → AS → Prop} {σ1 : AS}, wpO (f 1 σ1) Q → wpO (bnd (g_X9_isShelf (nI p) σ1) f) Q := fun z => wpO_e (isShelfM_eq _ _) (by rw [if_pos c]; exact z)
    by_cases c1 : inb b 5
    · obtain ⟨s, hs, rfl⟩ := inb_ex c1
      rw [if_pos c1]
      have q2 : ∀ {f : Int32 → AS → Option (Int32 × AS)} {Q : Int32 → AS → Prop} {σ1 : AS}, wpO (f 1 σ1) Q → wpO (bnd (g_X9_within (nI s).toInt64 0 4 σ1) f) Q := fun z => wpO_e (within_t (m := 5) c1) z
      by_cases c2 : (60 : Int32) < v0
      · exact wpO_t c2 (wpO_some.mpr (q (wpO_f one_ne (q2 (wpO_f one_ne (wpO_t c2 (wpO_some.mpr ⟨rfl, h⟩)))))))
      · refine wpO_f c2 ?_
        by_cases c3 : v0 < 0
        · exact wpO_t c3 (wpO_some.mpr (q (wpO_f one_ne (q2 (wpO_f one_ne (wpO_f c2 (wpO_t c3 (wpO_some.mpr ⟨rfl, h⟩))))))))
        · obtain ⟨m, hm, rfl⟩ := nI_of c3
          have hm60 : m ≤ 60 := Classical.byContradiction (fun z => c2 (show nI 60 < nI m from nI_lt (by omega) hm))
          refine wpO_f c3 (wpO_t c ?_)
          refine wpO_b (P := fun _ σ1 => (∀ d, σ1.1 5 d 2 = if d = p then nI s else σ.1 5 d 2) ∧ (∀ d, σ1.1 5 d 1 = if d = p then nI m else σ.1 5 d 1) ∧ (∀ d, σ1.1 5 d 3 = if d = p then -1 else σ.1 5 d 3) ∧ (∀ d i, σ1.2.2 5 d 0 i = if d = p then (if i < 60 then 0 else σ.2.2 5 d 0 i) else σ.2.2 5 d 0 i) ∧ σ1.2.1 = σ.2.1 ∧ σ1.2.2 9 0 52 = σ.2.2 9 0 52 ∧ FrL SS σ σ1) ?_ ?_
          · rw [nI_clamp (by omega)]
            unfold g_X5_layRow
            refine wpO_lt (wpO_b (becomeS hp) (fun _ σ1 z => wpO_some.mpr ?_))
            obtain ⟨z2, z1, z3, z4, z5⟩ := z
            refine ⟨z2, z1, z3, fun d i => ?_, by rw [z4]; rfl, ?_, (FrL_sL (DSh_S hp (by omega))).tr z5⟩
            · rw [z4]
              show (if 5 = 5 ∧ d = p ∧ 0 = 0 then (fun j => if j < 60 then 0 else σ.2.2 5 p 0 j) else σ.2.2 5 d 0) i = _
              by_cases e : d = p
              · subst e; rw [if_pos ⟨rfl, rfl, rfl⟩, if_pos rfl]
              · rw [if_neg (fun z => e z.2.1), if_neg e]
            · rw [z4]
              show (if 9 = 5 ∧ 0 = p ∧ 52 = 0 then (fun j => if j < 60 then 0 else σ.2.2 5 p 0 j) else σ.2.2 9 0 52) = _
              rw [if_neg (fun z => absurd z.1 (by decide))]
          · intro _ σ1 z
            obtain ⟨z2, z1, z3, z4, za, zl, f1⟩ := z
            refine wpO_some.mpr (q (wpO_f one_ne (q2 (wpO_f one_ne (wpO_f c2 (wpO_f c3 (wpO_t c (wpO_lt (wpO_lt (wpO_lt ?_))))))))))
            rw [show (60 : Int32) * nI p = nI (60 * p + 0) from by rw [li60, pk_mul]; rfl]
            refine wpO_mono (rowLoop hp 60 0 400 _ (by omega) (by omega) FrL.rf (fun t => by rw [if_neg (by omega)]) rfl rfl) ?_
            intro r σ2 w
            obtain ⟨rfl, f2, w1, w2, w3⟩ := w
            refine ⟨rfl, ?_⟩
            refine h.sh (S := SS) (y' := (uN y.1 p (s + 2), y.2.1, uN y.2.2.1 p m, fun d i => if d = p then 0 else y.2.2.2 d i)) b1 b2 b3 ((f1.tr ((FrL_sA (by decide)).tr (FrL_sA (by decide)))).tr (f2.mono (by decide))) (by decide) ?_ ?_ ?_
            · intro d hd
              obtain ⟨s1, s2, s3, s4⟩ := b1.2 d hd
              rw [w2]
              refine ⟨?_, fun e => ?_, ?_, fun i hi => ?_⟩
              · show σ1.1 5 d 2 = nI (uN y.1 p (s + 2) d) - 2
                rw [z2 d]; unfold uN
                by_cases e : d = p
                · rw [if_pos e, if_pos e, li2, pk_sub (by omega)]; rfl
                · rw [if_neg e, if_neg e]; exact s1
              · show σ1.1 5 d 3 = nI (y.2.1 d)
                have e : uN y.1 p (s + 2) d = 1 := e
                unfold uN at e
                by_cases e2 : d = p
                · rw [if_pos e2] at e; omega
                · rw [if_neg e2] at e; rw [z3 d, if_neg e2]; exact s2 e
              · show σ1.1 5 d 1 = nI (uN y.2.2.1 p m d)
                rw [z1 d]; unfold uN
                by_cases e : d = p
                · rw [if_pos e, if_pos e]
                · rw [if_neg e, if_neg e]; exact s3
              · have hi : i < uN y.2.2.1 p m d := hi
                have e5 : σ2.2.2 5 d 0 i = σ1.2.2 5 d 0 i := by rw [f2.l 5 d 0 (by simp)]; rfl
                rw [e5, z4 d i]
                show _ = if d = p then 0 else y.2.2.2 d i
                unfold uN at hi
                by_cases e : d = p
                · rw [if_pos e] at hi; rw [if_pos e, if_pos e, if_pos (by omega)]
                · rw [if_neg e] at hi; rw [if_neg e, if_neg e]; exact s4 i hi
            · intro d hd
              obtain ⟨t1, t2, t3⟩ := b2.2 d hd
              rw [w3]
              refine ⟨?_, ?_, fun i hi => ?_⟩
              · show (if d = (nI p).toNatClampNeg then 50 + nI s else σ1.2.1 9 0 50 d) = shM (uN y.1 p (s + 2) d) (y.2.1 d)
                rw [nI_clamp (by omega), za]; unfold uN
                by_cases e : d = p
                · rw [if_pos e, if_pos e]
                  unfold shM
                  rw [if_neg (by omega), if_neg (by omega), li50, nI_add]
                  congr 1; omega
                · rw [if_neg e, if_neg e]; exact t1
              · show (if d = (nI p).toNatClampNeg then nI m else σ1.2.1 9 0 51 d) = nI (uN y.2.2.1 p m d)
                rw [nI_clamp (by omega), za]; unfold uN
                by_cases e : d = p
                · rw [if_pos e, if_pos e]
                · rw [if_neg e, if_neg e]; exact t2
              · have hi : i < uN y.2.2.1 p m d := hi
                rw [w1]
                show (if 60 * p ≤ 60 * d + i ∧ 60 * d + i < 60 * p + 60 then 0 else σ1.2.2 9 0 52 (60 * d + i)) = if d = p then 0 else y.2.2.2 d i
                unfold uN at hi
                by_cases e : d = p
                · rw [if_pos e] at hi; rw [if_pos (by omega), if_pos e]
                · rw [if_neg e] at hi
                  have := (b3.2 d hd).2.2.2
                  rw [if_neg (by omega), if_neg e, zl]; exact t3 i hi
            · intro d hd
              obtain ⟨r1, r2, r3, r4⟩ := b3.2 d hd
              show uN y.1 p (s + 2) d ≤ 6 ∧ (uN y.1 p (s + 2) d = 1 → y.2.1 d < x.1) ∧ (uN y.1 p (s + 2) d ≤ 1 → uN y.2.2.1 p m d = 0) ∧ uN y.2.2.1 p m d ≤ 60
              unfold uN
              by_cases e : d = p
              · rw [if_pos e, if_pos e]; exact ⟨by omega, fun z => by omega, fun z => by omega, hm60⟩
              · rw [if_neg e, if_neg e]; exact ⟨r1, r2, r3, r4⟩
    · rw [if_neg c1]
      refine wpO_some.mpr (q (wpO_f one_ne (wpO_e (within_f (m := 5) c1) (wpO_t rfl (wpO_some.mpr ⟨rfl, h⟩)))))
  · rw [if_neg c]
    refine wpO_t rfl (wpO_some.mpr (wpO_e (isShelfM_eq _ _) ?_))
    rw [if_neg c]
    exact wpO_t rfl (wpO_some.mpr ⟨rfl, h⟩)
/-! put -/
def asS (s : Nat) (v : Int64) : Int64 := if s = 0 then (i2b v.toInt32).toInt64 else if s = 1 then (i2s v.toInt32).toInt64 else if s = 2 then v.toInt32.toInt64 else if s = 4 then (if lg_cmp v 0 = 0 then 0 else 1) else v
theorem lowC {p s : Nat} {v : Int64} {σ : AS} (hs : s < 5) (e : σ.1 5 p 2 = nI s) : g_X5_lowestBits p v σ = some (asS s v, σ) := by
  unfold g_X5_lowestBits lt asS
  dsimp only
  rw [show gF σ 5 p 2 = nI s from e]
  have : s = 0 ∨ s = 1 ∨ s = 2 ∨ s = 3 ∨ s = 4 := by omega
  rcases this with rfl | rfl | rfl | rfl | rfl
  · rfl
  · rfl
  · rfl
  · rfl
  · show (if lg_cmp v 0 = 0 then some (0, σ) else some (1, σ)) = some (if lg_cmp v 0 = 0 then 0 else 1, σ)
    split <;> rfl
theorem asM {s : Nat} {v : Int64} {σ : AS} (hs : s < 5) : g_X9_asSort (nI s) v σ = some (asS s v, σ) := by
  unfold g_X9_asSort asS
  have : s = 0 ∨ s = 1 ∨ s = 2 ∨ s = 3 ∨ s = 4 := by omega
  rcases this with rfl | rfl | rfl | rfl | rfl
  · rfl
  · rfl
  · rfl
  · rfl
  · show (if lg_cmp v 0 = 0 then some (0, σ) else some (1, σ)) = some (if lg_cmp v 0 = 0 then 0 else 1, σ)
    split <;> rfl
theorem op_put (a b : Int32) (v : Int64) : Both (g_X8_put a b v) (g_X9_put a b v) := by
  intro σ h
  obtain ⟨x, y, b1, b2, b3⟩ := h.2.2.2.2
  unfold g_X8_put g_X9_put g_X9_put_37
  by_cases c : inb a 6
  · obtain ⟨p, hp, rfl⟩ := inb_ex c
    obtain ⟨r1, r2, r3, r4⟩ := b3.2 p hp
    obtain ⟨s1, s2, s3, s4⟩ := b1.2 p hp
    obtain ⟨t1, t2, t3⟩ := b2.2 p hp
    refine wpO_e (refC hp b1.2 r1 r4 b) ?_
    by_cases c0 : rfs (y.1 p) (y.2.2.1 p) b = 0
    · obtain ⟨k0, k1, k2⟩ := rfs_0.mp c0
      obtain ⟨q, hq, rfl⟩ := inb_ex k2
      have hk : y.1 p - 2 < 5 := by omega
      refine wpO_t c0 (wpO_t c ?_)
      refine wpO_b (P := fun _ σ1 => (∀ d i, σ1.2.2 5 d 0 i = if d = p ∧ i = q then asS (y.1 p - 2) v else σ.2.2 5 d 0 i) ∧ σ1.1 = σ.1 ∧ σ1.2.1 = σ.2.1 ∧ σ1.2.2 9 0 52 = σ.2.2 9 0 52 ∧ FrL SS σ σ1) ?_ ?_
      · rw [nI_clamp (by omega)]
        unfold g_X5_lay
        rw [hasPlace_eq s3 r4]
        refine wpO_e rfl ?_
        rw [if_pos k2]
        refine wpO_f one_ne (wpO_e (lowC hk (by rw [s1, li2, pk_sub (by omega)])) (wpO_t (inb_nI (by omega) (by omega)) (wpO_lt (wpO_some.mpr ⟨fun d i => ?_, rfl, rfl, ?_, FrL_sL (DSh_S hp (by omega))⟩))))
        · show (if 5 = 5 ∧ d = p ∧ 0 = 0 then vp_updL (σ.2.2 5 p 0) (nI q).toNatClampNeg (asS (y.1 p - 2) v) else σ.2.2 5 d 0) i = _
          rw [nI_clamp (by omega)]
          by_cases e : d = p
          · subst e
            rw [if_pos ⟨rfl, rfl, rfl⟩, updL_at]
            by_cases e2 : i = q
            · rw [if_pos e2, if_pos ⟨rfl, e2⟩]
            · rw [if_neg e2, if_neg (fun z => e2 z.2)]
          · rw [if_neg (fun z => e z.2.1), if_neg (fun z => e z.1)]
        · show (if 9 = 5 ∧ 0 = p ∧ 52 = 0 then vp_updL (σ.2.2 5 p 0) (nI q).toNatClampNeg (asS (y.1 p - 2) v) else σ.2.2 9 0 52) = _
          rw [if_neg (fun z => absurd z.1 (by decide))]
      · intro _ σ1 z
        obtain ⟨z1, z2, z3, z4, f1⟩ := z
        have m2 : ShM σ1 y := by intro d hd; rw [z3, z4]; exact b2.2 d hd
        refine wpO_some.mpr (wpO_e (refM hp m2 b3.2 b3.1.1 _) (wpO_t c0 (wpO_t c ?_)))
        have e50 : gA σ1 9 0 50 (nI p) - 50 = nI (y.1 p - 2) := by
          rw [gA_nI (by omega), z3, t1]
          unfold shM
          rw [if_neg k0, if_neg k1, li50, pk_sub (by omega)]
          congr 1; omega
        rw [e50, e60]
        refine wpO_e (asM hk) (wpO_t (inb_nI (by omega) (by omega)) (wpO_lt (wpO_t c0 (wpO_some.mpr ⟨rfl, ?_⟩))))
        refine h.sh (S := SS) (y' := (y.1, y.2.1, y.2.2.1, fun d i => if d = p ∧ i = q then asS (y.1 p - 2) v else y.2.2.2 d i)) b1 b2 b3 (f1.tr (FrL_sL (by decide))) (by decide) ?_ ?_ b3.2
        · intro d hd
          obtain ⟨s1, s2, s3, s4⟩ := b1.2 d hd
          refine ⟨by show σ1.1 5 d 2 = _; rw [z2]; exact s1, fun e => by show σ1.1 5 d 3 = _; rw [z2]; exact s2 e, by show σ1.1 5 d 1 = _; rw [z2]; exact s3, fun i hi => ?_⟩
          show σ1.2.2 5 d 0 i = if d = p ∧ i = q then asS (y.1 p - 2) v else y.2.2.2 d i
          rw [z1 d i, s4 i hi]
        · intro d hd
          obtain ⟨t1, t2, t3⟩ := m2 d hd
          refine ⟨t1, t2, fun i hi => ?_⟩
          show (if 60 * d + i = (nI (60 * p + q)).toNatClampNeg then asS (y.1 p - 2) v else σ1.2.2 9 0 52 (60 * d + i)) = if d = p ∧ i = q then asS (y.1 p - 2) v else y.2.2.2 d i
          have l1 := (b3.2 d hd).2.2.2
          rw [nI_clamp (by omega)]
          have hi : i < y.2.2.1 d := hi
          by_cases e : d = p ∧ i = q
          · rw [if_pos e, if_pos (by omega)]
          · rw [if_neg e, if_neg (by omega)]; exact t3 i hi
    · exact wpO_f c0 (wpO_some.mpr (wpO_e (refM hp b2.2 b3.2 b3.1.1 _) (wpO_f c0 (wpO_f c0 (wpO_some.mpr ⟨rfl, h⟩)))))
  · obtain ⟨e1, e2⟩ := ref_no c b σ
    exact wpO_e e1 (wpO_f (by decide) (wpO_some.mpr (wpO_e e2 (wpO_f (by decide) (wpO_f (by decide) (wpO_some.mpr ⟨rfl, h⟩))))))
/-! taken -/
def abv (k : Nat) : Nat := if k = 3 then 2 else if k = 4 then 1 else if k = 5 then 3 else if k = 7 then 4 else 0
/-- is k that kind or above it -/
def und (kd k : Nat) : Bool := decide (kd = k) || decide (abv kd = k ∧ kd ≠ 0) || decide (abv (abv kd) = k ∧ kd ≠ 0) || decide (abv (abv (abv kd)) = k ∧ kd ≠ 0)
theorem undC (σ : AS) {kd k : Nat} (h1 : kd < 8) (h2 : k < 8) : g_X2_isUnder_9 400 (nI k) (nI kd) 0 σ = some (if und kd k then 1 else 0, σ) := by
  have a1 : kd = 0 ∨ kd = 1 ∨ kd = 2 ∨ kd = 3 ∨ kd = 4 ∨ kd = 5 ∨ kd = 6 ∨ kd = 7 := by omega
  have a2 : k = 0 ∨ k = 1 ∨ k = 2 ∨ k = 3 ∨ k = 4 ∨ k = 5 ∨ k = 6 ∨ k = 7 := by omega
  rcases a1 with rfl | rfl | rfl | rfl | rfl | rfl | rfl | rfl <;> rcases a2 with rfl | rfl | rfl | rfl | rfl | rfl | rfl | rfl <;> rfl
theorem undM (σ : AS) {kd k p : Nat} (w : Int32) (h1 : kd < 8) (h2 : k < 8) (hp : p < 6) (e : g_X9_kindOf (gA σ 9 0 50 (nI p)) σ = some (w, σ)) : g_X9_taken_58 400 (nI p) (nI k) (nI kd) σ = some (if und kd k then w else -12, σ) := by
  have st : ∀ (f a : Nat), a < 8 → g_X9_taken_58 (f + 1) (nI p) (nI k) (nI a) σ = if a = k then some (w, σ) else if 0 < a then g_X9_taken_58 f (nI p) (nI k) (nI (abv a)) σ else some (-12, σ) := by
    intro f a ha
    rw [g_X9_taken_58]
    unfold g_X9_taken_75
    by_cases c : a = k
    · rw [if_pos (by rw [c]), if_pos (by rw [c]), if_pos c, if_pos (inb_nI hp (by omega)), e, bnd_some]
    · have c' : ¬ nI a = nI k := fun z => c ((nI_eq (by omega) (by omega)).mp z)
      rw [if_neg c', if_neg c]
      by_cases c0 : 0 < a
      · rw [if_pos (z_lt c0 (by omega)), if_pos c0]
        have : a = 1 ∨ a = 2 ∨ a = 3 ∨ a = 4 ∨ a = 5 ∨ a = 6 ∨ a = 7 := by omega
        rcases this with rfl | rfl | rfl | rfl | rfl | rfl | rfl <;> rfl
      · rw [if_neg (z_nlt c0), if_neg c0, if_neg c']
  have ab : ∀ a, a < 8 → abv a < 8 := by decide
  rw [st 399 kd h1, st 398 _ (ab _ h1), st 397 _ (ab _ (ab _ h1)), st 396 _ (ab _ (ab _ (ab _ h1)))]
  have a1 : kd = 0 ∨ kd = 1 ∨ kd = 2 ∨ kd = 3 ∨ kd = 4 ∨ kd = 5 ∨ kd = 6 ∨ kd = 7 := by omega
  have a2 : k = 0 ∨ k = 1 ∨ k = 2 ∨ k = 3 ∨ k = 4 ∨ k = 5 ∨ k = 6 ∨ k = 7 := by omega
  rcases a1 with rfl | rfl | rfl | rfl | rfl | rfl | rfl | rfl <;> rcases a2 with rfl | rfl | rfl | rfl | rfl | rfl | rfl | rfl <;> rfl
theorem op_taken (a b : Int32) : Both (g_X8_taken a b) (g_X9_taken a b) := by
  intro σ h
  obtain ⟨x, y, b1, b2, b3⟩ := h.2.2.2.2
  have hb := b3.1.1
  have eK : g_X2_isKind b σ = some (if inb b 8 then 1 else 0, σ) := by
    unfold g_X2_isKind
    rw [ifr li8 (by omega)]
    split <;> rfl
  unfold g_X8_taken g_X9_taken
  refine wpO_e (isShelfC_eq a σ) ?_
  by_cases c : inb a 6
  · obtain ⟨p, hp, rfl⟩ := inb_ex c
    obtain ⟨r1, r2, r3, r4⟩ := b3.2 p hp
    obtain ⟨s1, s2, s3, s4⟩ := b1.2 p hp
    obtain ⟨t1, t2, t3⟩ := b2.2 p hp
    rw [if_pos c]
    refine wpO_f one_ne (wpO_e eK ?_)
    have q : ∀ {f : Int32 → AS → Option (Int32 × AS)} {Q : Int32 → AS → Prop} {σ1 : AS}, wpO (f 1 σ1) Q → wpO (bnd (g_X9_isShelf (nI p) σ1) f) Q := fun z => wpO_e (isShelfM_eq _ _) (by rw [if_pos c]; exact z)
    by_cases c1 : inb b 8
    · obtain ⟨k, hk, rfl⟩ := inb_ex c1
      rw [if_pos c1]
      have q2 : ∀ {f : Int32 → AS → Option (Int32 × AS)} {Q : Int32 → AS → Prop} {σ1 : AS}, wpO (f 1 σ1) Q → wpO (bnd (g_X9_within (nI k).toInt64 0 7 σ1) f) Q := fun z => wpO_e (within_t (m := 8) c1) z
      have e2 : gF σ 5 (nI p).toNatClampNeg 2 = nI (y.1 p) - 2 := by rw [nI_clamp (by omega)]; exact s1
      obtain ⟨b', hb', eb, eb1⟩ := shM_b (k := y.1 p) (b := y.2.1 p) (fun z => by have := r2 z; omega)
      have e50 : gA σ 9 0 50 (nI p) = shM (y.1 p) b' := by rw [gA_nI (by omega), t1, eb]
      refine wpO_f one_ne (wpO_t c ?_)
      rw [e2]
      by_cases c0 : y.1 p = 0
      · refine wpO_t ((k_e2 _ (by omega)).mpr c0) (wpO_some.mpr (q (wpO_f one_ne (q2 (wpO_f one_ne (wpO_t c (wpO_t ?_ (wpO_some.mpr ⟨rfl, h⟩))))))))
        rw [e50]; exact (shM_n0 (by omega) hb').mpr c0
      · refine wpO_f (fun z => c0 ((k_e2 _ (by omega)).mp z)) ?_
        unfold g_X5_isRow
        rw [e2]
        have n0 : ¬ gA σ 9 0 50 (nI p) < 0 := by rw [e50]; exact fun z => c0 ((shM_n0 (by omega) hb').mp z)
        by_cases c2 : y.1 p = 1
        · have hw := r2 c2
          have ew : gF σ 5 (nI p).toNatClampNeg 3 = nI (y.2.1 p) := by rw [nI_clamp (by omega)]; exact s2 c2
          have kd := b3.1.2.1 _ hw
          have eC : g_X2_kindOf (nI (y.2.1 p)) σ = some (nI (x.2.1 (y.2.1 p)), σ) := by
            unfold g_X2_kindOf
            rw [hasB_eq b1.1.1 hb, if_pos (inb_nI hw (by omega)), bnd_some, if_neg one_ne, if_pos (inb_nI (by omega) (by omega)), gA_nI (by omega), b1.1.2.1 _ hw]
          have eM50 : gA σ 9 0 50 (nI p) = nI (y.2.1 p) := by
            rw [e50, eb1 c2]; unfold shM; rw [if_neg c0, if_pos c2]
          have eM : g_X9_kindOf (gA σ 9 0 50 (nI p)) σ = some (nI (x.2.1 (y.2.1 p)), σ) := by
            rw [eM50]
            unfold g_X9_kindOf
            rw [if_pos (inb_nI (by omega) (by omega)), gA_nI (by omega), b2.1.2.1 _ hw]
          rw [if_pos ((k_n0 _ (by omega)).mpr (by omega))]
          have tail : ∀ r : Int32, r = (if und (x.2.1 (y.2.1 p)) k then nI (x.2.1 (y.2.1 p)) else -12) → wpO (bnd (g_X9_isShelf (nI p) σ) fun r1 σ2 => (if r1 = 0 then some ((-1), σ2) else (bnd (g_X9_within (nI k).toInt64 0 7 σ2) fun r4 σ5 => (if r4 = 0 then some ((-1), σ5) else (if inb (nI p) 6 then (if gA σ5 9 0 50 (nI p) < 0 then some ((-11), σ5) else (if gA σ5 9 0 50 (nI p) < 50 then (bnd (g_X9_kindOf (gA σ5 9 0 50 (nI p)) σ5) fun r10 σ11 => g_X9_taken_58 400 (nI p) (nI k) r10 σ11) else some ((-12), σ5))) else none))))) (fun r' σ2 => r = r' ∧ Inv σ2) := by
            intro r er
            refine q (wpO_f one_ne (q2 (wpO_f one_ne (wpO_t c (wpO_f n0 (wpO_t ?_ (wpO_e eM ?_)))))))
            · show gA σ 9 0 50 (nI p) < nI 50
              rw [eM50]; exact nI_lt (by omega) (by omega)
            · rw [undM σ _ kd hk hp eM]
              exact wpO_some.mpr ⟨er, h⟩
          refine wpO_e rfl (wpO_t rfl ?_)
          unfold g_X2_isUnder
          rw [ew, eC, bnd_some, undC σ kd hk]
          refine wpO_e rfl ?_
          by_cases cu : und (x.2.1 (y.2.1 p)) k = true
          · rw [if_pos cu]
            refine wpO_f one_ne ?_
            rw [ew]
            refine wpO_e eC (wpO_some.mpr (tail _ ?_))
            rw [if_pos cu]
          · rw [if_neg cu]
            refine wpO_t rfl (wpO_some.mpr (tail _ ?_))
            rw [if_neg cu]
        · rw [if_neg (fun z => by have := (k_n0 _ (by omega)).mp z; omega)]
          refine wpO_e rfl (wpO_f one_ne (wpO_some.mpr (q (wpO_f one_ne (q2 (wpO_f one_ne (wpO_t c (wpO_f n0 (wpO_f ?_ (wpO_some.mpr ⟨rfl, h⟩)))))))))) 
          show ¬ gA σ 9 0 50 (nI p) < nI 50
          rw [e50]; exact fun z => by have := (shM_50 (by omega) hb').mp z; omega
    · rw [if_neg c1]
      exact wpO_t rfl (wpO_some.mpr (q (wpO_f one_ne (wpO_e (within_f (m := 8) c1) (wpO_t rfl (wpO_some.mpr ⟨rfl, h⟩))))))
  · rw [if_neg c]
    refine wpO_t rfl (wpO_some.mpr (wpO_e (isShelfM_eq _ _) ?_))
    rw [if_neg c]
    exact wpO_t rfl (wpO_some.mpr ⟨rfl, h⟩)
