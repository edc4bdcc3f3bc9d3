/-! judge -/
def jdg (mis : Nat → Bool) : Nat → Nat → Option Nat
  | 0, _ => none
  | d + 1, j => if mis j = true then some (j / 2) else jdg mis d (j + 1)
def oR : Option Nat → Int32
  | none => -2
  | some k => nI k
theorem jdg_none {mis : Nat → Bool} : ∀ (d j : Nat), (∀ i, j ≤ i → mis i = false) → jdg mis d j = none := by
  intro d
  induction d with
  | zero => intro j _; rfl
  | succ d ih =>
    intro j h
    rw [jdg, if_neg (by rw [h j (Nat.le_refl j)]; decide)]
    exact ih (j + 1) (fun i hi => h i (by omega))
/-- a row's place tells otherwise -/
def misF (ln : Nat) (el : Nat → Int64) (td : Nat → Int32) (j : Nat) : Bool := decide (j < ln ∧ ¬ el j = (td j).toInt64)
theorem toldElse_eq {σ : AS} {p ln j : Nat} {el : Nat → Int64} {x : Int32} (hn : σ.1 5 p 1 = nI ln) (hb : ln ≤ 60) (he : ∀ i, i < ln → σ.2.2 5 p 0 i = el i) (hj : j < 2 ^ 31) : g_X8_isToldElse p (nI j) x σ = some (if j < ln ∧ ¬ el j = x.toInt64 then 1 else 0, σ) := by
  unfold g_X8_isToldElse
  rw [hasPlace_eq hn hb, bnd_some]
  by_cases c : j < ln
  · have ci : inb (nI j) ln := inb_nI c (by omega)
    have ea : g_X5_at p (nI j) σ = some (el j, σ) := by
      unfold g_X5_at
      rw [hasPlace_eq hn hb, bnd_some, if_pos ci, if_neg one_ne, if_pos (inb_nI (by omega) (by omega))]
      show some (σ.2.2 5 p 0 (nI j).toNatClampNeg, σ) = _
      rw [nI_clamp hj, he j c]
    rw [if_pos ci, if_neg one_ne, ea, bnd_some]
    by_cases c2 : el j = x.toInt64
    · rw [if_pos ((lg_cmp_eq _ _).mpr c2), if_neg (fun z => z.2 c2)]
    · rw [if_neg (fun z => c2 ((lg_cmp_eq _ _).mp z)), if_pos ⟨c, c2⟩]
  · rw [if_neg (fun z => c ((inb_iffN hj).mp z)), if_pos rfl, if_neg (fun z => c z.1)]
theorem judgeC {σ : AS} {p ln r now : Nat} {el : Nat → Int64} {y : LEDS} {td : Nat → Int32} (eN : gF σ 1 0 11 = nI now) (hN : now ≤ 24) (hc : LdC σ now y) (hr : r < 7) (hn : σ.1 5 p 1 = nI ln) (hb : ln ≤ 60) (he : ∀ i, i < ln → σ.2.2 5 p 0 i = el i) (ht0 : ∀ h, td (2 * h) = y.1 h r) (ht1 : ∀ h, td (2 * h + 1) = y.2.1 h r) :
    ∀ (d h f : Nat), h + d = now → d < f → g_X8_judge_52 p f (nI r) (nI h) σ = some (oR (jdg (misF ln el td) (2 * d) (2 * h)), σ) := by
  intro d
  induction d with
  | zero =>
    intro h f hh hf
    obtain ⟨f, rfl⟩ : ∃ g, f = g + 1 := ⟨f - 1, by omega⟩
    rw [g_X8_judge_52, eN, if_neg (nI_nlt (by omega) (by omega))]; rfl
  | succ d ih =>
    intro h f hh hf
    obtain ⟨f, rfl⟩ : ∃ g, f = g + 1 := ⟨f - 1, by omega⟩
    obtain ⟨a1, a2, -⟩ := led_eqs hN hc (show h < now by omega) hr
    have step := ih (h + 1) f (by omega) (by omega)
    rw [g_X8_judge_52, eN, if_pos (nI_lt (by omega) (by omega)), a1, bnd_some, e2i, toldElse_eq hn hb he (by omega), bnd_some]
    rw [show 2 * (d + 1) = (2 * d + 1) + 1 from by omega, jdg]
    by_cases c1 : 2 * h < ln ∧ ¬ el (2 * h) = (y.1 h r).toInt64
    · have m1 : misF ln el td (2 * h) = true := by unfold misF; rw [ht0]; exact decide_eq_true c1
      rw [if_pos c1, if_neg one_ne, if_pos m1, show 2 * h / 2 = h from by omega]; rfl
    · have m1 : ¬ misF ln el td (2 * h) = true := by unfold misF; rw [ht0]; exact fun z => c1 (of_decide_eq_true z)
      rw [if_neg c1, if_pos rfl, if_neg m1, a2, bnd_some, nI_1, toldElse_eq hn hb he (by omega), bnd_some, jdg]
      by_cases c2 : 2 * h + 1 < ln ∧ ¬ el (2 * h + 1) = (y.2.1 h r).toInt64
      · have m2 : misF ln el td (2 * h + 1) = true := by unfold misF; rw [ht1]; exact decide_eq_true c2
        rw [if_pos c2, if_neg one_ne, if_pos m2, show (2 * h + 1) / 2 = h from by omega]; rfl
      · have m2 : ¬ misF ln el td (2 * h + 1) = true := by unfold misF; rw [ht1]; exact fun z => c2 (of_decide_eq_true z)
        rw [if_neg c2, if_pos rfl, if_neg m2, nI_1, step]; rfl
theorem judgeM {σ : AS} {p ln r now : Nat} {el : Nat → Int64} {td : Nat → Int32} (eN : gF σ 9 0 13 = nI now) (hN : now ≤ 24) (hp : p < 6) (hr : r < 7) (hn : σ.2.1 9 0 51 p = nI ln) (hb : ln ≤ 60) (he : ∀ i, i < ln → σ.2.2 9 0 52 (60 * p + i) = el i) (ht : ∀ j, j < 2 * now → σ.2.1 9 0 31 (14 * (j / 2) + 2 * r + j % 2) = td j) :
    ∀ (d j f : Nat), j + d = 2 * now → d < f → g_X9_judge_45 f (nI p) (nI r) (nI j) σ = some (oR (jdg (misF ln el td) d j), σ) := by
  intro d
  induction d with
  | zero =>
    intro j f hh hf
    obtain ⟨f, rfl⟩ : ∃ g, f = g + 1 := ⟨f - 1, by omega⟩
    rw [g_X9_judge_45, if_pos (inb_nI hp (by omega)), eN, e2i]
    by_cases c : nI j < gA σ 9 0 51 (nI p)
    · rw [if_pos c, if_neg (nI_nlt (by omega) (by omega))]; rfl
    · rw [if_neg c]; rfl
  | succ d ih =>
    intro j f hh hf
    obtain ⟨f, rfl⟩ : ∃ g, f = g + 1 := ⟨f - 1, by omega⟩
    have step := ih (j + 1) f (by omega) (by omega)
    rw [g_X9_judge_45, if_pos (inb_nI hp (by omega)), gA_nI (by omega), hn]
    by_cases c : j < ln
    · have ex : (14 : Int32) * (nI j / 2) + 2 * nI r + rmi (nI j) 2 = nI (14 * (j / 2) + 2 * r + j % 2) := by
        have r1 : rmi (nI j) 2 = nI (j % 2) := rmi_nI (d := 2) (by omega) (by omega) (by omega)
        have r2 : nI j / 2 = nI (j / 2) := pk_div (d := 2) (by omega) (by omega) (by omega)
        rw [r1, r2, e2i, li14, pk_mul, nI_add, nI_add]
      rw [if_pos (nI_lt c (by omega)), eN, e2i, if_pos (nI_lt (by omega) (by omega)), e60, if_pos (inb_nI (by omega) (by omega)), ex, if_pos (inb_nI (by omega) (by omega)), gA_nI (by omega), ht j (by omega)]
      rw [show gL σ 9 0 52 (nI (60 * p + j)) = el j from by show σ.2.2 9 0 52 (nI (60 * p + j)).toNatClampNeg = _; rw [nI_clamp (by omega), he j c]]
      rw [jdg]
      by_cases c2 : el j = (td j).toInt64
      · have m : ¬ misF ln el td j = true := by unfold misF; exact fun z => (of_decide_eq_true z).2 c2
        rw [if_pos ((lg_cmp_eq _ _).mpr c2), if_neg m, nI_1, step]
      · have m : misF ln el td j = true := by unfold misF; exact decide_eq_true ⟨c, c2⟩
        have r2 : nI j / 2 = nI (j / 2) := pk_div (d := 2) (by omega) (by omega) (by omega)
        rw [if_neg (fun z => c2 ((lg_cmp_eq _ _).mp z)), if_pos m, r2]; rfl
    · rw [if_neg (nI_nlt (by omega) (by omega)), jdg_none (d + 1) j (fun i hi => by unfold misF; exact decide_eq_false (fun z => c (by omega)))]; rfl
theorem op_judge (a b : Int32) : Both (g_X8_judge a b) (g_X9_judge a b) := by
  intro σ h
  obtain ⟨n, t, w, d, aa, c0, h1, h2, h3⟩ := h.1
  obtain ⟨⟨wd, L, R, cm, yl, fi, now⟩, yy, z, g1, g2, g3⟩ := h.2.1
  obtain ⟨x, y, b1, b2, b3⟩ := h.2.2.2.2
  have hn := h3.1
  have hN : now ≤ 24 := g3.1.2.2
  have eN1 : gF σ 1 0 11 = nI now := g1.1.2.2.2.2.2.2.1
  have eN2 : gF σ 9 0 13 = nI now := g2.1.2.2.2.2.2.2.1
  have hl : LdC σ now yy := g1.2.1
  obtain ⟨l1, l2, l3⟩ := (g2.2.1 : LdM σ 31 32 now yy)
  unfold g_X8_judge g_X9_judge
  refine wpO_e (isShelfC_eq a σ) ?_
  by_cases c : inb a 6
  · obtain ⟨p, hp, rfl⟩ := inb_ex c
    obtain ⟨r1, r2, r3, r4⟩ := b3.2 p hp
    obtain ⟨s1, s2, s3, s4⟩ := b1.2 p hp
    obtain ⟨t1, t2, t3⟩ := b2.2 p hp
    rw [if_pos c]
    refine wpO_f one_ne (wpO_e (hasRest_eq h1.1 hn b) ?_)
    have q : ∀ {f : Int32 → AS → Option (Int32 × AS)} {Q : Int32 → AS → Prop} {σ1 : AS}, wpO (f 1 σ1) Q → wpO (bnd (g_X9_isShelf (nI p) σ1) f) Q := fun z => wpO_e (isShelfM_eq _ _) (by rw [if_pos c]; exact z)
    by_cases c1 : inb b (n - 1)
    · obtain ⟨r, hr, rfl⟩ := inb_ex c1
      rw [if_pos c1]
      have q2 : ∀ {f : Int32 → AS → Option (Int32 × AS)} {Q : Int32 → AS → Prop}, wpO (f 1 σ) Q → wpO (bnd (g_X9_isRest (nI r) σ) f) Q := fun z => wpO_e (isRestM_eq h2.1 hn _) (by rw [if_pos c1]; exact z)
      have e2 : gF σ 5 (nI p).toNatClampNeg 2 = nI (y.1 p) - 2 := by rw [nI_clamp (by omega)]; exact s1
      obtain ⟨b', hb', eb, eb1⟩ := shM_b (k := y.1 p) (b := y.2.1 p) (fun z => by have := r2 z; have := b3.1.1; omega)
      have e50 : gA σ 9 0 50 (nI p) = shM (y.1 p) b' := by rw [gA_nI (by omega), t1, eb]
      refine wpO_f one_ne (wpO_t c ?_)
      rw [e2]
      by_cases k0 : y.1 p = 0
      · refine wpO_t ((k_e2 _ (by omega)).mpr k0) (wpO_some.mpr (q (wpO_f one_ne (q2 (wpO_f one_ne (wpO_t c (wpO_t ?_ (wpO_some.mpr ⟨rfl, h⟩))))))))
        rw [e50]; exact (shM_n0 (by omega) hb').mpr k0
      · refine wpO_f (fun z => k0 ((k_e2 _ (by omega)).mp z)) ?_
        have n0 : ¬ gA σ 9 0 50 (nI p) < 0 := by rw [e50]; exact fun z => k0 ((shM_n0 (by omega) hb').mp z)
        by_cases k2 : y.1 p = 2
        · refine wpO_t ((k_z0 _ (by omega)).mpr k2) ?_
          let td : Nat → Int32 := fun j => if j % 2 = 0 then yy.1 (j / 2) r else yy.2.1 (j / 2) r
          have eC := judgeC (td := td) eN1 hN hl (show r < 7 by omega) s3 r4 s4 (fun h => by show (if 2 * h % 2 = 0 then yy.1 (2 * h / 2) r else yy.2.1 (2 * h / 2) r) = _; rw [if_pos (by omega), show 2 * h / 2 = h from by omega]) (fun h => by show (if (2 * h + 1) % 2 = 0 then yy.1 ((2 * h + 1) / 2) r else yy.2.1 ((2 * h + 1) / 2) r) = _; rw [if_neg (by omega), show (2 * h + 1) / 2 = h from by omega]) now 0 400 (by omega) (by omega)
          have eM := judgeM (td := td) eN2 hN hp (show r < 7 by omega) t2 r4 t3 (fun j hj => by
            show _ = (if j % 2 = 0 then yy.1 (j / 2) r else yy.2.1 (j / 2) r)
            by_cases e : j % 2 = 0
            · rw [if_pos e, e]; exact l1 (j / 2) r (show j / 2 < now by omega) (by omega)
            · rw [if_neg e, show j % 2 = 1 from by omega]; exact l2 (j / 2) r (show j / 2 < now by omega) (by omega)) (2 * now) 0 400 (by omega) (by omega)
          refine wpO_mono (P := fun r' σ1 => r' = oR (jdg (misF (y.2.2.1 p) (y.2.2.2 p) td) (2 * now) 0) ∧ σ1 = σ) ?_ ?_
          · refine ⟨_, _, ?_, rfl, rfl⟩
            rw [nI_clamp (by omega)]; exact eC
          · rintro r' σ1 ⟨rfl, rfl⟩
            refine q (wpO_f one_ne (q2 (wpO_f one_ne (wpO_t c (wpO_f n0 (wpO_t ?_ ⟨_, _, eM, rfl, h⟩))))))
            show gA σ1 9 0 50 (nI p) = nI 50
            rw [e50]; exact (shM_e50 (by omega) hb').mpr k2
        · refine wpO_f (fun z => k2 ((k_z0 _ (by omega)).mp z)) (wpO_some.mpr (q (wpO_f one_ne (q2 (wpO_f one_ne (wpO_t c (wpO_f n0 (wpO_f ?_ (wpO_some.mpr ⟨rfl, h⟩)))))))))
          show ¬ gA σ 9 0 50 (nI p) = nI 50
          rw [e50]; exact fun z => k2 ((shM_e50 (by omega) hb').mp z)
    · rw [if_neg c1]
      refine wpO_t rfl (wpO_some.mpr (q (wpO_f one_ne (wpO_e (isRestM_eq h2.1 hn _) ?_))))
      rw [if_neg c1]
      exact wpO_t rfl (wpO_some.mpr ⟨rfl, h⟩)
  · rw [if_neg c]
    refine wpO_t rfl (wpO_some.mpr (wpO_e (isShelfM_eq _ _) ?_))
    rw [if_neg c]
    exact wpO_t rfl (wpO_some.mpr ⟨rfl, h⟩)
/-! shift -/
theorem nI_subI {a b : Nat} (ha : a < 2 ^ 31) (hb : b < 2 ^ 31) : (nI a - nI b).toInt = (a : Int) - b := by
  rw [Int32.toInt_sub, nI_toInt ha, nI_toInt hb, Int.bmod_eq_of_le] <;> omega
theorem sub_ltI {a b c : Nat} (ha : a < 2 ^ 31) (hb : b < 2 ^ 31) (hc : c < 2 ^ 31) : nI a - nI b < nI c ↔ a < c + b := by
  rw [Int32.lt_iff_toInt_lt, nI_subI ha hb, nI_toInt hc]; omega
theorem hasPlaces_eq {σ : AS} {p ln q k : Nat} (hn : σ.1 5 p 1 = nI ln) (hb : ln ≤ 60) (hq : q < 2 ^ 31) (hk : k < 2 ^ 31) : g_X5_hasPlaces p (nI q) (nI k) σ = some (if q + k ≤ ln then 1 else 0, σ) := by
  unfold g_X5_hasPlaces
  rw [show gF σ 5 p 1 = nI ln from hn, if_neg (nI_pos hq), if_neg (nI_pos hk)]
  by_cases c : q + k ≤ ln
  · rw [if_neg (fun z => by have := (sub_ltI (by omega) hk hq).mp z; omega), if_pos c]
  · rw [if_pos ((sub_ltI (by omega) hk hq).mpr (by omega)), if_neg c]
theorem shift150 {p q k : Nat} {σ0 : AS} (hp : p < 6) (hk : q + k ≤ 60) : ∀ (d c f : Nat) (σ : AS), c + d = k → d < f → FrL [(9, 0, 52)] σ0 σ → (∀ t, σ.2.2 9 0 52 t = if 60 * p + q ≤ t ∧ t < 60 * p + q + c then σ0.2.2 9 0 53 (t - (60 * p + q)) else σ0.2.2 9 0 52 t) →
    wpO (g_X9_shift_150 f (nI p) (nI q) (nI k) (nI c) σ) (fun r σ1 => r = nI k ∧ FrL [(9, 0, 52)] σ0 σ1 ∧ (∀ t, σ1.2.2 9 0 52 t = if 60 * p + q ≤ t ∧ t < 60 * p + q + k then σ0.2.2 9 0 53 (t - (60 * p + q)) else σ0.2.2 9 0 52 t)) := by
  intro d
  induction d with
  | zero =>
    intro c f σ hc hf fr a
    obtain ⟨f, rfl⟩ : ∃ g, f = g + 1 := ⟨f - 1, by omega⟩
    have e : c = k := by omega
    subst e
    rw [g_X9_shift_150]
    exact wpO_f (nI_nlt (by omega) (by omega)) (wpO_some.mpr ⟨rfl, fr, a⟩)
  | succ d ih =>
    intro c f σ hc hf fr a
    obtain ⟨f, rfl⟩ : ∃ g, f = g + 1 := ⟨f - 1, by omega⟩
    rw [g_X9_shift_150, e60, nI_add, nI_1]
    refine wpO_t (nI_lt (by omega) (by omega)) (wpO_t (inb_nI (by omega) (by omega)) (wpO_t (inb_nI (by omega) (by omega)) (wpO_lt ?_)))
    refine ih (c + 1) f _ (by omega) (by omega) (fr.tr (FrL_sL (by decide))) ?_
    intro t
    show (if t = (nI (60 * p + q + c)).toNatClampNeg then σ.2.2 9 0 53 (nI c).toNatClampNeg else σ.2.2 9 0 52 t) = _
    rw [nI_clamp (by omega), nI_clamp (by omega), a t, fr.l 9 0 53 (by decide)]
    by_cases e : t = 60 * p + q + c
    · rw [if_pos e, if_pos (by omega), show t - (60 * p + q) = c from by omega]
    · rw [if_neg e]
      by_cases e2 : 60 * p + q ≤ t ∧ t < 60 * p + q + c
      · rw [if_pos e2, if_pos (by omega)]
      · rw [if_neg e2, if_neg (by omega)]
theorem shift113 {p q p2 q2 k : Nat} {σ0 : AS} {Q : Int32 → AS → Prop} (hp : p < 6) (hk : q + k ≤ 60) (hQ : ∀ σ1 : AS, FrL [(9, 0, 53)] σ0 σ1 → (∀ t, t < k → σ1.2.2 9 0 53 t = σ0.2.2 9 0 52 (60 * p + q + t)) → wpO (g_X9_shift_150 400 (nI p2) (nI q2) (nI k) 0 σ1) Q) : ∀ (d c f : Nat) (σ : AS), c + d = k → d < f → FrL [(9, 0, 53)] σ0 σ → (∀ t, t < c → σ.2.2 9 0 53 t = σ0.2.2 9 0 52 (60 * p + q + t)) →
    wpO (g_X9_shift_113 f (nI p) (nI q) (nI p2) (nI q2) (nI k) (nI c) σ) Q := by
  intro d
  induction d with
  | zero =>
    intro c f σ hc hf fr a
    obtain ⟨f, rfl⟩ : ∃ g, f = g + 1 := ⟨f - 1, by omega⟩
    have e : c = k := by omega
    subst e
    rw [g_X9_shift_113]
    exact wpO_f (nI_nlt (by omega) (by omega)) (hQ σ fr a)
  | succ d ih =>
    intro c f σ hc hf fr a
    obtain ⟨f, rfl⟩ : ∃ g, f = g + 1 := ⟨f - 1, by omega⟩
    rw [g_X9_shift_113, e60, nI_add, nI_1]
    refine wpO_t (nI_lt (by omega) (by omega)) (wpO_t (inb_nI (by omega) (by omega)) (wpO_t (inb_nI (by omega) (by omega)) (wpO_lt ?_)))
    refine ih (c + 1) f _ (by omega) (by omega) (fr.tr (FrL_sL (by decide))) ?_
    intro t ht
    show (if t = (nI c).toNatClampNeg then σ.2.2 9 0 52 (nI (60 * p + q + c)).toNatClampNeg else σ.2.2 9 0 53 t) = _
    rw [nI_clamp (by omega), nI_clamp (by omega), fr.l 9 0 52 (by decide)]
    by_cases e : t = c
    · rw [if_pos e, e]
    · rw [if_neg e]; exact a t (by omega)
theorem op_shift (a i0 b j0 n0 : Int32) : Both (g_X8_shift a i0 b j0 n0) (g_X9_shift a i0 b j0 n0) := by
  intro σ h
  obtain ⟨x, y, b1, b2, b3⟩ := h.2.2.2.2
  have hbd := b3.1.1
  unfold g_X8_shift g_X9_shift
  refine wpO_e (isShelfC_eq a σ) ?_
  by_cases c : inb a 6
  · obtain ⟨p, hp, rfl⟩ := inb_ex c
    rw [if_pos c]
    refine wpO_f one_ne (wpO_e (isShelfC_eq b σ) ?_)
    have q : ∀ {f : Int32 → AS → Option (Int32 × AS)} {Q : Int32 → AS → Prop} {σ1 : AS}, wpO (f 1 σ1) Q → wpO (bnd (g_X9_isShelf (nI p) σ1) f) Q := fun z => wpO_e (isShelfM_eq _ _) (by rw [if_pos c]; exact z)
    by_cases cb : inb b 6
    · obtain ⟨p2, hp2, rfl⟩ := inb_ex cb
      rw [if_pos cb]
      have q2 : ∀ {f : Int32 → AS → Option (Int32 × AS)} {Q : Int32 → AS → Prop} {σ1 : AS}, wpO (f 1 σ1) Q → wpO (bnd (g_X9_isShelf (nI p2) σ1) f) Q := fun z => wpO_e (isShelfM_eq _ _) (by rw [if_pos cb]; exact z)
      obtain ⟨r1, r2, r3, r4⟩ := b3.2 p hp
      obtain ⟨s1, s2, s3, s4⟩ := b1.2 p hp
      obtain ⟨t1, t2, t3⟩ := b2.2 p hp
      obtain ⟨v1, v2, v3, v4⟩ := b3.2 p2 hp2
      obtain ⟨w1, w2, w3, w4⟩ := b1.2 p2 hp2
      obtain ⟨u1, u2, u3⟩ := b2.2 p2 hp2
      have e2 : gF σ 5 (nI p).toNatClampNeg 2 = nI (y.1 p) - 2 := by rw [nI_clamp (by omega)]; exact s1
      have e2' : gF σ 5 (nI p2).toNatClampNeg 2 = nI (y.1 p2) - 2 := by rw [nI_clamp (by omega)]; exact w1
      obtain ⟨b', hb', eb, eb1⟩ := shM_b (k := y.1 p) (b := y.2.1 p) (fun z => by have := r2 z; omega)
      obtain ⟨b'', hb'', eb', eb1'⟩ := shM_b (k := y.1 p2) (b := y.2.1 p2) (fun z => by have := v2 z; omega)
      have e50 : gA σ 9 0 50 (nI p) = shM (y.1 p) b' := by rw [gA_nI (by omega), t1, eb]
      have e50' : gA σ 9 0 50 (nI p2) = shM (y.1 p2) b'' := by rw [gA_nI (by omega), u1, eb']
      refine wpO_f one_ne (wpO_t c (wpO_t cb ?_))
      rw [e2]
      by_cases k0 : y.1 p = 0
      · refine wpO_t ((k_e2 _ (by omega)).mpr k0) (wpO_some.mpr (q (wpO_f one_ne (q2 (wpO_f one_ne (wpO_t c (wpO_t ?_ (wpO_some.mpr ⟨rfl, h⟩))))))))
        rw [e50]; exact (shM_n0 (by omega) hb').mpr k0
      refine wpO_f (fun z => k0 ((k_e2 _ (by omega)).mp z)) ?_
      have n0p : ¬ gA σ 9 0 50 (nI p) < 0 := by rw [e50]; exact fun z => k0 ((shM_n0 (by omega) hb').mp z)
      rw [e2']
      by_cases k0' : y.1 p2 = 0
      · refine wpO_t ((k_e2 _ (by omega)).mpr k0') (wpO_some.mpr (q (wpO_f one_ne (q2 (wpO_f one_ne (wpO_t c (wpO_f n0p (wpO_t cb (wpO_t ?_ (wpO_some.mpr ⟨rfl, h⟩))))))))))
        rw [e50']; exact (shM_n0 (by omega) hb'').mpr k0'
      refine wpO_f (fun z => k0' ((k_e2 _ (by omega)).mp z)) ?_
      have n0p' : ¬ gA σ 9 0 50 (nI p2) < 0 := by rw [e50']; exact fun z => k0' ((shM_n0 (by omega) hb'').mp z)
      unfold g_X5_isRow
      rw [e2]
      by_cases k1 : y.1 p = 1
      · rw [if_pos ((k_n0 _ (by omega)).mpr (by omega))]
        refine wpO_e rfl (wpO_t rfl (wpO_some.mpr (q (wpO_f one_ne (q2 (wpO_f one_ne (wpO_t c (wpO_f n0p (wpO_t cb (wpO_f n0p' (wpO_t ?_ (wpO_some.mpr ⟨rfl, h⟩)))))))))))) 
        show gA σ 9 0 50 (nI p) < nI 50
        rw [e50]; exact (shM_50 (by omega) hb').mpr (by omega)
      · rw [if_neg (fun z => by have := (k_n0 _ (by omega)).mp z; omega)]
        have n50 : ¬ gA σ 9 0 50 (nI p) < 50 := by
          show ¬ gA σ 9 0 50 (nI p) < nI 50
          rw [e50]; exact fun z => by have := (shM_50 (by omega) hb').mp z; omega
        refine wpO_e rfl (wpO_f one_ne ?_)
        rw [e2, e2']
        have ek : nI (y.1 p) - 2 = nI (y.1 p - 2) := by rw [li2, pk_sub (by omega)]
        by_cases ks : y.1 p = y.1 p2
        · have es : gA σ 9 0 50 (nI p) = gA σ 9 0 50 (nI p2) := by
            rw [e50, e50', ← ks]; unfold shM; rw [if_neg k0, if_neg k1, if_neg k0, if_neg k1]
          refine wpO_t (by rw [ks]) ?_
          have rest : ∀ {f : AS → Option (Int32 × AS)} {Q : Int32 → AS → Prop} {σ1 : AS}, gA σ1 9 0 50 (nI p) = gA σ 9 0 50 (nI p) → gA σ1 9 0 50 (nI p2) = gA σ 9 0 50 (nI p2) → wpO (f σ1) Q → wpO (bnd (g_X9_isShelf (nI p) σ1) fun r1 σ2 => (if r1 = 0 then some ((-1), σ2) else (bnd (g_X9_isShelf (nI p2) σ2) fun r4 σ5 => (if r4 = 0 then some ((-1), σ5) else (if inb (nI p) 6 then (if gA σ5 9 0 50 (nI p) < 0 then some ((-11), σ5) else (if inb (nI p2) 6 then (if gA σ5 9 0 50 (nI p2) < 0 then some ((-11), σ5) else (if gA σ5 9 0 50 (nI p) < 50 then some ((-12), σ5) else (if gA σ5 9 0 50 (nI p) = gA σ5 9 0 50 (nI p2) then f σ5 else some ((-12), σ5)))) else none)) else none))))) Q := by
            intro f Q σ1 g1 g2 z
            refine q (wpO_f one_ne (q2 (wpO_f one_ne (wpO_t c (wpO_f (by rw [g1]; exact n0p) (wpO_t cb (wpO_f (by rw [g2]; exact n0p') (wpO_f (by rw [g1]; exact n50) (wpO_t ?_ z)))))))))
            rw [g1, g2]; exact es
          have no : ∀ r : Int32, r = -13 → (i0 < 0 ∨ j0 < 0 ∨ n0 < 0 ∨ nI (y.2.2.1 p) - n0 < i0 ∨ nI (y.2.2.1 p2) - n0 < j0) → wpO (if n0 < 0 then some ((-13), σ) else (if i0 < 0 then some ((-13), σ) else (if j0 < 0 then some ((-13), σ) else (if (gA σ 9 0 51 (nI p)) - n0 < i0 then some ((-13), σ) else (if (gA σ 9 0 51 (nI p2)) - n0 < j0 then some ((-13), σ) else g_X9_shift_113 400 (nI p) i0 (nI p2) j0 n0 0 σ))))) (fun r' σ2 => r = r' ∧ Inv σ2) := by
            intro r er hh
            have e1 : gA σ 9 0 51 (nI p) = nI (y.2.2.1 p) := by rw [gA_nI (by omega)]; exact t2
            have e1' : gA σ 9 0 51 (nI p2) = nI (y.2.2.1 p2) := by rw [gA_nI (by omega)]; exact u2
            subst er
            refine wpO_if (fun _ => wpO_some.mpr ⟨rfl, h⟩) (fun z1 => wpO_if (fun _ => wpO_some.mpr ⟨rfl, h⟩) (fun z2 => wpO_if (fun _ => wpO_some.mpr ⟨rfl, h⟩) (fun z3 => wpO_if (fun _ => wpO_some.mpr ⟨rfl, h⟩) (fun z4 => wpO_if (fun _ => wpO_some.mpr ⟨rfl, h⟩) (fun z5 => ?_)))))
            rw [e1] at z4; rw [e1'] at z5
            rcases hh with z | z | z | z | z
            · exact absurd z z2
            · exact absurd z z3
            · exact absurd z z1
            · exact absurd z z4
            · exact absurd z z5
          have hpl : ∀ (pp : Nat) (i : Int32) (ln : Nat), σ.1 5 pp 1 = nI ln → g_X5_hasPlaces pp i n0 σ = some (if i < 0 ∨ n0 < 0 ∨ nI ln - n0 < i then 0 else 1, σ) := by
            intro pp i ln e
            unfold g_X5_hasPlaces
            rw [show gF σ 5 pp 1 = nI ln from e]
            by_cases z1 : i < 0
            · rw [if_pos z1, if_pos (Or.inl z1)]
            · rw [if_neg z1]
              by_cases z2 : n0 < 0
              · rw [if_pos z2, if_pos (Or.inr (Or.inl z2))]
              · rw [if_neg z2]
                by_cases z3 : nI ln - n0 < i
                · rw [if_pos z3, if_pos (Or.inr (Or.inr z3))]
                · rw [if_neg z3, if_neg]
                  rintro (z | z | z)
                  · exact z1 z
                  · exact z2 z
                  · exact z3 z
          refine wpO_e (hpl _ i0 (y.2.2.1 p) (by rw [nI_clamp (by omega)]; exact s3)) ?_
          by_cases h1 : i0 < 0 ∨ n0 < 0 ∨ nI (y.2.2.1 p) - n0 < i0
          · rw [if_pos h1]
            refine wpO_t rfl (wpO_some.mpr (rest rfl rfl (no _ rfl ?_)))
            rcases h1 with z | z | z
            · exact Or.inl z
            · exact Or.inr (Or.inr (Or.inl z))
            · exact Or.inr (Or.inr (Or.inr (Or.inl z)))
          · rw [if_neg h1]
            refine wpO_f one_ne (wpO_e (hpl _ j0 (y.2.2.1 p2) (by rw [nI_clamp (by omega)]; exact w3)) ?_)
            by_cases h2 : j0 < 0 ∨ n0 < 0 ∨ nI (y.2.2.1 p2) - n0 < j0
            · rw [if_pos h2]
              refine wpO_t rfl (wpO_some.mpr (rest rfl rfl (no _ rfl ?_)))
              rcases h2 with z | z | z
              · exact Or.inr (Or.inl z)
              · exact Or.inr (Or.inr (Or.inl z))
              · exact Or.inr (Or.inr (Or.inr (Or.inr z)))
            · rw [if_neg h2]
              obtain ⟨i, hi, rfl⟩ := nI_of (fun z => h1 (Or.inl z))
              obtain ⟨j, hj, rfl⟩ := nI_of (fun z => h2 (Or.inl z))
              obtain ⟨k, hk, rfl⟩ := nI_of (fun z => h1 (Or.inr (Or.inl z)))
              have l1 : i + k ≤ y.2.2.1 p := Classical.byContradiction (fun z => h1 (Or.inr (Or.inr ((sub_ltI (by omega) hk hi).mpr (by omega)))))
              have l2 : j + k ≤ y.2.2.1 p2 := Classical.byContradiction (fun z => h2 (Or.inr (Or.inr ((sub_ltI (by omega) hk hj).mpr (by omega)))))
              refine wpO_f one_ne (wpO_t ⟨nI_pos' hi, nI_pos' hj, nI_pos' hk, by rw [nI_clamp hi, nI_clamp hk]; omega, by rw [nI_clamp hj, nI_clamp hk]; omega⟩ (wpO_lt (wpO_some.mpr ?_)))
              generalize hs : cpyL σ 5 (nI p).toNatClampNeg 0 5 (nI p2).toNatClampNeg 0 (nI i) (nI j) (nI k) = σ1
              rw [nI_clamp (by omega), nI_clamp (by omega)] at hs
              have f1 : FrL SS σ σ1 := by rw [← hs]; exact FrL_sL (DSh_S hp2 (by omega))
              have z1 : σ1.1 = σ.1 := by rw [← hs]; rfl
              have z2 : σ1.2.1 = σ.2.1 := by rw [← hs]; rfl
              have z3 : σ1.2.2 9 0 = σ.2.2 9 0 := by rw [← hs]; rfl
              have z4 : ∀ d t, σ1.2.2 5 d 0 t = if d = p2 ∧ j ≤ t ∧ t < j + k then σ.2.2 5 p 0 (i + (t - j)) else σ.2.2 5 d 0 t := by
                intro d t
                rw [← hs]
                show (if 5 = 5 ∧ d = p2 ∧ 0 = 0 then va_cpy (σ.2.2 5 p 0) (σ.2.2 5 p2 0) (nI i).toNatClampNeg (nI j).toNatClampNeg (nI k).toNatClampNeg else σ.2.2 5 d 0) t = _
                rw [nI_clamp hi, nI_clamp hj, nI_clamp hk]
                by_cases e : d = p2
                · subst e
                  rw [if_pos ⟨rfl, rfl, rfl⟩, cpy_at]
                  by_cases e3 : j ≤ t ∧ t < j + k
                  · rw [if_pos e3, if_pos ⟨rfl, e3⟩]
                  · rw [if_neg e3, if_neg (fun z => e3 z.2)]
                · rw [if_neg (fun z => e z.2.1), if_neg (fun z => e z.1)]
              have m2 : ShM σ1 y := by intro d hd; rw [z2, z3]; exact b2.2 d hd
              refine rest (by unfold gA; rw [z2]) (by unfold gA; rw [z2]) ?_
              have e1 : gA σ1 9 0 51 (nI p) = nI (y.2.2.1 p) := by rw [gA_nI (by omega), z2]; exact t2
              have e1' : gA σ1 9 0 51 (nI p2) = nI (y.2.2.1 p2) := by rw [gA_nI (by omega), z2]; exact u2
              rw [e1, e1']
              refine wpO_f (nI_pos hk) (wpO_f (nI_pos hi) (wpO_f (nI_pos hj) (wpO_f (fun z => by have := (sub_ltI (by omega) hk hi).mp z; omega) (wpO_f (fun z => by have := (sub_ltI (by omega) hk hj).mp z; omega) ?_))))
              refine shift113 (σ0 := σ1) (p := p) (q := i) (p2 := p2) (q2 := j) (k := k) hp (by omega) ?_ k 0 400 σ1 (by omega) (by omega) FrL.rf (fun t ht => by omega)
              intro σ2 f2 c53
              refine wpO_mono (shift150 (σ0 := σ2) hp2 (by omega) k 0 400 σ2 (by omega) (by omega) FrL.rf (fun t => by rw [if_neg (by omega)])) ?_
              intro r' σ3 zz
              obtain ⟨rfl, f3, c52⟩ := zz
              refine ⟨rfl, ?_⟩
              have F : FrL SS σ σ3 := (f1.tr (f2.mono (by decide))).tr (f3.mono (by decide))
              refine h.sh (S := SS) (y' := (y.1, y.2.1, y.2.2.1, fun d t => if d = p2 ∧ j ≤ t ∧ t < j + k then y.2.2.2 p (i + (t - j)) else y.2.2.2 d t)) b1 b2 b3 F (by decide) ?_ ?_ b3.2
              · intro d hd
                obtain ⟨s1, s2, s3, s4'⟩ := b1.2 d hd
                have a1 : ∀ k, σ3.1 5 d k = σ.1 5 d k := fun k => by rw [f3.f 5 d k (by simp), f2.f 5 d k (by simp), z1]
                refine ⟨by rw [a1]; exact s1, fun e => by rw [a1]; exact s2 e, by rw [a1]; exact s3, fun t ht => ?_⟩
                rw [f3.l 5 d 0 (by simp), f2.l 5 d 0 (by simp), z4 d t]
                show _ = if d = p2 ∧ j ≤ t ∧ t < j + k then y.2.2.2 p (i + (t - j)) else y.2.2.2 d t
                by_cases e : d = p2 ∧ j ≤ t ∧ t < j + k
                · rw [if_pos e, if_pos e]; exact s4 _ (by omega)
                · rw [if_neg e, if_neg e]; exact s4' t ht
              · intro d hd
                obtain ⟨t1, t2, t3'⟩ := m2 d hd
                have t3p := (m2 p hp).2.2
                have ld := (b3.2 d hd).2.2.2
                refine ⟨by rw [f3.a 9 0 50 (by decide), f2.a 9 0 50 (by decide)]; exact t1, by rw [f3.a 9 0 51 (by decide), f2.a 9 0 51 (by decide)]; exact t2, fun t ht => ?_⟩
                have ht : t < y.2.2.1 d := ht
                rw [c52]
                show _ = if d = p2 ∧ j ≤ t ∧ t < j + k then y.2.2.2 p (i + (t - j)) else y.2.2.2 d t
                by_cases e : d = p2 ∧ j ≤ t ∧ t < j + k
                · obtain ⟨e0, e1, e2⟩ := e
                  subst e0
                  rw [if_pos (show 60 * d + j ≤ 60 * d + t ∧ 60 * d + t < 60 * d + j + k from ⟨by omega, by omega⟩), if_pos ⟨rfl, e1, e2⟩, c53 _ (by omega), show 60 * p + i + (60 * d + t - (60 * d + j)) = 60 * p + (i + (t - j)) from by omega]
                  exact t3p _ (by omega)
                · rw [if_neg e, if_neg (by omega), f2.l 9 0 52 (by decide)]; exact t3' t ht
        · have ek2 : ¬ nI (y.1 p) - 2 = nI (y.1 p2) - 2 := by
            rw [ek]
            intro z
            by_cases k1' : y.1 p2 = 1
            · rw [k1'] at z
              exact absurd (z ▸ nI_pos (n := y.1 p - 2) (by omega)) (by decide)
            · rw [li2, pk_sub (show 2 ≤ y.1 p2 by omega)] at z
              have := (nI_eq (by omega) (by omega)).mp z
              omega
          refine wpO_f ek2 (wpO_some.mpr (q (wpO_f one_ne (q2 (wpO_f one_ne (wpO_t c (wpO_f n0p (wpO_t cb (wpO_f n0p' (wpO_f n50 (wpO_f ?_ (wpO_some.mpr ⟨rfl, h⟩))))))))))))
          rw [e50, e50']
          unfold shM
          rw [if_neg k0, if_neg k1, if_neg k0']
          by_cases k1' : y.1 p2 = 1
          · rw [if_pos k1']; exact fun z => by have := (nI_eq (by omega) (by omega)).mp z; omega
          · rw [if_neg k1']; exact fun z => by have := (nI_eq (by omega) (by omega)).mp z; omega
    · rw [if_neg cb]
      refine wpO_t rfl (wpO_some.mpr (q (wpO_f one_ne (wpO_e (isShelfM_eq _ _) ?_))))
      rw [if_neg cb]
      exact wpO_t rfl (wpO_some.mpr ⟨rfl, h⟩)
  · rw [if_neg c]
    refine wpO_t rfl (wpO_some.mpr (wpO_e (isShelfM_eq _ _) ?_))
    rw [if_neg c]
    exact wpO_t rfl (wpO_some.mpr ⟨rfl, h⟩)
