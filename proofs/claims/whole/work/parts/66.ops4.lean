theorem G1.envC {σ : AS} {n : Nat} {t w : N2} {d a : Nat} {c : N2} (h : G1C σ n t w d a c) (hp : G1P n t w d a c) : EnvC σ n (fun p k => nI (t p k)) (fun p h => nI (w p h)) :=
  ⟨h.1, hp.1, fun p k hpn hk => h.2.1 p k (by have := hp.1; omega) hk, fun p k hpn hk => h.2.2.1 p k (by have := hp.1; omega) hk⟩
theorem G1.envM {σ : AS} {n : Nat} {t w : N2} {d a : Nat} {c : N2} (h : G1M σ n t w d a c) (hp : G1P n t w d a c) : EnvM σ n (fun p k => nI (t p k)) (fun p h => nI (w p h)) :=
  ⟨h.1, hp.1, fun p k hpn hk => h.2.1 p k (by have := hp.1; omega) hk, fun p k hpn hk => h.2.2.1 p k (by have := hp.1; omega) hk⟩
theorem rmi_nI {a d : Nat} (ha : a < 2 ^ 31) (h0 : 0 < d) (hd : d < 2 ^ 31) : rmi (nI a) (nI d) = nI (a % d) := pk_rem ha h0 hd
theorem withinN (a b : Nat) (ha : a < 2 ^ 31) (hb : b < 2 ^ 31) (z : Int64) (hz : z = (nI b).toInt64) (σ : AS) : g_X9_within (nI a).toInt64 0 z σ = some (if a ≤ b then 1 else 0, σ) := by
  rw [within_eq, hz, il0]
  simp only [i64_le]
  by_cases c : a ≤ b
  · rw [if_pos ⟨nI_pos' ha, nI_le c hb⟩, if_pos c]
  · rw [if_neg (fun z => c ((nI_leI ha hb).mp z.2)), if_neg c]
theorem within_t {a : Int32} {b : Int64} {m : Nat} {σ : AS} (h : inb a m) (hb : b = (nI m - 1).toInt64 := by decide) (hm : m < 2 ^ 30 := by omega) : g_X9_within a.toInt64 0 b σ = some (1, σ) := by rw [within0_eq a b m hb hm, if_pos h]
theorem within_f {a : Int32} {b : Int64} {m : Nat} {σ : AS} (h : ¬ inb a m) (hb : b = (nI m - 1).toInt64 := by decide) (hm : m < 2 ^ 30 := by omega) : g_X9_within a.toInt64 0 b σ = some (0, σ) := by rw [within0_eq a b m hb hm, if_neg h]
theorem led_eqs {σ : AS} {now : Nat} {y : LEDS} (hN : now ≤ 24) (hc : LdC σ now y) {g i : Nat} (hg : g < now) (hi : i < 7) :
    g_X4_leftOf (nI g) (nI i) σ = some (y.1 g i, σ) ∧ g_X4_rightOf (nI g) (nI i) σ = some (y.2.1 g i, σ) ∧ g_X4_fightOf (nI g) (nI i) σ = some (y.2.2 g i, σ) := by
  obtain ⟨l1, l2, l3⟩ := hc
  have eW : g_X4_isWithin (nI g) (nI i) σ = some (1, σ) := by unfold g_X4_isWithin; simp (disch := omega) only [li0, li1, li2, li3, li4, li5, li6, li7, li8, li9, li10, li14, li16, li20, li23, li24, li30, li32, li37, li38, li40, li41, li42, li43, li45, li47, li50, li53, li57, li58, li59, li60, li61, li62, li63, li70, li80, li81, li99, li100, li110, li120, li123, li124, li126, li128, li168, li192, li255, li336, li360, li400, li999, nI_add, pk_mul, nI_clamp, nI_ltI, nI_leI, nI_eq, pk_sub, bnd_some, if_pos, if_neg, and_self, and_true, true_and, false_and, and_false, not_false_eq_true, not_true_eq_false, Nat.zero_le, Nat.not_lt_zero, if_false, if_true, gA, gF, gL, inb, lt, nI_inj0, Nat.reduceEqDiff, ↓reduceIte, eq_self]
  have e : nI g * 7 + nI i = nI (7 * g + i) := by rw [li7, pk_mul, nI_add, Nat.mul_comm]
  have i1 : inb (nI (7 * g + i)) 168 := inb_nI (by omega) (by omega)
  refine ⟨?_, ?_, ?_⟩
  · unfold g_X4_leftOf; rw [eW, bnd_some, if_neg one_ne, e, if_pos i1, gA_nI (by omega), l1 g i hg hi]
  · unfold g_X4_rightOf; rw [eW, bnd_some, if_neg one_ne, e, if_pos i1, gA_nI (by omega), l2 g i hg hi]
  · unfold g_X4_fightOf; rw [eW, bnd_some, if_neg one_ne, e, if_pos i1, gA_nI (by omega), l3 g i hg hi]
theorem op_led (a b : Int32) : Both (g_X8_led a b) (g_X9_led a b) := by
  intro σ h
  obtain ⟨n, t, w, d, aa, c, h1, h2, h3⟩ := h.1
  obtain ⟨⟨wd, L, R, cm, yl, fi, now⟩, y, z, g1, g2, g3⟩ := h.2.1
  have hn := h3.1
  have hN : now ≤ 24 := g3.1.2.2
  have eN1 : gF σ 1 0 11 = nI now := g1.1.2.2.2.2.2.2.1
  have eN2 : gF σ 9 0 13 = nI now := g2.1.2.2.2.2.2.2.1
  have hl : LdC σ now y := g1.2.1
  obtain ⟨l1, l2, l3⟩ := (g2.2.1 : LdM σ 31 32 now y)
  unfold g_X8_led g_X9_led
  by_cases c0 : a < 0
  · exact wpO_t c0 (wpO_some.mpr (wpO_t c0 (wpO_some.mpr ⟨rfl, h⟩)))
  obtain ⟨m, hm, rfl⟩ := nI_of c0
  have eD : nI m / 10 = nI (m / 10) := by rw [li10]; exact pk_div hm (by omega) (by omega)
  have eR : rmi (nI m) 10 = nI (m % 10) := by rw [li10]; exact rmi_nI hm (by omega) (by omega)
  have e7 : (7 : Int32) * nI (m / 10) + nI (m % 10) = nI (7 * (m / 10) + m % 10) := by rw [li7, pk_mul, nI_add]
  have e14 : (14 : Int32) * nI (m / 10) + 2 * nI (m % 10) = nI (14 * (m / 10) + 2 * (m % 10)) := by rw [li14, li2, pk_mul, pk_mul, nI_add]
  rw [eD, eR, eN1]
  refine wpO_f c0 ?_
  by_cases c1 : m / 10 < now
  · refine wpO_t (nI_lt c1 (by omega)) (wpO_e (hasRest_eq h1.1 hn _) ?_)
    have q : ∀ {f : Int32 → AS → Option (Int32 × AS)} {Q : Int32 → AS → Prop}, wpO (f (if inb (nI (m % 10)) (n - 1) then 1 else 0) σ) Q → wpO (if nI m < 0 then some (-1, σ) else if nI (m / 10) < gF σ 9 0 13 then bnd (g_X9_isRest (nI (m % 10)) σ) f else some (-1, σ)) Q := fun z => wpO_f c0 (wpO_t (by rw [eN2]; exact nI_lt c1 (by omega)) (wpO_e (isRestM_eq h2.1 hn _) z))
    by_cases c2 : inb (nI (m % 10)) (n - 1)
    · rw [if_pos c2]
      have c3 : m % 10 < n - 1 := (inb_iffN (by omega)).mp c2
      obtain ⟨a1, a2, a3⟩ := led_eqs hN hl c1 (show m % 10 < 7 by omega)
      have q : ∀ {f : Int32 → AS → Option (Int32 × AS)} {Q : Int32 → AS → Prop}, wpO (f 1 σ) Q → wpO (if nI m < 0 then some (-1, σ) else if nI (m / 10) < gF σ 9 0 13 then bnd (g_X9_isRest (nI (m % 10)) σ) f else some (-1, σ)) Q := fun z => q (by rw [if_pos c2]; exact z)
      refine wpO_f one_ne ?_
      by_cases b0 : b = 0
      · subst b0
        refine wpO_t rfl (wpO_e a1 (wpO_some.mpr (q (wpO_f one_ne (wpO_e (within_t (m := 3) (by decide)) ?_)))))
        rw [e7, e14]
        refine wpO_f one_ne (wpO_f (by decide) ?_)
        rw [Int32.add_zero]
        refine wpO_t (inb_nI (by omega) (by omega)) (wpO_some.mpr ⟨?_, h⟩)
        rw [gA_nI (by omega)]
        exact (l1 _ _ c1 (by omega)).symm
      by_cases b1 : b = 1
      · subst b1
        refine wpO_f b0 (wpO_t rfl (wpO_e a2 (wpO_some.mpr (q (wpO_f one_ne (wpO_e (within_t (m := 3) (by decide)) ?_))))))
        rw [e7, e14]
        refine wpO_f one_ne (wpO_f (by decide) ?_)
        rw [nI_1]
        refine wpO_t (inb_nI (by omega) (by omega)) (wpO_some.mpr ⟨?_, h⟩)
        rw [gA_nI (by omega)]
        exact (l2 _ _ c1 (by omega)).symm
      by_cases b2 : b = 2
      · subst b2
        refine wpO_f b0 (wpO_f b1 (wpO_t rfl (wpO_e a3 (wpO_some.mpr (q (wpO_f one_ne (wpO_e (within_t (m := 3) (by decide)) ?_)))))))
        rw [e7]
        refine wpO_f one_ne (wpO_t rfl (wpO_t (inb_nI (by omega) (by omega)) (wpO_some.mpr ⟨?_, h⟩)))
        rw [gA_nI (by omega)]
        exact (l3 _ _ c1 (by omega)).symm
      refine wpO_f b0 (wpO_f b1 (wpO_f b2 (wpO_some.mpr (q (wpO_f one_ne (wpO_e (within_f (m := 3) ?_) (wpO_t rfl (wpO_some.mpr ⟨rfl, h⟩))))))))
      · intro zz
        obtain ⟨p, hp, rfl⟩ := inb_ex zz
        have : p = 0 ∨ p = 1 ∨ p = 2 := by omega
        rcases this with rfl | rfl | rfl
        · exact b0 rfl
        · exact b1 rfl
        · exact b2 rfl
    · rw [if_neg c2]
      refine wpO_t rfl (wpO_some.mpr (q ?_))
      rw [if_neg c2]
      exact wpO_t rfl (wpO_some.mpr ⟨rfl, h⟩)
  · exact wpO_f (nI_nlt (by omega) (by omega)) (wpO_some.mpr (wpO_f c0 (wpO_f (by rw [eN2]; exact nI_nlt (by omega) (by omega)) (wpO_some.mpr ⟨rfl, h⟩))))
/-! of -/
theorem inchesOfC {o : Nat} {σ : AS} {n : Nat} {tr way : Nat → Nat → Int32} {s : HS} {j : Nat} (He : EnvC σ n tr way) (e8 : ∀ j, j < 8 → σ.2.1 1 o 8 j = nI j) (h3 : ∀ i, i < 7 → σ.2.1 1 o 3 i = nI (hL s i)) (h4 : ∀ i, i < 7 → σ.2.1 1 o 4 i = nI (hR s i)) (hj : j < n) : g_X1_inchesOf o (nI j) σ = some (nI (inS n (hL s) (hR s) j), σ) := by
  have hb := He.2.1
  have seat : ∀ i, i < n → g_X1_inchesOfSeat o (nI i) σ = some (nI (inS n (hL s) (hR s) i), σ) := by
    intro i hi
    unfold g_X1_inchesOfSeat g_X1_inchesOfSeat_21 inS
    simp only [hasRest_eq He.1 hb, bnd_some]
    have e : 0 < i → nI i - 1 = nI (i - 1) := fun z => by rw [li1, pk_sub (by omega)]
    by_cases c1 : i + 1 < n
    · have a1 : inb (nI i) (n - 1) := inb_nI (by omega) (by omega)
      have a2 : inb (nI i) 7 := inb_nI (by omega) (by omega)
      rw [if_pos a1, if_neg one_ne, if_pos a2, gA_nI (by omega), h3 i (by omega), if_pos c1]
      by_cases c2 : 0 < i
      · have a3 : inb (nI i - 1) (n - 1) := (inb_pred (by omega) (by omega)).mpr ⟨c2, by omega⟩
        have a4 : inb (nI i - 1) 7 := (inb_pred (by omega) (by omega)).mpr ⟨c2, by omega⟩
        rw [if_pos a3, if_neg one_ne, if_pos a4, if_pos c2, e c2, gA_nI (by omega), h4 (i - 1) (by omega), nI_add]
      · have a3 : ¬ inb (nI i - 1) (n - 1) := fun z => c2 ((inb_pred (by omega) (by omega)).mp z).1
        rw [if_neg a3, if_pos rfl, if_neg c2]; rfl
    · have a1 : ¬ inb (nI i) (n - 1) := fun z => c1 (by have := (inb_iffN (by omega)).mp z; omega)
      rw [if_neg a1, if_pos rfl, if_neg c1]
      by_cases c2 : 0 < i
      · have a3 : inb (nI i - 1) (n - 1) := (inb_pred (by omega) (by omega)).mpr ⟨c2, by omega⟩
        have a4 : inb (nI i - 1) 7 := (inb_pred (by omega) (by omega)).mpr ⟨c2, by omega⟩
        rw [if_pos a3, if_neg one_ne, if_pos a4, if_pos c2, e c2, gA_nI (by omega), h4 (i - 1) (by omega), li0, nI_add]
      · have a3 : ¬ inb (nI i - 1) (n - 1) := fun z => c2 ((inb_pred (by omega) (by omega)).mp z).1
        rw [if_neg a3, if_pos rfl, if_neg c2]; rfl
  have loop : ∀ (d i f : Nat), i + d = n → d < f → g_X1_inchesOf_4 o f (nI j) (nI (if j < i then inS n (hL s) (hR s) j else 0)) (nI i) σ = some (nI (inS n (hL s) (hR s) j), σ) := by
    intro d
    induction d with
    | zero =>
      intro i f hi hf
      obtain ⟨f, rfl⟩ : ∃ g, f = g + 1 := ⟨f - 1, by omega⟩
      have e : i = n := by omega
      subst e
      rw [g_X1_inchesOf_4, number_eq He.1, bnd_some, if_neg (nI_nlt (Nat.le_refl _) (by omega)), if_pos hj]
    | succ d ih =>
      intro i f hi hf
      obtain ⟨f, rfl⟩ : ∃ g, f = g + 1 := ⟨f - 1, by omega⟩
      have step := ih (i + 1) f (by omega) (by omega)
      rw [g_X1_inchesOf_4, number_eq He.1, bnd_some, if_pos (nI_lt (by omega) (by omega)), if_pos (inb_nI (show i < 8 by omega) (by omega)), gA_nI (by omega), e8 i (by omega)]
      by_cases c1 : i = j
      · subst c1
        rw [if_pos (show i < i + 1 by omega)] at step
        rw [if_pos rfl, seat i (by omega), bnd_some, nI_1]
        exact step
      · rw [if_neg (fun z => c1 ((nI_eq (by omega) (by omega)).mp z)), nI_1]
        have e : (if j < i + 1 then inS n (hL s) (hR s) j else 0) = (if j < i then inS n (hL s) (hR s) j else 0) := by
          by_cases q : j < i
          · rw [if_pos q, if_pos (by omega)]
          · rw [if_neg q, if_neg (by omega)]
        rw [e] at step
        exact step
  unfold g_X1_inchesOf
  have := loop n 0 400 (by omega) (by omega)
  rw [if_neg (by omega)] at this
  exact this
theorem within100 (b : Int32) (σ : AS) : g_X9_within b.toInt64 100 123 σ = some (if ¬ b < 100 ∧ b < 124 then 1 else 0, σ) := by
  rw [within_eq, show (100 : Int64) = (100 : Int32).toInt64 from by decide, show (123 : Int64) = (123 : Int32).toInt64 from by decide]
  simp only [i64_le]
  have e1 : (100 : Int32) ≤ b ↔ ¬ b < 100 := Int32.not_lt.symm
  have e2 : b ≤ 123 ↔ b < 124 := by
    have := gt_iff (a := b) (k := 123) (by omega)
    rw [← Int32.not_lt]
    exact ⟨fun z => Classical.byContradiction (fun y => z (this.mpr y)), fun z y => this.mp y z⟩
  simp only [e1, e2]
theorem op_of (a b : Int32) : Both (g_X8_of a b) (g_X9_of a b) := by
  intro σ h
  obtain ⟨n, t, w, d, aa, c, h1, h2, h3⟩ := h.1
  obtain ⟨⟨wd, L, R, cm, yl, fi, now⟩, y, z, g1, g2, g3⟩ := h.2.1
  have hn := h3.1
  have ec := G1.envC h1 h3
  have em := G1.envM h2 h3
  have eS := isSitterM_eq h2.1 hn a
  unfold g_X8_of g_X9_of
  refine wpO_e (has_eq h1.1 hn a) ?_
  by_cases c1 : inb a n
  · obtain ⟨p, hp, rfl⟩ := inb_ex c1
    rw [if_pos c1]
    refine wpO_f one_ne ?_
    rw [ifr2 (show (4 : Int32) = nI 4 from rfl) (by omega)]
    have q : ∀ {f : Int32 → AS → Option (Int32 × AS)} {Q : Int32 → AS → Prop}, wpO (f 1 σ) Q → wpO (bnd (g_X9_isSitter (nI p) σ) f) Q := fun z => wpO_e eS (by rw [if_pos c1]; exact z)
    by_cases c2 : inb b 5
    · obtain ⟨k, hk, rfl⟩ := inb_ex c2
      rw [if_pos c2]
      refine wpO_e (trait_eq h1.1 hn hp hk) (wpO_some.mpr (q (wpO_f one_ne (wpO_e (within0_eq _ 4 5 (by decide) (by omega) σ) ?_))))
      rw [if_pos c2]
      refine wpO_f one_ne ?_
      have e : (8 : Int32) * nI k + nI p = nI (8 * k + p) := by rw [li8, pk_mul, nI_add]
      rw [e]
      refine wpO_t (inb_nI (by omega) (by omega)) (wpO_some.mpr ⟨?_, h⟩)
      rw [gA_nI (by omega), h1.2.1 p k (by omega) hk, h2.2.1 p k (by omega) hk]
    · rw [if_neg c2]
      have r : ∀ {f : Int32 → AS → Option (Int32 × AS)} {Q : Int32 → AS → Prop}, wpO (f 0 σ) Q → wpO (bnd (g_X9_within b.toInt64 0 4 σ) f) Q := fun z => wpO_e (within0_eq _ 4 5 (by decide) (by omega) σ) (by rw [if_neg c2]; exact z)
      by_cases c3 : ¬ b < 100 ∧ b < 124
      · obtain ⟨m, hm, rfl⟩ := inb_ex ((inb_iff (n := 124) (by omega)).mpr ⟨fun z => c3.1 (Int32.lt_trans z (by decide)), c3.2⟩)
        have hm2 : 100 ≤ m := Classical.byContradiction (fun z => c3.1 (show nI m < nI 100 from nI_lt (by omega) (by omega)))
        unfold g_X8_of_33
        rw [if_neg c3.1, if_pos c3.2]
        have e : nI m - 100 = nI (m - 100) := by rw [li100, pk_sub (by omega)]
        rw [e]
        refine wpO_e (how_eq h1.1 hn hp (by omega)) (wpO_some.mpr (q (wpO_f one_ne (r (wpO_t rfl (wpO_e (within100 _ σ) ?_))))))
        rw [if_pos c3]
        have e2 : (24 : Int32) * nI p + nI m - 100 = nI (24 * p + (m - 100)) := by rw [li24, li100, pk_mul, nI_add, pk_sub (by omega)]; congr 1; omega
        rw [e2]
        refine wpO_f one_ne (wpO_t (inb_nI (by omega) (by omega)) (wpO_some.mpr ⟨?_, h⟩))
        rw [gA_nI (by omega), h1.2.2.1 p _ (by omega) (by omega), h2.2.2.1 p _ (by omega) (by omega)]
      · have e58 : g_X8_of_33 (nI p) b σ = g_X8_of_58 (nI p) b σ := by
          unfold g_X8_of_33
          by_cases c4 : b < 100
          · rw [if_pos c4]
          · rw [if_neg c4, if_neg (fun z => c3 ⟨c4, z⟩)]
        rw [e58]
        have s : ∀ {f : Int32 → AS → Option (Int32 × AS)} {Q : Int32 → AS → Prop}, wpO (f 0 σ) Q → wpO (bnd (g_X9_within b.toInt64 100 123 σ) f) Q := fun z => wpO_e (within100 _ σ) (by rw [if_neg c3]; exact z)
        have i8 : inb (nI p) 8 := inb_nI (by omega) (by omega)
        unfold g_X8_of_58
        by_cases b5 : b = 5
        · refine wpO_t b5 (wpO_e (inchesOfC (s := (L, R, fun _ => 0, fun _ => 0, 0, 0, 0)) ec g1.1.2.2.2.2.2.2.2 g1.1.2.1 g1.1.2.2.1 hp) (wpO_some.mpr (q (wpO_f one_ne (r (wpO_t rfl (s (wpO_t rfl (wpO_t b5 (wpO_e (heldM (s := (L, R, fun _ => 0, fun _ => 0, 0, 0, 0)) (Or.inl rfl) em g2.1.2.1 g2.1.2.2.1 hp) (wpO_some.mpr ⟨rfl, h⟩)))))))))))
        · refine wpO_f b5 ?_
          by_cases b6 : b = 6
          · refine wpO_t b6 (wpO_t i8 (wpO_some.mpr (q (wpO_f one_ne (r (wpO_t rfl (s (wpO_t rfl (wpO_f b5 (wpO_t b6 (wpO_t i8 (wpO_some.mpr ⟨?_, h⟩))))))))))))
            rw [gA_nI (by omega), gA_nI (by omega), g1.1.2.2.2.1 p (by omega), g2.1.2.2.2.1 p (by omega)]
          · refine wpO_f b6 ?_
            by_cases b7 : b = 7
            · refine wpO_t b7 (wpO_t i8 (wpO_some.mpr (q (wpO_f one_ne (r (wpO_t rfl (s (wpO_t rfl (wpO_f b5 (wpO_f b6 (wpO_t b7 (wpO_t i8 (wpO_some.mpr ⟨?_, h⟩)))))))))))))
              rw [gA_nI (by omega), gA_nI (by omega), g1.1.2.2.2.2.1 p (by omega), g2.1.2.2.2.2.1 p (by omega)]
            · exact wpO_f b7 (wpO_some.mpr (q (wpO_f one_ne (r (wpO_t rfl (s (wpO_t rfl (wpO_f b5 (wpO_f b6 (wpO_f b7 (wpO_some.mpr ⟨rfl, h⟩)))))))))))
  · rw [if_neg c1]
    refine wpO_t rfl (wpO_some.mpr (wpO_e eS ?_))
    rw [if_neg c1]
    exact wpO_t rfl (wpO_some.mpr ⟨rfl, h⟩)
