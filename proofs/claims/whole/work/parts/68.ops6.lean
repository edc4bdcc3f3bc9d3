/-! deals, sell -/
theorem z_lt {n : Nat} (h0 : 0 < n) (h : n < 2 ^ 31) : (0 : Int32) < nI n := nI_lt (a := 0) h0 h
theorem z_nlt {n : Nat} (h0 : ¬ 0 < n) : ¬ (0 : Int32) < nI n := by
  have : n = 0 := by omega
  subst this; decide
def sld (ask off size held had : Nat) : Nat := if ask < off then min held (size - had) else 0
theorem sld_le {ask off size held had : Nat} : sld ask off size held had ≤ held := by unfold sld; split <;> omega
theorem abi_neg {s : Nat} (hs : s < 2 ^ 30) : abi (-nI s) = nI s := by
  unfold abi
  by_cases c : s = 0
  · subst c; rfl
  · have e : -nI s = 0 - nI s := by rw [Int32.zero_sub]
    have n1 : (0 : Int32) - nI s < 0 := by
      have := pk_sneg (a := 0) (b := s) hs (by omega)
      exact this
    rw [if_neg (by rw [e]; exact Int32.not_le.mpr n1), Int32.zero_sub, Int32.neg_neg]
theorem abi_nI {s : Nat} (hs : s < 2 ^ 30) : abi (nI s) = nI s := if_pos (nI_pos' (by omega))
theorem inchesSold_eq {σ : AS} {n : Nat} {t : N2} {s b hl hd : Nat} (hn : σ.1 6 0 2 = nI n) (hb : n ≤ 8) (ht : ∀ p k, p < 8 → k < 5 → σ.2.1 6 0 0 (p * 5 + k) = nI (t p k)) (htb : ∀ p k, p < 8 → k < 5 → t p k ≤ 99) (hs : s < n) (hbn : b < n) (h1 : hl ≤ 9) (h2 : hd ≤ 9) :
    g_X8_inchesSold (nI s) (nI hl) (nI b) (nI hd) σ = some (nI (sld (t s 3) (t b 4) (t b 0) hl hd), σ) := by
  have q1 := htb s 3 (by omega) (by omega)
  have q2 := htb b 4 (by omega) (by omega)
  have q3 := htb b 0 (by omega) (by omega)
  unfold g_X8_inchesSold sld
  rw [li4, trait_eq hn hb hbn (by omega), bnd_some, li3, trait_eq hn hb hs (by omega), bnd_some, ht b 4 (by omega) (by omega), ht s 3 (by omega) (by omega)]
  by_cases c : t s 3 < t b 4
  · rw [if_pos (nI_lt c (by omega)), if_pos c, li0, trait_eq hn hb hbn (by omega), bnd_some, ht b 0 (by omega) (by omega)]
    unfold lt
    dsimp only
    by_cases c2 : hd ≤ t b 0
    · rw [pk_sub c2, mni_nI (by omega) (by omega)]
      unfold mxi
      by_cases c3 : 0 < min hl (t b 0 - hd)
      · rw [if_pos (nI_lt c3 (by omega))]
      · rw [if_neg (nI_nlt (by omega) (by omega))]
        have : min hl (t b 0 - hd) = 0 := by omega
        rw [this]
    · have n1 := pk_sneg (a := t b 0) (b := hd) (by omega) (by omega)
      have e : min hl (t b 0 - hd) = 0 := by omega
      rw [e]
      have e2 : mni (nI hl) (nI (t b 0) - nI hd) = nI (t b 0) - nI hd := by
        unfold mni
        rw [if_pos (Int32.lt_of_lt_of_le n1 (nI_pos' (by omega)))]
      rw [e2]
      unfold mxi
      rw [if_neg (show ¬ nI 0 < nI (t b 0) - nI hd from fun z => Int32.lt_irrefl (Int32.lt_trans (show (0 : Int32) < nI (t b 0) - nI hd from z) n1))]
  · rw [if_neg (nI_nlt (by omega) (by omega)), if_neg c]; rfl
theorem soldC {σ : AS} {n : Nat} {t : N2} {L R : Nat → Nat} {p : Nat} (hn : σ.1 6 0 2 = nI n) (hb : n ≤ 8) (ht : ∀ p k, p < 8 → k < 5 → σ.2.1 6 0 0 (p * 5 + k) = nI (t p k)) (htb : ∀ p k, p < 8 → k < 5 → t p k ≤ 99) (hp : p + 1 < n) (eL : σ.2.1 1 0 3 p = nI (L p)) (eR : σ.2.1 1 0 4 p = nI (R p)) (h1 : L p ≤ 9) (h2 : R p ≤ 9) :
    g_X8_soldByLeft (nI p) σ = some (if 0 < sld (t p 3) (t (p + 1) 4) (t (p + 1) 0) (L p) (R p) then nI (sld (t p 3) (t (p + 1) 4) (t (p + 1) 0) (L p) (R p)) else -nI (sld (t (p + 1) 3) (t p 4) (t p 0) (R p) (L p)), σ) := by
  unfold g_X8_soldByLeft
  have b1 : sld (t p 3) (t (p + 1) 4) (t (p + 1) 0) (L p) (R p) ≤ L p := sld_le
  rw [if_pos (inb_nI (show p < 7 by omega) (by omega)), gA_nI (by omega), gA_nI (by omega), eL, eR, nI_1, inchesSold_eq hn hb ht htb (by omega) hp h1 h2, bnd_some]
  by_cases c : 0 < sld (t p 3) (t (p + 1) 4) (t (p + 1) 0) (L p) (R p)
  · rw [if_pos (z_lt c (by omega)), if_pos c]
  · rw [if_neg (z_nlt c), if_neg c, gA_nI (by omega), gA_nI (by omega), eL, eR, inchesSold_eq hn hb ht htb hp (by omega) h2 h1, bnd_some]
theorem sells_eq {σ : AS} {n : Nat} {t : N2} {s b hl hd i1 i2 : Nat} {a0 a1 : Int32} (hb : n ≤ 8) (ht : ∀ p k, p < 8 → k < 5 → σ.2.1 9 0 0 (8 * k + p) = nI (t p k)) (htb : ∀ p k, p < 8 → k < 5 → t p k ≤ 99) (hs : s < n) (hbn : b < n) (h1 : hl ≤ 9) (h2 : hd ≤ 9)
    (e1 : a0 + a1 = nI s) (e2 : a0 + 1 - a1 = nI b) (e3 : 2 * a0 + 1 - a1 = nI i1) (e4 : 2 * a0 + a1 = nI i2) (j1 : i1 < 14) (j2 : i2 < 14) (f1 : σ.2.1 9 0 9 i1 = nI hd) (f2 : σ.2.1 9 0 9 i2 = nI hl) :
    g_X9_sells a0 a1 σ = some (nI (sld (t s 3) (t b 4) (t b 0) hl hd), σ) := by
  have q1 := htb s 3 (by omega) (by omega)
  have q2 := htb b 4 (by omega) (by omega)
  have q3 := htb b 0 (by omega) (by omega)
  have m1 := ht s 3 (by omega) (by omega)
  have m2 := ht b 4 (by omega) (by omega)
  have m3 := ht b 0 (by omega) (by omega)
  rw [show 8 * 0 + b = b by omega] at m3
  unfold g_X9_sells sld lt
  dsimp only
  rw [e1, e2, e3, e4, li32, li24, nI_add, nI_add, if_pos (inb_nI (by omega) (by omega)), if_pos (inb_nI (by omega) (by omega)), gA_nI (by omega), gA_nI (by omega), m1, m2]
  by_cases c : t s 3 < t b 4
  · rw [if_pos (nI_lt c (by omega)), if_pos c, if_pos (inb_nI (by omega) (by omega)), if_pos (inb_nI j1 (by omega)), gA_nI (by omega), gA_nI (by omega), m3, f1]
    by_cases c2 : hd ≤ t b 0
    · rw [pk_sub c2, if_neg (nI_pos (by omega)), if_pos (inb_nI j2 (by omega)), gA_nI (by omega), f2, least_eq _ _ (by omega) (by omega), bnd_some]
    · have n1 := pk_sneg (a := t b 0) (b := hd) (by omega) (by omega)
      have e : min hl (t b 0 - hd) = 0 := by omega
      rw [e, if_pos n1]; rfl
  · rw [if_neg (nI_nlt (by omega) (by omega)), if_neg c]; rfl
theorem looksM {σ : AS} {n : Nat} {t : N2} {L R : Nat → Nat} {p : Nat} (hb : n ≤ 8) (ht : ∀ p k, p < 8 → k < 5 → σ.2.1 9 0 0 (8 * k + p) = nI (t p k)) (htb : ∀ p k, p < 8 → k < 5 → t p k ≤ 99) (hp : p + 1 < n) (eL : σ.2.1 9 0 9 (2 * p) = nI (L p)) (eR : σ.2.1 9 0 9 (2 * p + 1) = nI (R p)) (h1 : L p ≤ 9) (h2 : R p ≤ 9) :
    wpO (g_X9_looksAt (nI p) σ) (fun _ σ1 => σ1.1 9 0 34 = (if 0 < sld (t p 3) (t (p + 1) 4) (t (p + 1) 0) (L p) (R p) then nI 0 else nI 1) ∧ σ1.1 9 0 35 = nI (if 0 < sld (t p 3) (t (p + 1) 4) (t (p + 1) 0) (L p) (R p) then sld (t p 3) (t (p + 1) 4) (t (p + 1) 0) (L p) (R p) else sld (t (p + 1) 3) (t p 4) (t p 0) (R p) (L p)) ∧ FrL [(9, 0, 34), (9, 0, 35)] σ σ1) := by
  have s1 : ∀ σ1 : AS, σ1.2 = σ.2 → g_X9_sells (nI p) 0 σ1 = some (nI (sld (t p 3) (t (p + 1) 4) (t (p + 1) 0) (L p) (R p)), σ1) := by
    intro σ1 e
    refine sells_eq (s := p) (b := p + 1) (i1 := 2 * p + 1) (i2 := 2 * p) hb (by rw [e]; exact ht) htb (by omega) hp h1 h2 ?_ ?_ ?_ ?_ (by omega) (by omega) (by rw [e]; exact eR) (by rw [e]; exact eL)
    · rw [li0, nI_add]; rfl
    · rw [nI_1, li0, pk_sub (by omega)]; rfl
    · rw [e2i, nI_1, li0, pk_sub (by omega)]; rfl
    · rw [e2i, li0, nI_add]; rfl
  have s2 : ∀ σ1 : AS, σ1.2 = σ.2 → g_X9_sells (nI p) 1 σ1 = some (nI (sld (t (p + 1) 3) (t p 4) (t p 0) (R p) (L p)), σ1) := by
    intro σ1 e
    refine sells_eq (s := p + 1) (b := p) (i1 := 2 * p) (i2 := 2 * p + 1) hb (by rw [e]; exact ht) htb hp (by omega) h2 h1 ?_ ?_ ?_ ?_ (by omega) (by omega) (by rw [e]; exact eL) (by rw [e]; exact eR)
    · rw [nI_1]
    · rw [nI_1, li1, pk_sub (by omega)]; rfl
    · rw [e2i, nI_1, li1, pk_sub (by omega)]; rfl
    · rw [e2i, nI_1]
  have b1 : sld (t p 3) (t (p + 1) 4) (t (p + 1) 0) (L p) (R p) ≤ L p := sld_le
  unfold g_X9_looksAt
  refine wpO_lt (wpO_e (s1 _ rfl) (wpO_lt ?_))
  rw [show gF (sF (sF σ 9 0 34 0) 9 0 35 (nI (sld (t p 3) (t (p + 1) 4) (t (p + 1) 0) (L p) (R p)))) 9 0 35 = nI (sld (t p 3) (t (p + 1) 4) (t (p + 1) 0) (L p) (R p)) from rfl]
  by_cases c : 0 < sld (t p 3) (t (p + 1) 4) (t (p + 1) 0) (L p) (R p)
  · refine wpO_f (nI_ne0 c (by omega)) (wpO_some.mpr ⟨?_, ?_, (FrL_sF (by decide)).tr (FrL_sF (by decide))⟩)
    · rw [if_pos c]; rfl
    · rw [if_pos c]; rfl
  · have e0 : sld (t p 3) (t (p + 1) 4) (t (p + 1) 0) (L p) (R p) = 0 := by omega
    refine wpO_t (by rw [e0]; rfl) (wpO_lt (wpO_e (s2 _ rfl) (wpO_lt (wpO_some.mpr ⟨?_, ?_, (((FrL_sF (by decide)).tr (FrL_sF (by decide))).tr (FrL_sF (by decide))).tr (FrL_sF (by decide))⟩))))
    · rw [if_neg c]; rfl
    · rw [if_neg c]; rfl
theorem op_deals (a b : Int32) : Both (g_X8_deals a b) (g_X9_deals a b) := by
  intro σ h
  obtain ⟨n, t, w, d, aa, c, h1, h2, h3⟩ := h.1
  obtain ⟨⟨wd, L, R, cm, yl, fi, now⟩, y, z, g1, g2, g3⟩ := h.2.1
  have hn := h3.1
  unfold g_X8_deals g_X9_deals
  refine wpO_e (hasRest_eq h1.1 hn a) ?_
  by_cases c1 : inb a (n - 1)
  · obtain ⟨p, hp, rfl⟩ := inb_ex c1
    rw [if_pos c1, ifr2 (show (2 : Int32) = nI 2 from rfl) (by omega)]
    refine wpO_f one_ne ?_
    have q : ∀ {f : Int32 → AS → Option (Int32 × AS)} {Q : Int32 → AS → Prop}, wpO (f 1 σ) Q → wpO (bnd (g_X9_isRest (nI p) σ) f) Q := fun z => wpO_e (isRestM_eq h2.1 hn _) (by rw [if_pos c1]; exact z)
    by_cases c2 : inb b 3
    · have htb : ∀ p k, p < 8 → k < 5 → t p k ≤ 99 := fun p k hp hk => (h3.2.1 p k hp hk).1
      have k1 := g3.1.1 p (by omega)
      have k2 := g3.1.2.1 p (by omega)
      have k1 : L p + R p ≤ wd p := k1
      have k2 : wd p ≤ 9 := k2
      have l1 := soldC (L := L) (R := R) h1.1 hn h1.2.1 htb (show p + 1 < n by omega) (g1.1.2.1 p (by omega)) (g1.1.2.2.1 p (by omega)) (by omega) (by omega)
      have l2 := looksM (L := L) (R := R) hn h2.2.1 htb (show p + 1 < n by omega) (g2.1.2.1 p (by omega)) (g2.1.2.2.1 p (by omega)) (by omega) (by omega)
      have b1 : sld (t p 3) (t (p + 1) 4) (t (p + 1) 0) (L p) (R p) ≤ L p := sld_le
      have b2 : sld (t (p + 1) 3) (t p 4) (t p 0) (R p) (L p) ≤ R p := sld_le
      generalize sld (t p 3) (t (p + 1) 4) (t (p + 1) 0) (L p) (R p) = s1 at *
      generalize sld (t (p + 1) 3) (t p 4) (t p 0) (R p) (L p) = s2 at *
      have fin : ∀ (sold so : Int32) (sa sb many : Nat), sa < n → sb < n → (∀ x y : Int32, so = nI 0 ∧ sold * x = nI many * x ∧ 24 + nI p + so = nI (24 + sa) ∧ 32 + nI p + 1 - so = nI (32 + sb) ∨ so = nI 1 ∧ sold * x = -(nI many * x) ∧ 24 + nI p + so = nI (24 + sa) ∧ 32 + nI p + 1 - so = nI (32 + sb)) → abi sold = nI many →
          (∀ f : Unit → AS → Option (Int32 × AS), ∀ Q : Int32 → AS → Prop, (∀ σ1 : AS, σ1.1 9 0 34 = so → σ1.1 9 0 35 = nI many → FrL [(9, 0, 34), (9, 0, 35)] σ σ1 → wpO (f () σ1) Q) → wpO (bnd (g_X9_looksAt (nI p) σ) f) Q) →
          wpO (g_X8_deals_53 b sold (nI sa) (nI sb) σ) (fun r σ1 => wpO (bnd (g_X9_isRest (nI p) σ1) fun r1 σ2 => (if r1 = 0 then some ((-2000000000), σ2) else (bnd (g_X9_within b.toInt64 0 2 σ2) fun r4 σ5 => (if r4 = 0 then some ((-2000000000), σ5) else (bnd (g_X9_looksAt (nI p) σ5) fun _ σ7 => (if inb ((24 + nI p) + (gF σ7 9 0 34)) 40 then (lt (gA σ7 9 0 0 ((24 + nI p) + (gF σ7 9 0 34))) fun x9 => (if inb (((32 + nI p) + 1) - (gF σ7 9 0 34)) 40 then (lt (gA σ7 9 0 0 (((32 + nI p) + 1) - (gF σ7 9 0 34))) fun x11 => (lt ((gF σ7 9 0 35) * ((x9 + x11) / 2)) fun x12 => (if b = 0 then some ((gF σ7 9 0 35) * (x11 - x9), σ7) else (if b = 1 then some (gF σ7 9 0 35, σ7) else (if gF σ7 9 0 34 = 0 then some (x12, σ7) else some (-x12, σ7)))))) else none)) else none)))))) (fun r' σ2 => r = r' ∧ Inv σ2)) := by
        intro sold so sa sb many ha hb hx hab hl
        unfold g_X8_deals_53
        rw [li3, li4]
        refine wpO_e (trait_eq h1.1 hn ha (by omega)) (wpO_e (trait_eq h1.1 hn hb (by omega)) ?_)
        rw [h1.2.1 sa 3 (by omega) (by omega), h1.2.1 sb 4 (by omega) (by omega), hab]
        have fin2 : ∀ r : Int32, (∀ r' σ2, FrL [(9, 0, 34), (9, 0, 35)] σ σ2 → r' = r → r = r' ∧ Inv σ2) := fun r r' σ2 f e => ⟨e.symm, h.fr0 f (by decide)⟩
        have so01 : so = nI 0 ∨ so = nI 1 := by rcases hx 0 0 with z | z; exact Or.inl z.1; exact Or.inr z.1
        have e24 : 24 + nI p + so = nI (24 + sa) := by rcases hx 0 0 with z | z; exact z.2.2.1; exact z.2.2.1
        have e32 : 32 + nI p + 1 - so = nI (32 + sb) := by rcases hx 0 0 with z | z; exact z.2.2.2; exact z.2.2.2
        have tail : ∀ r : Int32, (b = 0 → r = nI many * (nI (t sb 4) - nI (t sa 3))) → (¬ b = 0 → b = 1 → r = nI many) → (¬ b = 0 → ¬ b = 1 → r = sold * ((nI (t sb 4) + nI (t sa 3)) / 2)) → wpO (bnd (g_X9_isRest (nI p) σ) fun r1 σ2 => (if r1 = 0 then some ((-2000000000), σ2) else (bnd (g_X9_within b.toInt64 0 2 σ2) fun r4 σ5 => (if r4 = 0 then some ((-2000000000), σ5) else (bnd (g_X9_looksAt (nI p) σ5) fun _ σ7 => (if inb ((24 + nI p) + (gF σ7 9 0 34)) 40 then (lt (gA σ7 9 0 0 ((24 + nI p) + (gF σ7 9 0 34))) fun x9 => (if inb (((32 + nI p) + 1) - (gF σ7 9 0 34)) 40 then (lt (gA σ7 9 0 0 (((32 + nI p) + 1) - (gF σ7 9 0 34))) fun x11 => (lt ((gF σ7 9 0 35) * ((x9 + x11) / 2)) fun x12 => (if b = 0 then some ((gF σ7 9 0 35) * (x11 - x9), σ7) else (if b = 1 then some (gF σ7 9 0 35, σ7) else (if gF σ7 9 0 34 = 0 then some (x12, σ7) else some (-x12, σ7)))))) else none)) else none)))))) (fun r' σ2 => r = r' ∧ Inv σ2) := by
          intro r r0 r1 r2
          refine q (wpO_f one_ne (wpO_e (within0_eq b 2 3 (by decide) (by omega) σ) ?_))
          rw [if_pos c2]
          refine wpO_f one_ne (hl _ _ (fun σ1 x34 x35 fr => ?_))
          have y34 : gF σ1 9 0 34 = so := x34
          have y35 : gF σ1 9 0 35 = nI many := x35
          rw [y34, y35, e24, e32]
          refine wpO_t (inb_nI (by omega) (by omega)) (wpO_lt (wpO_t (inb_nI (by omega) (by omega)) (wpO_lt (wpO_lt ?_))))
          rw [gA_nI (by omega), gA_nI (by omega), fr.a 9 0 0 (by decide), show 24 + sa = 8 * 3 + sa from rfl, show 32 + sb = 8 * 4 + sb from rfl, h2.2.1 sa 3 (by omega) (by omega), h2.2.1 sb 4 (by omega) (by omega)]
          by_cases b0 : b = 0
          · exact wpO_t b0 (wpO_some.mpr (fin2 _ _ _ fr (r0 b0).symm))
          · refine wpO_f b0 ?_
            by_cases b1 : b = 1
            · exact wpO_t b1 (wpO_some.mpr (fin2 _ _ _ fr (r1 b0 b1).symm))
            · refine wpO_f b1 ?_
              rw [r2 b0 b1]
              rcases hx ((nI (t sb 4) + nI (t sa 3)) / 2) 0 with z | z
              · refine wpO_t (by rw [z.1]; rfl) (wpO_some.mpr (fin2 _ _ _ fr ?_))
                rw [z.2.1, Int32.add_comm]
              · refine wpO_f (by rw [z.1]; decide) (wpO_some.mpr (fin2 _ _ _ fr ?_))
                rw [z.2.1, Int32.add_comm]
        by_cases b0 : b = 0
        · exact wpO_t b0 (wpO_some.mpr (tail _ (fun _ => rfl) (fun z => absurd b0 z) (fun z => absurd b0 z)))
        · refine wpO_f b0 ?_
          by_cases b1 : b = 1
          · exact wpO_t b1 (wpO_some.mpr (tail _ (fun z => absurd z b0) (fun _ _ => rfl) (fun _ z => absurd b1 z)))
          · exact wpO_f b1 (wpO_some.mpr (tail _ (fun z => absurd z b0) (fun _ z => absurd z b1) (fun _ _ => rfl)))
      rw [if_pos c2]
      refine wpO_e l1 ?_
      by_cases cs : 0 < s1
      · simp only [if_pos cs] at l2 ⊢
        refine wpO_t (nI_lt cs (by omega)) ?_
        unfold g_X8_deals_40
        refine wpO_t (nI_lt cs (by omega)) ?_
        rw [nI_1]
        refine fin (nI s1) (nI 0) p (p + 1) s1 (by omega) (by omega) (fun x _ => Or.inl ⟨rfl, rfl, ?_, ?_⟩) (abi_nI (by omega)) (fun f Q hf => wpO_b l2 (fun _ σ1 hh => hf σ1 hh.1 hh.2.1 hh.2.2))
        · rw [li24, nI_add, nI_add]; rfl
        · rw [li32, nI_add, nI_1, pk_sub (by omega)]; rfl
      · simp only [if_neg cs] at l2 ⊢
        have ng : ¬ (0 : Int32) < -nI s2 := by
          intro z
          by_cases c0 : s2 = 0
          · subst c0; exact absurd z (by decide)
          · have n1 := pk_sneg (a := 0) (b := s2) (by omega) (by omega)
            have e : nI 0 - nI s2 = -nI s2 := Int32.zero_sub _
            rw [e] at n1
            exact Int32.lt_irrefl (Int32.lt_trans z n1)
        refine wpO_f ng ?_
        unfold g_X8_deals_40
        refine wpO_f ng ?_
        rw [nI_1]
        refine fin (-nI s2) (nI 1) (p + 1) p s2 (by omega) (by omega) (fun x _ => Or.inr ⟨rfl, Int32.neg_mul _ _, ?_, ?_⟩) (abi_neg (by omega)) (fun f Q hf => wpO_b l2 (fun _ σ1 hh => hf σ1 hh.1 hh.2.1 hh.2.2))
        · rw [li24, nI_add, nI_add]; congr 1
        · rw [li32, nI_add, nI_1, pk_sub (by omega)]; congr 1
    · rw [if_neg c2]
      refine wpO_some.mpr (q (wpO_f one_ne (wpO_e (within0_eq b 2 3 (by decide) (by omega) σ) ?_)))
      rw [if_neg c2]
      exact wpO_t rfl (wpO_some.mpr ⟨rfl, h⟩)
  · rw [if_neg c1]
    refine wpO_t rfl (wpO_some.mpr (wpO_e (isRestM_eq h2.1 hn _) ?_))
    rw [if_neg c1]
    exact wpO_t rfl (wpO_some.mpr ⟨rfl, h⟩)
/-- left's and right's inches are written on both sides -/
theorem Inv.lr {S : List (Nat × Nat × Nat)} {σ σ2 : AS} {x : CRS} {y : LEDS} {z : IMGS} {L' R' : Nat → Nat} (h : Inv σ) (g1 : G2C σ x y z) (g2 : G2M σ x y z) (g3 : G2P x z) (F : FrL S σ σ2) (q : ∀ z ∈ [(1, 0, 2), (1, 0, 6), (1, 0, 7), (1, 0, 12), (1, 0, 11), (1, 0, 8), (9, 0, 7), (9, 0, 10), (9, 0, 11), (9, 0, 12), (9, 0, 13), (9, 0, 14)] ++ ((DLd ++ DIm) ++ (([(9, 0, 31), (9, 0, 32)] ++ DIM) ++ (D1 ++ (D3 ++ (D4 ++ D5))))), z ∉ S)
    (c3 : ∀ i, i < 7 → σ2.2.1 1 0 3 i = nI (L' i)) (c4 : ∀ i, i < 7 → σ2.2.1 1 0 4 i = nI (R' i)) (m1 : ∀ i, i < 7 → σ2.2.1 9 0 9 (2 * i) = nI (L' i)) (m2 : ∀ i, i < 7 → σ2.2.1 9 0 9 (2 * i + 1) = nI (R' i)) (ok : ∀ i, i < 7 → L' i + R' i ≤ x.1 i) : Inv σ2 := by
  have q0 := inL q
  have q1 := inL (inR q)
  have q2 := inL (inR (inR q))
  have q3 := inR (inR (inR q))
  refine h.of2 F ⟨(x.1, L', R', x.2.2.2), y, z, ⟨?_, g1.2.1.fr F (inL q1), g1.2.2.fr F (inR q1)⟩, ⟨?_, g2.2.1.fr F (inL q2 _ (by decide)) (inL q2 _ (by decide)), g2.2.2.fr F (inR q2)⟩, ⟨⟨ok, g3.1.2.1, g3.1.2.2⟩, g3.2⟩⟩ q3
  · obtain ⟨b0, -, -, b1, b2, b3, b4, b5⟩ := (g1.1 : CrC σ x)
    refine ⟨?_, c3, c4, ?_, ?_, ?_, ?_, ?_⟩
    · rw [F.a 1 0 2 (q0 _ (by decide))]; exact b0
    · rw [F.a 1 0 6 (q0 _ (by decide))]; exact b1
    · rw [F.a 1 0 7 (q0 _ (by decide))]; exact b2
    · rw [F.f 1 0 12 (q0 _ (by decide))]; exact b3
    · rw [F.f 1 0 11 (q0 _ (by decide))]; exact b4
    · rw [F.a 1 0 8 (q0 _ (by decide))]; exact b5
  · obtain ⟨b0, -, -, b1, b2, b3, b4, b5⟩ := (g2.1 : CrM σ x)
    refine ⟨?_, m1, m2, ?_, ?_, ?_, ?_, ?_⟩
    · rw [F.a 9 0 7 (q0 _ (by decide))]; exact b0
    · rw [F.a 9 0 10 (q0 _ (by decide))]; exact b1
    · rw [F.a 9 0 11 (q0 _ (by decide))]; exact b2
    · rw [F.f 9 0 12 (q0 _ (by decide))]; exact b3
    · rw [F.f 9 0 13 (q0 _ (by decide))]; exact b4
    · rw [F.a 9 0 14 (q0 _ (by decide))]; exact b5
theorem op_sell (a : Int32) : Both (g_X8_sell a) (g_X9_sell a) := by
  intro σ h
  obtain ⟨n, t, w, d, aa, c, h1, h2, h3⟩ := h.1
  obtain ⟨x, y, z, g1, g2, g3⟩ := h.2.1
  have hn := h3.1
  unfold g_X8_sell g_X9_sell
  refine wpO_e (hasRest_eq h1.1 hn a) ?_
  by_cases c1 : inb a (n - 1)
  · obtain ⟨p, hp, rfl⟩ := inb_ex c1
    rw [if_pos c1]
    refine wpO_f one_ne ?_
    have htb : ∀ p k, p < 8 → k < 5 → t p k ≤ 99 := fun p k hp hk => (h3.2.1 p k hp hk).1
    have k1 := g3.1.1 p (by omega)
    have k2 := g3.1.2.1 p (by omega)
    have l1 := soldC (L := x.2.1) (R := x.2.2.1) h1.1 hn h1.2.1 htb (show p + 1 < n by omega) (g1.1.2.1 p (by omega)) (g1.1.2.2.1 p (by omega)) (by omega) (by omega)
    have b1 : sld (t p 3) (t (p + 1) 4) (t (p + 1) 0) (x.2.1 p) (x.2.2.1 p) ≤ x.2.1 p := sld_le
    have b2 : sld (t (p + 1) 3) (t p 4) (t p 0) (x.2.2.1 p) (x.2.1 p) ≤ x.2.2.1 p := sld_le
    refine wpO_e l1 (wpO_t (inb_nI (by omega) (by omega)) (wpO_lt (wpO_lt (wpO_some.mpr ?_))))
    generalize hs : sA _ 1 0 4 _ _ = σ1
    obtain ⟨L', R', many, w0, w1, w2, w3, w4, w5⟩ : ∃ (L' R' : Nat → Nat) (many : Nat), abi (if 0 < sld (t p 3) (t (p + 1) 4) (t (p + 1) 0) (x.2.1 p) (x.2.2.1 p) then nI (sld (t p 3) (t (p + 1) 4) (t (p + 1) 0) (x.2.1 p) (x.2.2.1 p)) else -nI (sld (t (p + 1) 3) (t p 4) (t p 0) (x.2.2.1 p) (x.2.1 p))) = nI many ∧ (∀ i, i < 7 → σ1.2.1 1 0 3 i = nI (L' i)) ∧ (∀ i, i < 7 → σ1.2.1 1 0 4 i = nI (R' i)) ∧ (∀ i, i < 7 → L' i + R' i ≤ x.1 i) ∧ FrL [(1, 0, 3), (1, 0, 4)] σ σ1 ∧
        ((0 < sld (t p 3) (t (p + 1) 4) (t (p + 1) 0) (x.2.1 p) (x.2.2.1 p) ∧ many = sld (t p 3) (t (p + 1) 4) (t (p + 1) 0) (x.2.1 p) (x.2.2.1 p) ∧ L' = uN x.2.1 p (x.2.1 p - many) ∧ R' = uN x.2.2.1 p (x.2.2.1 p + many)) ∨
         (¬ 0 < sld (t p 3) (t (p + 1) 4) (t (p + 1) 0) (x.2.1 p) (x.2.2.1 p) ∧ many = sld (t (p + 1) 3) (t p 4) (t p 0) (x.2.2.1 p) (x.2.1 p) ∧ L' = uN x.2.1 p (x.2.1 p + many) ∧ R' = uN x.2.2.1 p (x.2.2.1 p - many))) := by
      have v3 : ∀ s : Int32, gA σ 1 0 3 (nI p) - s = nI (x.2.1 p) - s := fun s => by rw [gA_nI (by omega), g1.1.2.1 p (by omega)]
      have vR : ∀ f : Nat → Int32, gA (sAf σ 1 0 3 f) 1 0 4 (nI p) = nI (x.2.2.1 p) := fun f => by rw [gA_nI (by omega), sAf_a, if_neg (by decide)]; exact g1.1.2.2.1 p (by omega)
      have fr : FrL [(1, 0, 3), (1, 0, 4)] σ σ1 := by rw [← hs]; exact (FrL_sA (by decide)).tr (FrL_sA (by decide))
      by_cases cs : 0 < sld (t p 3) (t (p + 1) 4) (t (p + 1) 0) (x.2.1 p) (x.2.2.1 p)
      · simp only [if_pos cs] at hs ⊢
        generalize sld (t p 3) (t (p + 1) 4) (t (p + 1) 0) (x.2.1 p) (x.2.2.1 p) = s1 at *
        refine ⟨_, _, s1, abi_nI (by omega), fun i hi => ?_, fun i hi => ?_, fun i hi => ?_, fr, Or.inl ⟨cs, rfl, rfl, rfl⟩⟩
        · rw [← hs]; unfold sA
          rw [sAf_a, if_neg (by decide), sAf_a, if_pos ⟨rfl, rfl, rfl⟩, upd_at, nI_clamp (by omega), v3, pk_sub b1]
          unfold uN
          by_cases e : i = p
          · rw [if_pos e, if_pos e]
          · rw [if_neg e, if_neg e]; exact g1.1.2.1 i hi
        · rw [← hs]; unfold sA
          rw [sAf_a, if_pos ⟨rfl, rfl, rfl⟩, upd_at, nI_clamp (by omega), vR, nI_add]
          unfold uN
          by_cases e : i = p
          · rw [if_pos e, if_pos e]
          · rw [if_neg e, if_neg e]; exact g1.1.2.2.1 i hi
        · have := g3.1.1 i hi
          unfold uN
          by_cases e : i = p
          · subst e; rw [if_pos rfl, if_pos rfl]; omega
          · rw [if_neg e, if_neg e]; exact this
      · simp only [if_neg cs] at hs ⊢
        generalize sld (t (p + 1) 3) (t p 4) (t p 0) (x.2.2.1 p) (x.2.1 p) = s1 at *
        refine ⟨_, _, s1, abi_neg (by omega), fun i hi => ?_, fun i hi => ?_, fun i hi => ?_, fr, Or.inr ⟨cs, rfl, rfl, rfl⟩⟩
        · rw [← hs]; unfold sA
          rw [sAf_a, if_neg (by decide), sAf_a, if_pos ⟨rfl, rfl, rfl⟩, upd_at, nI_clamp (by omega), v3, Int32.sub_neg, nI_add]
          unfold uN
          by_cases e : i = p
          · rw [if_pos e, if_pos e]
          · rw [if_neg e, if_neg e]; exact g1.1.2.1 i hi
        · rw [← hs]; unfold sA
          rw [sAf_a, if_pos ⟨rfl, rfl, rfl⟩, upd_at, nI_clamp (by omega), vR, ← Int32.sub_eq_add_neg, pk_sub b2]
          unfold uN
          by_cases e : i = p
          · rw [if_pos e, if_pos e]
          · rw [if_neg e, if_neg e]; exact g1.1.2.2.1 i hi
        · have := g3.1.1 i hi
          unfold uN
          by_cases e : i = p
          · subst e; rw [if_pos rfl, if_pos rfl]; omega
          · rw [if_neg e, if_neg e]; exact this
    rw [w0]
    have h2' := h2.fr w4 (by decide)
    have g2' := g2.fr w4 (by decide)
    have l2 := looksM (L := x.2.1) (R := x.2.2.1) hn h2'.2.1 htb (show p + 1 < n by omega) (g2'.1.2.1 p (by omega)) (g2'.1.2.2.1 p (by omega)) (by omega) (by omega)
    refine wpO_e (isRestM_eq h2'.1 hn _) ?_
    rw [if_pos c1]
    refine wpO_f one_ne (wpO_b l2 (fun _ σ3 u => ?_))
    obtain ⟨u1, u2, u3⟩ := u
    have F3 : FrL [(1, 0, 3), (1, 0, 4), (9, 0, 34), (9, 0, 35)] σ σ3 := (w4.mono (by decide)).tr (u3.mono (by decide))
    have g2'' := g2'.fr u3 (by decide)
    rw [show gF σ3 9 0 34 = σ3.1 9 0 34 from rfl, show gF σ3 9 0 35 = σ3.1 9 0 35 from rfl, u1, u2, e2i]
    rcases w5 with ⟨cs, em, eL, eR⟩ | ⟨cs, em, eL, eR⟩
    · simp only [if_pos cs]
      rw [← em, nI_add, Nat.add_zero]
      refine wpO_t (inb_nI (by omega) (by omega)) (wpO_lt ?_)
      generalize hs4 : sA σ3 9 0 9 (nI (2 * p)) _ = σ4
      have f4 : FrL [(9, 0, 9)] σ3 σ4 := by rw [← hs4]; exact FrL_sA (by decide)
      have v34 : gF σ4 9 0 34 = nI 0 := by unfold gF; rw [f4.f 9 0 34 (by decide), u1, if_pos cs]
      have v35 : gF σ4 9 0 35 = nI many := by unfold gF; rw [f4.f 9 0 35 (by decide), u2, if_pos cs, em]
      have r4 : σ4.2.1 9 0 9 = upd (σ3.2.1 9 0 9) (2 * p) (nI (x.2.1 p - many)) := by
        rw [← hs4]; unfold sA
        rw [sAf_a, if_pos ⟨rfl, rfl, rfl⟩, nI_clamp (by omega), gA_nI (by omega), g2''.1.2.1 p (by omega), pk_sub (by omega)]
      have r5 : gA σ4 9 0 9 (nI (2 * p + 1)) = nI (x.2.2.1 p) := by rw [gA_nI (by omega), r4, upd_at, if_neg (by omega)]; exact g2''.1.2.2.1 p (by omega)
      rw [v34, v35, nI_1, pk_sub (by omega), Nat.sub_zero]
      refine wpO_t (inb_nI (by omega) (by omega)) (wpO_lt (wpO_some.mpr ⟨?_, ?_⟩))
      · show nI many = gF σ4 9 0 35; rw [v35]
      · refine h.lr (L' := L') (R' := R') (S := [(1, 0, 3), (1, 0, 4), (9, 0, 34), (9, 0, 35), (9, 0, 9)]) g1 g2 g3 (((F3.mono (by decide)).tr (f4.mono (by decide))).tr (FrL_sA (by decide))) (by decide) ?_ ?_ ?_ ?_ w3
        · intro i hi; unfold sA; rw [sAf_a, if_neg (by decide), f4.a 1 0 3 (by decide), u3.a 1 0 3 (by decide)]; exact w1 i hi
        · intro i hi; unfold sA; rw [sAf_a, if_neg (by decide), f4.a 1 0 4 (by decide), u3.a 1 0 4 (by decide)]; exact w2 i hi
        · intro i hi
          unfold sA
          rw [sAf_a, if_pos ⟨rfl, rfl, rfl⟩, nI_clamp (by omega), r4, upd_at, if_neg (by omega), upd_at, eL]
          unfold uN
          by_cases e : i = p
          · rw [if_pos (by omega), if_pos e]
          · rw [if_neg (by omega), if_neg e]; exact g2''.1.2.1 i hi
        · intro i hi
          unfold sA
          rw [sAf_a, if_pos ⟨rfl, rfl, rfl⟩, nI_clamp (by omega), r5, nI_add, r4, upd_at, eR]
          unfold uN
          by_cases e : i = p
          · rw [if_pos (by omega), if_pos e]
          · rw [if_neg (by omega), if_neg e, upd_at, if_neg (by omega)]; exact g2''.1.2.2.1 i hi
    · simp only [if_neg cs]
      rw [← em, nI_add]
      refine wpO_t (inb_nI (by omega) (by omega)) (wpO_lt ?_)
      generalize hs4 : sA σ3 9 0 9 (nI (2 * p + 1)) _ = σ4
      have f4 : FrL [(9, 0, 9)] σ3 σ4 := by rw [← hs4]; exact FrL_sA (by decide)
      have v34 : gF σ4 9 0 34 = nI 1 := by unfold gF; rw [f4.f 9 0 34 (by decide), u1, if_neg cs]
      have v35 : gF σ4 9 0 35 = nI many := by unfold gF; rw [f4.f 9 0 35 (by decide), u2, if_neg cs, em]
      have r4 : σ4.2.1 9 0 9 = upd (σ3.2.1 9 0 9) (2 * p + 1) (nI (x.2.2.1 p - many)) := by
        rw [← hs4]; unfold sA
        rw [sAf_a, if_pos ⟨rfl, rfl, rfl⟩, nI_clamp (by omega), gA_nI (by omega), g2''.1.2.2.1 p (by omega), pk_sub (by omega)]
      have r5 : gA σ4 9 0 9 (nI (2 * p)) = nI (x.2.1 p) := by rw [gA_nI (by omega), r4, upd_at, if_neg (by omega)]; exact g2''.1.2.1 p (by omega)
      rw [v34, v35, nI_1, pk_sub (by omega), Nat.add_sub_cancel]
      refine wpO_t (inb_nI (by omega) (by omega)) (wpO_lt (wpO_some.mpr ⟨?_, ?_⟩))
      · show nI many = gF σ4 9 0 35; rw [v35]
      · refine h.lr (L' := L') (R' := R') (S := [(1, 0, 3), (1, 0, 4), (9, 0, 34), (9, 0, 35), (9, 0, 9)]) g1 g2 g3 (((F3.mono (by decide)).tr (f4.mono (by decide))).tr (FrL_sA (by decide))) (by decide) ?_ ?_ ?_ ?_ w3
        · intro i hi; unfold sA; rw [sAf_a, if_neg (by decide), f4.a 1 0 3 (by decide), u3.a 1 0 3 (by decide)]; exact w1 i hi
        · intro i hi; unfold sA; rw [sAf_a, if_neg (by decide), f4.a 1 0 4 (by decide), u3.a 1 0 4 (by decide)]; exact w2 i hi
        · intro i hi
          unfold sA
          rw [sAf_a, if_pos ⟨rfl, rfl, rfl⟩, nI_clamp (by omega), r5, nI_add, r4, upd_at, eL]
          unfold uN
          by_cases e : i = p
          · rw [if_pos (by omega), if_pos e]
          · rw [if_neg (by omega), if_neg e, upd_at, if_neg (by omega)]; exact g2''.1.2.1 i hi
        · intro i hi
          unfold sA
          rw [sAf_a, if_pos ⟨rfl, rfl, rfl⟩, nI_clamp (by omega), r4, upd_at, if_neg (by omega), upd_at, eR]
          unfold uN
          by_cases e : i = p
          · rw [if_pos (by omega), if_pos e]
          · rw [if_neg (by omega), if_neg e]; exact g2''.1.2.2.1 i hi
  · rw [if_neg c1]
    refine wpO_t rfl (wpO_some.mpr (wpO_e (isRestM_eq h2.1 hn _) ?_))
    rw [if_neg c1]
    exact wpO_t rfl (wpO_some.mpr ⟨rfl, h⟩)
