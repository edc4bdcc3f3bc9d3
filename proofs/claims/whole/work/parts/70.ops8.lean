/-! hours -/
theorem tellC {σ : AS} {n p h v : Nat} (hn : σ.1 6 0 2 = nI n) (hb : n ≤ 8) (hp : p < n) (hh : h < 24) :
    g_X6_tell (nI p) (nI h) (nI v) σ = some ((), sAf σ 6 0 1 (upd (σ.2.1 6 0 1) (p * 24 + h) (nI v))) := by
  unfold g_X6_tell
  have e : nI p * 24 + nI h = nI (p * 24 + h) := by rw [li24, pk_mul, nI_add]
  rw [has_eq hn hb, bnd_some, if_pos (inb_nI hp (by omega)), if_neg one_ne, if_neg (nI_pos (by omega)), if_pos (by rw [li24]; exact nI_lt hh (by omega)), e, if_pos (inb_nI (by omega) (by omega))]
  show some ((), sA σ 6 0 1 (nI (p * 24 + h)) (nI v)) = _
  unfold sA
  rw [nI_clamp (by omega)]
def uNr (w : N2) (p a b v : Nat) : N2 := fun p' h' => if p' = p ∧ a ≤ h' ∧ h' < b then v else w p' h'
theorem uNr_stepC {w : N2} {p a b v : Nat} {f : Nat → Int32} (hp : p < 8) (hab : a ≤ b) (hb : b < 24) (h : ∀ p' h', p' < 8 → h' < 24 → f (p' * 24 + h') = nI (uNr w p a b v p' h')) : ∀ p' h', p' < 8 → h' < 24 → upd f (p * 24 + b) (nI v) (p' * 24 + h') = nI (uNr w p a (b + 1) v p' h') := by
  intro p' h' hp' hh'
  rw [upd_at]
  by_cases c : p' = p ∧ h' = b
  · rw [if_pos (by rw [c.1, c.2])]
    unfold uNr
    rw [if_pos ⟨c.1, by omega, by omega⟩]
  · rw [if_neg (fun z => c (by omega)), h p' h' hp' hh']
    unfold uNr
    by_cases c2 : p' = p ∧ a ≤ h' ∧ h' < b
    · rw [if_pos c2, if_pos ⟨c2.1, c2.2.1, by omega⟩]
    · rw [if_neg c2, if_neg (fun z => c2 ⟨z.1, z.2.1, by have := z.2.2; by_cases q : h' = b; exact absurd ⟨z.1, q⟩ c; omega⟩)]
theorem hoursC {σ0 : AS} {n p v x1 x2 : Nat} {w : N2} (hn : σ0.1 6 0 2 = nI n) (hb : n ≤ 8) (hp : p < n) (h2 : x2 < 24) (h12 : x1 ≤ x2) :
    ∀ (d x f : Nat) (σ : AS), x + d = x2 + 1 → x1 ≤ x → d < f → FrL [(6, 0, 1)] σ0 σ → (∀ p' h', p' < 8 → h' < 24 → σ.2.1 6 0 1 (p' * 24 + h') = nI (uNr w p x1 x v p' h')) →
      wpO (g_X8_hours_73 f (nI p) (nI v) (nI x1) (nI x2) (nI x) σ) (fun r σ1 => r = nI (x2 - x1 + 1) ∧ FrL [(6, 0, 1)] σ0 σ1 ∧ ∀ p' h', p' < 8 → h' < 24 → σ1.2.1 6 0 1 (p' * 24 + h') = nI (uNr w p x1 (x2 + 1) v p' h')) := by
  intro d
  induction d with
  | zero =>
    intro x f σ hx hx1 hf fr a
    obtain ⟨f, rfl⟩ : ∃ g, f = g + 1 := ⟨f - 1, by omega⟩
    have e : x = x2 + 1 := by omega
    subst e
    rw [g_X8_hours_73]
    exact wpO_t (nI_lt (by omega) (by omega)) (wpO_some.mpr ⟨by rw [pk_sub h12, nI_1], fr, a⟩)
  | succ d ih =>
    intro x f σ hx hx1 hf fr a
    obtain ⟨f, rfl⟩ : ∃ g, f = g + 1 := ⟨f - 1, by omega⟩
    rw [g_X8_hours_73, nI_1]
    refine wpO_f (nI_nlt (by omega) (by omega)) (wpO_e (tellC (n := n) (by rw [fr.f 6 0 2 (by decide)]; exact hn) hb hp (by omega)) ?_)
    refine ih (x + 1) f _ (by omega) (by omega) (by omega) (fr.tr (FrL_sA (by decide))) ?_
    rw [sAf_a, if_pos ⟨rfl, rfl, rfl⟩]
    exact uNr_stepC (by omega) hx1 (by omega) a
theorem uNr_stepM {w : N2} {p a b v : Nat} {f : Nat → Int32} (hp : p < 8) (hab : a ≤ b) (hb : b < 24) (h : ∀ p' h', p' < 8 → h' < 24 → f (24 * p' + h') = nI (uNr w p a b v p' h')) : ∀ p' h', p' < 8 → h' < 24 → upd f (24 * p + b) (nI v) (24 * p' + h') = nI (uNr w p a (b + 1) v p' h') := by
  intro p' h' hp' hh'
  have e1 : 24 * p + b = p * 24 + b := by omega
  have := uNr_stepC (f := f) hp hab hb (fun p' h' x y => by rw [Nat.mul_comm]; exact h p' h' x y) p' h' hp' hh'
  rw [Nat.mul_comm 24 p, Nat.mul_comm 24 p']; exact this
theorem hoursM {σ0 : AS} {p v x1 x2 m : Nat} {w : N2} (hp : p < 8) (h2 : x2 < 24) (h12 : x1 ≤ x2) (hm : m < 2 ^ 31) (e1 : m / 100 = x1) (e2 : m % 100 = x2) :
    ∀ (d x f : Nat) (σ : AS), x + d = x2 + 1 → x1 ≤ x → d < f → FrL [(9, 0, 8)] σ0 σ → (∀ p' h', p' < 8 → h' < 24 → σ.2.1 9 0 8 (24 * p' + h') = nI (uNr w p x1 x v p' h')) →
      wpO (g_X9_hours_66 f (nI p) (nI m) (nI v) (nI x) σ) (fun r σ1 => r = nI (x2 - x1 + 1) ∧ FrL [(9, 0, 8)] σ0 σ1 ∧ ∀ p' h', p' < 8 → h' < 24 → σ1.2.1 9 0 8 (24 * p' + h') = nI (uNr w p x1 (x2 + 1) v p' h')) := by
  have r1 : rmi (nI m) 100 = nI x2 := by rw [li100, rmi_nI hm (by omega) (by omega), e2]
  have r2 : nI m / 100 = nI x1 := by rw [li100, pk_div hm (by omega) (by omega), e1]
  intro d
  induction d with
  | zero =>
    intro x f σ hx hx1 hf fr a
    obtain ⟨f, rfl⟩ : ∃ g, f = g + 1 := ⟨f - 1, by omega⟩
    have e : x = x2 + 1 := by omega
    subst e
    rw [g_X9_hours_66, r1, r2]
    exact wpO_t (nI_lt (by omega) (by omega)) (wpO_some.mpr ⟨by rw [pk_sub h12, nI_1], fr, a⟩)
  | succ d ih =>
    intro x f σ hx hx1 hf fr a
    obtain ⟨f, rfl⟩ : ∃ g, f = g + 1 := ⟨f - 1, by omega⟩
    have e : (24 : Int32) * nI p + nI x = nI (24 * p + x) := by rw [li24, pk_mul, nI_add]
    rw [g_X9_hours_66, r1, r2, nI_1, e]
    refine wpO_f (nI_nlt (by omega) (by omega)) (wpO_t (inb_nI (by omega) (by omega)) (wpO_lt ?_))
    refine ih (x + 1) f _ (by omega) (by omega) (by omega) (fr.tr (FrL_sA (by decide))) ?_
    unfold sA
    rw [sAf_a, if_pos ⟨rfl, rfl, rfl⟩, nI_clamp (by omega)]
    exact uNr_stepM hp hx1 (by omega) a
theorem op_hours (a b v0 : Int32) : Both (g_X8_hours a b v0) (g_X9_hours a b v0) := by
  intro σ h
  obtain ⟨n, t, w, d, aa, c, h1, h2, h3⟩ := h.1
  obtain ⟨⟨wd, L, R, cm, yl, fi, now⟩, y, z, g1, g2, g3⟩ := h.2.1
  have hn := h3.1
  have hN : now ≤ 24 := g3.1.2.2
  have eN1 : gF σ 1 0 11 = nI now := g1.1.2.2.2.2.2.2.1
  have eN2 : gF σ 9 0 13 = nI now := g2.1.2.2.2.2.2.2.1
  have eS := isSitterM_eq h2.1 hn a
  unfold g_X8_hours g_X9_hours
  refine wpO_lt (wpO_lt (wpO_e (has_eq h1.1 hn a) ?_))
  by_cases c1 : inb a n
  · obtain ⟨p, hp, rfl⟩ := inb_ex c1
    rw [if_pos c1]
    refine wpO_f one_ne ?_
    have q : ∀ {f : Int32 → AS → Option (Int32 × AS)} {Q : Int32 → AS → Prop} {σ1 : AS}, σ1.1 9 0 6 = nI n → wpO (f 1 σ1) Q → wpO (bnd (g_X9_isSitter (nI p) σ1) f) Q := fun e z => wpO_e (isSitterM_eq e hn _) (by rw [if_pos c1]; exact z)
    by_cases c2 : b < 0
    · exact wpO_t c2 (wpO_some.mpr (q h2.1 (wpO_f one_ne (wpO_t c2 (wpO_some.mpr ⟨rfl, h⟩)))))
    · obtain ⟨m, hm, rfl⟩ := nI_of c2
      have r1 : rmi (nI m) 100 = nI (m % 100) := by rw [li100, rmi_nI hm (by omega) (by omega)]
      have r2 : nI m / 100 = nI (m / 100) := by rw [li100, pk_div hm (by omega) (by omega)]
      rw [r1, r2]
      refine wpO_f c2 ?_
      by_cases c3 : m % 100 < m / 100
      · exact wpO_t (nI_lt c3 (by omega)) (wpO_some.mpr (q h2.1 (wpO_f one_ne (wpO_f c2 (wpO_t (nI_lt c3 (by omega)) (wpO_some.mpr ⟨rfl, h⟩))))))
      · have n3 : ¬ nI (m % 100) < nI (m / 100) := nI_nlt (by omega) (by omega)
        refine wpO_f n3 ?_
        by_cases c4 : m % 100 < 24
        · have n4 : nI (m % 100) < nI 24 := nI_lt c4 (by omega)
          refine wpO_t n4 ?_
          rw [ifr2 (show (3 : Int32) = nI 3 from rfl) (by omega), eN1]
          have r : ∀ {f : Int32 → AS → Option (Int32 × AS)} {Q : Int32 → AS → Prop} {σ1 : AS}, σ1.1 9 0 6 = nI n → wpO (f (if inb v0 4 then 1 else 0) σ1) Q → wpO (bnd (g_X9_isSitter (nI p) σ1) fun r1 σ2 => if r1 = 0 then some (-1, σ2) else if nI m < 0 then some (-1, σ2) else if nI (m % 100) < nI (m / 100) then some (-1, σ2) else if nI (m % 100) < 24 then bnd (g_X9_within v0.toInt64 0 3 σ2) f else some (-1, σ2)) Q :=
            fun e z => q e (wpO_f one_ne (wpO_f c2 (wpO_f n3 (wpO_t n4 (wpO_e (within0_eq v0 3 4 (by decide) (by omega) _) z)))))
          by_cases c5 : inb v0 4
          · obtain ⟨v, hv, rfl⟩ := inb_ex c5
            rw [if_pos c5]
            by_cases c6 : m / 100 < now
            · refine wpO_t (nI_lt c6 (by omega)) (wpO_some.mpr (r h2.1 ?_))
              rw [if_pos c5]
              exact wpO_f one_ne (wpO_t (show nI (m / 100) < gF σ 9 0 13 by rw [eN2]; exact nI_lt c6 (by omega)) (wpO_some.mpr ⟨rfl, h⟩))
            · refine wpO_f (nI_nlt (by omega) (by omega)) ?_
              obtain ⟨p1, p2, p3, p4, p5, p6⟩ := (h3 : G1P n t w d aa c)
              obtain ⟨u1, u2, u3, u4, u5, u6, u7, u8, u9⟩ := (h1 : G1C σ n t w d aa c)
              have w0 : ∀ p' h', uNr w p (m / 100) (m / 100) v p' h' = w p' h' := fun p' h' => by unfold uNr; rw [if_neg (by omega)]
              refine wpO_mono (hoursC (σ0 := σ) (w := w) u1 p1 hp c4 (by omega) (m % 100 + 1 - m / 100) (m / 100) 400 σ (by omega) (by omega) (by omega) FrL.rf (fun p' h' a b => by rw [w0]; exact u3 p' h' a b)) ?_
              intro r' σ1 x
              obtain ⟨rfl, f1, x3⟩ := x
              have m2 := h2.fr f1 (by decide)
              obtain ⟨y1, y2, y3, y4, y5, y6, y7, y8⟩ := (m2 : G1M σ1 n t w d aa c)
              refine r y1 ?_
              rw [if_pos c5]
              refine wpO_f one_ne (wpO_f (show ¬ nI (m / 100) < σ1.1 9 0 13 by rw [f1.f 9 0 13 (by decide), show σ.1 9 0 13 = nI now from eN2]; exact nI_nlt (by omega) (by omega)) (wpO_lt (wpO_mono (hoursM (σ0 := σ1) (w := w) (by omega) c4 (by omega) hm rfl rfl (m % 100 + 1 - m / 100) (m / 100) 400 σ1 (by omega) (by omega) (by omega) FrL.rf (fun p' h' a b => by rw [w0]; exact y3 p' h' a b)) ?_)))
              intro r' σ2 x
              obtain ⟨rfl, f2, z3⟩ := x
              have F : FrL [(6, 0, 1), (9, 0, 8)] σ σ2 := (f1.mono (by decide)).tr (f2.mono (by decide))
              refine ⟨rfl, h.of1 F ⟨n, t, _, d, aa, c, ⟨?_, ?_, ?_, ?_, ?_, ?_, ?_, ?_, ?_⟩, ⟨?_, ?_, z3, ?_, ?_, ?_, ?_, ?_⟩, p1, p2, ?_, p4, p5, p6⟩ (by decide)⟩
              · rw [F.f 6 0 2 (by decide)]; exact u1
              · rw [F.a 6 0 0 (by decide)]; exact u2
              · rw [f2.a 6 0 1 (by decide)]; exact x3
              · rw [F.f 0 0 4 (by decide)]; exact u4
              · rw [F.f 0 0 5 (by decide)]; exact u5
              · rw [F.a 0 0 0 (by decide)]; exact u6
              · rw [F.a 0 0 1 (by decide)]; exact u7
              · rw [F.a 0 0 2 (by decide)]; exact u8
              · rw [F.a 0 0 3 (by decide)]; exact u9
              · rw [f2.f 9 0 6 (by decide)]; exact y1
              · rw [f2.a 9 0 0 (by decide)]; exact y2
              · rw [f2.f 9 0 5 (by decide)]; exact y4
              · rw [f2.f 9 0 4 (by decide)]; exact y5
              · rw [f2.a 9 0 1 (by decide)]; exact y6
              · rw [f2.a 9 0 2 (by decide)]; exact y7
              · rw [f2.a 9 0 3 (by decide)]; exact y8
              · intro p' h' hp' hh'
                unfold uNr
                split
                · exact ⟨by omega, fun z => by omega⟩
                · exact p3 p' h' hp' hh'
          · rw [if_neg c5]
            refine wpO_some.mpr (r h2.1 ?_)
            rw [if_neg c5]
            exact wpO_t rfl (wpO_some.mpr ⟨rfl, h⟩)
        · have n4 : ¬ nI (m % 100) < nI 24 := nI_nlt (by omega) (by omega)
          exact wpO_f n4 (wpO_some.mpr (q h2.1 (wpO_f one_ne (wpO_f c2 (wpO_f n3 (wpO_f n4 (wpO_some.mpr ⟨rfl, h⟩)))))))
  · rw [if_neg c1]
    refine wpO_t rfl (wpO_some.mpr (wpO_e eS ?_))
    rw [if_neg c1]
    exact wpO_t rfl (wpO_some.mpr ⟨rfl, h⟩)
/-! sitter -/
theorem withinT {a b : Nat} (h : a ≤ b) (hb : b < 2 ^ 31) {z : Int64} (hz : z = (nI b).toInt64) {σ : AS} : g_X9_within (nI a).toInt64 0 z σ = some (1, σ) := by rw [withinN a b (by omega) hb z hz, if_pos h]
/-- one more sitter, traits 0, 1, 2 given -/
def trA (t : N2) (n x y z : Nat) : N2 := uN2 (uN2 (uN2 t n 0 x) n 1 y) n 2 z
theorem addSC {σ : AS} {n x y z : Nat} {t : N2} (hn : σ.1 6 0 2 = nI n) (hb : n < 8) (ht : ∀ p k, p < 8 → k < 5 → σ.2.1 6 0 0 (p * 5 + k) = nI (t p k)) :
    wpO (g_X6_add (nI x) (nI y) (nI z) σ) (fun r σ1 => r = nI n ∧ σ1.1 6 0 2 = nI (n + 1) ∧ (∀ p k, p < 8 → k < 5 → σ1.2.1 6 0 0 (p * 5 + k) = nI (trA t n x y z p k)) ∧ FrL [(6, 0, 2), (6, 0, 0)] σ σ1) := by
  unfold g_X6_add
  refine wpO_t (show σ.1 6 0 2 < nI 8 by rw [hn]; exact nI_lt hb (by omega)) (wpO_lt ?_)
  rw [show gF σ 6 0 2 = nI n from hn, nI_1]
  generalize hs : sF σ 6 0 2 (nI (n + 1)) = σ1
  have f1 : FrL [(6, 0, 2)] σ σ1 := by rw [← hs]; exact FrL_sF (by decide)
  have v1 : σ1.1 6 0 2 = nI (n + 1) := by rw [← hs]; rfl
  have b : ∀ (σ2 : AS) (k v : Nat) (K : Int32), K = nI k → k < 5 → σ2.1 6 0 2 = nI (n + 1) → g_X6_become (gF σ2 6 0 2 - 1) K (nI v) σ2 = some ((), sAf σ2 6 0 0 (upd (σ2.2.1 6 0 0) (n * 5 + k) (nI v))) := by
    intro σ2 k v K eK hk e
    rw [show gF σ2 6 0 2 = nI (n + 1) from e, nI_pred, eK]
    exact becC (n := n + 1) e (by omega) (by omega) hk
  refine wpO_e (b _ 0 x 0 rfl (by omega) v1) (wpO_e (b _ 1 y 1 rfl (by omega) v1) (wpO_e (b _ 2 z 2 rfl (by omega) v1) (wpO_some.mpr ⟨?_, v1, ?_, (f1.mono (by decide)).tr (by repeat (first | exact FrL.rf | refine FrL.tr ?_ (FrL_sF (by decide)) | refine FrL.tr ?_ (FrL_sA (by decide)) | refine FrL.tr ?_ (FrL_sL (by decide))))⟩)))
  · show σ1.1 6 0 2 - 1 = _; rw [v1, nI_pred]
  · rw [sAf_a, if_pos ⟨rfl, rfl, rfl⟩]
    refine tr_setC (by omega) ?_
    rw [sAf_a, if_pos ⟨rfl, rfl, rfl⟩]
    refine tr_setC (by omega) ?_
    rw [sAf_a, if_pos ⟨rfl, rfl, rfl⟩]
    refine tr_setC (by omega) ?_
    rw [f1.a 6 0 0 (by decide)]; exact ht
theorem addsM {σ : AS} {n x y z : Nat} {t : N2} (hn : σ.1 9 0 6 = nI n) (hb : n < 8) (ht : ∀ p k, p < 8 → k < 5 → σ.2.1 9 0 0 (8 * k + p) = nI (t p k)) :
    wpO (g_X9_adds (nI x) (nI y) (nI z) σ) (fun _ σ1 => σ1.1 9 0 6 = nI (n + 1) ∧ (∀ p k, p < 8 → k < 5 → σ1.2.1 9 0 0 (8 * k + p) = nI (trA t n x y z p k)) ∧ FrL [(9, 0, 6), (9, 0, 0)] σ σ1) := by
  have i0 : inb (σ.1 9 0 6) 40 := by rw [hn]; exact inb_nI (by omega) (by omega)
  have i1 : inb (8 + σ.1 9 0 6) 40 := by rw [hn, li8, nI_add]; exact inb_nI (by omega) (by omega)
  have i2 : inb (16 + σ.1 9 0 6) 40 := by rw [hn, li16, nI_add]; exact inb_nI (by omega) (by omega)
  unfold g_X9_adds
  refine wpO_t i0 (wpO_lt (wpO_t i1 (wpO_lt (wpO_t i2 (wpO_lt (wpO_lt (wpO_some.mpr ⟨?_, ?_, (by repeat (first | exact FrL.rf | refine FrL.tr ?_ (FrL_sF (by decide)) | refine FrL.tr ?_ (FrL_sA (by decide)) | refine FrL.tr ?_ (FrL_sL (by decide))))⟩)))))))
  · show σ.1 9 0 6 + 1 = _; rw [hn, nI_1]
  · show ∀ p k, p < 8 → k < 5 → upd (upd (upd (σ.2.1 9 0 0) (σ.1 9 0 6).toNatClampNeg (nI x)) (8 + σ.1 9 0 6).toNatClampNeg (nI y)) (16 + σ.1 9 0 6).toNatClampNeg (nI z) (8 * k + p) = nI (trA t n x y z p k)
    rw [hn, li8, li16, nI_add, nI_add, nI_clamp (by omega), nI_clamp (by omega), nI_clamp (by omega), show 16 + n = 8 * 2 + n from rfl, show 8 + n = 8 * 1 + n from rfl]
    refine tr_setM (by omega) (tr_setM (by omega) ?_)
    have := tr_setM (v := x) (k := 0) (show n < 8 from hb) ht
    rw [show 8 * 0 + n = n by omega] at this
    exact this
theorem trA_P {n : Nat} {t : N2} {x y z : Nat} (hx : x ≤ 9) (hy : y ≤ 9) (hz : z ≤ 9) (h : ∀ p k, p < 8 → k < 5 → t p k ≤ 99 ∧ (k < 3 → t p k ≤ 9) ∧ (n ≤ p → t p k = 0)) : ∀ p' k', p' < 8 → k' < 5 → trA t n x y z p' k' ≤ 99 ∧ (k' < 3 → trA t n x y z p' k' ≤ 9) ∧ (n + 1 ≤ p' → trA t n x y z p' k' = 0) := by
  have h' : ∀ p k, p < 8 → k < 5 → t p k ≤ 99 ∧ (k < 3 → t p k ≤ 9) ∧ (n + 1 ≤ p → t p k = 0) := fun p k a b => ⟨(h p k a b).1, (h p k a b).2.1, fun z => (h p k a b).2.2 (by omega)⟩
  exact tr_P (by omega) (by omega) (fun _ => hz) (tr_P (by omega) (by omega) (fun _ => hy) (tr_P (by omega) (by omega) (fun _ => hx) h'))
/-- both sides have one more -/
theorem G1.more {S : List (Nat × Nat × Nat)} {σ σ2 : AS} {n : Nat} {t w : N2} {d a : Nat} {c : N2} {x y z : Nat} (h1 : G1C σ n t w d a c) (h2 : G1M σ n t w d a c) (h3 : G1P n t w d a c) (hb : n < 8) (hx : x ≤ 9) (hy : y ≤ 9) (hz : z ≤ 9)
    (F : FrL S σ σ2) (q : ∀ z ∈ [(6, 0, 1), (0, 0, 4), (0, 0, 5), (0, 0, 0), (0, 0, 1), (0, 0, 2), (0, 0, 3), (9, 0, 8), (9, 0, 5), (9, 0, 4), (9, 0, 1), (9, 0, 2), (9, 0, 3)], z ∉ S) (e1 : σ2.1 6 0 2 = nI (n + 1)) (e2 : ∀ p k, p < 8 → k < 5 → σ2.2.1 6 0 0 (p * 5 + k) = nI (trA t n x y z p k))
    (e3 : σ2.1 9 0 6 = nI (n + 1)) (e4 : ∀ p k, p < 8 → k < 5 → σ2.2.1 9 0 0 (8 * k + p) = nI (trA t n x y z p k)) : ∃ t', G1C σ2 (n + 1) t' w d a c ∧ G1M σ2 (n + 1) t' w d a c ∧ G1P (n + 1) t' w d a c := by
  obtain ⟨p1, p2, p3, p4, p5, p6⟩ := h3
  obtain ⟨u1, u2, u3, u4, u5, u6, u7, u8, u9⟩ := h1
  obtain ⟨y1, y2, y3, y4, y5, y6, y7, y8⟩ := h2
  refine ⟨_, ⟨e1, e2, ?_, ?_, ?_, ?_, ?_, ?_, ?_⟩, ⟨e3, e4, ?_, ?_, ?_, ?_, ?_, ?_⟩, by omega, trA_P hx hy hz p2, fun p k a b => ⟨(p3 p k a b).1, fun z => (p3 p k a b).2 (by omega)⟩, p4, p5, fun i hi => ⟨by have := (p6 i hi).1; omega, (p6 i hi).2⟩⟩
  · rw [F.a 6 0 1 (q _ (by decide))]; exact u3
  · rw [F.f 0 0 4 (q _ (by decide))]; exact u4
  · rw [F.f 0 0 5 (q _ (by decide))]; exact u5
  · rw [F.a 0 0 0 (q _ (by decide))]; exact u6
  · rw [F.a 0 0 1 (q _ (by decide))]; exact u7
  · rw [F.a 0 0 2 (q _ (by decide))]; exact u8
  · rw [F.a 0 0 3 (q _ (by decide))]; exact u9
  · rw [F.a 9 0 8 (q _ (by decide))]; exact y3
  · rw [F.f 9 0 5 (q _ (by decide))]; exact y4
  · rw [F.f 9 0 4 (q _ (by decide))]; exact y5
  · rw [F.a 9 0 1 (q _ (by decide))]; exact y6
  · rw [F.a 9 0 2 (q _ (by decide))]; exact y7
  · rw [F.a 9 0 3 (q _ (by decide))]; exact y8
theorem op_sitter (a : Int32) : Both (g_X8_sitter a) (g_X9_sitter a) := by
  intro σ h
  obtain ⟨n, t, w, d, aa, c, h1, h2, h3⟩ := h.1
  obtain ⟨⟨wd, L, R, cm, yl, fi, now⟩, y, z, g1, g2, g3⟩ := h.2.1
  have hn := h3.1
  have hN : now ≤ 24 := g3.1.2.2
  have eN1 : gF σ 1 0 11 = nI now := g1.1.2.2.2.2.2.2.1
  have eN2 : gF σ 9 0 13 = nI now := g2.1.2.2.2.2.2.2.1
  unfold g_X8_sitter g_X9_sitter
  by_cases c1 : a < 0
  · exact wpO_t c1 (wpO_some.mpr (wpO_t c1 (wpO_some.mpr ⟨rfl, h⟩)))
  · obtain ⟨m, hm, rfl⟩ := nI_of c1
    have r1 : nI m / 100 = nI (m / 100) := by rw [li100, pk_div hm (by omega) (by omega)]
    have r2 : rmi (nI m / 10) 10 = nI (m / 10 % 10) := by rw [li10, pk_div hm (by omega) (by omega), rmi_nI (by omega) (by omega) (by omega)]
    have r3 : rmi (nI m) 10 = nI (m % 10) := by rw [li10, rmi_nI hm (by omega) (by omega)]
    rw [r1, r2, r3]
    refine wpO_f c1 ?_
    have one : ∀ σ1 : AS, g_X9_isOne (nI (m / 100)).toInt64 (nI (m / 10 % 10)).toInt64 (nI (m % 10)).toInt64 σ1 = some (if m / 100 ≤ 9 then 1 else 0, σ1) := by
      intro σ1
      unfold g_X9_isOne
      rw [withinN _ 9 (by omega) (by omega) _ (by decide), bnd_some]
      by_cases c2 : m / 100 ≤ 9
      · rw [if_pos c2, if_neg one_ne, withinT (b := 9) (by omega) (by omega) (by decide), bnd_some, if_neg one_ne, withinT (b := 9) (by omega) (by omega) (by decide), bnd_some, if_neg one_ne]
      · rw [if_neg c2, if_pos rfl]
    by_cases c2 : m / 100 ≤ 9
    · refine wpO_f (show ¬ nI 999 < nI m from nI_nlt (by omega) (by omega)) ?_
      rw [eN1]
      have q : ∀ {f : Int32 → AS → Option (Int32 × AS)} {Q : Int32 → AS → Prop} {σ1 : AS}, wpO (f 1 σ1) Q → wpO (if nI m < 0 then some (-1, σ1) else bnd (g_X9_isOne (nI (m / 100)).toInt64 (nI (m / 10 % 10)).toInt64 (nI (m % 10)).toInt64 σ1) f) Q := fun z => wpO_f c1 (wpO_e (one _) (by rw [if_pos c2]; exact z))
      by_cases c3 : now = 0
      · subst c3
        refine wpO_t rfl ?_
        by_cases c4 : n < 8
        · refine wpO_b (addSC h1.1 c4 h1.2.1) (fun r σ1 x => wpO_some.mpr ?_)
          obtain ⟨rfl, x1, x2, f1⟩ := x
          have m2 := h2.fr f1 (by decide)
          have y6 : gF σ1 9 0 6 = nI n := m2.1
          refine q (wpO_f one_ne (wpO_t (show σ1.1 9 0 13 = 0 by rw [f1.f 9 0 13 (by decide)]; exact eN2) (wpO_f ?_ ?_)))
          · rw [y6, li8]; exact fun z => by have := (nI_eq (by omega) (by omega)).mp z; omega
          · refine wpO_b (addsM m2.1 c4 m2.2.1) (fun _ σ2 u => wpO_some.mpr ?_)
            obtain ⟨z1, z2, f2⟩ := u
            have F : FrL [(6, 0, 2), (6, 0, 0), (9, 0, 6), (9, 0, 0)] σ σ2 := (f1.mono (by decide)).tr (f2.mono (by decide))
            refine ⟨?_, ?_⟩
            · show nI n = σ2.1 9 0 6 - 1; rw [z1, nI_pred]
            · obtain ⟨t', k1, k2, k3⟩ := G1.more h1 h2 h3 c4 c2 (by omega) (by omega) F (by decide) (by rw [f2.f 6 0 2 (by decide)]; exact x1) (by rw [f2.a 6 0 0 (by decide)]; exact x2) z1 z2
              exact h.of1 F ⟨n + 1, t', w, d, aa, c, k1, k2, k3⟩ (by decide)
        · have e8 : n = 8 := by omega
          subst e8
          refine wpO_e (r := -3) (σ := σ) ?_ (wpO_some.mpr (q (wpO_f one_ne (wpO_t (show σ.1 9 0 13 = 0 from eN2) (wpO_t (show σ.1 9 0 6 = 8 from h2.1) (wpO_some.mpr ⟨rfl, h⟩))))))
          unfold g_X6_add
          rw [if_neg (show ¬ σ.1 6 0 2 < 8 by rw [h1.1]; decide)]
      · have e0 : ¬ nI now = 0 := nI_ne0 (by omega) (by omega)
        refine wpO_f e0 (wpO_some.mpr (q (wpO_f one_ne (wpO_f (show ¬ σ.1 9 0 13 = 0 by rw [show σ.1 9 0 13 = nI now from eN2]; exact e0) (wpO_some.mpr ⟨rfl, h⟩)))))
    · refine wpO_t (show nI 999 < nI m from nI_lt (by omega) (by omega)) (wpO_some.mpr (wpO_f c1 (wpO_e (one _) ?_)))
      rw [if_neg c2]
      exact wpO_t rfl (wpO_some.mpr ⟨rfl, h⟩)
