/-! seat, change -/
def swW (a b j : Nat) : Nat := if j = b then a else if j = a then b else j
theorem swW_self (a : Nat) : swW a a = id := by
  funext j
  unfold swW
  by_cases e : j = a
  · rw [if_pos e]; exact e.symm
  · rw [if_neg e, if_neg e]; rfl
theorem swW_lt {a b n j : Nat} (ha : a < n) (hb : b < n) (hj : j < n) : swW a b j < n := by unfold swW; split; exact ha; split; exact hb; exact hj
theorem swW_inv (a b j : Nat) : swW a b (swW a b j) = j := by
  unfold swW
  by_cases e : j = b
  · rw [if_pos e]
    by_cases q : a = b
    · rw [if_pos q, e, q]
    · rw [if_neg q, if_pos rfl, e]
  · rw [if_neg e]
    by_cases q : j = a
    · rw [if_pos q, if_pos rfl, q]
    · rw [if_neg q, if_neg e, if_neg q]
def VV (nx cg : Int32 → Int32) (tr way : Nat → Nat → Int32) (Str : (Nat → Int32) → Int32) (n : Nat) (wd L R : Nat → Nat) (z : Int32) (now : Nat) (who : Nat → Nat) : HX := hHours nx cg tr way Str n wd who (24 - now) now (X0 L R z now)
theorem seatsC {σ : AS} {n a b now : Nat} {wd : Nat → Nat} {X : HX} (hn : σ.1 6 0 2 = nI n) (hb8 : n ≤ 8) (hab : (a < n ∧ b < n) ∨ (a = 0 ∧ b = 0)) (H : XCw 1 σ wd id now X) :
    wpO (g_X1_changeSeats 1 (nI a) (nI b) σ) (fun _ σ1 => XCw 1 σ1 wd (swW a b) now X ∧ FrL [(1, 1, 8)] σ σ1) := by
  unfold g_X1_changeSeats
  refine wpO_e (has_eq hn hb8 _) ?_
  have same : a = 0 ∧ b = 0 → XCw 1 σ wd (swW a b) now X := by rintro ⟨rfl, rfl⟩; rw [swW_self]; exact H
  by_cases c1 : a < n
  · by_cases c2 : b < n
    · rw [if_pos (inb_nI c1 (by omega))]
      refine wpO_f one_ne (wpO_e (has_eq hn hb8 _) ?_)
      rw [if_pos (inb_nI c2 (by omega))]
      refine wpO_f one_ne (wpO_t (inb_nI (by omega) (by omega)) (wpO_lt (wpO_t (inb_nI (by omega) (by omega)) (wpO_lt (wpO_some.mpr ?_)))))
      generalize hs : sA (sA σ 1 1 8 (nI a) (nI b)) 1 1 8 (nI b) (nI a) = σ1
      have f : FrL [(1, 1, 8)] σ σ1 := by rw [← hs]; exact (FrL_sA (by decide)).tr (FrL_sA (by decide))
      obtain ⟨F, O, m, ⟨v8, v2, v3, v4, v5, v9, v13, v12, v10, v11⟩, x6, x7, x14⟩ := H
      refine ⟨⟨F, O, m, ⟨?_, ?_, ?_, ?_, ?_, ?_, ?_, ?_, ?_, ?_⟩, ?_, ?_, ?_⟩, f⟩
      · intro j hj
        rw [← hs]
        show (if j = (nI b).toNatClampNeg then nI a else if j = (nI a).toNatClampNeg then nI b else σ.2.1 1 1 8 j) = nI (swW a b j)
        rw [nI_clamp (by omega), nI_clamp (by omega)]
        unfold swW
        by_cases e : j = b
        · rw [if_pos e, if_pos e]
        · rw [if_neg e, if_neg e]
          by_cases e2 : j = a
          · rw [if_pos e2, if_pos e2]
          · rw [if_neg e2, if_neg e2]; exact v8 j hj
      · rw [f.a 1 1 2 (by decide)]; exact v2
      · rw [f.a 1 1 3 (by decide)]; exact v3
      · rw [f.a 1 1 4 (by decide)]; exact v4
      · rw [f.a 1 1 5 (by decide)]; exact v5
      · rw [f.a 1 1 9 (by decide)]; exact v9
      · rw [f.f 1 1 13 (by decide)]; exact v13
      · rw [f.f 1 1 12 (by decide)]; exact v12
      · rw [f.f 1 1 10 (by decide)]; exact v10
      · rw [f.f 1 1 11 (by decide)]; exact v11
      · rw [f.a 1 1 6 (by decide)]; exact x6
      · rw [f.a 1 1 7 (by decide)]; exact x7
      · rw [f.f 1 1 14 (by decide)]; exact x14
    · have h0 : a = 0 ∧ b = 0 := hab.elim (fun z => absurd z.2 c2) id
      rw [if_pos (inb_nI c1 (by omega))]
      refine wpO_f one_ne (wpO_e (has_eq hn hb8 _) ?_)
      rw [if_neg (fun z => c2 ((inb_iffN (by omega)).mp z))]
      exact wpO_t rfl (wpO_some.mpr ⟨same h0, FrL.rf⟩)
  · have h0 : a = 0 ∧ b = 0 := hab.elim (fun z => absurd z.1 c1) id
    rw [if_neg (fun z => c1 ((inb_iffN (by omega)).mp z))]
    exact wpO_t rfl (wpO_some.mpr ⟨same h0, FrL.rf⟩)
theorem thinkChC {nx cg : Int32 → Int32} {σ : AS} {n a b : Nat} {tr way : Nat → Nat → Int32} {Str : (Nat → Int32) → Int32} {wd L R : Nat → Nat} {now : Nat} {z : Int32} (hd : DrawIs nx cg) (h : CTX σ n tr way Str wd L R now) (hp : CTP n way wd L R now) (hab : (a < n ∧ b < n) ∨ (a = 0 ∧ b = 0)) :
    wpO (g_X8_thinkOfChange z (nI a) (nI b) σ) (fun _ σ2 => XCw 1 σ2 wd (swW a b) 24 (VV nx cg tr way Str n wd L R z now (swW a b)) ∧ FrL SAC σ σ2) := by
  obtain ⟨h1, h2, h3, h4, h5, h6, h7, h8, h9, h10, h11, h12⟩ := h
  have hN := hp.2.2
  have hb8 := h1.2.1
  unfold g_X8_thinkOfChange
  refine wpO_b (beginC1 h5 h6 h7 h8) (fun _ σ1 w => ?_)
  obtain ⟨w1, f1⟩ := w
  refine wpO_b (seatsC (h1.fr f1).1 hb8 hab w1) (fun _ σ2 u => ?_)
  obtain ⟨u1, f2⟩ := u
  have F2 : FrL SAC σ σ2 := (f1.mono (by decide)).tr (f2.mono (by decide))
  rw [show (24 : Int32) - gF σ2 1 0 11 = nI (24 - now) from by rw [show gF σ2 1 0 11 = nI now from (F2.f 1 0 11 (by decide)).trans h8, li24, pk_sub hN]]
  have hw : ∀ j, j < n → swW a b j < n := by
    intro j hj
    rcases hab with q | ⟨q1, q2⟩
    · exact swW_lt q.1 q.2 hj
    · rw [q1, q2, swW_self]; exact hj
  refine wpO_b (passW hd hw (by omega) u1 (OKX hp.2.1) (h1.fr F2) (h3.fr F2)) (fun _ σ3 t => wpO_some.mpr ?_)
  obtain ⟨t1, -, f3⟩ := t
  rw [show now + (24 - now) = 24 from by omega] at t1
  exact ⟨t1, F2.tr (f3.mono (by decide))⟩
def smI (f : Nat → Int32) : Nat → Int32
  | 0 => 0
  | k + 1 => smI f k + f k
theorem comfortAllC {σ : AS} {n : Nat} {f : Nat → Int32} (hn : σ.1 6 0 2 = nI n) (hb : n ≤ 8) (hf : ∀ p, p < 8 → σ.2.1 1 1 6 p = f p) : g_X1_comfortOfAll 1 σ = some (smI f n, σ) := by
  have loop : ∀ (d j g : Nat), j + d = n → d < g → g_X1_comfortOfAll_4 1 g (smI f j) (nI j) σ = some (smI f n, σ) := by
    intro d
    induction d with
    | zero =>
      intro j g hj hg
      obtain ⟨g, rfl⟩ : ∃ k, g = k + 1 := ⟨g - 1, by omega⟩
      have e : j = n := by omega
      subst e
      rw [g_X1_comfortOfAll_4, number_eq hn, bnd_some, if_neg (nI_nlt (Nat.le_refl _) (by omega))]
    | succ d ih =>
      intro j g hj hg
      obtain ⟨g, rfl⟩ : ∃ k, g = k + 1 := ⟨g - 1, by omega⟩
      have step := ih (j + 1) g (by omega) (by omega)
      rw [g_X1_comfortOfAll_4, number_eq hn, bnd_some, if_pos (nI_lt (by omega) (by omega)), if_pos (inb_nI (by omega) (by omega)), gA_nI (by omega), hf j (by omega), nI_1]
      exact step
  unfold g_X1_comfortOfAll
  exact loop n 0 400 (by omega) (by omega)
theorem sumM {σ : AS} {n : Nat} {f : Nat → Int32} (hn : σ.1 9 0 6 = nI n) (hb : n ≤ 8) (hf : ∀ p, p < 8 → σ.2.1 9 0 30 p = f p) : g_X9_allThatComes_16 400 0 0 σ = some (smI f n, σ) := by
  have loop : ∀ (d j g : Nat), j + d = n → d < g → g_X9_allThatComes_16 g (smI f j) (nI j) σ = some (smI f n, σ) := by
    intro d
    induction d with
    | zero =>
      intro j g hj hg
      obtain ⟨g, rfl⟩ : ∃ k, g = k + 1 := ⟨g - 1, by omega⟩
      have e : j = n := by omega
      subst e
      rw [g_X9_allThatComes_16, show gF σ 9 0 6 = nI j from hn, if_neg (nI_nlt (Nat.le_refl _) (by omega))]
    | succ d ih =>
      intro j g hj hg
      obtain ⟨g, rfl⟩ : ∃ k, g = k + 1 := ⟨g - 1, by omega⟩
      have step := ih (j + 1) g (by omega) (by omega)
      rw [g_X9_allThatComes_16, show gF σ 9 0 6 = nI n from hn, if_pos (nI_lt (by omega) (by omega)), if_pos (inb_nI (by omega) (by omega)), gA_nI (by omega), hf j (by omega), nI_1]
      exact step
  exact loop n 0 400 (by omega) (by omega)
theorem swapsM {σ : AS} {a b : Nat} {who : Nat → Nat} (ha : a < 8) (hb : b < 8) (h14 : ∀ j, j < 8 → σ.2.1 9 0 14 j = nI (who j)) : wpO (g_X9_swaps (nI a) (nI b) σ) (fun _ σ1 => (∀ j, j < 8 → σ1.2.1 9 0 14 j = nI (who (swW a b j))) ∧ FrL [(9, 0, 14)] σ σ1) := by
  unfold g_X9_swaps
  refine wpO_t (inb_nI ha (by omega)) (wpO_lt (wpO_t (inb_nI hb (by omega)) (wpO_lt (wpO_lt (wpO_some.mpr ⟨fun j hj => ?_, (FrL_sA (by decide)).tr (FrL_sA (by decide))⟩)))))
  rw [gA_nI (by omega), gA_nI (by omega), h14 a ha, h14 b hb]
  show (if j = (nI b).toNatClampNeg then nI (who a) else if j = (nI a).toNatClampNeg then nI (who b) else σ.2.1 9 0 14 j) = _
  rw [nI_clamp (by omega), nI_clamp (by omega)]
  unfold swW
  by_cases e : j = b
  · rw [if_pos e, if_pos e]
  · rw [if_neg e, if_neg e]
    by_cases e2 : j = a
    · rw [if_pos e2, if_pos e2]
    · rw [if_neg e2, if_neg e2]; exact h14 j hj
theorem goesWho {nx cg : Int32 → Int32} {σ : AS} {n : Nat} {tr way : Nat → Nat → Int32} {Str : (Nat → Int32) → Int32} {wd L R who : Nat → Nat} {now : Nat} {z : Int32} (hd : DrawIs nx cg) (h : CTX σ n tr way Str wd L R now) (hp : CTP n way wd L R now) (hw : ∀ j, j < n → who j < n) (h14 : ∀ j, j < 8 → σ.2.1 9 0 14 j = nI (who j)) :
    wpO (g_X9_goesOn z (24 - gF σ 9 0 13) σ) (fun _ σ2 => VMw 33 σ2 who (VV nx cg tr way Str n wd L R z now who) ∧ FrL (SH 33) σ σ2) := by
  obtain ⟨h1, h2, h3, h4, h5, h6, h7, h8, h9, h10, h11, h12⟩ := h
  have hN := hp.2.2
  rw [show (24 : Int32) - gF σ 9 0 13 = nI (24 - now) from by rw [show gF σ 9 0 13 = nI now from h12, li24, pk_sub hN]]
  exact goesOnM hd hp.1 hw (by omega) h2 h4 h12 h9 h14 h10 h11 (OKX hp.2.1)
/-- seats are as they were -/
theorem Inv.fr14 {S : List (Nat × Nat × Nat)} {σ σ1 : AS} (h : Inv σ) (F : FrL S σ σ1) (q : ∀ z ∈ D2C ++ ([(9, 0, 7), (9, 0, 9), (9, 0, 10), (9, 0, 11), (9, 0, 12), (9, 0, 13), (9, 0, 31), (9, 0, 32)] ++ (DIM ++ (D1 ++ (D3 ++ (D4 ++ D5))))), z ∉ S) (h14 : ∀ j, j < 8 → σ1.2.1 9 0 14 j = nI j) : Inv σ1 := by
  obtain ⟨x, y, z, g1, g2, g3⟩ := h.2.1
  obtain ⟨d0, d1, d2, d3, d4, d5, d6, d7⟩ := (g2.1 : CrM σ x)
  have q0 := inL (inR q)
  refine h.of2 F ⟨x, y, z, g1.fr F (inL q), ⟨⟨?_, ?_, ?_, ?_, ?_, ?_, ?_, h14⟩, g2.2.1.fr F (q0 _ (by decide)) (q0 _ (by decide)), g2.2.2.fr F (inL (inR (inR q)))⟩, g3⟩ (inR (inR (inR q)))
  · rw [F.a 9 0 7 (q0 _ (by decide))]; exact d0
  · rw [F.a 9 0 9 (q0 _ (by decide))]; exact d1
  · rw [F.a 9 0 9 (q0 _ (by decide))]; exact d2
  · rw [F.a 9 0 10 (q0 _ (by decide))]; exact d3
  · rw [F.a 9 0 11 (q0 _ (by decide))]; exact d4
  · rw [F.f 9 0 12 (q0 _ (by decide))]; exact d5
  · rw [F.f 9 0 13 (q0 _ (by decide))]; exact d6
def seatR (val : Nat → Int32) : Nat → Nat → Nat → Int32 → Nat
  | 0, _, best, _ => best
  | d + 1, to, best, most => if most < val to then seatR val d (to + 1) to (val to) else seatR val d (to + 1) best most
abbrev SA14 : List (Nat × Nat × Nat) := SAM ++ [(9, 0, 14)]
theorem seatLoopC {nx cg : Int32 → Int32} {σ0 : AS} {n p : Nat} {tr way : Nat → Nat → Int32} {Str : (Nat → Int32) → Int32} {wd L R : Nat → Nat} {now : Nat} {z : Int32} (hd : DrawIs nx cg) (h : CTX σ0 n tr way Str wd L R now) (hp : CTP n way wd L R now) (hpn : p < n) :
    ∀ (d to f best : Nat) (most : Int32) (σ : AS), to + d = n → d < f → FrL SAC σ0 σ → wpO (g_X8_seat_36 f z (nI p) (nI best) most (nI to) σ) (fun r σ2 => r = nI (seatR (fun to => (VV nx cg tr way Str n wd L R z now (swW p to)).2.1 p) d to best most) ∧ FrL SAC σ0 σ2) := by
  have hb8 := h.1.2.1
  intro d
  induction d with
  | zero =>
    intro to f best most σ ht hf fr
    obtain ⟨f, rfl⟩ : ∃ g, f = g + 1 := ⟨f - 1, by omega⟩
    rw [g_X8_seat_36]
    refine wpO_e (number_eq (h.fr fr (by decide)).1.1) ?_
    exact wpO_f (nI_nlt (by omega) (by omega)) (wpO_some.mpr ⟨rfl, fr⟩)
  | succ d ih =>
    intro to f best most σ ht hf fr
    obtain ⟨f, rfl⟩ : ∃ g, f = g + 1 := ⟨f - 1, by omega⟩
    have cx := h.fr fr (by decide)
    rw [g_X8_seat_36, nI_1]
    refine wpO_e (number_eq cx.1.1) (wpO_t (nI_lt (by omega) (by omega)) (wpO_b (thinkChC hd cx hp (Or.inl ⟨hpn, (show to < n by omega)⟩)) (fun _ σ1 w => ?_)))
    obtain ⟨⟨F, O, m, xc⟩, f1⟩ := w
    have e6 : gA σ1 1 1 6 (nI p) = (VV nx cg tr way Str n wd L R z now (swW p to)).2.1 p := by rw [gA_nI (by omega)]; exact xc.2.1 p (by omega)
    rw [e6, seatR]
    refine wpO_t (inb_nI (by omega) (by omega)) ?_
    by_cases c : most < (VV nx cg tr way Str n wd L R z now (swW p to)).2.1 p
    · rw [if_pos c, if_pos c]; exact wpO_lt (ih (to + 1) f to _ σ1 (by omega) (by omega) (fr.tr f1))
    · rw [if_neg c, if_neg c]; exact ih (to + 1) f best most σ1 (by omega) (by omega) (fr.tr f1)
theorem seatLoopM {nx cg : Int32 → Int32} {σ0 : AS} {n p : Nat} {tr way : Nat → Nat → Int32} {Str : (Nat → Int32) → Int32} {wd L R : Nat → Nat} {now : Nat} {z : Int32} (hd : DrawIs nx cg) (h : CTX σ0 n tr way Str wd L R now) (hp : CTP n way wd L R now) (hpn : p < n) :
    ∀ (d to f best : Nat) (most : Int32) (σ : AS), to + d = n → d < f → FrL SA14 σ0 σ → (∀ j, j < 8 → σ.2.1 9 0 14 j = nI j) → ¬ most < (VV nx cg tr way Str n wd L R z now (swW p p)).2.1 p →
      wpO (g_X9_seat_35 f z (nI p) (nI best) most (nI to) σ) (fun r σ2 => r = nI (seatR (fun to => (VV nx cg tr way Str n wd L R z now (swW p to)).2.1 p) d to best most) ∧ FrL SA14 σ0 σ2 ∧ ∀ j, j < 8 → σ2.2.1 9 0 14 j = nI j) := by
  have hb8 := h.1.2.1
  intro d
  induction d with
  | zero =>
    intro to f best most σ ht hf fr h14 hm
    obtain ⟨f, rfl⟩ : ∃ g, f = g + 1 := ⟨f - 1, by omega⟩
    rw [g_X9_seat_35, show gF σ 9 0 6 = nI n from (h.fr fr (by decide)).2.1.1]
    exact wpO_f (nI_nlt (by omega) (by omega)) (wpO_some.mpr ⟨rfl, fr, h14⟩)
  | succ d ih =>
    intro to f best most σ ht hf fr h14 hm
    obtain ⟨f, rfl⟩ : ∃ g, f = g + 1 := ⟨f - 1, by omega⟩
    have cx := h.fr fr (by decide)
    rw [g_X9_seat_35, show gF σ 9 0 6 = nI n from cx.2.1.1, nI_1]
    refine wpO_t (nI_lt (by omega) (by omega)) ?_
    by_cases e : to = p
    · subst e
      refine wpO_t rfl ?_
      have s1 := ih (to + 1) f best most σ (by omega) (by omega) fr h14 hm
      rw [seatR, if_neg hm]
      exact s1
    · refine wpO_f (fun q => e ((nI_eq (by omega) (by omega)).mp q)) (wpO_b (swapsM (who := id) (by omega) (by omega) h14) (fun _ σ1 w => ?_))
      obtain ⟨w14, f1⟩ := w
      have cx1 := cx.fr f1 (by decide)
      refine wpO_b (goesWho (who := swW p to) hd cx1 hp (fun j hj => swW_lt hpn (by omega) hj) w14) (fun _ σ2 u => ?_)
      obtain ⟨u1, f2⟩ := u
      obtain ⟨⟨F, O, m, V⟩, u30⟩ := u1
      refine wpO_b (swapsM (a := p) (b := to) (by omega) (by omega) V.1) (fun _ σ3 t => ?_)
      obtain ⟨t14, f3⟩ := t
      have fr3 : FrL SA14 σ0 σ3 := ((fr.tr (f1.mono (by decide))).tr (f2.mono (by decide))).tr (f3.mono (by decide))
      have h14' : ∀ j, j < 8 → σ3.2.1 9 0 14 j = nI j := fun j hj => by rw [t14 j hj, swW_inv]
      have e30 : gA σ3 9 0 30 (nI p) = (VV nx cg tr way Str n wd L R z now (swW p to)).2.1 p := by rw [gA_nI (by omega), f3.a 9 0 30 (by decide)]; exact u30 p (by omega)
      rw [e30, seatR]
      refine wpO_t (inb_nI (by omega) (by omega)) ?_
      by_cases c : most < (VV nx cg tr way Str n wd L R z now (swW p to)).2.1 p
      · rw [if_pos c, if_pos c]; exact wpO_lt (ih (to + 1) f to _ σ3 (by omega) (by omega) fr3 h14' (fun q => hm (Int32.lt_trans c q)))
      · rw [if_neg c, if_neg c]; exact ih (to + 1) f best most σ3 (by omega) (by omega) fr3 h14' hm
theorem op_seat (z b : Int32) : Both (g_X8_seat z b) (g_X9_seat z b) := by
  intro σ h
  obtain ⟨n, tr, way, Str, wd, L, R, now, cx, cp, h14, h8⟩ := h.ctx
  obtain ⟨nx, cg, hd⟩ : ∃ nx cg, DrawIs nx cg := ⟨_, _, fun _ => rfl, fun _ => rfl⟩
  have hb8 := cx.1.2.1
  unfold g_X8_seat g_X9_seat
  refine wpO_e (has_eq cx.1.1 hb8 b) ?_
  by_cases c1 : inb b n
  · obtain ⟨p, hp, rfl⟩ := inb_ex c1
    rw [if_pos c1]
    refine wpO_f one_ne (wpO_b (thinkChC hd cx cp (Or.inl ⟨hp, hp⟩)) (fun _ σ1 w => ?_))
    obtain ⟨⟨F, O, m, xc⟩, f1⟩ := w
    have e6 : gA σ1 1 1 6 (nI p) = (VV nx cg tr way Str n wd L R z now (swW p p)).2.1 p := by rw [gA_nI (by omega)]; exact xc.2.1 p (by omega)
    rw [e6]
    refine wpO_t (inb_nI (by omega) (by omega)) (wpO_lt (wpO_mono (seatLoopC (σ0 := σ1) hd (cx.fr f1 (by decide)) cp hp n 0 400 p _ σ1 (by omega) (by omega) FrL.rf) ?_))
    intro r σ2 u
    obtain ⟨rfl, f2⟩ := u
    have F2 : FrL SAC σ σ2 := f1.tr f2
    have cx2 := cx.fr F2 (by decide)
    have h14' : ∀ j, j < 8 → σ2.2.1 9 0 14 j = nI j := fun j hj => by rw [F2.a 9 0 14 (by decide)]; exact h14 j hj
    refine wpO_e (isSitterM_eq cx2.2.1.1 hb8 _) ?_
    rw [if_pos c1]
    refine wpO_f one_ne (wpO_b (goesWho (who := id) hd cx2 cp (fun j hj => hj) h14') (fun _ σ3 u => ?_))
    obtain ⟨⟨⟨F', O', m', V⟩, u30⟩, f3⟩ := u
    have e30 : gA σ3 9 0 30 (nI p) = (VV nx cg tr way Str n wd L R z now (swW p p)).2.1 p := by rw [gA_nI (by omega), swW_self]; exact u30 p (by omega)
    rw [e30]
    refine wpO_t (inb_nI (by omega) (by omega)) (wpO_lt (wpO_mono (seatLoopM (σ0 := σ3) hd (cx2.fr f3 (by decide)) cp hp n 0 400 p _ σ3 (by omega) (by omega) FrL.rf V.1 (fun q => Int32.lt_irrefl q)) ?_))
    intro r σ4 t
    obtain ⟨rfl, f4, t14⟩ := t
    exact ⟨rfl, h.fr14 (S := SAC ++ SA14) ((F2.mono (by decide)).tr ((f3.mono (by decide)).tr (f4.mono (by decide)))) (by decide) t14⟩
  · rw [if_neg c1]
    refine wpO_t rfl (wpO_some.mpr (wpO_e (isSitterM_eq cx.2.1.1 hb8 _) ?_))
    rw [if_neg c1]
    exact wpO_t rfl (wpO_some.mpr ⟨rfl, h⟩)
def chI (val : Nat → Nat → Int32) (a : Nat) : Nat → Nat → Int32 → Int32 → Int32 × Int32
  | 0, _, best, most => (best, most)
  | d + 1, b, best, most => if most < val a b then chI val a d (b + 1) (nI (10 * a + b)) (val a b) else chI val a d (b + 1) best most
def chO (val : Nat → Nat → Int32) (n : Nat) : Nat → Nat → Int32 → Int32 → Int32
  | 0, _, best, _ => best
  | d + 1, a, best, most => chO val n d (a + 1) (chI val a (n - (a + 1)) (a + 1) best most).1 (chI val a (n - (a + 1)) (a + 1) best most).2
theorem chInC {nx cg : Int32 → Int32} {σ0 : AS} {n a : Nat} {tr way : Nat → Nat → Int32} {Str : (Nat → Int32) → Int32} {wd L R : Nat → Nat} {now : Nat} {z : Int32} (hd : DrawIs nx cg) (h : CTX σ0 n tr way Str wd L R now) (hp : CTP n way wd L R now) (ha : a < n) {K : Int32 → Int32 → Int32 → Int32 → AS → Option (Int32 × AS)} {Q : Int32 → AS → Prop} :
    ∀ (d b f : Nat) (best most : Int32) (σ : AS), b + d = n → d < f → FrL SAC σ0 σ → (∀ σ1, FrL SAC σ0 σ1 → wpO (K z (chI (fun a b => smI (VV nx cg tr way Str n wd L R z now (swW a b)).2.1 n) a d b best most).1 (chI (fun a b => smI (VV nx cg tr way Str n wd L R z now (swW a b)).2.1 n) a d b best most).2 (nI (a + 1)) σ1) Q) →
      wpO (g_X8_change_39 K f z best most (nI a) (nI b) σ) Q := by
  have hb8 := h.1.2.1
  intro d
  induction d with
  | zero =>
    intro b f best most σ ht hf fr hK
    obtain ⟨f, rfl⟩ : ∃ g, f = g + 1 := ⟨f - 1, by omega⟩
    rw [g_X8_change_39, nI_1, nI_1]
    refine wpO_e (number_eq (h.fr fr (by decide)).1.1) ?_
    exact wpO_f (nI_nlt (by omega) (by omega)) (hK σ fr)
  | succ d ih =>
    intro b f best most σ ht hf fr hK
    obtain ⟨f, rfl⟩ : ∃ g, f = g + 1 := ⟨f - 1, by omega⟩
    have cx := h.fr fr (by decide)
    have e10 : (10 : Int32) * nI a + nI b = nI (10 * a + b) := by rw [li10, pk_mul, nI_add]
    rw [g_X8_change_39, nI_1, nI_1, e10]
    refine wpO_e (number_eq cx.1.1) (wpO_t (nI_lt (by omega) (by omega)) (wpO_b (thinkChC hd cx hp (Or.inl ⟨ha, (show b < n by omega)⟩)) (fun _ σ1 w => ?_)))
    obtain ⟨⟨F, O, m, xc⟩, f1⟩ := w
    have cx1 := cx.fr f1 (by decide)
    have es := comfortAllC cx1.1.1 hb8 xc.2.1
    rw [chI] at hK
    refine wpO_e es ?_
    by_cases c : most < smI (VV nx cg tr way Str n wd L R z now (swW a b)).2.1 n
    · rw [if_pos c] at hK
      exact wpO_t c (wpO_e es (wpO_lt (ih (b + 1) f _ _ σ1 (by omega) (by omega) (fr.tr f1) hK)))
    · rw [if_neg c] at hK
      exact wpO_f c (ih (b + 1) f best most σ1 (by omega) (by omega) (fr.tr f1) hK)
theorem chOutC {nx cg : Int32 → Int32} {σ0 : AS} {n : Nat} {tr way : Nat → Nat → Int32} {Str : (Nat → Int32) → Int32} {wd L R : Nat → Nat} {now : Nat} {z : Int32} (hd : DrawIs nx cg) (h : CTX σ0 n tr way Str wd L R now) (hp : CTP n way wd L R now) :
    ∀ (d a f : Nat) (best most : Int32) (σ : AS), a + d = n → d < f → FrL SAC σ0 σ → wpO (g_X8_change_21 f z best most (nI a) σ) (fun r σ2 => r = chO (fun a b => smI (VV nx cg tr way Str n wd L R z now (swW a b)).2.1 n) n d a best most ∧ FrL SAC σ0 σ2) := by
  have hb8 := h.1.2.1
  intro d
  induction d with
  | zero =>
    intro a f best most σ ht hf fr
    obtain ⟨f, rfl⟩ : ∃ g, f = g + 1 := ⟨f - 1, by omega⟩
    rw [g_X8_change_21]
    refine wpO_e (number_eq (h.fr fr (by decide)).1.1) ?_
    exact wpO_f (nI_nlt (by omega) (by omega)) (wpO_some.mpr ⟨rfl, fr⟩)
  | succ d ih =>
    intro a f best most σ ht hf fr
    obtain ⟨f, rfl⟩ : ∃ g, f = g + 1 := ⟨f - 1, by omega⟩
    rw [g_X8_change_21, nI_1, chO]
    refine wpO_e (number_eq (h.fr fr (by decide)).1.1) (wpO_t (nI_lt (by omega) (by omega)) (wpO_lt (chInC hd h hp (by omega) (n - (a + 1)) (a + 1) 400 best most σ (by omega) (by omega) fr (fun σ1 f1 => ih (a + 1) f _ _ σ1 (by omega) (by omega) f1))))
theorem allThatM {nx cg : Int32 → Int32} {σ : AS} {n : Nat} {tr way : Nat → Nat → Int32} {Str : (Nat → Int32) → Int32} {wd L R who : Nat → Nat} {now : Nat} {z : Int32} (hd : DrawIs nx cg) (h : CTX σ n tr way Str wd L R now) (hp : CTP n way wd L R now) (hw : ∀ j, j < n → who j < n) (h14 : ∀ j, j < 8 → σ.2.1 9 0 14 j = nI (who j)) :
    wpO (g_X9_allThatComes z σ) (fun r σ2 => r = smI (VV nx cg tr way Str n wd L R z now who).2.1 n ∧ (∀ j, j < 8 → σ2.2.1 9 0 14 j = nI (who j)) ∧ FrL (SH 33) σ σ2) := by
  unfold g_X9_allThatComes
  refine wpO_b (goesWho hd h hp hw h14) (fun _ σ2 u => ?_)
  obtain ⟨⟨⟨F, O, m, V⟩, u30⟩, f⟩ := u
  have cx2 := h.fr f (by decide)
  rw [sumM cx2.2.1.1 h.1.2.1 u30]
  exact wpO_some.mpr ⟨rfl, V.1, f⟩
theorem chInM {nx cg : Int32 → Int32} {σ0 : AS} {n a : Nat} {tr way : Nat → Nat → Int32} {Str : (Nat → Int32) → Int32} {wd L R : Nat → Nat} {now : Nat} {z : Int32} (hd : DrawIs nx cg) (h : CTX σ0 n tr way Str wd L R now) (hp : CTP n way wd L R now) (ha : a < n) {K : Int32 → Int32 → Int32 → Int32 → AS → Option (Int32 × AS)} {Q : Int32 → AS → Prop} :
    ∀ (d b f : Nat) (best most : Int32) (σ : AS), b + d = n → d < f → FrL SA14 σ0 σ → (∀ j, j < 8 → σ.2.1 9 0 14 j = nI j) → (∀ σ1, FrL SA14 σ0 σ1 → (∀ j, j < 8 → σ1.2.1 9 0 14 j = nI j) → wpO (K z (chI (fun a b => smI (VV nx cg tr way Str n wd L R z now (swW a b)).2.1 n) a d b best most).1 (chI (fun a b => smI (VV nx cg tr way Str n wd L R z now (swW a b)).2.1 n) a d b best most).2 (nI (a + 1)) σ1) Q) →
      wpO (g_X9_change_27 K f z best most (nI a) (nI b) σ) Q := by
  have hb8 := h.1.2.1
  intro d
  induction d with
  | zero =>
    intro b f best most σ ht hf fr h14 hK
    obtain ⟨f, rfl⟩ : ∃ g, f = g + 1 := ⟨f - 1, by omega⟩
    rw [g_X9_change_27, nI_1, nI_1, show gF σ 9 0 6 = nI n from (h.fr fr (by decide)).2.1.1]
    exact wpO_f (nI_nlt (by omega) (by omega)) (hK σ fr h14)
  | succ d ih =>
    intro b f best most σ ht hf fr h14 hK
    obtain ⟨f, rfl⟩ : ∃ g, f = g + 1 := ⟨f - 1, by omega⟩
    have cx := h.fr fr (by decide)
    have e10 : (10 : Int32) * nI a + nI b = nI (10 * a + b) := by rw [li10, pk_mul, nI_add]
    rw [g_X9_change_27, nI_1, nI_1, e10, show gF σ 9 0 6 = nI n from cx.2.1.1]
    refine wpO_t (nI_lt (by omega) (by omega)) (wpO_b (swapsM (who := id) (by omega) (by omega) h14) (fun _ σ1 w => ?_))
    obtain ⟨w14, f1⟩ := w
    have cx1 := cx.fr f1 (by decide)
    refine wpO_b (allThatM (who := swW a b) hd cx1 hp (fun j hj => swW_lt ha (by omega) hj) w14) (fun r σ2 u => ?_)
    obtain ⟨rfl, u14, f2⟩ := u
    refine wpO_b (swapsM (a := a) (b := b) (by omega) (by omega) u14) (fun _ σ3 t => ?_)
    obtain ⟨t14, f3⟩ := t
    have fr3 : FrL SA14 σ0 σ3 := ((fr.tr (f1.mono (by decide))).tr (f2.mono (by decide))).tr (f3.mono (by decide))
    have h14' : ∀ j, j < 8 → σ3.2.1 9 0 14 j = nI j := fun j hj => by rw [t14 j hj, swW_inv]
    rw [chI] at hK
    by_cases c : most < smI (VV nx cg tr way Str n wd L R z now (swW a b)).2.1 n
    · rw [if_pos c] at hK
      exact wpO_t c (wpO_lt (ih (b + 1) f _ _ σ3 (by omega) (by omega) fr3 h14' hK))
    · rw [if_neg c] at hK
      exact wpO_f c (ih (b + 1) f best most σ3 (by omega) (by omega) fr3 h14' hK)
theorem chOutM {nx cg : Int32 → Int32} {σ0 : AS} {n : Nat} {tr way : Nat → Nat → Int32} {Str : (Nat → Int32) → Int32} {wd L R : Nat → Nat} {now : Nat} {z : Int32} (hd : DrawIs nx cg) (h : CTX σ0 n tr way Str wd L R now) (hp : CTP n way wd L R now) :
    ∀ (d a f : Nat) (best most : Int32) (σ : AS), a + d = n → d < f → FrL SA14 σ0 σ → (∀ j, j < 8 → σ.2.1 9 0 14 j = nI j) → wpO (g_X9_change_12 f z best most (nI a) σ) (fun r σ2 => r = chO (fun a b => smI (VV nx cg tr way Str n wd L R z now (swW a b)).2.1 n) n d a best most ∧ FrL SA14 σ0 σ2 ∧ ∀ j, j < 8 → σ2.2.1 9 0 14 j = nI j) := by
  have hb8 := h.1.2.1
  intro d
  induction d with
  | zero =>
    intro a f best most σ ht hf fr h14
    obtain ⟨f, rfl⟩ : ∃ g, f = g + 1 := ⟨f - 1, by omega⟩
    rw [g_X9_change_12, show gF σ 9 0 6 = nI n from (h.fr fr (by decide)).2.1.1]
    exact wpO_f (nI_nlt (by omega) (by omega)) (wpO_some.mpr ⟨rfl, fr, h14⟩)
  | succ d ih =>
    intro a f best most σ ht hf fr h14
    obtain ⟨f, rfl⟩ : ∃ g, f = g + 1 := ⟨f - 1, by omega⟩
    rw [g_X9_change_12, nI_1, chO, show gF σ 9 0 6 = nI n from (h.fr fr (by decide)).2.1.1]
    exact wpO_t (nI_lt (by omega) (by omega)) (wpO_lt (chInM hd h hp (by omega) (n - (a + 1)) (a + 1) 400 best most σ (by omega) (by omega) fr h14 (fun σ1 f1 q1 => ih (a + 1) f _ _ σ1 (by omega) (by omega) f1 q1)))
theorem op_change (z : Int32) : Both (g_X8_change z) (g_X9_change z) := by
  intro σ h
  obtain ⟨n, tr, way, Str, wd, L, R, now, cx, cp, h14, h8⟩ := h.ctx
  obtain ⟨nx, cg, hd⟩ : ∃ nx cg, DrawIs nx cg := ⟨_, _, fun _ => rfl, fun _ => rfl⟩
  have hb8 := cx.1.2.1
  unfold g_X8_change g_X9_change
  refine wpO_b (show wpO (g_X8_thinkOfChange z (nI 0) (nI 0) σ) _ from thinkChC hd cx cp (Or.inr ⟨rfl, rfl⟩)) (fun _ σ1 w => ?_)
  obtain ⟨⟨F, O, m, xc⟩, f1⟩ := w
  have cx1 := cx.fr f1 (by decide)
  refine wpO_e (comfortAllC cx1.1.1 hb8 xc.2.1) (wpO_mono (chOutC (σ0 := σ1) hd cx1 cp n 0 400 _ _ σ1 (by omega) (by omega) FrL.rf) ?_)
  intro r σ2 u
  obtain ⟨rfl, f2⟩ := u
  have F2 : FrL SAC σ σ2 := f1.tr f2
  have cx2 := cx.fr F2 (by decide)
  have h14' : ∀ j, j < 8 → σ2.2.1 9 0 14 j = nI j := fun j hj => by rw [F2.a 9 0 14 (by decide)]; exact h14 j hj
  refine wpO_b (allThatM (who := id) hd cx2 cp (fun j hj => hj) h14') (fun r σ3 u => ?_)
  obtain ⟨rfl, u14, f3⟩ := u
  rw [swW_self]
  refine wpO_mono (chOutM (σ0 := σ3) hd (cx2.fr f3 (by decide)) cp n 0 400 _ _ σ3 (by omega) (by omega) FrL.rf u14) ?_
  intro r σ4 t
  obtain ⟨rfl, f4, t14⟩ := t
  exact ⟨rfl, h.fr14 (S := SAC ++ SA14) ((F2.mono (by decide)).tr ((f3.mono (by decide)).tr (f4.mono (by decide)))) (by decide) t14⟩
