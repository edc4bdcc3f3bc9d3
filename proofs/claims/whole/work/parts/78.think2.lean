/-! what the thinking calls look at -/
def CTX (σ : AS) (n : Nat) (tr way : Nat → Nat → Int32) (Str : (Nat → Int32) → Int32) (wd L R : Nat → Nat) (now : Nat) : Prop :=
  EnvC σ n tr way ∧ EnvM σ n tr way ∧ StrC σ Str ∧ StrM σ Str ∧ (∀ i, i < 7 → σ.2.1 1 0 2 i = nI (wd i)) ∧ (∀ i, i < 7 → σ.2.1 1 0 3 i = nI (L i)) ∧ (∀ i, i < 7 → σ.2.1 1 0 4 i = nI (R i)) ∧ σ.1 1 0 11 = nI now ∧
  (∀ i, i < 7 → σ.2.1 9 0 7 i = nI (wd i)) ∧ (∀ i, i < 7 → σ.2.1 9 0 9 (2 * i) = nI (L i)) ∧ (∀ i, i < 7 → σ.2.1 9 0 9 (2 * i + 1) = nI (R i)) ∧ σ.1 9 0 13 = nI now
def CTP (n : Nat) (way : Nat → Nat → Int32) (wd L R : Nat → Nat) (now : Nat) : Prop := WayOK n way ∧ ((∀ i, i < 7 → L i + R i ≤ wd i) ∧ ∀ i, i < 7 → wd i ≤ 9) ∧ now ≤ 24
abbrev DCX : List (Nat × Nat × Nat) := [(6, 0, 2), (6, 0, 0), (6, 0, 1), (9, 0, 6), (9, 0, 0), (9, 0, 8), (3, 0, 4), (3, 0, 0), (3, 0, 1), (9, 0, 18), (9, 0, 17), (1, 0, 2), (1, 0, 3), (1, 0, 4), (1, 0, 11), (9, 0, 7), (9, 0, 9), (9, 0, 13)]
theorem CTX.fr {S : List (Nat × Nat × Nat)} {σ σ1 : AS} {n : Nat} {tr way : Nat → Nat → Int32} {Str : (Nat → Int32) → Int32} {wd L R : Nat → Nat} {now : Nat} (h : CTX σ n tr way Str wd L R now) (f : FrL S σ σ1) (q : ∀ z ∈ DCX, z ∉ S) : CTX σ1 n tr way Str wd L R now := by
  obtain ⟨h1, h2, h3, h4, h5, h6, h7, h8, h9, h10, h11, h12⟩ := h
  refine ⟨h1.fr f (q _ (by decide)) (q _ (by decide)) (q _ (by decide)), h2.fr f (q _ (by decide)) (q _ (by decide)) (q _ (by decide)), h3.fr f (q _ (by decide)) (q _ (by decide)) (q _ (by decide)), h4.fr f (q _ (by decide)) (q _ (by decide)), ?_, ?_, ?_, ?_, ?_, ?_, ?_, ?_⟩
  · rw [f.a 1 0 2 (q _ (by decide))]; exact h5
  · rw [f.a 1 0 3 (q _ (by decide))]; exact h6
  · rw [f.a 1 0 4 (q _ (by decide))]; exact h7
  · rw [f.f 1 0 11 (q _ (by decide))]; exact h8
  · rw [f.a 9 0 7 (q _ (by decide))]; exact h9
  · rw [f.a 9 0 9 (q _ (by decide))]; exact h10
  · rw [f.a 9 0 9 (q _ (by decide))]; exact h11
  · rw [f.f 9 0 13 (q _ (by decide))]; exact h12
theorem Inv.ctx {σ : AS} (h : Inv σ) : ∃ n tr way Str wd L R now, CTX σ n tr way Str wd L R now ∧ CTP n way wd L R now ∧ (∀ j, j < 8 → σ.2.1 9 0 14 j = nI j) ∧ ∀ j, j < 8 → σ.2.1 1 0 8 j = nI j := by
  obtain ⟨n, t, w, d, aa, c0, h1, h2, h3⟩ := h.1
  obtain ⟨⟨wd, L, R, cm, yl, fi, now⟩, y, z, g1, g2, g3⟩ := h.2.1
  obtain ⟨ls, len, T, k1, k2, k3⟩ := h.2.2.2.1
  obtain ⟨sC, sM⟩ := G4.strs k1 k2 k3
  obtain ⟨c0, c1, c2, c3, c4, c5, c6, c7⟩ := (g1.1 : CrC σ (wd, L, R, cm, yl, fi, now))
  obtain ⟨d0, d1, d2, d3, d4, d5, d6, d7⟩ := (g2.1 : CrM σ (wd, L, R, cm, yl, fi, now))
  refine ⟨n, _, _, lawS ls, wd, L, R, now, ⟨G1.envC h1 h3, G1.envM h2 h3, sC, sM, c0, c1, c2, c6, d0, d1, d2, d6⟩, ⟨fun p hh hp hhh => ?_, ⟨g3.1.1, g3.1.2.1⟩, g3.1.2.2⟩, d7, c7⟩
  have hn := h3.1
  have := (h3.2.2.1 p hh (by omega) hhh).1
  show nI (w p hh) = 0 ∨ nI (w p hh) = 1 ∨ nI (w p hh) = 2 ∨ nI (w p hh) = 3
  have : w p hh = 0 ∨ w p hh = 1 ∨ w p hh = 2 ∨ w p hh = 3 := by omega
  rcases this with e | e | e | e <;> rw [e] <;> simp [nI]
/-- all that thinking writes -/
abbrev SAC : List (Nat × Nat × Nat) := SB ++ SP 1
abbrev SAM : List (Nat × Nat × Nat) := SThk ++ SH 33
abbrev SAll : List (Nat × Nat × Nat) := SAC ++ SAM
theorem OKX {wd L R : Nat → Nat} {z : Int32} {now : Nat} (h : (∀ i, i < 7 → L i + R i ≤ wd i) ∧ ∀ i, i < 7 → wd i ≤ 9) : OKH wd (X0 L R z now).1 := h
theorem thinkC {nx cg : Int32 → Int32} {σ : AS} {n : Nat} {tr way : Nat → Nat → Int32} {Str : (Nat → Int32) → Int32} {wd L R : Nat → Nat} {now m : Nat} {z : Int32} {Q : Unit → AS → Prop} (hd : DrawIs nx cg) (h : CTX σ n tr way Str wd L R now) (hp : CTP n way wd L R now) (hm : now + m ≤ 24)
    (k : ∀ σ2 : AS, XCw 1 σ2 wd id (now + m) (hHours nx cg tr way Str n wd id m now (X0 L R z now)) → FrL SAC σ σ2 → Q () σ2) :
    wpO (bnd (g_X1_begin 1 0 z σ) fun _ σ1 => g_X1_passHours 1 (nI m) σ1) Q := by
  obtain ⟨h1, h2, h3, h4, h5, h6, h7, h8, h9, h10, h11, h12⟩ := h
  refine wpO_b (beginC1 h5 h6 h7 h8) (fun _ σ1 w => ?_)
  obtain ⟨w1, f1⟩ := w
  refine wpO_mono (passW hd (fun j hj => hj) hm w1 (OKX hp.2.1) (h1.fr f1) (h3.fr f1)) ?_
  intro _ σ2 u
  exact k σ2 u.1 ((f1.mono (by decide)).tr (u.2.2.mono (by decide)))
/-! then -/
def thV (n : Nat) (a1 a2 a3 : Int32) : Prop := inb a1 25 ∧ ((a2 = -1 ∧ a3 = 0) ∨ (inb a2 n ∧ (a3 = 0 ∨ a3 = 1)))
theorem thenC_eq {σ : AS} {n : Nat} (hn : σ.1 6 0 2 = nI n) (hb : n ≤ 8) (a0 a1 a2 a3 : Int32) :
    (thV n a1 a2 a3 → g_X8_then a0 a1 a2 a3 σ = g_X8_then_69 a0 a1 a2 a3 (if a2 = -1 ∧ a3 = 0 then 1 else 0) σ) ∧ (¬ thV n a1 a2 a3 → g_X8_then a0 a1 a2 a3 σ = some (-2000000000, σ)) := by
  have e44 : ∀ v5 s0 : Int32, g_X8_then_44 a0 a1 a2 a3 v5 s0 σ = if inb a1 25 ∧ ¬ (v5 = 0 ∧ s0 = 0) then g_X8_then_69 a0 a1 a2 a3 v5 σ else some (-2000000000, σ) := by
    intro v5 s0
    unfold g_X8_then_44
    rw [ifr2 (show (24 : Int32) = nI 24 from rfl) (by omega)]
    by_cases c : inb a1 25
    · rw [if_pos c]
      by_cases c1 : v5 = 0
      · rw [if_pos c1]
        by_cases c2 : s0 = 0
        · rw [if_pos c2, if_neg (fun z => z.2 ⟨c1, c2⟩)]
        · rw [if_neg c2, if_pos ⟨c, fun z => c2 z.2⟩]
      · rw [if_neg c1, if_pos ⟨c, fun z => c1 z.1⟩]
    · rw [if_neg c, if_neg (fun z => c z.1)]
  have nm : ¬ inb (-1 : Int32) n := fun z => absurd z.1 (by decide)
  have e15 : ∀ v5 : Int32, g_X8_then_15 a0 a1 a2 a3 v5 σ = if inb a1 25 ∧ (¬ v5 = 0 ∨ (inb a2 n ∧ (a3 = 0 ∨ a3 = 1))) then g_X8_then_69 a0 a1 a2 a3 v5 σ else some (-2000000000, σ) := by
    intro v5
    unfold g_X8_then_15 g_X8_then_43 g_X8_then_39
    rw [has_eq hn hb, bnd_some]
    have no : ¬ (inb a2 n ∧ (a3 = 0 ∨ a3 = 1)) → g_X8_then_44 a0 a1 a2 a3 v5 0 σ = if inb a1 25 ∧ (¬ v5 = 0 ∨ (inb a2 n ∧ (a3 = 0 ∨ a3 = 1))) then g_X8_then_69 a0 a1 a2 a3 v5 σ else some (-2000000000, σ) := by
      intro hno
      rw [e44]
      by_cases c : inb a1 25 ∧ ¬ v5 = 0
      · rw [if_pos ⟨c.1, fun z => c.2 z.1⟩, if_pos ⟨c.1, Or.inl c.2⟩]
      · rw [if_neg (fun z => c ⟨z.1, fun q => z.2 ⟨q, rfl⟩⟩), if_neg (fun z => z.2.elim (fun q => c ⟨z.1, q⟩) hno)]
    have yes : (inb a2 n ∧ (a3 = 0 ∨ a3 = 1)) → g_X8_then_44 a0 a1 a2 a3 v5 1 σ = if inb a1 25 ∧ (¬ v5 = 0 ∨ (inb a2 n ∧ (a3 = 0 ∨ a3 = 1))) then g_X8_then_69 a0 a1 a2 a3 v5 σ else some (-2000000000, σ) := by
      intro hy
      rw [e44]
      by_cases c : inb a1 25
      · rw [if_pos ⟨c, fun z => one_ne z.2⟩, if_pos ⟨c, Or.inr hy⟩]
      · rw [if_neg (fun z => c z.1), if_neg (fun z => c z.1)]
    by_cases c : inb a2 n
    · rw [if_pos c, if_neg one_ne]
      by_cases c0 : a3 = 0
      · rw [if_pos c0]; exact yes ⟨c, Or.inl c0⟩
      · rw [if_neg c0]
        by_cases c1 : a3 = 1
        · rw [if_pos c1]; exact yes ⟨c, Or.inr c1⟩
        · rw [if_neg c1]; exact no (fun z => z.2.elim c0 c1)
    · rw [if_neg c, if_pos rfl]; exact no (fun z => c z.1)
  unfold g_X8_then g_X8_then_14
  by_cases c : a2 = -1 ∧ a3 = 0
  · rw [if_pos c.1, if_pos c.2, if_pos c, e15]
    refine ⟨fun z => if_pos ⟨z.1, Or.inl one_ne⟩, fun z => if_neg (fun q => z ⟨q.1, Or.inl c⟩)⟩
  · have e : (if a2 = -1 then if a3 = 0 then g_X8_then_15 a0 a1 a2 a3 1 σ else g_X8_then_15 a0 a1 a2 a3 0 σ else g_X8_then_15 a0 a1 a2 a3 0 σ) = g_X8_then_15 a0 a1 a2 a3 0 σ := by
      by_cases c1 : a2 = -1
      · rw [if_pos c1, if_neg (fun z => c ⟨c1, z⟩)]
      · rw [if_neg c1]
    rw [e, if_neg c, e15]
    refine ⟨fun z => if_pos ⟨z.1, z.2.elim (fun q => absurd q c) Or.inr⟩, fun z => if_neg (fun q => z ⟨q.1, q.2.elim (fun q => absurd rfl q) Or.inr⟩)⟩
theorem thenM_eq {σ : AS} {n : Nat} (hn : σ.1 9 0 6 = nI n) (hb : n ≤ 8) (a0 a1 a2 a3 : Int32) :
    (thV n a1 a2 a3 → g_X9_then a0 a1 a2 a3 σ = g_X9_then_56 a0 a1 a2 a3 (if a2 = -1 ∧ a3 = 0 then 1 else 0) σ) ∧ (¬ thV n a1 a2 a3 → g_X9_then a0 a1 a2 a3 σ = some (-2000000000, σ)) := by
  have e15 : ∀ v5 : Int32, g_X9_then_15 a0 a1 a2 a3 v5 σ = if inb a1 25 ∧ (¬ v5 = 0 ∨ (inb a2 n ∧ (a3 = 0 ∨ a3 = 1))) then g_X9_then_56 a0 a1 a2 a3 v5 σ else some (-2000000000, σ) := by
    intro v5
    unfold g_X9_then_15
    rw [within0_eq a1 24 25 (by decide) (by omega), bnd_some]
    by_cases c : inb a1 25
    · rw [if_pos c, if_neg one_ne]
      by_cases c1 : v5 = 0
      · rw [if_pos c1, isSitterM_eq hn hb, bnd_some]
        by_cases c2 : inb a2 n
        · rw [if_pos c2, if_neg one_ne, within0_eq a3 1 2 (by decide) (by omega), bnd_some]
          by_cases c3 : inb a3 2
          · have h01 : a3 = 0 ∨ a3 = 1 := by
              obtain ⟨p, hp, rfl⟩ := inb_ex c3
              have : p = 0 ∨ p = 1 := by omega
              rcases this with rfl | rfl
              · exact Or.inl rfl
              · exact Or.inr rfl
            rw [if_pos c3, if_neg one_ne, if_pos ⟨c, Or.inr ⟨c2, h01⟩⟩]
          · rw [if_neg c3, if_pos rfl, if_neg]
            rintro ⟨-, q | ⟨-, q | q⟩⟩
            · exact q c1
            · exact c3 (by rw [q]; decide)
            · exact c3 (by rw [q]; decide)
        · rw [if_neg c2, if_pos rfl, if_neg (fun z => z.2.elim (fun q => q c1) (fun q => c2 q.1))]
      · rw [if_neg c1, if_pos ⟨c, Or.inl c1⟩]
    · rw [if_neg c, if_pos rfl, if_neg (fun z => c z.1)]
  unfold g_X9_then g_X9_then_14
  by_cases c : a2 = -1 ∧ a3 = 0
  · rw [if_pos c.1, if_pos c.2, if_pos c, e15]
    refine ⟨fun z => if_pos ⟨z.1, Or.inl one_ne⟩, fun z => if_neg (fun q => z ⟨q.1, Or.inl c⟩)⟩
  · have e : (if a2 = -1 then if a3 = 0 then g_X9_then_15 a0 a1 a2 a3 1 σ else g_X9_then_15 a0 a1 a2 a3 0 σ else g_X9_then_15 a0 a1 a2 a3 0 σ) = g_X9_then_15 a0 a1 a2 a3 0 σ := by
      by_cases c1 : a2 = -1
      · rw [if_pos c1, if_neg (fun z => c ⟨c1, z⟩)]
      · rw [if_neg c1]
    rw [e, if_neg c, e15]
    refine ⟨fun z => if_pos ⟨z.1, z.2.elim (fun q => absurd q c) Or.inr⟩, fun z => if_neg (fun q => z ⟨q.1, q.2.elim (fun q => absurd rfl q) Or.inr⟩)⟩
theorem op_then (a0 a1 a2 a3 : Int32) : Both (g_X8_then a0 a1 a2 a3) (g_X9_then a0 a1 a2 a3) := by
  intro σ h
  obtain ⟨n, tr, way, Str, wd, L, R, now, cx, cp, h14, h8⟩ := h.ctx
  obtain ⟨nx, cg, hd⟩ : ∃ nx cg, DrawIs nx cg := ⟨_, _, fun _ => rfl, fun _ => rfl⟩
  have hb := cx.1.2.1
  have hN := cp.2.2
  obtain ⟨cy, cn⟩ := thenC_eq cx.1.1 hb a0 a1 a2 a3
  by_cases v : thV n a1 a2 a3
  · rw [cy v]
    obtain ⟨k, hk, rfl⟩ := inb_ex v.1
    unfold g_X8_then_69
    have e24 : (24 : Int32) - gF σ 1 0 11 = nI (24 - now) := by rw [show gF σ 1 0 11 = nI now from cx.2.2.2.2.2.2.2.1, li24, pk_sub hN]
    rw [e24]
    by_cases ck : 24 < now + k
    · refine wpO_t (nI_lt (by omega) (by omega)) (wpO_some.mpr ?_)
      rw [(thenM_eq cx.2.1.1 hb a0 (nI k) a2 a3).1 v]
      unfold g_X9_then_56
      refine wpO_t ?_ (wpO_some.mpr ⟨rfl, h⟩)
      rw [show gF σ 9 0 13 = nI now from cx.2.2.2.2.2.2.2.2.2.2.2, nI_add]; exact nI_lt ck (by omega)
    · refine wpO_f (nI_nlt (by omega) (by omega)) ?_
      have key : ∀ (r : Int32) (σ2 : AS), FrL SAC σ σ2 → (∀ σ4 : AS, VMw 33 σ4 id (hHours nx cg tr way Str n wd id k now (X0 L R a0 now)) → EnvM σ4 n tr way → wpO (if (if a2 = -1 ∧ a3 = 0 then (1 : Int32) else 0) = 0 then (if a3 = 0 then (bnd (g_X9_heldBy 33 a2 σ4) fun r11 σ12 => some (r11, σ12)) else (if inb a2 8 then some (gA σ4 9 0 30 a2, σ4) else none)) else some (gF σ4 9 0 26, σ4)) (fun r' σ5 => r = r' ∧ σ5 = σ4)) → wpO (g_X9_then a0 (nI k) a2 a3 σ2) (fun r' σ5 => r = r' ∧ Inv σ5) := by
        intro r σ2 f2 hk4
        have cx2 := cx.fr f2 (by decide)
        rw [(thenM_eq cx2.2.1.1 hb a0 (nI k) a2 a3).1 v]
        unfold g_X9_then_56
        refine wpO_f ?_ (wpO_b (goesOnM (who := id) (L := L) (R := R) (wd := wd) hd cp.1 (fun j hj => hj) (by omega) cx2.2.1 cx2.2.2.2.1 cx2.2.2.2.2.2.2.2.2.2.2.2 cx2.2.2.2.2.2.2.2.2.1 (fun j hj => by rw [f2.a 9 0 14 (by decide)]; exact h14 j hj) cx2.2.2.2.2.2.2.2.2.2.1 cx2.2.2.2.2.2.2.2.2.2.2.1 (OKX cp.2.1)) (fun _ σ4 w => ?_))
        · rw [show gF σ2 9 0 13 = nI now from cx2.2.2.2.2.2.2.2.2.2.2.2, nI_add]; exact (show ¬ nI 24 < nI (now + k) from nI_nlt (by omega) (by omega))
        · obtain ⟨w1, f4⟩ := w
          have F : FrL SAll σ σ4 := (f2.mono (by decide)).tr (f4.mono (by decide))
          refine wpO_mono (hk4 σ4 w1 (cx2.2.1.fr f4)) ?_
          rintro r' σ5 ⟨rfl, rfl⟩
          exact ⟨rfl, h.fr0 F (by decide)⟩
      have tc := thinkC (Q := fun _ σ2 => wpO (if (if a2 = -1 ∧ a3 = 0 then (1 : Int32) else 0) = 0 then (if a3 = 0 then (bnd (g_X1_inchesOf 1 a2 σ2) fun r14 σ15 => some (r14, σ15)) else (if inb a2 8 then some (gA σ2 1 1 6 a2, σ2) else none)) else some (gF σ2 1 1 12, σ2)) (fun r σ3 => wpO (g_X9_then a0 (nI k) a2 a3 σ3) (fun r' σ5 => r = r' ∧ Inv σ5))) (z := a0) hd cx cp (m := k) (by omega) ?_
      · refine wpO_bnd.mpr (wpO_mono (wpO_bnd.mp tc) (fun _ σ1 w => wpO_bnd.mpr w))
      · intro σ2 xc f2
        obtain ⟨F, O, mm, ⟨⟨v8, v2, v3, v4, v5, v9, v13, v12, v10, v11⟩, x6, x7, x14⟩⟩ := xc
        generalize hX : hHours nx cg tr way Str n wd id k now (X0 L R a0 now) = X at *
        by_cases cf : a2 = -1 ∧ a3 = 0
        · rw [if_pos cf]
          refine wpO_f one_ne (wpO_some.mpr (key _ σ2 f2 (fun σ4 w1 _ => ?_)))
          rw [if_pos cf]
          refine wpO_f one_ne (wpO_some.mpr ⟨?_, rfl⟩)
          obtain ⟨⟨F', O', m', V⟩, -⟩ := w1
          exact v12.trans V.2.2.2.2.2.2.1.symm
        · rw [if_neg cf]
          obtain ⟨c2, c3⟩ := v.2.elim (fun q => absurd q cf) id
          obtain ⟨p, hp, rfl⟩ := inb_ex c2
          refine wpO_t rfl ?_
          by_cases c0 : a3 = 0
          · refine wpO_t c0 (wpO_e (inchesOfC (s := X.1) (cx.1.fr f2) v8 v3 v4 hp) (wpO_some.mpr (key _ σ2 f2 (fun σ4 w1 he => ?_))))
            rw [if_neg cf]
            obtain ⟨⟨F', O', m', V⟩, -⟩ := w1
            exact wpO_t rfl (wpO_t c0 (wpO_e (heldM (s := X.1) (Or.inr rfl) he V.2.1 V.2.2.1 hp) (wpO_some.mpr ⟨rfl, rfl⟩)))
          · have i8 : inb (nI p) 8 := inb_nI (by omega) (by omega)
            refine wpO_f c0 (wpO_t i8 (wpO_some.mpr (key _ σ2 f2 (fun σ4 w1 he => ?_))))
            rw [if_neg cf]
            refine wpO_t rfl (wpO_f c0 (wpO_t i8 (wpO_some.mpr ⟨?_, rfl⟩)))
            rw [gA_nI (by omega), gA_nI (by omega), w1.2 p (by omega)]
            exact x6 p (by omega)
  · rw [cn v]
    refine wpO_some.mpr ?_
    rw [(thenM_eq cx.2.1.1 hb a0 a1 a2 a3).2 v]
    exact wpO_some.mpr ⟨rfl, h⟩
