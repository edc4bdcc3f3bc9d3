theorem within124 (b : Int32) (σ : AS) : g_X9_within b.toInt64 1 24 σ = some (if ¬ b < 1 ∧ ¬ 24 < b then 1 else 0, σ) := by
  rw [within_eq, show (1 : Int64) = (1 : Int32).toInt64 from by decide, show (24 : Int64) = (24 : Int32).toInt64 from by decide]
  simp only [i64_le]
  have e1 : (1 : Int32) ≤ b ↔ ¬ b < 1 := Int32.not_lt.symm
  have e2 : b ≤ 24 ↔ ¬ 24 < b := Int32.not_lt.symm
  simp only [e1, e2]
theorem ledH_lt {nx cg : Int32 → Int32} {wd who : Nat → Nat} {n : Nat} {tr way : Nat → Nat → Int32} {Str : (Nat → Int32) → Int32} {g : Nat} : ∀ (m h : Nat) (X : HX) (y : LEDS), g < h → (ledH nx cg tr way Str n wd who m h X y).1 g = y.1 g ∧ (ledH nx cg tr way Str n wd who m h X y).2.1 g = y.2.1 g ∧ (ledH nx cg tr way Str n wd who m h X y).2.2 g = y.2.2 g
  | 0, _, _, _, _ => ⟨rfl, rfl, rfl⟩
  | m + 1, h, X, y, hg => by
    obtain ⟨a, b, c⟩ := ledH_lt (nx := nx) (cg := cg) (wd := wd) (who := who) (n := n) (tr := tr) (way := way) (Str := Str) (g := g) m (h + 1) (hStep nx cg tr way Str n wd who h X) (ledUp h (hStep nx cg tr way Str n wd who h X) y) (by omega)
    refine ⟨a.trans ?_, b.trans ?_, c.trans ?_⟩
    · funext i; exact if_neg (by omega)
    · funext i; exact if_neg (by omega)
    · funext i; exact if_neg (by omega)
theorem op_go (z b : Int32) : Both (g_X8_go z b) (g_X9_go z b) := by
  intro σ h
  obtain ⟨n, tr, way, Str, wd', L', R', now', cx, cp, h14, h8⟩ := h.ctx
  obtain ⟨nx, cg, hd⟩ : ∃ nx cg, DrawIs nx cg := ⟨_, _, fun _ => rfl, fun _ => rfl⟩
  obtain ⟨⟨wd, L, R, cm, yl, fi, now⟩, y, zz, g1, g2, g3⟩ := h.2.1
  have hN : now ≤ 24 := g3.1.2.2
  obtain ⟨c0, c1, c2, c3, c4, c5, c6, c7⟩ := (g1.1 : CrC σ (wd, L, R, cm, yl, fi, now))
  obtain ⟨d0, d1, d2, d3, d4, d5, d6, d7⟩ := (g2.1 : CrM σ (wd, L, R, cm, yl, fi, now))
  have eN1 : gF σ 1 0 11 = nI now := c6
  have eN2 : gF σ 9 0 13 = nI now := d6
  have hn8 := cx.1.2.1
  unfold g_X8_go g_X9_go
  by_cases v : ¬ b < 1 ∧ ¬ 24 < b
  · obtain ⟨m, hm31, rfl⟩ := nI_of (x := b) (fun q => v.1 (Int32.lt_trans q (by decide)))
    have hm24 : m ≤ 24 := Classical.byContradiction (fun q => v.2 (show nI 24 < nI m from nI_lt (by omega) hm31))
    have q : ∀ {f : Int32 → AS → Option (Int32 × AS)} {Q : Int32 → AS → Prop} {σ1 : AS}, wpO (f 1 σ1) Q → wpO (bnd (g_X9_within (nI m).toInt64 1 24 σ1) f) Q := fun w => wpO_e (within124 _ _) (by rw [if_pos v]; exact w)
    refine wpO_f v.1 (wpO_f v.2 ?_)
    rw [eN1, show (24 : Int32) - nI now = nI (24 - now) from by rw [li24, pk_sub hN]]
    by_cases c24 : 24 < now + m
    · refine wpO_t (nI_lt (by omega) (by omega)) (wpO_some.mpr (q (wpO_f one_ne (wpO_t ?_ (wpO_some.mpr ⟨rfl, h⟩)))))
      rw [eN2, nI_add]; exact (show nI 24 < nI (now + m) from nI_lt c24 (by omega))
    · refine wpO_f (nI_nlt (by omega) (by omega)) (wpO_lt (wpO_lt ?_))
      rw [show gF σ 1 0 12 = fi from c5]
      generalize hs : sF σ 1 0 13 z = σ0
      have f0 : FrL [(1, 0, 13)] σ σ0 := by rw [← hs]; exact FrL_sF (by decide)
      have e13 : σ0.1 1 0 13 = z := by rw [← hs]; rfl
      obtain ⟨F5, hF5⟩ := exNI_row (m := 7) (σ0.2.1 1 0 5)
      obtain ⟨O9, hO9⟩ := exNI_row (m := 8) (σ0.2.1 1 0 9)
      obtain ⟨mv, hmv⟩ := exNI (σ0.1 1 0 10)
      let Y : HX := ((L, R, F5, O9, z, 0, mv), fun _ => 0, yl, σ0.1 1 0 14)
      have xc : XC 0 σ0 wd id now (shX fi cm Y) := by
        refine ⟨⟨?_, ?_, ?_, ?_, hF5, hO9, e13, ?_, hmv, ?_⟩, ?_, ?_, rfl⟩
        · rw [f0.a 1 0 8 (by decide)]; exact c7
        · rw [f0.a 1 0 2 (by decide)]; exact c0
        · rw [f0.a 1 0 3 (by decide)]; exact c1
        · rw [f0.a 1 0 4 (by decide)]; exact c2
        · rw [f0.f 1 0 12 (by decide)]; exact c5.trans (show fi = fi + 0 from (Int32.add_zero fi).symm)
        · rw [f0.f 1 0 11 (by decide)]; exact c6
        · intro p hp; rw [f0.a 1 0 6 (by decide)]; exact (c3 p hp).trans (show cm p = cm p + 0 from (Int32.add_zero _).symm)
        · intro p hp; rw [f0.a 1 0 7 (by decide)]; exact c4 p hp
      have ok : OKH wd (shX fi cm Y).1 := ⟨g3.1.1, g3.1.2.1⟩
      have okY : OKH wd Y.1 := ⟨g3.1.1, g3.1.2.1⟩
      have cx0 := cx.fr f0 (by decide)
      have hl : LdC σ0 now y := (g1.2.1 : LdC σ now y).fr f0 (by decide)
      refine wpO_mono (goLoopC (σ0 := σ0) (wd := wd) hd hm24 cx0.1 cx0.2.2.1 m 0 now 400 σ0 _ y (by omega) (by omega) (by omega) xc ok hl FrL.rf) ?_
      intro r σ1 w
      obtain ⟨w0, w1, w2, f1⟩ := w
      rw [shX_hours] at w0 w1
      rw [shX_led] at w2
      have er : r = hc (hHours nx cg tr way Str n wd id m now Y).1 := by
        rw [w0]
        show fi + hc (hHours nx cg tr way Str n wd id m now Y).1 - fi = _
        rw [Int32.add_comm, Int32.add_sub_cancel]
      have F1 : FrL ((1, 0, 13) :: SGc) σ σ1 := (f0.mono (by decide)).tr (f1.mono (by decide))
      have cx1 := cx.2
      have he1 : EnvM σ1 n tr way := cx.2.1.fr F1
      have hs1 : StrM σ1 Str := cx.2.2.2.1.fr F1
      refine q (wpO_f one_ne (wpO_f ?_ ?_))
      · rw [show gF σ1 9 0 13 = nI now from (F1.f 9 0 13 (by decide)).trans d6, nI_add]; exact (show ¬ nI 24 < nI (now + m) from nI_nlt (by omega) (by omega))
      · refine wpO_b startsM (fun _ σ2 u => ?_)
        obtain ⟨u25, u26, u30, f2⟩ := u
        have F2 : FrL ((1, 0, 13) :: SGc ++ [(9, 0, 25), (9, 0, 26), (9, 0, 30)]) σ σ2 := (F1.mono (by decide)).tr (f2.mono (by decide))
        obtain ⟨F5', hF5'⟩ := exNI_row (m := 7) (σ2.2.1 9 0 28)
        obtain ⟨O9', hO9'⟩ := exNI_row (m := 8) (σ2.2.1 9 0 29)
        obtain ⟨mv', hmv'⟩ := exNI (σ2.1 9 0 27)
        have vm : VMw 9 σ2 id Y := by
          refine ⟨⟨F5', O9', mv', ?_, ?_, ?_, hF5', hO9', u25, u26, hmv'⟩, u30⟩
          · rw [F2.a 9 0 14 (by decide)]; exact d7
          · rw [F2.a 9 0 9 (by decide)]; exact d1
          · rw [F2.a 9 0 9 (by decide)]; exact d2
        refine wpO_mono (goLoopM (σ0 := σ2) (wd := wd) (fi := fi) (cm := cm) hd hm24 cp.1 (he1.fr f2) (hs1.fr f2) (by rw [F2.a 9 0 7 (by decide)]; exact d0) (by rw [F2.f 9 0 12 (by decide)]; exact d5) (by rw [F2.a 9 0 10 (by decide)]; exact d3) m 0 now 400 σ2 Y y (by omega) (by omega) (by omega) vm okY ((g2.2.1 : LdM σ 31 32 now y).fr F2 (by decide) (by decide)) (by rw [F2.a 9 0 11 (by decide)]; exact d4) (by rw [F2.f 9 0 13 (by decide)]; exact d6) FrL.rf) ?_
        intro r' σ3 t
        obtain ⟨t0, t1, t2, t3, t4, t5, t6, f3⟩ := t
        have F23 : FrL ([(9, 0, 25), (9, 0, 26), (9, 0, 30)] ++ (SGm ++ [(9, 0, 10), (9, 0, 12)])) σ1 σ3 := (f2.mono (by decide)).tr (f3.mono (by decide))
        have F : FrL (((1, 0, 13) :: SGc) ++ ([(9, 0, 25), (9, 0, 26), (9, 0, 30)] ++ (SGm ++ [(9, 0, 10), (9, 0, 12)]))) σ σ3 := (F1.mono (by decide)).tr (F23.mono (by decide))
        have okE : OKH wd (hHours nx cg tr way Str n wd id m now Y).1 := OKH.hours m now Y okY
        have ge := fun p (hp : n ≤ p) => hours_ge (nx := nx) (cg := cg) (tr := tr) (way := way) (Str := Str) (wd := wd) hp m now Y
        have lg := fun g (hg : g < now) => ledH_lt (nx := nx) (cg := cg) (tr := tr) (way := way) (Str := Str) (n := n) (wd := wd) (who := id) (g := g) m now Y y hg
        have led := w2
        generalize ledH nx cg tr way Str n wd id m now Y y = y' at t2 led w2 lg
        generalize hHours nx cg tr way Str n wd id m now Y = E at *
        obtain ⟨⟨v8, v2, v3, v4, v5, v9, v13, v12, v10, v11⟩, x6, x7, x14⟩ := w1
        obtain ⟨⟨F5'', O9'', mv'', V⟩, V30⟩ := t1
        obtain ⟨a1, a2, a3, a4, a5, a6, a7, a8⟩ := V
        refine ⟨er.trans t0.symm, h.of2 F ⟨(wd, hL E.1, hR E.1, fun p => cm p + E.2.1 p, E.2.2.1, fi + hc E.1, now + m), y', zz, ⟨⟨?_, ?_, ?_, ?_, ?_, ?_, ?_, ?_⟩, ?_, g1.2.2.fr F (by decide)⟩, ⟨⟨?_, a2, a3, ?_, t3, t5, t4, a1⟩, t2, ?_⟩, ⟨okE.1, okE.2, ?_⟩, ?_⟩ (by decide)⟩
        · rw [F23.a 1 0 2 (by decide)]; exact v2
        · rw [F23.a 1 0 3 (by decide)]; exact v3
        · rw [F23.a 1 0 4 (by decide)]; exact v4
        · rw [F23.a 1 0 6 (by decide)]; exact x6
        · rw [F23.a 1 0 7 (by decide)]; exact x7
        · rw [F23.f 1 0 12 (by decide)]; exact v12
        · rw [F23.f 1 0 11 (by decide)]; exact v11
        · rw [F23.a 1 0 8 (by decide)]; exact v8
        · exact LdC.fr led F23 (by decide)
        · rw [F.a 9 0 7 (by decide)]; exact d0
        · intro p hp
          rw [t6 p hp]
          show _ = cm p + E.2.1 p
          by_cases c : p < n
          · rw [if_pos c]
          · rw [if_neg c, ge p (by omega)]; exact (Int32.add_zero _).symm
        · obtain ⟨k0, k1⟩ := (g2.2.2 : ImM σ zz y)
          refine ⟨by rw [F.f 9 0 36 (by decide)]; exact k0, fun e => ?_⟩
          obtain ⟨k39, k39', k40, k41, k38, k37, kld⟩ := k1 e
          refine ⟨by rw [F.a 9 0 39 (by decide)]; exact k39, by rw [F.a 9 0 39 (by decide)]; exact k39', by rw [F.a 9 0 40 (by decide)]; exact k40, by rw [F.a 9 0 41 (by decide)]; exact k41, by rw [F.f 9 0 38 (by decide)]; exact k38, by rw [F.f 9 0 37 (by decide)]; exact k37, ?_⟩
          have zl : zz.2.2.2.2.2.2 ≤ now := (g3.2 e).1
          obtain ⟨q1, q2, q3⟩ := kld.fr F (by decide) (by decide)
          refine ⟨fun g i hg hi => ?_, fun g i hg hi => ?_, fun g i hg hi => ?_⟩
          · rw [(lg g (by omega)).1]; exact q1 g i hg hi
          · rw [(lg g (by omega)).2.1]; exact q2 g i hg hi
          · rw [(lg g (by omega)).2.2]; exact q3 g i hg hi
        · show now + m ≤ 24
          omega
        · intro e
          obtain ⟨p1, p2, p3⟩ := g3.2 e
          exact ⟨Nat.le_trans p1 (Nat.le_add_right now m), p2, p3⟩
  · have fin : ∀ σ1, σ1 = σ → wpO (bnd (g_X9_within b.toInt64 1 24 σ1) fun r1 σ2 => (if r1 = 0 then some ((-1), σ2) else (if (24 : Int32) < (gF σ2 9 0 13) + b then some ((-5), σ2) else (bnd (g_X9_starts z σ2) fun _ σ5 => g_X9_go_35 400 b 0 σ5)))) (fun r' σ2 => (-1 : Int32) = r' ∧ Inv σ2) := by
      rintro σ1 rfl
      refine wpO_e (within124 _ _) ?_
      rw [if_neg v]
      exact wpO_t rfl (wpO_some.mpr ⟨rfl, h⟩)
    by_cases z1 : b < 1
    · exact wpO_t z1 (wpO_some.mpr (fin σ rfl))
    · have z2 : 24 < b := Classical.byContradiction (fun q => v ⟨z1, q⟩)
      exact wpO_f z1 (wpO_t z2 (wpO_some.mpr (fin σ rfl)))
