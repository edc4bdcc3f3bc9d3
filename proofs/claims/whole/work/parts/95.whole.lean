theorem st_sz {args : Array Value} {s : State} {tm : Term} {t : Nat} {cell : Cell} {v : Value} (ht : tm.eval args s none [] s = some (.ref t)) (hat : s.arrayAt? t = some cell) (hv : (Term.length tm).eval args s none [] s = some v) : cell.slots.size < 2 ^ 31 := by
  simp only [Term.eval, ht, hat, Option.bind_eq_bind, Option.bind_some] at hv
  by_cases hlt : cell.slots.size < 2147483648
  · exact hlt
  · simp [hlt] at hv
theorem st_arr {args : Array Value} {s : State} {C n d : String} {N : Nat} {f : Nat → Int32} (hN : N < 2 ^ 31) (harr : (Cond.arrayOf (.static C n d) .int).before args s = true) (hlen : (Cond.eq (.length (.static C n d)) (.int (Int32.ofNat N))).before args s = true)
    (hel : ∀ j, j < N → (Cond.eq (.elem (.static C n d) (.int (Int32.ofNat j))) (.int (f j))).before args s = true) : ∃ t : Nat, (Term.static C n d).eval args s none [] s = some (.ref t) ∧ va_X t N f s s.heap ∧ t < s.heap.size := by
  have hlen' := va_eqt hlen
  obtain ⟨t, cell, ht, hat, hv⟩ := Term.length_spec hlen'
  have hsz := st_sz ht hat hlen'
  obtain ⟨hcell, hkn, -, -⟩ := State.arrayAt?_spec hat
  obtain ⟨hof, -⟩ := Cond.arrayOf_spec harr ht hcell
  have e : cell.slots.size = N := by
    have h1 : Int32.ofNat N = Int32.ofNat cell.slots.size := Value.int.inj hv
    have h2 := congrArg Int32.toNatClampNeg h1
    rw [Int32.toNatClampNeg_ofNat_of_lt hN, Int32.toNatClampNeg_ofNat_of_lt hsz] at h2
    exact h2.symm
  refine ⟨t, ht, ⟨cell, hcell, hof, hkn, e, fun j hj => ?_⟩, (Array.getElem?_eq_some_iff.mp hcell).1⟩
  obtain ⟨a, i, cell2, h1, h2, h3, h4, h5⟩ := Term.elem_spec (va_eqt (hel j hj))
  cases ht.symm.trans h1
  cases hat.symm.trans h3
  have hi : i = Int32.ofNat j := by
    have e1 : (Term.int (Int32.ofNat j)).eval args s none [] s = some (.int (Int32.ofNat j)) := rfl
    cases h2.symm.trans e1
    rfl
  have hc : i.toNatClampNeg = j := by rw [hi]; exact Int32.toNatClampNeg_ofNat_of_lt (Nat.lt_trans hj hN)
  rw [hc] at h5
  exact h5
theorem st_own : ∀ j, j < 32 → Cond.eq (.elem (.static RX2 "OWN" "[I") (.int (Int32.ofNat j))) (.int (am_st 1 j)) ∈ flatC (Jvm.Cond.and given_1 narrow_1) := by decide +kernel
theorem st_above : ∀ j, j < 8 → Cond.eq (.elem (.static RX2 "ABOVE" "[I") (.int (Int32.ofNat j))) (.int (am_st 0 j)) ∈ flatC (Jvm.Cond.and given_1 narrow_1) := by decide +kernel
theorem st_own0 : Cond.arrayOf (.static RX2 "OWN" "[I") .int ∈ flatC (Jvm.Cond.and given_1 narrow_1) ∧ Cond.eq (.length (.static RX2 "OWN" "[I")) (.int (Int32.ofNat 32)) ∈ flatC (Jvm.Cond.and given_1 narrow_1) := by decide +kernel
theorem st_above0 : Cond.arrayOf (.static RX2 "ABOVE" "[I") .int ∈ flatC (Jvm.Cond.and given_1 narrow_1) ∧ Cond.eq (.length (.static RX2 "ABOVE" "[I")) (.int (Int32.ofNat 8)) ∈ flatC (Jvm.Cond.and given_1 narrow_1) := by decide +kernel
theorem lw_in {w : Cond} (i : Nat) (h : lw_tbl[i]? = some w) : w ∈ lw_tbl := List.mem_of_getElem? h
/-- a call of a constructor out of the law -/
theorem W_ctor {l : Launch} {D : va_G} {c3 : ct_C} {NW : List Cond} {p : Program} {e : Env} {R : Room} {s : State} {m : MethodId} {args : Array Value} {below : List Frame} {meth : Method} {c : Code} {H : Heap} {locs : List Loc} {ls : Array Slot} {cells slots nL pc : Nat} {cc : ByteArray} {own : String} {Q : State → Prop} {A : Nat → Prop} {ws : va_W}
    {y' : MethodName} {cc' : ByteArray} {nL' index b i0 : Nat} {rm' : Room} {rest : List Value} {cell : va_E} {Wf' : (Nat → Nat) → va_W} {isR : List Nat} {wr : va_W} (hM : CMet l D c3 NW y' cc' nL' rm' [.ref b] [(b, cell)] Wf')
    (hx : p.tables.exec = Jvm.exec) (hb : c.code = cc) (hml : c.maxLocals = nL) (hown : s.vm.findClass own = some m.cls) (hts : ∀ w ∈ GW, w.before args s = true) (hon : ∀ w ∈ NW, w.onTables = true ∨ w = .arrayOver (.object RX5)) (hnw : ∀ U : State, s.WarmedH U.vm → ∀ w ∈ NW, va_Nw w U) (hA : ∀ q, s.heap.size ≤ q → A q)
    (hlink : Cond.methodLink own index y' ∈ GW) (hcode : Cond.code y' cc' nL' none ∈ GW) (hini : Cond.initialized y'.cls ∈ GW) (hinst : Cond.instanceMethod y' ∈ GW) (hy1 : y'.name = "<init>")
    (hd0 : y'.cls ≠ "java/lang/invoke/MethodHandle" ∧ y'.cls ≠ "java/lang/invoke/VarHandle" ∧ (parseMethodDescriptor y'.desc).map (fun d => d.parameters.length) = some 0) (hR : rm'.frames + 1 ≤ R.frames ∧ 8 + (nL' + 11) + rm'.locals ≤ R.locals) (hw : (rest.map fun v => v.category).sum ≤ 8) (hd : decode cc pc = .ok (.invokespecial index, 3)) (hfit : cells + rm'.cells ≤ R.cells ∧ slots + rm'.slots ≤ R.slots)
    (hK : ct_K D c3 s) (hP : va_P D vwCl ws H) (hD : va_D A ws) (hS : va_S A s.heap H locs) (hl : ls.size = nL)
    (he : ws[i0]? = some (b, cell)) (hRr : isR.map (fun i => ws[i]?) = wr.map some) (hnd : va_nd isR = true) (hdis : ∀ i ∈ isR, i ∉ [i0])
    (k : ∀ u H1 locs1, va_P D vwCl (wr ++ Wf' u) H1 → va_D A (wr ++ Wf' u) → va_S A s.heap H1 locs1 → W p l e R s m args below meth c H1 locs1 (cells + rm'.cells) (slots + rm'.slots) Q (F0 m (pc + 3) ls rest)) : W p l e R s m args below meth c H locs cells slots Q (F0 m pc ls (.ref b :: rest)) := by
  have hC : [i0].map (fun i => ws[i]?) = [(b, cell)].map some := by rw [List.map_cons, he]; rfl
  have hP0 : va_P D vwCl [(b, cell)] H := fun j q hq => by
    match j, hq with
    | 0, hq => cases hq; exact hP i0 _ he
  have hD0 : va_D (fun _ => True) [(b, cell)] := ⟨fun i j p' q h1 h2 _ => by
    have a1 : i < 1 := (List.getElem?_eq_some_iff.mp h1).1
    have a2 : j < 1 := (List.getElem?_eq_some_iff.mp h2).1
    omega, fun _ _ _ => trivial⟩
  have hF := va_free (wc := [(b, cell)]) hD hS hA [i0] hC
  have hPre : PreS s H (ct_Pc D c3 NW [.ref b] [(b, cell)] H.size) [.ref b] := ⟨ct_blind hon, fun U hU hW => ⟨rfl, by rw [hU], by rw [hU]; exact hP0, va_K.moved hW.alike hK, hnw U hW, hD0⟩⟩
  have hrun : va_Run p l e R s m args below meth c H locs cells slots rm'.cells rm'.slots (F0 m pc ls (.ref b :: rest)) rest (QC D (va_A [(b, cell)] H.size) Wf' (Value.ref b :: ([] : List Value)).toArray) (va_A [(b, cell)] H.size) :=
    va_runI (Ts := GW) (As := []) (n := 0) ⟨hx, hb, hml, hown, hts⟩ (hM H.size) ⟨callB_of 0 hts (gw_in0 hcode) rfl rfl rfl (hts _ hini) (hts _ hlink) hd0 hR, hy1, hts _ hinst⟩ hPre rfl rfl hl rfl (by show 2 * 0 + _ ≤ 8; omega) hd hfit
  refine va_callv hrun hS (fun q _ h => hF q h) hF (fun u t H1 locs1 ht hvm _ hB hz1 hk1 hS1 => ?_)
  obtain ⟨hP1, hD1⟩ := hB
  rw [ht] at hP1
  obtain ⟨hP2, hD2⟩ := va_join hP hD [i0] isR hC hRr hnd hdis hk1 hF hP1 hD1
  exact k u H1 locs1 hP2 hD2 hS1
theorem nw8_in : ∀ w ∈ NW8, w ∈ lw_tbl := by decide +kernel
theorem nw8_kind : ∀ w ∈ NW8, (∃ a i y h, w = .methodLinkNest a i y h) ∨ w = .arrayOver (.object RX5) := by
  intro w hw
  unfold NW8 at hw
  simp only [List.mem_cons, List.not_mem_nil, or_false] at hw
  rcases hw with h | h | h | h | h | h | h | h <;> first | exact Or.inl ⟨_, _, _, _, h⟩ | exact Or.inr h
theorem nw8_on : ∀ w ∈ NW8, w.onTables = true ∨ w = .arrayOver (.object RX5) := fun w hw => (nw8_kind w hw).elim (fun ⟨_, _, _, _, e⟩ => Or.inl (by subst e; rfl)) Or.inr
theorem nw8_here {args : Array Value} {s : State} (h : ∀ w ∈ lw_tbl, w.before args s = true) : ∀ w ∈ NW8, va_Nw w s := by
  intro w hw
  rcases nw8_kind w hw with ⟨a, i, y, hh, e⟩ | e
  · subst e; exact va_Nw.of rfl (h _ (nw8_in _ hw))
  · subst e; exact va_AO.of (h _ (nw8_in _ hw))
theorem nw8_at {s U : State} (hW : s.WarmedH U.vm) (h : ∀ w ∈ NW8, va_Nw w s) : ∀ w ∈ NW8, va_Nw w U := by
  intro w hw
  rcases nw8_kind w hw with ⟨a, i, y, hh, e⟩ | e
  · subst e; exact va_Nw.warmM hW (h _ hw)
  · subst e
    exact va_AO.moved hW.alike (h _ hw)
theorem ct_known {args : Array Value} {s : State} (hts : ∀ w ∈ GW, w.before args s = true) : ∃ D : va_G, ∀ (k : Nat) (q : vw_C), vwCl[k]? = some q → u_Kn s q.1 q.2.1 q.2.2 (D.1 k) (D.2 k) := by
  obtain ⟨c0, i0, k0⟩ := u_known hts acl0.2.2.1 (hts (.instantiable RX0 6) (gw_mem 246 (by decide +kernel) rfl))
  obtain ⟨c1, i1, k1⟩ := u_known hts acl1.2.2.1 (hts (.instantiable RX1 15) (gw_mem 161 (by decide +kernel) rfl))
  obtain ⟨c2, i2, k2⟩ := u_known hts acl2.2.2.1 (hts (.instantiable RX2 5) (gw_mem 271 (by decide +kernel) rfl))
  obtain ⟨c3, i3, k3⟩ := u_known hts acl3.2.2.1 (hts (.instantiable RX3 6) (gw_mem 116 (by decide +kernel) rfl))
  obtain ⟨c4, i4, k4⟩ := u_known hts acl4.2.2.1 (hts (.instantiable RX4 3) (gw_mem 230 (by decide +kernel) rfl))
  obtain ⟨c5, i5, k5⟩ := u_known hts acl5.2.2.1 (hts (.instantiable RX5 4) (gw_mem 294 (by decide +kernel) rfl))
  obtain ⟨c6, i6, k6⟩ := u_known hts acl6.2.2.1 (hts (.instantiable RX6 3) (gw_mem 99 (by decide +kernel) rfl))
  obtain ⟨c7, i7, k7⟩ := u_known hts acl7.2.2.1 (hts (.instantiable RX7 4) (gw_mem 142 (by decide +kernel) rfl))
  obtain ⟨c8, i8, k8⟩ := u_known hts acl8.2.2.1 (hts (.instantiable RX8 12) (gw_mem 91 (by decide +kernel) rfl))
  obtain ⟨c9, i9, k9⟩ := u_known hts acl9.2.2.1 (hts (.instantiable RX9 54) (gw_mem 937 (by decide +kernel) rfl))
  refine ⟨(fun k => [c0, c1, c2, c3, c4, c5, c6, c7, c8, c9].getD k c0, fun k => [i0, i1, i2, i3, i4, i5, i6, i7, i8, i9].getD k i0), ?_⟩
  intro k q hq
  match k, hq with
  | 0, hq => cases hq; exact k0
  | 1, hq => cases hq; exact k1
  | 2, hq => cases hq; exact k2
  | 3, hq => cases hq; exact k3
  | 4, hq => cases hq; exact k4
  | 5, hq => cases hq; exact k5
  | 6, hq => cases hq; exact k6
  | 7, hq => cases hq; exact k7
  | 8, hq => cases hq; exact k8
  | 9, hq => cases hq; exact k9
  | k + 10, hq => simp [vwCl] at hq
theorem ct_arrs {s : State} {args : Array Value} (hts : ∀ w ∈ lw_tbl, w.before args s = true) : ∃ c3 : ct_C, ∀ (k : Nat) (q : ClassId × FieldType), (ct_tys c3.1 c3.2.1 c3.2.2)[k]? = some q → ArrOfT s q.1 q.2 ∧ va_RA s q.1 q.2 := by
  obtain ⟨cI, kI, pI, a1, a2, a3⟩ := Cond.arrayClass_spec (hts (.arrayClass .int) (lw_in 114 (by decide +kernel)))
  obtain ⟨cL, kL, pL, b1, b2, b3⟩ := Cond.arrayClass_spec (hts (.arrayClass .long) (lw_in 315 (by decide +kernel)))
  obtain ⟨pR, cR, kR, d1, d2, d3, d4, d5⟩ := Cond.arrayOver_spec (hts (.arrayOver (.object RX5)) (lw_in 293 (by decide +kernel)))
  refine ⟨(cI, cL, cR), ?_⟩
  intro k q hq
  match k, hq with
  | 0, hq => cases hq; exact ⟨fun n z => ⟨fun k h => (by cases h), kI, a2, pI, a3⟩, a1⟩
  | 1, hq => cases hq; exact ⟨fun n z => ⟨fun k h => (by cases h), kL, b2, pL, b3⟩, b1⟩
  | 2, hq => cases hq; exact ⟨fun n z => ⟨fun k h => (by cases h), kR, d3, pR, d4⟩, kR, pR, d3, d4, d1, d5⟩
  | k + 3, hq => simp [ct_tys] at hq
set_option maxHeartbeats 4000000 in
set_option maxRecDepth 20000 in
theorem whole_start {p : Program} {e : Env} {s : State} {m : MethodId} {below : List Frame} {meth : Method} {c : Code} (l : Launch) (hflags : l.flags = flags0) {b L : Nat} {xs : Nat → Int32} (hL : L ≤ 3072) (C0 : lw_At p s m meth c b L xs) : W p l e room_1 s m #[Value.ref b] below meth c s.heap [] 0 0 (lw_Z below #[Value.ref b] s) (entryFrame m ([Value.ref b] : List Value).toArray 4) := by
  obtain ⟨hx, hb, hr, hml, hown, hts0, hX, hbl, hlocks, hgv⟩ := id C0
  have hts : ∀ w ∈ GW, w.before #[Value.ref b] s = true := fun w hw => hts0 w (lw_gw hw)
  have hA : ∀ q : Nat, s.heap.size ≤ q → (fun q : Nat => s.heap.size ≤ q) q := fun _ h => h
  have hflat := flat_of_before _ hgv
  obtain ⟨D, hKn⟩ := ct_known hts
  obtain ⟨c3, hKa⟩ := ct_arrs hts0
  have hK : ct_K D c3 s := ⟨hKn, hKa⟩
  have hnw : ∀ w ∈ NW8, va_Nw w s := nw8_here hts0
  have hS : va_S (fun q : Nat => s.heap.size ≤ q) s.heap s.heap [] := va_S.rf
  have hP : va_P D vwCl [] s.heap := fun k q h => by simp at h
  have hD : va_D (fun q : Nat => s.heap.size ≤ q) [] := ⟨fun i j p q h => by simp at h, fun k q h => by simp at h⟩
  have hl := lv_entry ([.ref b]) (n := 4) (Nat.le_of_ble_eq_true rfl)
  rw [lg_entry_eq]
  generalize (lg_sl ([.ref b]) ++ List.replicate (4 - (lg_sl ([.ref b])).length) Slot.unset).toArray = ls at hl ⊢
  have hl : lv_has ls 4 [(0, .ref b)] := hl
  refine va_new (ci := 8) (fs := dC_X8) (C := RX8) (T := TX8) (N := 12) hx hb hts acl8.2.2.1 tyX8 tyX8_ok hown (hts (.classLink R_law 7 RX8) (gw_mem 90 (by decide +kernel) rfl)) (hts (.instantiable RX8 12) (gw_mem 91 (by decide +kernel) rfl)) (hts _ mi_X8_law.2.1) hK hP hD hS hA rfl (ct_pt rfl) (Nat.le_of_ble_eq_true rfl) (Nat.le_of_ble_eq_true rfl) dL_law_0 (fun q0 H hP hD hS => ?_)
  refine lv_dup hx hb dL_law_3 rfl ?_
  refine W_ctor (i0 := 0) (isR := []) (wr := []) (cM_X8 l D c3 q0) hx hb hml hown hts nw8_on (fun U hW => nw8_at hW hnw) hA ml_RL_9 (gw_mem 94 (by decide +kernel) rfl) mi_X8_law.2.1 (gw_mem 93 (by decide +kernel) rfl) rfl (by decide) ⟨Nat.le_of_ble_eq_true rfl, Nat.le_of_ble_eq_true rfl⟩ (Nat.le_of_ble_eq_true rfl) dL_law_4 ⟨Nat.le_of_ble_eq_true rfl, Nat.le_of_ble_eq_true rfl⟩ hK hP hD hS hl.1 rfl rfl rfl (by decide) (fun u H locs hP hD hS => ?_)
  refine lv_astore_n (lv' := [(1, .ref q0), (0, .ref b)]) hx hb dL_law_7 rfl hl (by decide) rfl (fun ls hl => ?_)
  refine va_new (ci := 9) (fs := dC_X9) (C := RX9) (T := TX9) (N := 54) hx hb hts acl9.2.2.1 tyX9 tyX9_ok hown (hts (.classLink R_law 10 RX9) (gw_mem 936 (by decide +kernel) rfl)) (hts (.instantiable RX9 54) (gw_mem 937 (by decide +kernel) rfl)) (hts _ mi_X9_law.2.1) hK hP hD hS hA rfl (ct_pt rfl) (Nat.le_of_ble_eq_true rfl) (Nat.le_of_ble_eq_true rfl) dL_law_8 (fun q1 H hP hD hS => ?_)
  refine lv_dup hx hb dL_law_11 rfl ?_
  refine W_ctor (i0 := 68) (isR := List.range 68) (wr := WC_X8 c3 q0 u) (cM_X9 l D c3 q1) hx hb hml hown hts (fun _ h => absurd h List.not_mem_nil) (fun _ _ _ h => absurd h List.not_mem_nil) hA ml_RL_12 (gw_mem 940 (by decide +kernel) rfl) mi_X9_law.2.1 (gw_mem 939 (by decide +kernel) rfl) rfl (by decide) ⟨Nat.le_of_ble_eq_true rfl, Nat.le_of_ble_eq_true rfl⟩ (Nat.le_of_ble_eq_true rfl) dL_law_12 ⟨Nat.le_of_ble_eq_true rfl, Nat.le_of_ble_eq_true rfl⟩ hK hP hD hS hl.1 rfl rfl rfl (by decide) (fun v H locs hP hD hS => ?_)
  refine lv_astore_n (lv' := [(2, .ref q1), (1, .ref q0), (0, .ref b)]) hx hb dL_law_15 rfl hl (by decide) rfl (fun ls hl => ?_)
  refine lv_iconst (v := 0) hx hb dL_law_16 (by decide) ?_
  refine lv_istore_n (lv' := [(3, .int 0), (2, .ref q1), (1, .ref q0), (0, .ref b)]) hx hb dL_law_17 rfl hl (by decide) rfl (fun ls hl => ?_)
  have hno : ∀ a : Nat, a < s.heap.size → ¬ (fun q : Nat => s.heap.size ≤ q) a := fun a h => Nat.not_le.mpr h
  obtain ⟨t0, ev0, X0, l0⟩ := st_arr (N := 8) (f := am_st 0) (by decide) (hflat _ st_above0.1) (hflat _ st_above0.2) (fun j hj => hflat _ (st_above j hj))
  obtain ⟨t1, ev1, X1, l1⟩ := st_arr (N := 32) (f := am_st 1) (by decide) (hflat _ st_own0.1) (hflat _ st_own0.2) (fun j hj => hflat _ (st_own j hj))
  have Z0 := va_Zof (A := fun q : Nat => s.heap.size ≤ q) (hts0 (.laysStatic RX2 "ABOVE" "[I") (lw_in 832 (by decide +kernel))) (hts0 (.initialized RX2) (lw_in 85 (by decide +kernel))) ev0 hno
  have Z1 := va_Zof (A := fun q : Nat => s.heap.size ≤ q) (hts0 (.laysStatic RX2 "OWN" "[I") (lw_in 830 (by decide +kernel))) (hts0 (.initialized RX2) (lw_in 85 (by decide +kernel))) ev1 hno
  have hKX : KX (ct_cx D c3 (ct_as q0 u q1 v) t0 t1 (fun q : Nat => s.heap.size ≤ q)) s := by
    refine ⟨hK, va_Nw.of rfl (hts0 am_nest (lw_in 497 (by decide +kernel))), ⟨Z0, Z1⟩, fun k hk => ?_⟩
    rcases (show k = 0 ∨ k = 1 by omega) with rfl | rfl
    · exact ⟨X0, hno t0 l0⟩
    · exact ⟨X1, hno t1 l1⟩
  refine W.widen (k := 600000) (n := 7302250) (Nat.le_of_ble_eq_true rfl) (Nat.le_of_ble_eq_true rfl) ?_
  exact law_body (cx := ct_cx D c3 (ct_as q0 u q1 v) t0 t1 (fun q : Nat => s.heap.size ≤ q)) (ct_AD hD) hL (L + 1) 0 σ0 (by omega) (by omega) ct_Inv p e s m below meth c H locs ls C0 (ct_AD hD) hKX (fun q => Iff.rfl) (ct_WD hP) hS hl
