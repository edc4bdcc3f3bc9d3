/-! THE CLAIM OUT OF ONE WALK OF THE LAW'S BODY. Your part is whole_start (and what it stands on); all else here is the same for every law, but numbers. -/
def R_law : String := "TwoElbowsLaw"
def lw_P (b : Addr) (xs : List Int32) (args : Array Value) (s : State) : Prop := args = #[.ref b] ∧ s.IntsAt b xs ∧ xs.length ≤ 3072 ∧ (Jvm.Cond.and given_1 narrow_1).before args s = true
def lw_Q (_ : Array Value) (s : State) (o : Outcome) (t : State) : Prop := o = .returned (some (.int 1)) ∧ Framed s o t [] 600000 7302250
def lw_Z (below : List Frame) (a : Array Value) (s : State) : State → Prop := fun t => ∃ o, t.status = .running ∧ Ended t below o ∧ lw_Q a s o t
/-- the law's own end, with 1 on the stack, nothing written that was there before, its room as the claim has it -/
theorem lw_ret {p : Program} {l : Launch} {e : Env} {s : State} {m : MethodId} {below : List Frame} {meth : Method} {c : Code} {b : Nat} (hx : p.tables.exec = Jvm.exec) (hb : c.code = code) (hr : meth.sig.returnType = ret) (hlocks : meth.locks = false) {pc : Nat} {H : Heap} {ls : Array Slot} (hdg : decode code pc = .ok (.ireturn, 1)) : W p l e room_1 s m #[Value.ref b] below meth c H [] 600000 7302250 (lw_Z below #[Value.ref b] s) (F0 m pc ls [.int 1]) := by
  intro T hT X
  obtain ⟨fs, hret, hrun, hended, hW, hframe⟩ := X.leave (v := some (.int 1)) (hlocks := hlocks) (fun h => by rw [hr] at h; cases h)
  have hmeth' : T.vm.method? m = some meth := X.method'
  refine ⟨T.setFrames fs, ?_, .returned (some (.int 1)), hrun, hended, rfl, ⟨_, rfl⟩, hW, hframe⟩
  jvm_step X.here [X.here.top, hx, hb, hdg, hmeth', hr, ret, narrow_b1]
  (try refine ⟨rfl, ?_⟩); (try refine ⟨rfl, ?_⟩)
  first | (intro acts; rw [hret _ acts rfl rfl rfl]) | rw [hret _ _ rfl rfl rfl]
  exact Steps.refl _
/-- what holds at the law's entry: the machine, the code, the tables' words (any of lw_tbl by 'hts w (by decide +kernel)'), the script of L ints xs at the cell b, what the Statement gives of the start (any of its parts by flat_of_before) -/
def lw_At (p : Program) (s : State) (m : MethodId) (meth : Method) (c : Code) (b L : Nat) (xs : Nat → Int32) : Prop :=
  p.tables.exec = Jvm.exec ∧ c.code = code ∧ meth.sig.returnType = ret ∧ c.maxLocals = 4 ∧ s.vm.findClass R_law = some m.cls ∧ (∀ w ∈ lw_tbl, w.before #[Value.ref b] s = true) ∧ va_X b L xs s s.heap ∧ b < s.heap.size ∧ meth.locks = false ∧ (Jvm.Cond.and given_1 narrow_1).before #[Value.ref b] s = true
section LAWJ
variable {l : Launch} {cx : CX} {b L : Nat} {xs : Nat → Int32} {pc : Nat} {lv : List (Nat × Value)} {st : List Value} {σ : AS}
/-- the law's judgement: from this place on, in this world, it comes to its end with true -/
def LJ (l : Launch) (cx : CX) (b L : Nat) (xs : Nat → Int32) (pc : Nat) (lv : List (Nat × Value)) (st : List Value) (σ : AS) : Prop :=
  ∀ (p : Program) (e : Env) (s : State) (m : MethodId) (below : List Frame) (meth : Method) (c : Code) (H : Heap) (locs : List Loc) (ls : Array Slot),
    lw_At p s m meth c b L xs → AD cx → KX cx s → (∀ q, cxA cx q ↔ s.heap.size ≤ q) → WD cx σ H → va_S (cxA cx) s.heap H locs → lv_has ls 4 lv →
    W p l e room_1 s m #[Value.ref b] below meth c H locs 600000 7302250 (lw_Z below #[Value.ref b] s) (F0 m pc ls st)
theorem lw_gw {w : Cond} (h : w ∈ GW) : w ∈ lw_tbl := (List.mem_filter.mp h).1
abbrev lvw (cx : CX) (b : Nat) (x : Int32) : List (Nat × Value) := [(3, .int x), (2, .ref (cxa cx 9 0 0)), (1, .ref (cxa cx 8 0 0)), (0, .ref b)]
theorem L_aload_n {k0 : Fin 4} {i : Nat} {a : Nat} (hd : decode code pc = .ok (.aload_n k0, 1)) (hi : (k0 : Nat) = i) (j : Nat) (hj : lv[j]? = some (i, .ref a)) (k : LJ l cx b L xs (pc + 1) lv (.ref a :: st) σ) : LJ l cx b L xs pc lv st σ := by
  intro p e s m below meth c H locs ls C0 hA hK hAq hW hS hl
  exact lv_aload_n C0.1 C0.2.1 hd hi (lv_at hl j hj) (k p e s m below meth c H locs ls C0 hA hK hAq hW hS hl)
theorem L_iload_n {k0 : Fin 4} {i : Nat} {x : Int32} (hd : decode code pc = .ok (.iload_n k0, 1)) (hi : (k0 : Nat) = i) (j : Nat) (hj : lv[j]? = some (i, .int x)) (k : LJ l cx b L xs (pc + 1) lv (.int x :: st) σ) : LJ l cx b L xs pc lv st σ := by
  intro p e s m below meth c H locs ls C0 hA hK hAq hW hS hl
  exact lv_iload_n C0.1 C0.2.1 hd hi (lv_at hl j hj) (k p e s m below meth c H locs ls C0 hA hK hAq hW hS hl)
theorem L_iconst {n : Int} {v : Int32} (hd : decode code pc = .ok (.iconst n, 1)) (hv : Int32.ofInt n = v) (k : LJ l cx b L xs (pc + 1) lv (.int v :: st) σ) : LJ l cx b L xs pc lv st σ := by
  intro p e s m below meth c H locs ls C0 hA hK hAq hW hS hl
  exact lv_iconst C0.1 C0.2.1 hd hv (k p e s m below meth c H locs ls C0 hA hK hAq hW hS hl)
theorem L_bipush {n : Int} {v : Int32} (hd : decode code pc = .ok (.bipush n, 2)) (hv : (Int8.ofInt n).toInt32 = v) (k : LJ l cx b L xs (pc + 2) lv (.int v :: st) σ) : LJ l cx b L xs pc lv st σ := by
  intro p e s m below meth c H locs ls C0 hA hK hAq hW hS hl
  exact lv_bipush C0.1 C0.2.1 hd hv (k p e s m below meth c H locs ls C0 hA hK hAq hW hS hl)
theorem L_ldc2 {index : Nat} {v : Int64} (hd : decode code pc = .ok (.ldc2_w index, 3)) (hc : Cond.constantLong R_law index v ∈ GW) (k : LJ l cx b L xs (pc + 3) lv (.long v :: st) σ) : LJ l cx b L xs pc lv st σ := by
  intro p e s m below meth c H locs ls C0 hA hK hAq hW hS hl
  exact lv_ldc2 C0.1 C0.2.1 C0.2.2.2.2.1 (C0.2.2.2.2.2.1 _ (lw_gw hc)) hd (k p e s m below meth c H locs ls C0 hA hK hAq hW hS hl)
theorem L_iadd {x y : Int32} (hd : decode code pc = .ok (.iadd, 1)) (k : LJ l cx b L xs (pc + 1) lv (.int (x + y) :: st) σ) : LJ l cx b L xs pc lv (.int y :: .int x :: st) σ := by
  intro p e s m below meth c H locs ls C0 hA hK hAq hW hS hl
  exact lv_iadd C0.1 C0.2.1 hd (k p e s m below meth c H locs ls C0 hA hK hAq hW hS hl)
theorem L_isub {x y : Int32} (hd : decode code pc = .ok (.isub, 1)) (k : LJ l cx b L xs (pc + 1) lv (.int (x - y) :: st) σ) : LJ l cx b L xs pc lv (.int y :: .int x :: st) σ := by
  intro p e s m below meth c H locs ls C0 hA hK hAq hW hS hl
  exact lv_isub C0.1 C0.2.1 hd (k p e s m below meth c H locs ls C0 hA hK hAq hW hS hl)
theorem L_iand {x y : Int32} (hd : decode code pc = .ok (.iand, 1)) (k : LJ l cx b L xs (pc + 1) lv (.int (x &&& y) :: st) σ) : LJ l cx b L xs pc lv (.int y :: .int x :: st) σ := by
  intro p e s m below meth c H locs ls C0 hA hK hAq hW hS hl
  exact lv_iand C0.1 C0.2.1 hd (k p e s m below meth c H locs ls C0 hA hK hAq hW hS hl)
theorem L_i2l {x : Int32} (hd : decode code pc = .ok (.i2l, 1)) (k : LJ l cx b L xs (pc + 1) lv (.long x.toInt64 :: st) σ) : LJ l cx b L xs pc lv (.int x :: st) σ := by
  intro p e s m below meth c H locs ls C0 hA hK hAq hW hS hl
  exact lv_i2l C0.1 C0.2.1 hd rfl (k p e s m below meth c H locs ls C0 hA hK hAq hW hS hl)
theorem L_lshl {x : Int64} {y : Int32} (hd : decode code pc = .ok (.lshl, 1)) (k : LJ l cx b L xs (pc + 1) lv (.long (lsh x y) :: st) σ) : LJ l cx b L xs pc lv (.int y :: .long x :: st) σ := by
  intro p e s m below meth c H locs ls C0 hA hK hAq hW hS hl
  exact lv_lshl C0.1 C0.2.1 hd rfl (k p e s m below meth c H locs ls C0 hA hK hAq hW hS hl)
theorem L_land {x y : Int64} (hd : decode code pc = .ok (.land, 1)) (k : LJ l cx b L xs (pc + 1) lv (.long (x &&& y) :: st) σ) : LJ l cx b L xs pc lv (.long y :: .long x :: st) σ := by
  intro p e s m below meth c H locs ls C0 hA hK hAq hW hS hl
  exact lv_land C0.1 C0.2.1 hd (k p e s m below meth c H locs ls C0 hA hK hAq hW hS hl)
theorem L_lor {x y : Int64} (hd : decode code pc = .ok (.lor, 1)) (k : LJ l cx b L xs (pc + 1) lv (.long (x ||| y) :: st) σ) : LJ l cx b L xs pc lv (.long y :: .long x :: st) σ := by
  intro p e s m below meth c H locs ls C0 hA hK hAq hW hS hl
  exact lv_lor C0.1 C0.2.1 hd (k p e s m below meth c H locs ls C0 hA hK hAq hW hS hl)
theorem L_lcmp {x y : Int64} (hd : decode code pc = .ok (.lcmp, 1)) (k : LJ l cx b L xs (pc + 1) lv (.int (lg_cmp x y) :: st) σ) : LJ l cx b L xs pc lv (.long y :: .long x :: st) σ := by
  intro p e s m below meth c H locs ls C0 hA hK hAq hW hS hl
  exact W.lcmp C0.1 C0.2.1 hd (k p e s m below meth c H locs ls C0 hA hK hAq hW hS hl)
theorem L_goto {off : Int} {tgt : Nat} (hd : decode code pc = .ok (.goto off, 3)) (ht : (pc : Int) + off = (tgt : Int)) (k : LJ l cx b L xs tgt lv st σ) : LJ l cx b L xs pc lv st σ := by
  intro p e s m below meth c H locs ls C0 hA hK hAq hW hS hl
  exact lv_goto C0.1 C0.2.1 hd ht (k p e s m below meth c H locs ls C0 hA hK hAq hW hS hl)
theorem L_iinc {i : Nat} {n : Int} {x v : Int32} {lv' : List (Nat × Value)} (hd : decode code pc = .ok (.iinc i n, 3)) (j : Nat) (hj : lv[j]? = some (i, .int x)) (hv : x + Int32.ofInt n = v) (hn : i < 4) (he : (i, Value.int v) :: lv.filter (fun q => !(q.1 == i) && !(q.1 + 1 == i && q.2.category == 2)) = lv') (k : LJ l cx b L xs (pc + 3) lv' st σ) : LJ l cx b L xs pc lv st σ := by
  intro p e s m below meth c H locs ls C0 hA hK hAq hW hS hl
  exact lv_iinc C0.1 C0.2.1 hd hl hj hv hn he (fun ls' hl' => k p e s m below meth c H locs ls' C0 hA hK hAq hW hS hl')
theorem L_icmpeq {x y : Int32} {off : Int} {tgt : Nat} (hd : decode code pc = .ok (.if_icmp .eq off, 3)) (ht : (pc : Int) + off = (tgt : Int)) (he : x = y) (k : LJ l cx b L xs tgt lv st σ) : LJ l cx b L xs pc lv (.int y :: .int x :: st) σ := by
  intro p e s m below meth c H locs ls C0 hA hK hAq hW hS hl
  exact lv_icmp_eq C0.1 C0.2.1 hd ht (fun _ => k p e s m below meth c H locs ls C0 hA hK hAq hW hS hl) (fun h => absurd he h)
theorem L_ifeq {x : Int32} {off : Int} {tgt : Nat} (hd : decode code pc = .ok (.ifCond .eq off, 3)) (ht : (pc : Int) + off = (tgt : Int)) (he : x = 0) (k : LJ l cx b L xs tgt lv st σ) : LJ l cx b L xs pc lv (.int x :: st) σ := by
  intro p e s m below meth c H locs ls C0 hA hK hAq hW hS hl
  exact lv_if_eq C0.1 C0.2.1 hd ht (fun _ => k p e s m below meth c H locs ls C0 hA hK hAq hW hS hl) (fun h => absurd he h)
theorem L_icmpgt {x y : Int32} {off : Int} {tgt : Nat} (hd : decode code pc = .ok (.if_icmp .gt off, 3)) (ht : (pc : Int) + off = (tgt : Int)) (kt : y < x → LJ l cx b L xs tgt lv st σ) (kf : ¬ y < x → LJ l cx b L xs (pc + 3) lv st σ) : LJ l cx b L xs pc lv (.int y :: .int x :: st) σ := by
  intro p e s m below meth c H locs ls C0 hA hK hAq hW hS hl
  exact lv_icmp_gt C0.1 C0.2.1 hd ht (fun h => kt h p e s m below meth c H locs ls C0 hA hK hAq hW hS hl) (fun h => kf h p e s m below meth c H locs ls C0 hA hK hAq hW hS hl)
theorem L_len (hd : decode code pc = .ok (.arraylength, 1)) (k : LJ l cx b L xs (pc + 1) lv (.int (Int32.ofNat L) :: st) σ) : LJ l cx b L xs pc lv (.ref b :: st) σ := by
  intro p e s m below meth c H locs ls C0 hA hK hAq hW hS hl
  have hbl := C0.2.2.2.2.2.2.2.1
  exact va_slen C0.1 C0.2.1 C0.2.2.2.2.2.2.1 hbl (fun h => absurd ((hAq b).mp h) (Nat.not_le.mpr hbl)) hS hd (k p e s m below meth c H locs ls C0 hA hK hAq hW hS hl)
theorem L_sld {i : Int32} (hd : decode code pc = .ok (.iaload, 1)) (hin : vp_in i L) (k : LJ l cx b L xs (pc + 1) lv (.int (xs i.toNatClampNeg) :: st) σ) : LJ l cx b L xs pc lv (.int i :: .ref b :: st) σ := by
  intro p e s m below meth c H locs ls C0 hA hK hAq hW hS hl
  have hbl := C0.2.2.2.2.2.2.2.1
  exact va_sld C0.1 C0.2.1 C0.2.2.2.2.2.2.1 hbl (fun h => absurd ((hAq b).mp h) (Nat.not_le.mpr hbl)) hS hin hd (k p e s m below meth c H locs ls C0 hA hK hAq hW hS hl)
/-- script[i + k] -/
theorem L_arg {n : Int} {v x : Int32} (h0 : decode code pc = .ok (.aload_n 0, 1)) (h1 : decode code (pc + 1) = .ok (.iload_n 3, 1)) (h2 : decode code (pc + 2) = .ok (.iconst n, 1)) (h3 : decode code (pc + 3) = .ok (.iadd, 1)) (h4 : decode code (pc + 4) = .ok (.iaload, 1)) (hv : Int32.ofInt n = v) (hin : vp_in (x + v) L)
    (k : LJ l cx b L xs (pc + 5) (lvw cx b x) (.int (xs (x + v).toNatClampNeg) :: st) σ) : LJ l cx b L xs pc (lvw cx b x) st σ :=
  L_aload_n h0 rfl 3 rfl (L_iload_n h1 rfl 0 rfl (L_iconst h2 hv (L_iadd h3 (L_sld h4 hin k))))
theorem L_ret (hd : decode code pc = .ok (.ireturn, 1)) : LJ l cx b L xs pc lv [.int 1] σ := by
  intro p e s m below meth c H locs ls C0 hA hK hAq hW hS hl
  refine va_forget (fun q hq => (hAq _).mp (hS.2.2 q hq)) ?_
  exact lw_ret C0.1 C0.2.1 C0.2.2.1 C0.2.2.2.2.2.2.2.2.1 hd
theorem L_call {y : MethodName} {cc' : ByteArray} {nL' h' n index c0 : Nat} {ret' : Option FieldType} {C : String} {T : u_T} {N : Nat} {As : List AV} {Q' : Option AV → AS → Prop} (hc : am_cl c0 C T N) (hC : y.cls = C) (ho : 0 < am_cnt c0) (hm : am_mV y cc' nL' ret' n) (hlink : Cond.methodLink R_law index y ∈ GW) (hn : As.length = n) (hh : h' ≤ 1000) (hw : (st.map fun v => v.category).sum ≤ 8) (hd : decode code pc = .ok (.invokevirtual index, 3))
    (hM : AMet l cx h' y cc' nL' ret' (.inr (.inr (c0, 0, 0)) :: As) σ Q') (kk : ∀ r σ1, Q' r σ1 → LJ l cx b L xs (pc + 3) lv ((r.map (cv cx)).toList ++ st) σ1) {S : List Value} (hst : (As.map (cv cx)).reverse ++ .ref (cxa cx c0 0 0) :: st = S) : LJ l cx b L xs pc lv S σ := by
  intro p e s m below meth c H locs ls C0 hA hK hAq hW hS hl
  subst hC; subst hst
  obtain ⟨hx, hb, hr, hml, hown, hts0, -⟩ := id C0
  have hts : ∀ w ∈ GW, w.before #[Value.ref b] s = true := fun w hw => hts0 w (lw_gw hw)
  obtain ⟨m1, m2, m3, m4, m5, m6, m7, m8⟩ := hm
  have hrun : va_Run p l e room_1 s m #[Value.ref b] below meth c H locs 600000 7302250 0 0 (F0 m pc ls ((As.map (cv cx)).reverse ++ .ref (cxa cx c0 0 0) :: st)) st (QA cx Q' (Value.ref (cxa cx c0 0 0) :: As.map (cv cx)).toArray) (cxA cx) :=
    va_runV (Ts := GW) (As := As.map (cv cx)) (C := y.cls) (n := n) ⟨hx, hb, hml, hown, hts⟩ hM
      ⟨callB_of n hts (gw_in0 m1) rfl rfl rfl (hts _ m2) (hts _ hlink) ⟨m5, m6, m7⟩ ⟨by show h' + 1 ≤ 2048; omega, by show 8 + (nL' + 11) + 64 * h' ≤ 84000; omega⟩, hts _ m3, hts _ m4⟩
      ⟨KX.blind, am_recv hK hW hc ho, fun U hU hWm => ⟨rfl, hK.moved hS hU hWm, by rw [hU]; exact hW⟩⟩ rfl (by rw [List.length_map]; exact hn) hl.1 rfl (lv_room hw) hd ⟨Nat.le_refl _, Nat.le_refl _⟩
  exact am_call hrun (fun _ z => z) hS (fun r σ1 H1 locs1 hq hW1 hS1 _ => kk r σ1 hq p e s m below meth c H1 locs1 ls C0 hA hK hAq hW1 hS1 hl)
theorem L_callI {y : MethodName} {cc' : ByteArray} {nL' h' n index c0 : Nat} {ret' : Option FieldType} {C : String} {T : u_T} {N : Nat} {As : List AV} {Q' : Int32 → AS → Prop} (hc : am_cl c0 C T N) (hC : y.cls = C) (ho : 0 < am_cnt c0) (hm : am_mV y cc' nL' ret' n) (hlink : Cond.methodLink R_law index y ∈ GW) (hn : As.length = n) (hh : h' ≤ 1000) (hw : (st.map fun v => v.category).sum ≤ 8) (hd : decode code pc = .ok (.invokevirtual index, 3))
    (hM : AMet l cx h' y cc' nL' ret' (.inr (.inr (c0, 0, 0)) :: As) σ (QI Q')) (kk : ∀ r σ1, Q' r σ1 → LJ l cx b L xs (pc + 3) lv (.int r :: st) σ1) {S : List Value} (hst : (As.map (cv cx)).reverse ++ .ref (cxa cx c0 0 0) :: st = S) : LJ l cx b L xs pc lv S σ :=
  L_call hc hC ho hm hlink hn hh hw hd hM (fun r σ1 q => by obtain ⟨x, rfl, q⟩ := q; exact kk x σ1 q) hst
theorem L_callJ {y : MethodName} {cc' : ByteArray} {nL' h' n index c0 : Nat} {ret' : Option FieldType} {C : String} {T : u_T} {N : Nat} {As : List AV} {Q' : Int64 → AS → Prop} (hc : am_cl c0 C T N) (hC : y.cls = C) (ho : 0 < am_cnt c0) (hm : am_mV y cc' nL' ret' n) (hlink : Cond.methodLink R_law index y ∈ GW) (hn : As.length = n) (hh : h' ≤ 1000) (hw : (st.map fun v => v.category).sum ≤ 8) (hd : decode code pc = .ok (.invokevirtual index, 3))
    (hM : AMet l cx h' y cc' nL' ret' (.inr (.inr (c0, 0, 0)) :: As) σ (QJ Q')) (kk : ∀ r σ1, Q' r σ1 → LJ l cx b L xs (pc + 3) lv (.long r :: st) σ1) {S : List Value} (hst : (As.map (cv cx)).reverse ++ .ref (cxa cx c0 0 0) :: st = S) : LJ l cx b L xs pc lv S σ :=
  L_call hc hC ho hm hlink hn hh hw hd hM (fun r σ1 q => by obtain ⟨x, rfl, q⟩ := q; exact kk x σ1 q) hst
/-- a switch from 0 -/
theorem L_tsw {dflt hi : Int} {offs : Array Int} {len n : Nat} {x : Int32} {tg : List Nat} {td : Nat} (hd : decode code pc = .ok (.tableswitch dflt 0 hi offs, len)) (hn : hi + 1 = (n : Int)) (ho : ∀ j, j < n → offs[j]? = some (((tg.getD j 0 : Nat) : Int) - (pc : Int))) (ht : (pc : Int) + dflt = (td : Int))
    (k : ∀ j, j < n → x = nI j → LJ l cx b L xs (tg.getD j 0) lv st σ) (k0 : LJ l cx b L xs td lv st σ) : LJ l cx b L xs pc lv (.int x :: st) σ := by
  intro p e s m below meth c H locs ls C0 hA hK hAq hW hS hl
  by_cases h : 0 ≤ x.toInt ∧ x.toInt ≤ hi
  · have hj : x.toInt.toNat < n := by omega
    have hx : x = nI x.toInt.toNat := by
      show x = Int32.ofNat _
      rw [← Int32.toInt_inj]
      have h2 := Int32.toInt_lt x
      rw [Int32.toInt_ofNat_of_lt (by omega)]
      omega
    refine lv_tableIn C0.1 C0.2.1 hd (by omega) (by omega) (tgt := tg.getD x.toInt.toNat 0) (off := ((tg.getD x.toInt.toNat 0 : Nat) : Int) - (pc : Int)) ?_ (by omega) (k _ hj hx p e s m below meth c H locs ls C0 hA hK hAq hW hS hl)
    rw [show (x.toInt - 0).toNat = x.toInt.toNat by rw [Int.sub_zero]]
    exact ho _ hj
  · exact lv_tableOut C0.1 C0.2.1 hd (by omega) ht (k0 p e s m below meth c H locs ls C0 hA hK hAq hW hS hl)
end LAWJ
