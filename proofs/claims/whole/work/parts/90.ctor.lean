/-! Constructors: the judgement CJ, a row an instruction, over the kit's moving worlds (the cells that a constructor reaches, in order) -/
abbrev ct_tys (cI cL cR : ClassId) : List (ClassId × FieldType) := [(cI, .int), (cL, .long), (cR, .object RX5)]
abbrev ct_C : Type := ClassId × ClassId × ClassId
abbrev ct_K (D : va_G) (c3 : ct_C) (U : State) : Prop := va_K D vwCl (ct_tys c3.1 c3.2.1 c3.2.2) U
def QC (D : va_G) (A : Nat → Prop) (Wf : (Nat → Nat) → va_W) : Array Value → State → Outcome → State → Prop := va_Qv (fun _ : Nat → Nat => True) (fun u t => va_P D vwCl (Wf u) t.heap ∧ va_D A (Wf u)) A
def ct_Pc (D : va_G) (c3 : ct_C) (NW : List Cond) (as : List Value) (wc : va_W) (sz : Nat) : Array Value → State → Prop :=
  va_Pc as (fun U => U.heap.size = sz ∧ va_P D vwCl wc U.heap ∧ ct_K D c3 U ∧ (∀ w ∈ NW, va_Nw w U) ∧ va_D (fun _ => True) wc)
/-- the contract of a constructor: from the cells wc it makes the cells Wf u at addresses u 0, u 1 .. -/
def CMet (l : Launch) (D : va_G) (c3 : ct_C) (NW : List Cond) (y : MethodName) (cc : ByteArray) (nL : Nat) (rm : Room) (as : List Value) (wc : va_W) (Wf : (Nat → Nat) → va_W) : Prop :=
  ∀ sz, Met l y (.code y cc nL none :: GW) rm (ct_Pc D c3 NW as wc sz) (QC D (va_A wc sz) Wf) rm.cells rm.slots (va_A wc sz)
def CJ (l : Launch) (D : va_G) (c3 : ct_C) (NW : List Cond) (R : Room) (y : MethodName) (own : String) (cc : ByteArray) (nL : Nat) (Wf : (Nat → Nat) → va_W) (pc : Nat) (lv : List (Nat × Value)) (st : List Value) (ws : va_W) (cells slots : Nat) : Prop :=
  ∀ (A : Nat → Prop) (p : Program) (e : Env) (s : State) (m : MethodId) (args : Array Value) (below : List Frame) (meth : Method) (c : Code) (H : Heap) (locs : List Loc) (ls : Array Slot),
    p.tables.exec = Jvm.exec → c.code = cc → meth.sig.returnType = none → meth.locks = false → c.maxLocals = nL → s.vm.findClass own = some m.cls → meth.name = y.name → (∀ w ∈ GW, w.before args s = true) → (∀ w ∈ NW, va_Nw w s) → (∀ q, s.heap.size ≤ q → A q) →
    ct_K D c3 s → va_P D vwCl ws H → va_D A ws → va_S A s.heap H locs → lv_has ls nL lv →
    W p l e R s m args below meth c H locs cells slots (MQ below (QC D A Wf) args s R.cells R.slots A) (F0 m pc ls st)
theorem CMet.of {l : Launch} {D : va_G} {c3 : ct_C} {NW : List Cond} {y : MethodName} {own : String} {cc : ByteArray} {nL : Nat} {rm : Room} {as : List Value} {wc : va_W} {Wf : (Nat → Nat) → va_W} {lv : List (Nat × Value)} (hy : plainName y.cls = true) (ho : y.cls = own) (hn : (lg_sl as).length ≤ nL) (hlv : lv_args 0 as = lv)
    (k : CJ l D c3 NW rm y own cc nL Wf 0 lv [] wc 0 0) : CMet l D c3 NW y cc nL rm as wc Wf := by
  intro sz
  refine Met.ofW (cc := cc) (maxL := nL) (ret := none) hy rfl ?_
  intro p e s m args below meth c s₁ B hml hv
  obtain ⟨rfl, hsz, hP, hK, hN, hD0⟩ := hv
  have hts := atoms_spec (ws := Cond.code y cc nL none :: GW) B.pre
  have hown : s.vm.findClass own = some m.cls := ho ▸ findClass_of_methodNamed B.named
  have hin : meth.name = y.name := (name_of_methodNamed B.named B.method).1
  subst hsz
  have hD := hD0.self (sz := s.heap.size)
  rw [lg_entry_eq]
  have hl := lv_entry as (n := nL) hn
  rw [hlv] at hl
  exact k (va_A wc s.heap.size) p e s m _ below meth c s.heap [] _ B.exec B.bytes B.returns B.notSynchronized hml hown hin (fun w hw => hts w (List.mem_cons_of_mem _ hw)) hN (fun q h => Or.inr h) hK hP hD va_S.rf hl
section CJS
variable {l : Launch} {D : va_G} {c3 : ct_C} {NW : List Cond} {R : Room} {y : MethodName} {own : String} {cc : ByteArray} {nL : Nat} {Wf : (Nat → Nat) → va_W} {pc : Nat} {lv : List (Nat × Value)} {st : List Value} {ws : va_W} {cells slots : Nat}
theorem C_iconst {n : Int} {v : Int32} (hd : decode cc pc = .ok (.iconst n, 1)) (hv : Int32.ofInt n = v) (k : CJ l D c3 NW R y own cc nL Wf (pc + 1) lv (.int v :: st) ws cells slots) : CJ l D c3 NW R y own cc nL Wf pc lv st ws cells slots := by
  intro A p e s m args below meth c H locs ls hx hb hr hlk hml hown hin hts hnw hA hK hP hD hS hl
  exact lv_iconst hx hb hd hv (k A p e s m args below meth c H locs ls hx hb hr hlk hml hown hin hts hnw hA hK hP hD hS hl)
theorem C_bipush {n : Int} {v : Int32} (hd : decode cc pc = .ok (.bipush n, 2)) (hv : (Int8.ofInt n).toInt32 = v) (k : CJ l D c3 NW R y own cc nL Wf (pc + 2) lv (.int v :: st) ws cells slots) : CJ l D c3 NW R y own cc nL Wf pc lv st ws cells slots := by
  intro A p e s m args below meth c H locs ls hx hb hr hlk hml hown hin hts hnw hA hK hP hD hS hl
  exact lv_bipush hx hb hd hv (k A p e s m args below meth c H locs ls hx hb hr hlk hml hown hin hts hnw hA hK hP hD hS hl)
theorem C_sipush {n : Int} {v : Int32} (hd : decode cc pc = .ok (.sipush n, 3)) (hv : (Int16.ofInt n).toInt32 = v) (k : CJ l D c3 NW R y own cc nL Wf (pc + 3) lv (.int v :: st) ws cells slots) : CJ l D c3 NW R y own cc nL Wf pc lv st ws cells slots := by
  intro A p e s m args below meth c H locs ls hx hb hr hlk hml hown hin hts hnw hA hK hP hD hS hl
  exact lv_sipush hx hb hd hv (k A p e s m args below meth c H locs ls hx hb hr hlk hml hown hin hts hnw hA hK hP hD hS hl)
theorem C_dup {a : Nat} (hd : decode cc pc = .ok (.dup, 1)) (k : CJ l D c3 NW R y own cc nL Wf (pc + 1) lv (.ref a :: .ref a :: st) ws cells slots) : CJ l D c3 NW R y own cc nL Wf pc lv (.ref a :: st) ws cells slots := by
  intro A p e s m args below meth c H locs ls hx hb hr hlk hml hown hin hts hnw hA hK hP hD hS hl
  exact lv_dup hx hb hd rfl (k A p e s m args below meth c H locs ls hx hb hr hlk hml hown hin hts hnw hA hK hP hD hS hl)
theorem C_aload_n {k0 : Fin 4} {i : Nat} {a : Nat} (hd : decode cc pc = .ok (.aload_n k0, 1)) (hi : (k0 : Nat) = i) (j : Nat) (hj : lv[j]? = some (i, .ref a)) (k : CJ l D c3 NW R y own cc nL Wf (pc + 1) lv (.ref a :: st) ws cells slots) : CJ l D c3 NW R y own cc nL Wf pc lv st ws cells slots := by
  intro A p e s m args below meth c H locs ls hx hb hr hlk hml hown hin hts hnw hA hK hP hD hS hl
  exact lv_aload_n hx hb hd hi (lv_at hl j hj) (k A p e s m args below meth c H locs ls hx hb hr hlk hml hown hin hts hnw hA hK hP hD hS hl)
theorem C_iload_n {k0 : Fin 4} {i : Nat} {x : Int32} (hd : decode cc pc = .ok (.iload_n k0, 1)) (hi : (k0 : Nat) = i) (j : Nat) (hj : lv[j]? = some (i, .int x)) (k : CJ l D c3 NW R y own cc nL Wf (pc + 1) lv (.int x :: st) ws cells slots) : CJ l D c3 NW R y own cc nL Wf pc lv st ws cells slots := by
  intro A p e s m args below meth c H locs ls hx hb hr hlk hml hown hin hts hnw hA hK hP hD hS hl
  exact lv_iload_n hx hb hd hi (lv_at hl j hj) (k A p e s m args below meth c H locs ls hx hb hr hlk hml hown hin hts hnw hA hK hP hD hS hl)
theorem C_istore_n {k0 : Fin 4} {i : Nat} {x : Int32} {lv' : List (Nat × Value)} (hd : decode cc pc = .ok (.istore_n k0, 1)) (hi : (k0 : Nat) = i) (hn : i < nL) (he : (i, Value.int x) :: lv.filter (fun q => !(q.1 == i) && !(q.1 + 1 == i && q.2.category == 2)) = lv') (k : CJ l D c3 NW R y own cc nL Wf (pc + 1) lv' st ws cells slots) : CJ l D c3 NW R y own cc nL Wf pc lv (.int x :: st) ws cells slots := by
  intro A p e s m args below meth c H locs ls hx hb hr hlk hml hown hin hts hnw hA hK hP hD hS hl
  exact lv_istore_n hx hb hd hi hl hn he (fun ls' hl' => k A p e s m args below meth c H locs ls' hx hb hr hlk hml hown hin hts hnw hA hK hP hD hS hl')
theorem C_iinc {i : Nat} {n : Int} {x v : Int32} {lv' : List (Nat × Value)} (hd : decode cc pc = .ok (.iinc i n, 3)) (j : Nat) (hj : lv[j]? = some (i, .int x)) (hv : x + Int32.ofInt n = v) (hn : i < nL) (he : (i, Value.int v) :: lv.filter (fun q => !(q.1 == i) && !(q.1 + 1 == i && q.2.category == 2)) = lv') (k : CJ l D c3 NW R y own cc nL Wf (pc + 3) lv' st ws cells slots) : CJ l D c3 NW R y own cc nL Wf pc lv st ws cells slots := by
  intro A p e s m args below meth c H locs ls hx hb hr hlk hml hown hin hts hnw hA hK hP hD hS hl
  exact lv_iinc hx hb hd hl hj hv hn he (fun ls' hl' => k A p e s m args below meth c H locs ls' hx hb hr hlk hml hown hin hts hnw hA hK hP hD hS hl')
theorem C_goto {off : Int} {tgt : Nat} (hd : decode cc pc = .ok (.goto off, 3)) (ht : (pc : Int) + off = (tgt : Int)) (k : CJ l D c3 NW R y own cc nL Wf tgt lv st ws cells slots) : CJ l D c3 NW R y own cc nL Wf pc lv st ws cells slots := by
  intro A p e s m args below meth c H locs ls hx hb hr hlk hml hown hin hts hnw hA hK hP hD hS hl
  exact lv_goto hx hb hd ht (k A p e s m args below meth c H locs ls hx hb hr hlk hml hown hin hts hnw hA hK hP hD hS hl)
theorem C_geT {x z : Int32} {off : Int} {tgt : Nat} (hd : decode cc pc = .ok (.if_icmp .ge off, 3)) (ht : (pc : Int) + off = (tgt : Int)) (hz : z ≤ x) (k : CJ l D c3 NW R y own cc nL Wf tgt lv st ws cells slots) : CJ l D c3 NW R y own cc nL Wf pc lv (.int z :: .int x :: st) ws cells slots := by
  intro A p e s m args below meth c H locs ls hx hb hr hlk hml hown hin hts hnw hA hK hP hD hS hl
  exact lv_icmp_ge hx hb hd ht (fun _ => k A p e s m args below meth c H locs ls hx hb hr hlk hml hown hin hts hnw hA hK hP hD hS hl) (fun h => absurd hz h)
theorem C_geF {x z : Int32} {off : Int} {tgt : Nat} (hd : decode cc pc = .ok (.if_icmp .ge off, 3)) (ht : (pc : Int) + off = (tgt : Int)) (hz : ¬ z ≤ x) (k : CJ l D c3 NW R y own cc nL Wf (pc + 3) lv st ws cells slots) : CJ l D c3 NW R y own cc nL Wf pc lv (.int z :: .int x :: st) ws cells slots := by
  intro A p e s m args below meth c H locs ls hx hb hr hlk hml hown hin hts hnw hA hK hP hD hS hl
  exact lv_icmp_ge hx hb hd ht (fun h => absurd h hz) (fun _ => k A p e s m args below meth c H locs ls hx hb hr hlk hml hown hin hts hnw hA hK hP hD hS hl)
theorem C_obj {index a : Nat} (hlink : Cond.methodLink own index objectInit ∈ GW) (hd : decode cc pc = .ok (.invokespecial index, 3)) (hf : 1 ≤ R.frames) (hw : (st.map fun v => v.category).sum + 12 ≤ R.locals) (k : CJ l D c3 NW R y own cc nL Wf (pc + 3) lv st ws cells slots) : CJ l D c3 NW R y own cc nL Wf pc lv (.ref a :: st) ws cells slots := by
  intro A p e s m args below meth c H locs ls hx hb hr hlk hml hown hin hts hnw hA hK hP hD hS hl
  refine W.objInit hx hb hown (hts _ hlink) (hts _ (gw_mem 96 (by decide +kernel) rfl)) (hts _ (gw_mem 97 (by decide +kernel) rfl)) rfl (hl.1.trans hml.symm) rfl hd hf (by show 2 * 0 + _ + 12 ≤ _; omega) ?_
  exact W.eq (g2 := F0 m (pc + 3) ls st) rfl (k A p e s m args below meth c H locs ls hx hb hr hlk hml hown hin hts hnw hA hK hP hD hS hl)
theorem C_newI {n : Int32} {N : Nat} (hd : decode cc pc = .ok (.newarray .int, 2)) (hn : ¬ n < 0) (hN : n.toNatClampNeg = N) (hb0 : N * componentBytes .int ≤ 536870912) (hc : cells + 1 ≤ R.cells) (hs : slots + N ≤ R.slots)
    (k : ∀ q : Nat, CJ l D c3 NW R y own cc nL Wf (pc + 2) lv (.ref q :: st) (ws ++ [(q, .inl (c3.1, N, .inl (fun _ => 0)))]) (cells + 1) (slots + N)) : CJ l D c3 NW R y own cc nL Wf pc lv (.int n :: st) ws cells slots := by
  intro A p e s m args below meth c H locs ls hx hb hr hlk hml hown hin hts hnw hA hK hP hD hS hl
  refine va_newa (atype := .int) (ty := .int) (a0 := (N, .inl (fun _ => 0))) hx hb (hts _ (gw_mem 114 (by decide +kernel) rfl)) rfl hK hP hD hS hA (fun cA => rfl) hn hN hb0 hc hs hd (fun q cA H1 hK1 hP1 hD1 hS1 => ?_)
  have e1 : cA = c3.1 := Option.some.inj (((hK1.2 3 _ rfl).2 : s.vm.findClass _ = some cA).symm.trans ((hK.2 0 _ rfl).2 : s.vm.findClass _ = some c3.1))
  rw [e1] at hP1 hD1
  exact k q A p e s m args below meth c H1 locs ls hx hb hr hlk hml hown hin hts hnw hA hK hP1 hD1 hS1 hl
theorem C_newL {n : Int32} {N : Nat} (hd : decode cc pc = .ok (.newarray .long, 2)) (hn : ¬ n < 0) (hN : n.toNatClampNeg = N) (hb0 : N * componentBytes .long ≤ 536870912) (hc : cells + 1 ≤ R.cells) (hs : slots + N ≤ R.slots)
    (k : ∀ q : Nat, CJ l D c3 NW R y own cc nL Wf (pc + 2) lv (.ref q :: st) (ws ++ [(q, .inl (c3.2.1, N, .inr (.inl (fun _ => 0))))]) (cells + 1) (slots + N)) : CJ l D c3 NW R y own cc nL Wf pc lv (.int n :: st) ws cells slots := by
  intro A p e s m args below meth c H locs ls hx hb hr hlk hml hown hin hts hnw hA hK hP hD hS hl
  refine va_newa (atype := .long) (ty := .long) (a0 := (N, .inr (.inl (fun _ => 0)))) hx hb (hts _ (gw_mem 315 (by decide +kernel) rfl)) rfl hK hP hD hS hA (fun cA => rfl) hn hN hb0 hc hs hd (fun q cA H1 hK1 hP1 hD1 hS1 => ?_)
  have e1 : cA = c3.2.1 := Option.some.inj (((hK1.2 3 _ rfl).2 : s.vm.findClass _ = some cA).symm.trans ((hK.2 1 _ rfl).2 : s.vm.findClass _ = some c3.2.1))
  rw [e1] at hP1 hD1
  exact k q A p e s m args below meth c H1 locs ls hx hb hr hlk hml hown hin hts hnw hA hK hP1 hD1 hS1 hl
theorem C_newR {n : Int32} {N index : Nat} (hd : decode cc pc = .ok (.anewarray index, 3)) (hcl : Cond.classLink own index RX5 ∈ GW) (hao : Cond.arrayOver (.object RX5) ∈ NW) (hn : ¬ n < 0) (hN : n.toNatClampNeg = N) (hb0 : N * 4 ≤ 536870912) (hc : cells + 1 ≤ R.cells) (hs : slots + N ≤ R.slots)
    (k : ∀ q : Nat, CJ l D c3 NW R y own cc nL Wf (pc + 3) lv (.ref q :: st) (ws ++ [(q, .inl (c3.2.2, N, .inr (.inr (.inr (.inr (fun _ => none))))))]) (cells + 1) (slots + N)) : CJ l D c3 NW R y own cc nL Wf pc lv (.int n :: st) ws cells slots := by
  intro A p e s m args below meth c H locs ls hx hb hr hlk hml hown hin hts hnw hA hK hP hD hS hl
  refine va_newq (C := RX5) hx hb hown (hts _ hcl) (hnw _ hao) hK hP hD hS hA hn hN hb0 hc hs hd (fun q cA H1 hK1 hP1 hD1 hS1 => ?_)
  have e1 : cA = c3.2.2 := by
    obtain ⟨_, _, _, _, _, h1⟩ := (hK1.2 3 _ rfl).2
    obtain ⟨_, _, _, _, _, h2⟩ := (hK.2 2 _ rfl).2
    exact Option.some.inj (h1.symm.trans h2)
  rw [e1] at hP1 hD1
  exact k q A p e s m args below meth c H1 locs ls hx hb hr hlk hml hown hin hts hnw hA hK hP1 hD1 hS1 hl
theorem ct_pt {α : Type} {N : Nat} {f g : Nat → α} (h : (List.range N).map f = (List.range N).map g) : ∀ j, j < N → f j = g j := by
  intro j hj
  have h1 := congrArg (fun z => z[j]?) h
  simpa [List.getElem?_map, List.getElem?_range hj] using h1
theorem C_new {c0 index N : Nat} {C : String} {T : u_T} {fs : List Value} (hc0 : am_cl c0 C T N) (ty : Nat → FieldType) (hty : ∀ k, k < N → parseFieldDescriptor (T k).2.2.1 = some (ty k)) (hd : decode cc pc = .ok (.new index, 3)) (hcl : Cond.classLink own index C ∈ GW) (hinst : Cond.instantiable C N ∈ GW) (hini : Cond.initialized C ∈ GW) (hfs : (List.range N).map (fun j => defaultValue (ty j)) = (List.range N).map (vp_V fs)) (hc : cells + 1 ≤ R.cells) (hs : slots + N ≤ R.slots)
    (k : ∀ q : Nat, CJ l D c3 NW R y own cc nL Wf (pc + 3) lv (.ref q :: st) (ws ++ [(q, .inr (c0, fs))]) (cells + 1) (slots + N)) : CJ l D c3 NW R y own cc nL Wf pc lv st ws cells slots := by
  intro A p e s m args below meth c H locs ls hx hb hr hlk hml hown hin hts hnw hA hK hP hD hS hl
  refine va_new (ci := c0) (C := C) (T := T) (N := N) hx hb hts hc0.2.2.1 ty hty hown (hts _ hcl) (hts _ hinst) (hts _ hini) hK hP hD hS hA hc0.1 (ct_pt hfs) hc hs hd (fun q H1 hP1 hD1 hS1 => ?_)
  exact k q A p e s m args below meth c H1 locs ls hx hb hr hlk hml hown hin hts hnw hA hK hP1 hD1 hS1 hl
theorem C_get {c0 index N k0 q0 a : Nat} {C : String} {T : u_T} {fs : List Value} {v : Value} (hc0 : am_cl c0 C T N) (hd : decode cc pc = .ok (.getfield index, 3)) (hk : k0 < N) (hlink : Cond.fieldLink own index (T k0).1 (T k0).2.1 (T k0).2.2.1 ∈ GW) (he : ws[q0]? = some (a, .inr (c0, fs))) (hv : fs[k0]? = some v)
    (k : CJ l D c3 NW R y own cc nL Wf (pc + 3) lv (v :: st) ws cells slots) : CJ l D c3 NW R y own cc nL Wf pc lv (.ref a :: st) ws cells slots := by
  intro A p e s m args below meth c H locs ls hx hb hr hlk hml hown hin hts hnw hA hK hP hD hS hl
  exact va_get (D := D) (ci := c0) (v := v) (C := C) (T := T) (N := N) hx hb hts hc0.2.2.1 hown hK hP q0 he hc0.1 k0 hk (hts _ hlink) (fun _ h9 => h9) hv hd (k A p e s m args below meth c H locs ls hx hb hr hlk hml hown hin hts hnw hA hK hP hD hS hl)
theorem C_put {c0 index N k0 q0 a : Nat} {C : String} {T : u_T} {fs : List Value} {v : Value} {ty : FieldType} {ws' : va_W} (hc0 : am_cl c0 C T N) (hd : decode cc pc = .ok (.putfield index, 3)) (hk : k0 < N) (hlink : Cond.fieldLink own index (T k0).1 (T k0).2.1 (T k0).2.2.1 ∈ GW) (he : ws[q0]? = some (a, .inr (c0, fs))) (hfin : (T k0).2.2.2 = false ∨ ((T k0).2.2.2 = true ∧ y.name = "<init>" ∧ (T k0).1 = own)) (hdt : parseFieldDescriptor (T k0).2.2.1 = some ty) (hn : narrow ty v = v) (hfit : fits ty v = true) (hlen : k0 < fs.length) (hws : ws.set q0 (a, .inr (c0, fs.set k0 v)) = ws')
    (k : CJ l D c3 NW R y own cc nL Wf (pc + 3) lv st ws' cells slots) : CJ l D c3 NW R y own cc nL Wf pc lv (v :: .ref a :: st) ws cells slots := by
  intro A p e s m args below meth c H locs ls hx hb hr hlk hml hown hin hts hnw hA hK hP hD hS hl
  obtain ⟨ty0, hty0⟩ := hc0.2.2.2.1
  subst hws
  rcases hfin with hf | ⟨hf, hi, ho⟩
  · exact va_put (D := D) (ci := c0) (v := v) (ty := ty) (C := C) (T := T) (N := N) hx hb hts hc0.2.2.1 ty0 hty0 hc0.2.2.2.2 hown hK hP hD hS q0 he hc0.1 k0 hk (hts _ hlink) (fun _ h9 => h9) hf hdt hn hfit hlen hd (fun H1 locs1 hP1 hD1 hS1 => k A p e s m args below meth c H1 locs1 ls hx hb hr hlk hml hown hin hts hnw hA hK hP1 hD1 hS1 hl)
  · exact va_putF (D := D) (ci := c0) (v := v) (ty := ty) (C := C) (T := T) (N := N) hx hb hts hc0.2.2.1 ty0 hty0 hc0.2.2.2.2 hown hK hP hD hS q0 he hc0.1 k0 hk (hts _ hlink) (fun _ h9 => h9) hf (hin.trans hi) ho hdt hn hfit hlen hd (fun H1 locs1 hP1 hD1 hS1 => k A p e s m args below meth c H1 locs1 ls hx hb hr hlk hml hown hin hts hnw hA hK hP1 hD1 hS1 hl)
theorem C_iast {q0 n a : Nat} {i x : Int32} {f : Nat → Int32} {ws' : va_W} (hd : decode cc pc = .ok (.iastore, 1)) (he : ws[q0]? = some (a, .inl (c3.1, n, .inl f))) (hi : inb i n) (hws : ws.set q0 (a, .inl (c3.1, n, .inl (upd f i.toNatClampNeg x))) = ws')
    (k : CJ l D c3 NW R y own cc nL Wf (pc + 1) lv st ws' cells slots) : CJ l D c3 NW R y own cc nL Wf pc lv (.int x :: .int i :: .ref a :: st) ws cells slots := by
  intro A p e s m args below meth c H locs ls hx hb hr hlk hml hown hin hts hnw hA hK hP hD hS hl
  subst hws
  exact va_iast (D := D) hx hb hK hP hD hS q0 0 he rfl (inb_in hi) hd (fun H1 locs1 hP1 hD1 hS1 => k A p e s m args below meth c H1 locs1 ls hx hb hr hlk hml hown hin hts hnw hA hK hP1 hD1 hS1 hl)
theorem C_alen {q0 n a : Nat} {f : Nat → Int32} {v : Int32} (hd : decode cc pc = .ok (.arraylength, 1)) (he : ws[q0]? = some (a, .inl (c3.1, n, .inl f))) (hv : Int32.ofNat n = v)
    (k : CJ l D c3 NW R y own cc nL Wf (pc + 1) lv (.int v :: st) ws cells slots) : CJ l D c3 NW R y own cc nL Wf pc lv (.ref a :: st) ws cells slots := by
  intro A p e s m args below meth c H locs ls hx hb hr hlk hml hown hin hts hnw hA hK hP hD hS hl
  exact va_alen (D := D) hx hb hK hP q0 0 he rfl hv hd (k A p e s m args below meth c H locs ls hx hb hr hlk hml hown hin hts hnw hA hK hP hD hS hl)
theorem C_aast {q0 qk n a v : Nat} {i : Int32} {vs : List Value} {f : Nat → Option Nat} {ws' : va_W} (hd : decode cc pc = .ok (.aastore, 1)) (he : ws[q0]? = some (a, .inl (c3.2.2, n, .inr (.inr (.inr (.inr f)))))) (hv : ws[qk]? = some (v, .inr (5, vs))) (hi : inb i n) (hws : ws.set q0 (a, .inl (c3.2.2, n, .inr (.inr (.inr (.inr (va_up f i.toNatClampNeg (some v))))))) = ws')
    (k : CJ l D c3 NW R y own cc nL Wf (pc + 1) lv st ws' cells slots) : CJ l D c3 NW R y own cc nL Wf pc lv (.ref v :: .int i :: .ref a :: st) ws cells slots := by
  intro A p e s m args below meth c H locs ls hx hb hr hlk hml hown hin hts hnw hA hK hP hD hS hl
  subst hws
  exact va_astq (D := D) hx hb hK hP hD hS q0 2 qk 5 he (r := (RX5, TX5, 4)) rfl hv rfl (inb_in hi) hd (fun H1 locs1 hP1 hD1 hS1 => k A p e s m args below meth c H1 locs1 ls hx hb hr hlk hml hown hin hts hnw hA hK hP1 hD1 hS1 hl)
theorem C_ret (u : Nat → Nat) (hd : decode cc pc = .ok (.return_, 1)) (hc : cells = R.cells) (hs : slots = R.slots) (hu : Wf u = ws) : CJ l D c3 NW R y own cc nL Wf pc lv [] ws cells slots := by
  intro A p e s m args below meth c H locs ls hx hb hr hlk hml hown hin hts hnw hA hK hP hD hS hl
  subst hc; subst hs; subst hu
  exact W.vret hx hb hr (fun t ht _ => ⟨⟨u, rfl, trivial, by rw [ht]; exact hP, hD⟩, hS.F ht⟩) hS.2.2 hd hlk
theorem ct_blind {as : List Value} {wc : va_W} {sz : Nat} (hN : ∀ w ∈ NW, w.onTables = true ∨ w = .arrayOver (.object RX5)) : FrameBlind (ct_Pc D c3 NW as wc sz) := by
  intro a U g mk q
  obtain ⟨q0, q1, qP, qK, qN, qD⟩ := q
  exact ⟨q0, q1, qP, va_K.moved (u := U) (U := U.calling g mk a) (Vm.Alike.refl U.vm) qK, fun w hw => (hN w hw).elim (fun h => va_Nw.same (u := U) h rfl (qN w hw)) (fun h => by subst h; exact va_AO.moved (u := U) (Vm.Alike.refl U.vm) (qN _ hw)), qD⟩
/-- a call of a constructor: its own cell wc = [ws[i0]], the rest wr stays -/
theorem C_call {y' : MethodName} {cc' : ByteArray} {nL' n index b i0 : Nat} {rm' : Room} {As rest : List Value} {cell : va_E} {Wf' : (Nat → Nat) → va_W} {isR : List Nat} {wr : va_W} (hM : CMet l D c3 [] y' cc' nL' rm' (.ref b :: As) [(b, cell)] Wf')
    (hlink : Cond.methodLink own index y' ∈ GW ∨ ∃ host, Cond.methodLinkNest own index y' host ∈ NW) (hcode : Cond.code y' cc' nL' none ∈ GW) (hini : Cond.initialized y'.cls ∈ GW) (hinst : Cond.instanceMethod y' ∈ GW) (hy1 : y'.name = "<init>")
    (hd0 : y'.cls ≠ "java/lang/invoke/MethodHandle" ∧ y'.cls ≠ "java/lang/invoke/VarHandle" ∧ (parseMethodDescriptor y'.desc).map (fun d => d.parameters.length) = some n) (hn : As.length = n) (hR : rm'.frames + 1 ≤ R.frames ∧ 8 + (nL' + 11) + rm'.locals ≤ R.locals) (hw : (rest.map fun v => v.category).sum ≤ 8) (hd : decode cc pc = .ok (.invokespecial index, 3)) (hfit : cells + rm'.cells ≤ R.cells ∧ slots + rm'.slots ≤ R.slots)
    (he : ws[i0]? = some (b, cell)) (hRr : isR.map (fun i => ws[i]?) = wr.map some) (hnd : va_nd isR = true) (hdis : ∀ i ∈ isR, i ∉ [i0])
    (k : ∀ u, CJ l D c3 NW R y own cc nL Wf (pc + 3) lv rest (wr ++ Wf' u) (cells + rm'.cells) (slots + rm'.slots)) (hst : As.reverse ++ .ref b :: rest = st) : CJ l D c3 NW R y own cc nL Wf pc lv st ws cells slots := by
  intro A p e s m args below meth c H locs ls hx hb hr hlk hml hown hin hts hnw hA hK hP hD hS hl
  subst hst
  have hC : [i0].map (fun i => ws[i]?) = [(b, cell)].map some := by rw [List.map_cons, he]; rfl
  have hP0 : va_P D vwCl [(b, cell)] H := fun j q hq => by
    match j, hq with
    | 0, hq => cases hq; exact hP i0 _ he
  have hD0 : va_D (fun _ => True) [(b, cell)] := ⟨fun i j p' q h1 h2 _ => by
    have a1 : i < 1 := (List.getElem?_eq_some_iff.mp h1).1
    have a2 : j < 1 := (List.getElem?_eq_some_iff.mp h2).1
    omega, fun _ _ _ => trivial⟩
  have hF := va_free (wc := [(b, cell)]) hD hS hA [i0] hC
  have hPre : PreS s H (ct_Pc D c3 [] (.ref b :: As) [(b, cell)] H.size) (.ref b :: As) := ⟨ct_blind (fun _ h => absurd h List.not_mem_nil), fun U hU hW => ⟨rfl, by rw [hU], by rw [hU]; exact hP0, va_K.moved hW.alike hK, (fun _ h => absurd h List.not_mem_nil), hD0⟩⟩
  have hrun : va_Run p l e R s m args below meth c H locs cells slots rm'.cells rm'.slots (F0 m pc ls (As.reverse ++ .ref b :: rest)) rest (QC D (va_A [(b, cell)] H.size) Wf' (Value.ref b :: As).toArray) (va_A [(b, cell)] H.size) := by
    rcases hlink with h1 | ⟨host, h1⟩
    · exact va_runI (Ts := GW) (As := As) (n := n) ⟨hx, hb, hml, hown, hts⟩ (hM H.size) ⟨callB_of n hts (gw_in0 hcode) rfl rfl rfl (hts _ hini) (hts _ h1) hd0 hR, hy1, hts _ hinst⟩ hPre rfl hn hl.1 rfl (by show 2 * 0 + _ ≤ 8; omega) hd hfit
    · exact va_runIN (Ts := GW) (As := As) (n := n) ⟨hx, hb, hml, hown, hts⟩ (hM H.size) ⟨va_cnB n hts (gw_in0 hcode) rfl rfl rfl (hnw _ h1) (hts _ hini) hd0 hR, hy1, hts _ hinst⟩ hPre rfl hn hl.1 rfl (by show 2 * 0 + _ ≤ 8; omega) hd hfit
  refine va_callv hrun hS (fun q _ h => hF q h) hF (fun u t H1 locs1 ht hvm _ hB hz1 hk1 hS1 => ?_)
  obtain ⟨hP1, hD1⟩ := hB
  rw [ht] at hP1
  obtain ⟨hP2, hD2⟩ := va_join hP hD [i0] isR hC hRr hnd hdis hk1 hF hP1 hD1
  exact k u A p e s m args below meth c H1 locs1 ls hx hb hr hlk hml hown hin hts hnw hA hK hP2 hD2 hS1 hl
/-- a static call with one array of ints -/
theorem C_callS {y' : MethodName} {cc' : ByteArray} {nL' n index b i0 : Nat} {rm' : Room} {As rest : List Value} {cell : va_E} {Wf' : (Nat → Nat) → va_W} {isR : List Nat} {wr : va_W} (hM : CMet l D c3 [] y' cc' nL' rm' As [(b, cell)] Wf')
    (hlink : Cond.methodLink own index y' ∈ GW) (hcode : Cond.code y' cc' nL' none ∈ GW) (hini : Cond.initialized y'.cls ∈ GW) (hst0 : Cond.static y' ∈ GW)
    (hd0 : y'.cls ≠ "java/lang/invoke/MethodHandle" ∧ y'.cls ≠ "java/lang/invoke/VarHandle" ∧ (parseMethodDescriptor y'.desc).map (fun d => d.parameters.length) = some n) (hn : As.length = n) (hR : rm'.frames + 1 ≤ R.frames ∧ 8 + (nL' + 11) + rm'.locals ≤ R.locals) (hw : (rest.map fun v => v.category).sum ≤ 8) (hd : decode cc pc = .ok (.invokestatic index, 3)) (hfit : cells + rm'.cells ≤ R.cells ∧ slots + rm'.slots ≤ R.slots)
    (he : ws[i0]? = some (b, cell)) (hRr : isR.map (fun i => ws[i]?) = wr.map some) (hnd : va_nd isR = true) (hdis : ∀ i ∈ isR, i ∉ [i0])
    (k : ∀ u, CJ l D c3 NW R y own cc nL Wf (pc + 3) lv rest (wr ++ Wf' u) (cells + rm'.cells) (slots + rm'.slots)) (hst : As.reverse ++ rest = st) : CJ l D c3 NW R y own cc nL Wf pc lv st ws cells slots := by
  intro A p e s m args below meth c H locs ls hx hb hr hlk hml hown hin hts hnw hA hK hP hD hS hl
  subst hst
  have hC : [i0].map (fun i => ws[i]?) = [(b, cell)].map some := by rw [List.map_cons, he]; rfl
  have hP0 : va_P D vwCl [(b, cell)] H := fun j q hq => by
    match j, hq with
    | 0, hq => cases hq; exact hP i0 _ he
  have hD0 : va_D (fun _ => True) [(b, cell)] := ⟨fun i j p' q h1 h2 _ => by
    have a1 : i < 1 := (List.getElem?_eq_some_iff.mp h1).1
    have a2 : j < 1 := (List.getElem?_eq_some_iff.mp h2).1
    omega, fun _ _ _ => trivial⟩
  have hF := va_free (wc := [(b, cell)]) hD hS hA [i0] hC
  have hPre : PreS s H (ct_Pc D c3 [] As [(b, cell)] H.size) As := ⟨ct_blind (fun _ h => absurd h List.not_mem_nil), fun U hU hW => ⟨rfl, by rw [hU], by rw [hU]; exact hP0, va_K.moved hW.alike hK, (fun _ h => absurd h List.not_mem_nil), hD0⟩⟩
  have hrun : va_Run p l e R s m args below meth c H locs cells slots rm'.cells rm'.slots (F0 m pc ls (As.reverse ++ rest)) rest (QC D (va_A [(b, cell)] H.size) Wf' As.toArray) (va_A [(b, cell)] H.size) :=
    va_runS (Ts := GW) (As := As) (n := n) ⟨hx, hb, hml, hown, hts⟩ (hM H.size) ⟨callB_of n hts (gw_in0 hcode) rfl rfl rfl (hts _ hini) (hts _ hlink) hd0 hR, hts _ hst0⟩ hPre rfl hn hl.1 rfl (by show 2 * 0 + _ ≤ 8; omega) hd hfit
  refine va_callv hrun hS (fun q _ h => hF q h) hF (fun u t H1 locs1 ht hvm _ hB hz1 hk1 hS1 => ?_)
  obtain ⟨hP1, hD1⟩ := hB
  rw [ht] at hP1
  obtain ⟨hP2, hD2⟩ := va_join hP hD [i0] isR hC hRr hnd hdis hk1 hF hP1 hD1
  exact k u A p e s m args below meth c H1 locs1 ls hx hb hr hlk hml hown hin hts hnw hA hK hP2 hD2 hS1 hl
end CJS
