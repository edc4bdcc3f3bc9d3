def rmD (h : Nat) : Room := { frames := h, cells := 0, slots := 0, locals := 64 * h }
def QA (cx : CX) (Q : Option AV → AS → Prop) : Array Value → State → Outcome → State → Prop := fun _ st o t =>
  (∃ (r : Option AV) (σ : AS), o = .returned (r.map (cv cx)) ∧ Q r σ ∧ WD cx σ t.heap) ∧ va_F (cxA cx) st t
/-- THE JUDGEMENT: from this place of a method on, in this world, it returns, and Q holds of its answer and the world behind it -/
def RJ (l : Launch) (cx : CX) (h : Nat) (own : String) (cc : ByteArray) (nL : Nat) (ret : Option FieldType) (pc : Nat) (lv : List (Nat × AV)) (st : List AV) (σ : AS) (Q : Option AV → AS → Prop) : Prop :=
  ∀ (p : Program) (e : Env) (s : State) (m : MethodId) (args : Array Value) (below : List Frame) (meth : Method) (c : Code) (H : Heap) (locs : List Loc) (ls : Array Slot),
    p.tables.exec = Jvm.exec → c.code = cc → meth.sig.returnType = ret → meth.locks = false → c.maxLocals = nL → s.vm.findClass own = some m.cls → (∀ w ∈ GW, w.before args s = true) → AD cx → KX cx s →
    WD cx σ H → va_S (cxA cx) s.heap H locs → lv_has ls nL (cvl cx lv) →
    W p l e (rmD h) s m args below meth c H locs 0 0 (MQ below (QA cx Q) args s 0 0 (cxA cx)) (F0 m pc ls (st.map (cv cx)))
def AMet (l : Launch) (cx : CX) (h : Nat) (y : MethodName) (cc : ByteArray) (nL : Nat) (ret : Option FieldType) (av : List AV) (σ : AS) (Q : Option AV → AS → Prop) : Prop :=
  Met l y (.code y cc nL ret :: GW) (rmD h) (va_Pc (av.map (cv cx)) (fun U => KX cx U ∧ WD cx σ U.heap)) (QA cx Q) 0 0 (cxA cx)
def am_args : Nat → List AV → List (Nat × AV)
  | _, [] => []
  | i, v :: vs => (i, v) :: am_args (if am_two v then i + 2 else i + 1) vs
theorem am_args_eq (cx : CX) : ∀ (av : List AV) (i : Nat), lv_args i (av.map (cv cx)) = cvl cx (am_args i av)
  | [], _ => rfl
  | v :: vs, i => by
    have h := am_cat cx v
    cases h2 : am_two v with
    | false => rw [h2] at h; simp [lv_args, am_args, cvl, h, h2] ; exact am_args_eq cx vs _
    | true => rw [h2] at h; simp [lv_args, am_args, cvl, h, h2] ; exact am_args_eq cx vs _
def am_w : List AV → Nat
  | [] => 0
  | v :: vs => (if am_two v then 2 else 1) + am_w vs
theorem am_w_eq (cx : CX) : ∀ (av : List AV), ((av.map (cv cx)).map fun v => v.category).sum = am_w av
  | [] => rfl
  | v :: vs => by simp only [List.map_cons, List.sum_cons, am_w, am_cat, ← am_w_eq cx vs]
theorem am_slw : ∀ (vs : List Value), (lg_sl vs).length = (vs.map fun v => v.category).sum
  | [] => rfl
  | v :: vs => by
    have h := am_slw vs
    have e : lg_sl (v :: vs) = (if v.category = 2 then [Slot.val v, .second] else [.val v]) ++ lg_sl vs := by simp [lg_sl]
    rw [e, List.length_append, h]
    rcases lv_cat v with q | q <;> simp [q]
theorem AMet.of {l : Launch} {cx : CX} {h : Nat} {y : MethodName} {own : String} {cc : ByteArray} {nL : Nat} {ret : Option FieldType} {av : List AV} {σ : AS} {Q : Option AV → AS → Prop} (hy : plainName y.cls = true) (ho : y.cls = own) (hA : AD cx) (hn : am_w av ≤ nL)
    (k : RJ l cx h own cc nL ret 0 (am_args 0 av) [] σ Q) : AMet l cx h y cc nL ret av σ Q := by
  refine Met.ofW (cc := cc) (maxL := nL) (ret := ret) hy rfl ?_
  intro p e s m args below meth c s₁ B hml hv
  obtain ⟨rfl, hK, hW⟩ := hv
  have hts := atoms_spec (ws := Cond.code y cc nL ret :: GW) B.pre
  have hown : s.vm.findClass own = some m.cls := ho ▸ findClass_of_methodNamed B.named
  rw [lg_entry_eq]
  have hl := lv_entry (av.map (cv cx)) (n := nL) (by rw [am_slw, am_w_eq]; exact hn)
  rw [am_args_eq] at hl
  exact k p e s m _ below meth c s.heap [] _ B.exec B.bytes B.returns B.notSynchronized hml hown (fun w hw => hts w (List.mem_cons_of_mem _ hw)) hA hK hW va_S.rf hl
/-! the heap of the abstract machine: reads and writes -/
def sF (σ : AS) (c o k : Nat) (v : Int32) : AS := (fun c' o' k' => if c' = c ∧ o' = o ∧ k' = k then v else σ.1 c' o' k', σ.2)
def sAf (σ : AS) (c o k : Nat) (f : Nat → Int32) : AS := (σ.1, fun c' o' k' => if c' = c ∧ o' = o ∧ k' = k then f else σ.2.1 c' o' k', σ.2.2)
def sLf (σ : AS) (c o k : Nat) (f : Nat → Int64) : AS := (σ.1, σ.2.1, fun c' o' k' => if c' = c ∧ o' = o ∧ k' = k then f else σ.2.2 c' o' k')
abbrev sA (σ : AS) (c o k : Nat) (i : Int32) (v : Int32) : AS := sAf σ c o k (upd (σ.2.1 c o k) i.toNatClampNeg v)
abbrev sL (σ : AS) (c o k : Nat) (i : Int32) (v : Int64) : AS := sLf σ c o k (vp_updL (σ.2.2 c o k) i.toNatClampNeg v)
abbrev gF (σ : AS) (c o k : Nat) : Int32 := σ.1 c o k
abbrev gA (σ : AS) (c o k : Nat) (i : Int32) : Int32 := σ.2.1 c o k i.toNatClampNeg
abbrev gL (σ : AS) (c o k : Nat) (i : Int32) : Int64 := σ.2.2 c o k i.toNatClampNeg
abbrev inb (i : Int32) (n : Nat) : Prop := 0 ≤ i ∧ i.toNatClampNeg < n
theorem inb_in {i : Int32} {n : Nat} (h : inb i n) : vp_in i n := fun q => q.elim (fun a => absurd (Int32.lt_iff_toInt_lt.mp a) (Int.not_lt.mpr (Int32.le_iff_toInt_le.mp h.1))) (fun a => absurd h.2 (Nat.not_lt.mpr a))
theorem WD.setF {cx : CX} {σ : AS} {H H1 : Heap} {c o k : Nat} {v : Int32} (hW : WD cx σ H) (hA : AD cx) (ho : o < am_cnt c) (hk : (am_k c k).1 = 0 ∨ (am_k c k).1 = 1)
    (h1 : t_OB (cxa cx c o 0) ((cxD cx).1 c) (am_nf c) ((cxD cx).2 c) H1 (updV (am_fv cx σ c o) k (.int v))) (hq : ∀ q : Nat, q ≠ cxa cx c o 0 → H1[q]? = H[q]?) : WD cx (sF σ c o k v) H1 := by
  refine ⟨fun c' o' h' => ?_, fun c' o' k' h' hk' ha => ?_⟩
  · by_cases e : cxa cx c' o' 0 = cxa cx c o 0
    · obtain ⟨e1, e2, -⟩ := hA.1 c' o' 0 c o 0 ⟨h', Or.inl rfl⟩ ⟨ho, Or.inl rfl⟩ e
      subst e1; subst e2
      refine h1.to (fun j hj => ?_)
      by_cases ej : j = k
      · subst ej
        rcases hk with hk | hk <;> simp [updV, am_fv, sF, hk]
      · simp [updV, am_fv, sF, ej]
    · refine ((hW.1 c' o' h').kept (hq _ e)).to (fun j hj => ?_)
      have hne : ¬ (c' = c ∧ o' = o ∧ j = k) := fun z => e (by rw [z.1, z.2.1])
      simp [am_fv, sF, hne]
  · rw [hq _ (fun e => ?_)]
    · exact hW.2 c' o' k' h' hk' ha
    · have h3 := (hA.1 c' o' (k' + 1) c o 0 ⟨h', Or.inr ⟨k', rfl, hk', ha⟩⟩ ⟨ho, Or.inl rfl⟩ e).2.2
      cases h3
theorem WD.setR {cx : CX} {σ σ1 : AS} {H H1 : Heap} {c o k : Nat} (hW : WD cx σ H) (hA : AD cx) (ho : o < am_cnt c) (hk : k < am_nf c) (ha : am_isA c k = true)
    (h1 : H1[cxa cx c o (k + 1)]? = some (am_ac cx σ1 c o k)) (hq : ∀ q : Nat, q ≠ cxa cx c o (k + 1) → H1[q]? = H[q]?) (hf : σ1.1 = σ.1) (hs : ∀ c' o' k', ¬ (c' = c ∧ o' = o ∧ k' = k) → am_ac cx σ1 c' o' k' = am_ac cx σ c' o' k') : WD cx σ1 H1 := by
  refine ⟨fun c' o' h' => ?_, fun c' o' k' h' hk' ha' => ?_⟩
  · have e : cxa cx c' o' 0 ≠ cxa cx c o (k + 1) := fun e => by
      have h3 := (hA.1 c' o' 0 c o (k + 1) ⟨h', Or.inl rfl⟩ ⟨ho, Or.inr ⟨k, rfl, hk, ha⟩⟩ e).2.2
      cases h3
    refine ((hW.1 c' o' h').kept (hq _ e)).to (fun j hj => ?_)
    simp [am_fv, hf]
  · by_cases e : cxa cx c' o' (k' + 1) = cxa cx c o (k + 1)
    · obtain ⟨e1, e2, e3⟩ := hA.1 c' o' (k' + 1) c o (k + 1) ⟨h', Or.inr ⟨k', rfl, hk', ha'⟩⟩ ⟨ho, Or.inr ⟨k, rfl, hk, ha⟩⟩ e
      have e4 : k' = k := Nat.succ.inj e3
      subst e1; subst e2; subst e4
      exact h1
    · rw [hq _ e, hs c' o' k' (fun z => e (by rw [z.1, z.2.1, z.2.2]))]
      exact hW.2 c' o' k' h' hk' ha'
theorem am_acA {cx : CX} {σ : AS} {c o k : Nat} {n z : Nat} (h : am_k c k = (2, n, z)) : am_ac cx σ c o k = arrV (cxI cx) n (fun j => .int (σ.2.1 c o k j)) := by simp [am_ac, h]
theorem am_acL {cx : CX} {σ : AS} {c o k : Nat} {n z : Nat} (h : am_k c k = (3, n, z)) : am_ac cx σ c o k = arrV (cxL cx) n (fun j => .long (σ.2.2 c o k j)) := by simp [am_ac, h]
theorem am_acR {cx : CX} {σ : AS} {c o k : Nat} {n z : Nat} (h : am_k c k = (4, n, z)) : am_ac cx σ c o k = arrV (cxR cx) n (fun j => .ref (cxa cx z j 0)) := by simp [am_ac, h]
theorem am_isA_of {c k n z t : Nat} (h : am_k c k = (t, n, z)) (h1 : 2 ≤ t) (h2 : t ≤ 4) : am_isA c k = true := by simp [am_isA, h, h1, h2]
theorem am_nf_of {c k n z t : Nat} (h : am_k c k = (t, n, z)) (h1 : t ≤ 5) : k < am_nf c := by
  refine Nat.lt_of_not_le fun q => ?_
  have : am_k c k = (9, 0, 0) := by
    show ((am_kt.getD c []).getD k (9, 0, 0)) = _
    rw [List.getD_eq_getElem?_getD, List.getElem?_eq_none q]
    rfl
  rw [this] at h
  cases h
  omega
theorem WD.setA {cx : CX} {σ : AS} {H H1 : Heap} {c o k n z : Nat} {f : Nat → Int32} (hW : WD cx σ H) (hA : AD cx) (ho : o < am_cnt c) (hk : am_k c k = (2, n, z))
    (h1 : H1[cxa cx c o (k + 1)]? = some (arrV (cxI cx) n (fun j => .int (f j)))) (hq : ∀ q : Nat, q ≠ cxa cx c o (k + 1) → H1[q]? = H[q]?) : WD cx (sAf σ c o k f) H1 := by
  refine hW.setR hA ho (am_nf_of hk (by omega)) (am_isA_of hk (by omega) (by omega)) ?_ hq rfl (fun c' o' k' hne => ?_)
  · rw [am_acA hk, h1]; simp [sAf]
  · simp [am_ac, sAf, hne]
theorem WD.setL {cx : CX} {σ : AS} {H H1 : Heap} {c o k n z : Nat} {f : Nat → Int64} (hW : WD cx σ H) (hA : AD cx) (ho : o < am_cnt c) (hk : am_k c k = (3, n, z))
    (h1 : H1[cxa cx c o (k + 1)]? = some (arrV (cxL cx) n (fun j => .long (f j)))) (hq : ∀ q : Nat, q ≠ cxa cx c o (k + 1) → H1[q]? = H[q]?) : WD cx (sLf σ c o k f) H1 := by
  refine hW.setR hA ho (am_nf_of hk (by omega)) (am_isA_of hk (by omega) (by omega)) ?_ hq rfl (fun c' o' k' hne => ?_)
  · rw [am_acL hk, h1]; simp [sLf]
  · simp [am_ac, sLf, hne]
/-! answers -/
def wpO {α : Type} (x : Option (α × AS)) (Q : α → AS → Prop) : Prop := ∃ r σ, x = some (r, σ) ∧ Q r σ
def bnd {α β : Type} (x : Option (α × AS)) (f : α → AS → Option (β × AS)) : Option (β × AS) := match x with
  | some (r, σ) => f r σ
  | none => none
def lt {α β : Type} (x : α) (f : α → β) : β := f x
theorem wp_bnd {α β : Type} {x : Option (α × AS)} {f : α → AS → Option (β × AS)} {Q : β → AS → Prop} (h : wpO (bnd x f) Q) : wpO x (fun r σ => wpO (f r σ) Q) := by
  obtain ⟨r, σ, h1, h2⟩ := h
  cases x with
  | none => cases h1
  | some q => exact ⟨q.1, q.2, rfl, r, σ, h1, h2⟩
theorem wp_chk {α : Type} {c : Prop} [Decidable c] {x : Option (α × AS)} {Q : α → AS → Prop} (h : wpO (if c then x else none) Q) : c ∧ wpO x Q := by
  by_cases hc : c
  · rw [if_pos hc] at h; exact ⟨hc, h⟩
  · rw [if_neg hc] at h; obtain ⟨r, σ, h1, -⟩ := h; cases h1
theorem wp_t {α : Type} {c : Prop} [Decidable c] {x y : Option (α × AS)} {Q : α → AS → Prop} (hc : c) (h : wpO (if c then x else y) Q) : wpO x Q := by rw [if_pos hc] at h; exact h
theorem wp_f {α : Type} {c : Prop} [Decidable c] {x y : Option (α × AS)} {Q : α → AS → Prop} (hc : ¬ c) (h : wpO (if c then x else y) Q) : wpO y Q := by rw [if_neg hc] at h; exact h
theorem wp_no {α : Type} {Q : α → AS → Prop} {G : Prop} (h : wpO (none : Option (α × AS)) Q) : G := by obtain ⟨r, σ, h1, -⟩ := h; cases h1
theorem wp_some {α : Type} {r : α} {σ : AS} {Q : α → AS → Prop} (h : wpO (some (r, σ)) Q) : Q r σ := by obtain ⟨r', σ', h1, h2⟩ := h; cases h1; exact h2
def QI (Q : Int32 → AS → Prop) : Option AV → AS → Prop := fun r σ => ∃ x, r = some (.inl x) ∧ Q x σ
def QV (Q : Unit → AS → Prop) : Option AV → AS → Prop := fun r σ => r = none ∧ Q () σ
def QJ (Q : Int64 → AS → Prop) : Option AV → AS → Prop := fun r σ => ∃ x, r = some (.inr (.inl x)) ∧ Q x σ
abbrev rmi (x y : Int32) : Int32 := x - x / y * y
abbrev ush (x y : Int32) : Int32 := (x.toUInt32 >>> (y.toUInt32 &&& Int32.toUInt32 31)).toInt32
abbrev lsh (x : Int64) (y : Int32) : Int64 := x <<< (y.toInt64 &&& 63)
abbrev i2b (x : Int32) : Int32 := x.toInt8.toInt32
abbrev i2s (x : Int32) : Int32 := x.toInt16.toInt32
abbrev mxi (x y : Int32) : Int32 := if x < y then y else x
abbrev mni (x y : Int32) : Int32 := if y < x then y else x
abbrev abi (x : Int32) : Int32 := if 0 ≤ x then x else 0 - x
section AMR
variable {l : Launch} {cx : CX} {h : Nat} {own : String} {cc : ByteArray} {nL : Nat} {ret : Option FieldType} {pc : Nat} {lv : List (Nat × AV)} {st : List AV} {σ : AS} {Q : Option AV → AS → Prop}
theorem R_nameS {α : Type} {F : AS → Option (α × AS)} {Q0 : α → AS → Prop} {lv' : List (Nat × AV)} {st' : List AV} (hw : wpO (lt σ F) Q0) (k : ∀ σ1, wpO (F σ1) Q0 → RJ l cx h own cc nL ret pc lv' st' σ1 Q) : RJ l cx h own cc nL ret pc lv' st' σ Q := k σ hw
theorem R_nameI {α : Type} {x : Int32} {F : Int32 → Option (α × AS)} {Q0 : α → AS → Prop} (hw : wpO (lt x F) Q0) (k : ∀ x1, wpO (F x1) Q0 → RJ l cx h own cc nL ret pc lv (.inl x1 :: st) σ Q) : RJ l cx h own cc nL ret pc lv (.inl x :: st) σ Q := k x hw
theorem R_nameJ {α : Type} {x : Int64} {F : Int64 → Option (α × AS)} {Q0 : α → AS → Prop} (hw : wpO (lt x F) Q0) (k : ∀ x1, wpO (F x1) Q0 → RJ l cx h own cc nL ret pc lv (.inr (.inl x1) :: st) σ Q) : RJ l cx h own cc nL ret pc lv (.inr (.inl x) :: st) σ Q := k x hw
theorem R_sub {lv' : List (Nat × AV)} (js : List Nat) (hs : js.filterMap (fun j => lv[j]?) = lv') (k : RJ l cx h own cc nL ret pc lv' st σ Q) : RJ l cx h own cc nL ret pc lv st σ Q := by
  intro p e s m args below meth c H locs ls hx hb hr hlk hml hown hts hA hK hW hS hl
  refine k p e s m args below meth c H locs ls hx hb hr hlk hml hown hts hA hK hW hS ⟨hl.1, hl.2.1, fun q hq => ?_⟩
  obtain ⟨z, hz, rfl⟩ := List.mem_map.mp hq
  rw [← hs] at hz
  obtain ⟨j, -, hj⟩ := List.mem_filterMap.mp hz
  exact hl.2.2 _ (List.mem_map.mpr ⟨z, List.mem_of_getElem? hj, rfl⟩)
theorem am_lv {j i : Nat} {v : AV} (hj : lv[j]? = some (i, v)) : (cvl cx lv)[j]? = some (i, cv cx v) := by
  show (List.map _ lv)[j]? = _
  rw [List.getElem?_map, hj]; rfl
theorem am_st1 {i : Nat} {v : AV} {lv' : List (Nat × AV)} (h : (i, v) :: lv.filter (fun q => !(q.1 == i) && !(q.1 + 1 == i && am_two q.2)) = lv') : (i, cv cx v) :: (cvl cx lv).filter (fun q => !(q.1 == i) && !(q.1 + 1 == i && q.2.category == 2)) = cvl cx lv' := by
  rw [← h]
  simp only [cvl, List.map_cons, List.filter_map, Function.comp_def, am_cat2]
theorem am_st2 {i : Nat} {v : AV} {lv' : List (Nat × AV)} (h : (i, v) :: lv.filter (fun q => !(q.1 == i) && (!(q.1 == i + 1) && !(q.1 + 1 == i && am_two q.2))) = lv') : (i, cv cx v) :: (cvl cx lv).filter (fun q => !(q.1 == i) && (!(q.1 == i + 1) && !(q.1 + 1 == i && q.2.category == 2))) = cvl cx lv' := by
  rw [← h]
  simp only [cvl, List.map_cons, List.filter_map, Function.comp_def, am_cat2]
theorem R_iconst {n : Int} {v : Int32} (hd : decode cc pc = .ok (.iconst n, 1)) (hv : Int32.ofInt n = v) (k : RJ l cx h own cc nL ret (pc + 1) lv (.inl v :: st) σ Q) : RJ l cx h own cc nL ret pc lv st σ Q := by
  intro p e s m args below meth c H locs ls hx hb hr hlk hml hown hts hA hK hW hS hl
  exact lv_iconst hx hb hd hv (k p e s m args below meth c H locs ls hx hb hr hlk hml hown hts hA hK hW hS hl)
theorem R_bipush {n : Int} {v : Int32} (hd : decode cc pc = .ok (.bipush n, 2)) (hv : (Int8.ofInt n).toInt32 = v) (k : RJ l cx h own cc nL ret (pc + 2) lv (.inl v :: st) σ Q) : RJ l cx h own cc nL ret pc lv st σ Q := by
  intro p e s m args below meth c H locs ls hx hb hr hlk hml hown hts hA hK hW hS hl
  exact lv_bipush hx hb hd hv (k p e s m args below meth c H locs ls hx hb hr hlk hml hown hts hA hK hW hS hl)
theorem R_sipush {n : Int} {v : Int32} (hd : decode cc pc = .ok (.sipush n, 3)) (hv : (Int16.ofInt n).toInt32 = v) (k : RJ l cx h own cc nL ret (pc + 3) lv (.inl v :: st) σ Q) : RJ l cx h own cc nL ret pc lv st σ Q := by
  intro p e s m args below meth c H locs ls hx hb hr hlk hml hown hts hA hK hW hS hl
  exact lv_sipush hx hb hd hv (k p e s m args below meth c H locs ls hx hb hr hlk hml hown hts hA hK hW hS hl)
theorem R_lconst {n : Fin 2} {v : Int64} (hd : decode cc pc = .ok (.lconst n, 1)) (hv : Int64.ofNat (n : Nat) = v) (k : RJ l cx h own cc nL ret (pc + 1) lv (.inr (.inl v) :: st) σ Q) : RJ l cx h own cc nL ret pc lv st σ Q := by
  intro p e s m args below meth c H locs ls hx hb hr hlk hml hown hts hA hK hW hS hl
  exact lv_lconst hx hb hd hv (k p e s m args below meth c H locs ls hx hb hr hlk hml hown hts hA hK hW hS hl)
theorem R_ldc {index : Nat} {v : Int32} (hd : decode cc pc = .ok (.ldc index, 2)) (hc : Cond.constant own index v ∈ GW) (k : RJ l cx h own cc nL ret (pc + 2) lv (.inl v :: st) σ Q) : RJ l cx h own cc nL ret pc lv st σ Q := by
  intro p e s m args below meth c H locs ls hx hb hr hlk hml hown hts hA hK hW hS hl
  exact lv_ldc hx hb hown (hts _ hc) hd (k p e s m args below meth c H locs ls hx hb hr hlk hml hown hts hA hK hW hS hl)
theorem R_ldc2 {index : Nat} {v : Int64} (hd : decode cc pc = .ok (.ldc2_w index, 3)) (hc : Cond.constantLong own index v ∈ GW) (k : RJ l cx h own cc nL ret (pc + 3) lv (.inr (.inl v) :: st) σ Q) : RJ l cx h own cc nL ret pc lv st σ Q := by
  intro p e s m args below meth c H locs ls hx hb hr hlk hml hown hts hA hK hW hS hl
  exact lv_ldc2 hx hb hown (hts _ hc) hd (k p e s m args below meth c H locs ls hx hb hr hlk hml hown hts hA hK hW hS hl)
theorem R_iadd {x y : Int32} (hd : decode cc pc = .ok (.iadd, 1))  (k : RJ l cx h own cc nL ret (pc + 1) lv (.inl (x + y) :: st) σ Q) : RJ l cx h own cc nL ret pc lv (.inl y :: .inl x :: st) σ Q := by
  intro p e s m args below meth c H locs ls hx hb hr hlk hml hown hts hA hK hW hS hl
  exact lv_iadd hx hb hd (k p e s m args below meth c H locs ls hx hb hr hlk hml hown hts hA hK hW hS hl)
theorem R_isub {x y : Int32} (hd : decode cc pc = .ok (.isub, 1))  (k : RJ l cx h own cc nL ret (pc + 1) lv (.inl (x - y) :: st) σ Q) : RJ l cx h own cc nL ret pc lv (.inl y :: .inl x :: st) σ Q := by
  intro p e s m args below meth c H locs ls hx hb hr hlk hml hown hts hA hK hW hS hl
  exact lv_isub hx hb hd (k p e s m args below meth c H locs ls hx hb hr hlk hml hown hts hA hK hW hS hl)
theorem R_imul {x y : Int32} (hd : decode cc pc = .ok (.imul, 1))  (k : RJ l cx h own cc nL ret (pc + 1) lv (.inl (x * y) :: st) σ Q) : RJ l cx h own cc nL ret pc lv (.inl y :: .inl x :: st) σ Q := by
  intro p e s m args below meth c H locs ls hx hb hr hlk hml hown hts hA hK hW hS hl
  exact lv_imul hx hb hd (k p e s m args below meth c H locs ls hx hb hr hlk hml hown hts hA hK hW hS hl)
theorem R_iand {x y : Int32} (hd : decode cc pc = .ok (.iand, 1))  (k : RJ l cx h own cc nL ret (pc + 1) lv (.inl (x &&& y) :: st) σ Q) : RJ l cx h own cc nL ret pc lv (.inl y :: .inl x :: st) σ Q := by
  intro p e s m args below meth c H locs ls hx hb hr hlk hml hown hts hA hK hW hS hl
  exact lv_iand hx hb hd (k p e s m args below meth c H locs ls hx hb hr hlk hml hown hts hA hK hW hS hl)
theorem R_ior {x y : Int32} (hd : decode cc pc = .ok (.ior, 1))  (k : RJ l cx h own cc nL ret (pc + 1) lv (.inl (x ||| y) :: st) σ Q) : RJ l cx h own cc nL ret pc lv (.inl y :: .inl x :: st) σ Q := by
  intro p e s m args below meth c H locs ls hx hb hr hlk hml hown hts hA hK hW hS hl
  exact lv_ior hx hb hd (k p e s m args below meth c H locs ls hx hb hr hlk hml hown hts hA hK hW hS hl)
theorem R_ixor {x y : Int32} (hd : decode cc pc = .ok (.ixor, 1))  (k : RJ l cx h own cc nL ret (pc + 1) lv (.inl (x ^^^ y) :: st) σ Q) : RJ l cx h own cc nL ret pc lv (.inl y :: .inl x :: st) σ Q := by
  intro p e s m args below meth c H locs ls hx hb hr hlk hml hown hts hA hK hW hS hl
  exact lv_ixor hx hb hd (k p e s m args below meth c H locs ls hx hb hr hlk hml hown hts hA hK hW hS hl)
theorem R_idiv {x y : Int32} (hd : decode cc pc = .ok (.idiv, 1)) (hne : ¬ y = 0) (k : RJ l cx h own cc nL ret (pc + 1) lv (.inl (x / y) :: st) σ Q) : RJ l cx h own cc nL ret pc lv (.inl y :: .inl x :: st) σ Q := by
  intro p e s m args below meth c H locs ls hx hb hr hlk hml hown hts hA hK hW hS hl
  exact lv_idiv hx hb hd hne (k p e s m args below meth c H locs ls hx hb hr hlk hml hown hts hA hK hW hS hl)
theorem R_irem {x y : Int32} (hd : decode cc pc = .ok (.irem, 1)) (hne : ¬ y = 0) (k : RJ l cx h own cc nL ret (pc + 1) lv (.inl (rmi x y) :: st) σ Q) : RJ l cx h own cc nL ret pc lv (.inl y :: .inl x :: st) σ Q := by
  intro p e s m args below meth c H locs ls hx hb hr hlk hml hown hts hA hK hW hS hl
  exact lv_irem hx hb hd hne (k p e s m args below meth c H locs ls hx hb hr hlk hml hown hts hA hK hW hS hl)
theorem R_ineg {x : Int32} (hd : decode cc pc = .ok (.ineg, 1))  (k : RJ l cx h own cc nL ret (pc + 1) lv (.inl (-x) :: st) σ Q) : RJ l cx h own cc nL ret pc lv (.inl x :: st) σ Q := by
  intro p e s m args below meth c H locs ls hx hb hr hlk hml hown hts hA hK hW hS hl
  exact lv_ineg hx hb hd (k p e s m args below meth c H locs ls hx hb hr hlk hml hown hts hA hK hW hS hl)
theorem R_iushr {x y : Int32} (hd : decode cc pc = .ok (.iushr, 1))  (k : RJ l cx h own cc nL ret (pc + 1) lv (.inl (ush x y) :: st) σ Q) : RJ l cx h own cc nL ret pc lv (.inl y :: .inl x :: st) σ Q := by
  intro p e s m args below meth c H locs ls hx hb hr hlk hml hown hts hA hK hW hS hl
  exact lv_iushr hx hb hd rfl (k p e s m args below meth c H locs ls hx hb hr hlk hml hown hts hA hK hW hS hl)
theorem R_i2l {x : Int32} (hd : decode cc pc = .ok (.i2l, 1))  (k : RJ l cx h own cc nL ret (pc + 1) lv (.inr (.inl x.toInt64) :: st) σ Q) : RJ l cx h own cc nL ret pc lv (.inl x :: st) σ Q := by
  intro p e s m args below meth c H locs ls hx hb hr hlk hml hown hts hA hK hW hS hl
  exact lv_i2l hx hb hd rfl (k p e s m args below meth c H locs ls hx hb hr hlk hml hown hts hA hK hW hS hl)
theorem R_l2i {x : Int64} (hd : decode cc pc = .ok (.l2i, 1))  (k : RJ l cx h own cc nL ret (pc + 1) lv (.inl x.toInt32 :: st) σ Q) : RJ l cx h own cc nL ret pc lv (.inr (.inl x) :: st) σ Q := by
  intro p e s m args below meth c H locs ls hx hb hr hlk hml hown hts hA hK hW hS hl
  exact lv_l2i hx hb hd rfl (k p e s m args below meth c H locs ls hx hb hr hlk hml hown hts hA hK hW hS hl)
theorem R_i2b {x : Int32} (hd : decode cc pc = .ok (.i2b, 1))  (k : RJ l cx h own cc nL ret (pc + 1) lv (.inl (i2b x) :: st) σ Q) : RJ l cx h own cc nL ret pc lv (.inl x :: st) σ Q := by
  intro p e s m args below meth c H locs ls hx hb hr hlk hml hown hts hA hK hW hS hl
  exact lv_i2b hx hb hd rfl (k p e s m args below meth c H locs ls hx hb hr hlk hml hown hts hA hK hW hS hl)
theorem R_i2s {x : Int32} (hd : decode cc pc = .ok (.i2s, 1))  (k : RJ l cx h own cc nL ret (pc + 1) lv (.inl (i2s x) :: st) σ Q) : RJ l cx h own cc nL ret pc lv (.inl x :: st) σ Q := by
  intro p e s m args below meth c H locs ls hx hb hr hlk hml hown hts hA hK hW hS hl
  exact lv_i2s hx hb hd rfl (k p e s m args below meth c H locs ls hx hb hr hlk hml hown hts hA hK hW hS hl)
theorem R_land {x y : Int64} (hd : decode cc pc = .ok (.land, 1))  (k : RJ l cx h own cc nL ret (pc + 1) lv (.inr (.inl (x &&& y)) :: st) σ Q) : RJ l cx h own cc nL ret pc lv (.inr (.inl y) :: .inr (.inl x) :: st) σ Q := by
  intro p e s m args below meth c H locs ls hx hb hr hlk hml hown hts hA hK hW hS hl
  exact lv_land hx hb hd (k p e s m args below meth c H locs ls hx hb hr hlk hml hown hts hA hK hW hS hl)
theorem R_lor {x y : Int64} (hd : decode cc pc = .ok (.lor, 1))  (k : RJ l cx h own cc nL ret (pc + 1) lv (.inr (.inl (x ||| y)) :: st) σ Q) : RJ l cx h own cc nL ret pc lv (.inr (.inl y) :: .inr (.inl x) :: st) σ Q := by
  intro p e s m args below meth c H locs ls hx hb hr hlk hml hown hts hA hK hW hS hl
  exact lv_lor hx hb hd (k p e s m args below meth c H locs ls hx hb hr hlk hml hown hts hA hK hW hS hl)
theorem R_lshl {x : Int64} {y : Int32} (hd : decode cc pc = .ok (.lshl, 1))  (k : RJ l cx h own cc nL ret (pc + 1) lv (.inr (.inl (lsh x y)) :: st) σ Q) : RJ l cx h own cc nL ret pc lv (.inl y :: .inr (.inl x) :: st) σ Q := by
  intro p e s m args below meth c H locs ls hx hb hr hlk hml hown hts hA hK hW hS hl
  exact lv_lshl hx hb hd rfl (k p e s m args below meth c H locs ls hx hb hr hlk hml hown hts hA hK hW hS hl)
theorem R_lcmp {x y : Int64} (hd : decode cc pc = .ok (.lcmp, 1))  (k : RJ l cx h own cc nL ret (pc + 1) lv (.inl (lg_cmp x y) :: st) σ Q) : RJ l cx h own cc nL ret pc lv (.inr (.inl y) :: .inr (.inl x) :: st) σ Q := by
  intro p e s m args below meth c H locs ls hx hb hr hlk hml hown hts hA hK hW hS hl
  exact W.lcmp hx hb hd (k p e s m args below meth c H locs ls hx hb hr hlk hml hown hts hA hK hW hS hl)
theorem R_dup {v : AV} (hd : decode cc pc = .ok (.dup, 1)) (hv : am_two v = false) (k : RJ l cx h own cc nL ret (pc + 1) lv (v :: v :: st) σ Q) : RJ l cx h own cc nL ret pc lv (v :: st) σ Q := by
  intro p e s m args below meth c H locs ls hx hb hr hlk hml hown hts hA hK hW hS hl
  exact lv_dup hx hb hd (am_cat1 cx hv) (k p e s m args below meth c H locs ls hx hb hr hlk hml hown hts hA hK hW hS hl)
theorem R_dup2 {v w : AV} (hd : decode cc pc = .ok (.dup2, 1)) (hv : am_two v = false) (hw : am_two w = false) (k : RJ l cx h own cc nL ret (pc + 1) lv (v :: w :: v :: w :: st) σ Q) : RJ l cx h own cc nL ret pc lv (v :: w :: st) σ Q := by
  intro p e s m args below meth c H locs ls hx hb hr hlk hml hown hts hA hK hW hS hl
  exact lv_dup2_11 hx hb hd (am_cat1 cx hv) (am_cat1 cx hw) (k p e s m args below meth c H locs ls hx hb hr hlk hml hown hts hA hK hW hS hl)
theorem R_pop {v : AV} (hd : decode cc pc = .ok (.pop, 1)) (hv : am_two v = false) (k : RJ l cx h own cc nL ret (pc + 1) lv st σ Q) : RJ l cx h own cc nL ret pc lv (v :: st) σ Q := by
  intro p e s m args below meth c H locs ls hx hb hr hlk hml hown hts hA hK hW hS hl
  exact lv_pop hx hb hd (am_cat1 cx hv) (k p e s m args below meth c H locs ls hx hb hr hlk hml hown hts hA hK hW hS hl)
theorem R_goto {off : Int} {tgt : Nat} (hd : decode cc pc = .ok (.goto off, 3)) (ht : (pc : Int) + off = (tgt : Int)) (k : RJ l cx h own cc nL ret tgt lv st σ Q) : RJ l cx h own cc nL ret pc lv st σ Q := by
  intro p e s m args below meth c H locs ls hx hb hr hlk hml hown hts hA hK hW hS hl
  exact lv_goto hx hb hd ht (k p e s m args below meth c H locs ls hx hb hr hlk hml hown hts hA hK hW hS hl)
theorem R_iload_n {k : Fin 4} {i : Nat} {x : Int32} (hd : decode cc pc = .ok (.iload_n k, 1)) (hi : (k : Nat) = i) (j : Nat) (hj : lv[j]? = some (i, .inl x)) (kk : RJ l cx h own cc nL ret (pc + 1) lv (.inl x :: st) σ Q) : RJ l cx h own cc nL ret pc lv st σ Q := by
  intro p e s m args below meth c H locs ls hx hb hr hlk hml hown hts hA hK hW hS hl
  exact lv_iload_n hx hb hd hi (lv_at hl j (am_lv hj)) (kk p e s m args below meth c H locs ls hx hb hr hlk hml hown hts hA hK hW hS hl)
theorem R_iload {i : Nat} {x : Int32} (hd : decode cc pc = .ok (.iload i, 2)) (j : Nat) (hj : lv[j]? = some (i, .inl x)) (k : RJ l cx h own cc nL ret (pc + 2) lv (.inl x :: st) σ Q) : RJ l cx h own cc nL ret pc lv st σ Q := by
  intro p e s m args below meth c H locs ls hx hb hr hlk hml hown hts hA hK hW hS hl
  exact lv_iload hx hb hd (lv_at hl j (am_lv hj)) (k p e s m args below meth c H locs ls hx hb hr hlk hml hown hts hA hK hW hS hl)
theorem R_lload_n {k : Fin 4} {i : Nat} {x : Int64} (hd : decode cc pc = .ok (.lload_n k, 1)) (hi : (k : Nat) = i) (j : Nat) (hj : lv[j]? = some (i, .inr (.inl x))) (kk : RJ l cx h own cc nL ret (pc + 1) lv (.inr (.inl x) :: st) σ Q) : RJ l cx h own cc nL ret pc lv st σ Q := by
  intro p e s m args below meth c H locs ls hx hb hr hlk hml hown hts hA hK hW hS hl
  exact lv_lload_n hx hb hd hi (lv_at hl j (am_lv hj)) (kk p e s m args below meth c H locs ls hx hb hr hlk hml hown hts hA hK hW hS hl)
theorem R_lload {i : Nat} {x : Int64} (hd : decode cc pc = .ok (.lload i, 2)) (j : Nat) (hj : lv[j]? = some (i, .inr (.inl x))) (k : RJ l cx h own cc nL ret (pc + 2) lv (.inr (.inl x) :: st) σ Q) : RJ l cx h own cc nL ret pc lv st σ Q := by
  intro p e s m args below meth c H locs ls hx hb hr hlk hml hown hts hA hK hW hS hl
  exact lv_lload hx hb hd (lv_at hl j (am_lv hj)) (k p e s m args below meth c H locs ls hx hb hr hlk hml hown hts hA hK hW hS hl)
theorem R_aload_n {k : Fin 4} {i : Nat} {x : (Nat × Nat × Nat)} (hd : decode cc pc = .ok (.aload_n k, 1)) (hi : (k : Nat) = i) (j : Nat) (hj : lv[j]? = some (i, .inr (.inr x))) (kk : RJ l cx h own cc nL ret (pc + 1) lv (.inr (.inr x) :: st) σ Q) : RJ l cx h own cc nL ret pc lv st σ Q := by
  intro p e s m args below meth c H locs ls hx hb hr hlk hml hown hts hA hK hW hS hl
  exact lv_aload_n hx hb hd hi (lv_at hl j (am_lv hj)) (kk p e s m args below meth c H locs ls hx hb hr hlk hml hown hts hA hK hW hS hl)
theorem R_aload {i : Nat} {x : (Nat × Nat × Nat)} (hd : decode cc pc = .ok (.aload i, 2)) (j : Nat) (hj : lv[j]? = some (i, .inr (.inr x))) (k : RJ l cx h own cc nL ret (pc + 2) lv (.inr (.inr x) :: st) σ Q) : RJ l cx h own cc nL ret pc lv st σ Q := by
  intro p e s m args below meth c H locs ls hx hb hr hlk hml hown hts hA hK hW hS hl
  exact lv_aload hx hb hd (lv_at hl j (am_lv hj)) (k p e s m args below meth c H locs ls hx hb hr hlk hml hown hts hA hK hW hS hl)
theorem R_istore_n {k0 : Fin 4} {i : Nat} {x : Int32} {lv' : List (Nat × AV)} (hd : decode cc pc = .ok (.istore_n k0, 1)) (hi : (k0 : Nat) = i) (hn : i < nL) (he : (i, (.inl x : AV)) :: lv.filter (fun q => !(q.1 == i) && !(q.1 + 1 == i && am_two q.2)) = lv') (k : RJ l cx h own cc nL ret (pc + 1) lv' st σ Q) : RJ l cx h own cc nL ret pc lv (.inl x :: st) σ Q := by
  intro p e s m args below meth c H locs ls hx hb hr hlk hml hown hts hA hK hW hS hl
  exact lv_istore_n hx hb hd hi hl hn (am_st1 he) (fun ls' hl' => k p e s m args below meth c H locs ls' hx hb hr hlk hml hown hts hA hK hW hS hl')
theorem R_istore {i : Nat} {x : Int32} {lv' : List (Nat × AV)} (hd : decode cc pc = .ok (.istore i, 2))  (hn : i < nL) (he : (i, (.inl x : AV)) :: lv.filter (fun q => !(q.1 == i) && !(q.1 + 1 == i && am_two q.2)) = lv') (k : RJ l cx h own cc nL ret (pc + 2) lv' st σ Q) : RJ l cx h own cc nL ret pc lv (.inl x :: st) σ Q := by
  intro p e s m args below meth c H locs ls hx hb hr hlk hml hown hts hA hK hW hS hl
  exact lv_istore hx hb hd hl hn (am_st1 he) (fun ls' hl' => k p e s m args below meth c H locs ls' hx hb hr hlk hml hown hts hA hK hW hS hl')
theorem R_lstore_n {k0 : Fin 4} {i : Nat} {x : Int64} {lv' : List (Nat × AV)} (hd : decode cc pc = .ok (.lstore_n k0, 1)) (hi : (k0 : Nat) = i) (hn : i + 1 < nL) (he : (i, (.inr (.inl x) : AV)) :: lv.filter (fun q => !(q.1 == i) && (!(q.1 == i + 1) && !(q.1 + 1 == i && am_two q.2))) = lv') (k : RJ l cx h own cc nL ret (pc + 1) lv' st σ Q) : RJ l cx h own cc nL ret pc lv (.inr (.inl x) :: st) σ Q := by
  intro p e s m args below meth c H locs ls hx hb hr hlk hml hown hts hA hK hW hS hl
  exact lv_lstore_n hx hb hd hi hl hn (am_st2 he) (fun ls' hl' => k p e s m args below meth c H locs ls' hx hb hr hlk hml hown hts hA hK hW hS hl')
theorem R_lstore {i : Nat} {x : Int64} {lv' : List (Nat × AV)} (hd : decode cc pc = .ok (.lstore i, 2))  (hn : i + 1 < nL) (he : (i, (.inr (.inl x) : AV)) :: lv.filter (fun q => !(q.1 == i) && (!(q.1 == i + 1) && !(q.1 + 1 == i && am_two q.2))) = lv') (k : RJ l cx h own cc nL ret (pc + 2) lv' st σ Q) : RJ l cx h own cc nL ret pc lv (.inr (.inl x) :: st) σ Q := by
  intro p e s m args below meth c H locs ls hx hb hr hlk hml hown hts hA hK hW hS hl
  exact lv_lstore hx hb hd hl hn (am_st2 he) (fun ls' hl' => k p e s m args below meth c H locs ls' hx hb hr hlk hml hown hts hA hK hW hS hl')
theorem R_astore_n {k0 : Fin 4} {i : Nat} {x : (Nat × Nat × Nat)} {lv' : List (Nat × AV)} (hd : decode cc pc = .ok (.astore_n k0, 1)) (hi : (k0 : Nat) = i) (hn : i < nL) (he : (i, (.inr (.inr x) : AV)) :: lv.filter (fun q => !(q.1 == i) && !(q.1 + 1 == i && am_two q.2)) = lv') (k : RJ l cx h own cc nL ret (pc + 1) lv' st σ Q) : RJ l cx h own cc nL ret pc lv (.inr (.inr x) :: st) σ Q := by
  intro p e s m args below meth c H locs ls hx hb hr hlk hml hown hts hA hK hW hS hl
  exact lv_astore_n hx hb hd hi hl hn (am_st1 he) (fun ls' hl' => k p e s m args below meth c H locs ls' hx hb hr hlk hml hown hts hA hK hW hS hl')
theorem R_astore {i : Nat} {x : (Nat × Nat × Nat)} {lv' : List (Nat × AV)} (hd : decode cc pc = .ok (.astore i, 2))  (hn : i < nL) (he : (i, (.inr (.inr x) : AV)) :: lv.filter (fun q => !(q.1 == i) && !(q.1 + 1 == i && am_two q.2)) = lv') (k : RJ l cx h own cc nL ret (pc + 2) lv' st σ Q) : RJ l cx h own cc nL ret pc lv (.inr (.inr x) :: st) σ Q := by
  intro p e s m args below meth c H locs ls hx hb hr hlk hml hown hts hA hK hW hS hl
  exact lv_astore hx hb hd hl hn (am_st1 he) (fun ls' hl' => k p e s m args below meth c H locs ls' hx hb hr hlk hml hown hts hA hK hW hS hl')
theorem R_iinc {i : Nat} {n : Int} {x v : Int32} {lv' : List (Nat × AV)} (hd : decode cc pc = .ok (.iinc i n, 3)) (j : Nat) (hj : lv[j]? = some (i, .inl x)) (hv : x + Int32.ofInt n = v) (hn : i < nL) (he : (i, (.inl v : AV)) :: lv.filter (fun q => !(q.1 == i) && !(q.1 + 1 == i && am_two q.2)) = lv') (k : RJ l cx h own cc nL ret (pc + 3) lv' st σ Q) : RJ l cx h own cc nL ret pc lv st σ Q := by
  intro p e s m args below meth c H locs ls hx hb hr hlk hml hown hts hA hK hW hS hl
  exact lv_iinc hx hb hd hl (am_lv hj) hv hn (am_st1 he) (fun ls' hl' => k p e s m args below meth c H locs ls' hx hb hr hlk hml hown hts hA hK hW hS hl')
theorem R_icmp_eq {x y : Int32} {off : Int} {tgt : Nat} (hd : decode cc pc = .ok (.if_icmp .eq off, 3)) (ht : (pc : Int) + off = (tgt : Int)) (kt : x = y → RJ l cx h own cc nL ret tgt lv st σ Q) (kf : ¬ x = y → RJ l cx h own cc nL ret (pc + 3) lv st σ Q) : RJ l cx h own cc nL ret pc lv (.inl y :: .inl x :: st) σ Q := by
  intro p e s m args below meth c H locs ls hx hb hr hlk hml hown hts hA hK hW hS hl
  exact lv_icmp_eq hx hb hd ht (fun z => kt z p e s m args below meth c H locs ls hx hb hr hlk hml hown hts hA hK hW hS hl) (fun z => kf z p e s m args below meth c H locs ls hx hb hr hlk hml hown hts hA hK hW hS hl)
theorem R_if_eq {x : Int32} {off : Int} {tgt : Nat} (hd : decode cc pc = .ok (.ifCond .eq off, 3)) (ht : (pc : Int) + off = (tgt : Int)) (kt : x = 0 → RJ l cx h own cc nL ret tgt lv st σ Q) (kf : ¬ x = 0 → RJ l cx h own cc nL ret (pc + 3) lv st σ Q) : RJ l cx h own cc nL ret pc lv (.inl x :: st) σ Q := by
  intro p e s m args below meth c H locs ls hx hb hr hlk hml hown hts hA hK hW hS hl
  exact lv_if_eq hx hb hd ht (fun z => kt z p e s m args below meth c H locs ls hx hb hr hlk hml hown hts hA hK hW hS hl) (fun z => kf z p e s m args below meth c H locs ls hx hb hr hlk hml hown hts hA hK hW hS hl)
theorem R_icmp_ne {x y : Int32} {off : Int} {tgt : Nat} (hd : decode cc pc = .ok (.if_icmp .ne off, 3)) (ht : (pc : Int) + off = (tgt : Int)) (kt : ¬ x = y → RJ l cx h own cc nL ret tgt lv st σ Q) (kf : x = y → RJ l cx h own cc nL ret (pc + 3) lv st σ Q) : RJ l cx h own cc nL ret pc lv (.inl y :: .inl x :: st) σ Q := by
  intro p e s m args below meth c H locs ls hx hb hr hlk hml hown hts hA hK hW hS hl
  exact lv_icmp_ne hx hb hd ht (fun z => kt z p e s m args below meth c H locs ls hx hb hr hlk hml hown hts hA hK hW hS hl) (fun z => kf z p e s m args below meth c H locs ls hx hb hr hlk hml hown hts hA hK hW hS hl)
theorem R_if_ne {x : Int32} {off : Int} {tgt : Nat} (hd : decode cc pc = .ok (.ifCond .ne off, 3)) (ht : (pc : Int) + off = (tgt : Int)) (kt : ¬ x = 0 → RJ l cx h own cc nL ret tgt lv st σ Q) (kf : x = 0 → RJ l cx h own cc nL ret (pc + 3) lv st σ Q) : RJ l cx h own cc nL ret pc lv (.inl x :: st) σ Q := by
  intro p e s m args below meth c H locs ls hx hb hr hlk hml hown hts hA hK hW hS hl
  exact lv_if_ne hx hb hd ht (fun z => kt z p e s m args below meth c H locs ls hx hb hr hlk hml hown hts hA hK hW hS hl) (fun z => kf z p e s m args below meth c H locs ls hx hb hr hlk hml hown hts hA hK hW hS hl)
theorem R_icmp_lt {x y : Int32} {off : Int} {tgt : Nat} (hd : decode cc pc = .ok (.if_icmp .lt off, 3)) (ht : (pc : Int) + off = (tgt : Int)) (kt : x < y → RJ l cx h own cc nL ret tgt lv st σ Q) (kf : ¬ x < y → RJ l cx h own cc nL ret (pc + 3) lv st σ Q) : RJ l cx h own cc nL ret pc lv (.inl y :: .inl x :: st) σ Q := by
  intro p e s m args below meth c H locs ls hx hb hr hlk hml hown hts hA hK hW hS hl
  exact lv_icmp_lt hx hb hd ht (fun z => kt z p e s m args below meth c H locs ls hx hb hr hlk hml hown hts hA hK hW hS hl) (fun z => kf z p e s m args below meth c H locs ls hx hb hr hlk hml hown hts hA hK hW hS hl)
theorem R_if_lt {x : Int32} {off : Int} {tgt : Nat} (hd : decode cc pc = .ok (.ifCond .lt off, 3)) (ht : (pc : Int) + off = (tgt : Int)) (kt : x < 0 → RJ l cx h own cc nL ret tgt lv st σ Q) (kf : ¬ x < 0 → RJ l cx h own cc nL ret (pc + 3) lv st σ Q) : RJ l cx h own cc nL ret pc lv (.inl x :: st) σ Q := by
  intro p e s m args below meth c H locs ls hx hb hr hlk hml hown hts hA hK hW hS hl
  exact lv_if_lt hx hb hd ht (fun z => kt z p e s m args below meth c H locs ls hx hb hr hlk hml hown hts hA hK hW hS hl) (fun z => kf z p e s m args below meth c H locs ls hx hb hr hlk hml hown hts hA hK hW hS hl)
theorem R_icmp_ge {x y : Int32} {off : Int} {tgt : Nat} (hd : decode cc pc = .ok (.if_icmp .ge off, 3)) (ht : (pc : Int) + off = (tgt : Int)) (kt : ¬ x < y → RJ l cx h own cc nL ret tgt lv st σ Q) (kf : x < y → RJ l cx h own cc nL ret (pc + 3) lv st σ Q) : RJ l cx h own cc nL ret pc lv (.inl y :: .inl x :: st) σ Q := by
  intro p e s m args below meth c H locs ls hx hb hr hlk hml hown hts hA hK hW hS hl
  exact lv_icmp_ge hx hb hd ht (fun z => kt (Int32.not_lt.mpr z) p e s m args below meth c H locs ls hx hb hr hlk hml hown hts hA hK hW hS hl) (fun z => kf (Int32.not_le.mp z) p e s m args below meth c H locs ls hx hb hr hlk hml hown hts hA hK hW hS hl)
theorem R_if_ge {x : Int32} {off : Int} {tgt : Nat} (hd : decode cc pc = .ok (.ifCond .ge off, 3)) (ht : (pc : Int) + off = (tgt : Int)) (kt : ¬ x < 0 → RJ l cx h own cc nL ret tgt lv st σ Q) (kf : x < 0 → RJ l cx h own cc nL ret (pc + 3) lv st σ Q) : RJ l cx h own cc nL ret pc lv (.inl x :: st) σ Q := by
  intro p e s m args below meth c H locs ls hx hb hr hlk hml hown hts hA hK hW hS hl
  exact lv_if_ge hx hb hd ht (fun z => kt (Int32.not_lt.mpr z) p e s m args below meth c H locs ls hx hb hr hlk hml hown hts hA hK hW hS hl) (fun z => kf (Int32.not_le.mp z) p e s m args below meth c H locs ls hx hb hr hlk hml hown hts hA hK hW hS hl)
theorem R_icmp_gt {x y : Int32} {off : Int} {tgt : Nat} (hd : decode cc pc = .ok (.if_icmp .gt off, 3)) (ht : (pc : Int) + off = (tgt : Int)) (kt : y < x → RJ l cx h own cc nL ret tgt lv st σ Q) (kf : ¬ y < x → RJ l cx h own cc nL ret (pc + 3) lv st σ Q) : RJ l cx h own cc nL ret pc lv (.inl y :: .inl x :: st) σ Q := by
  intro p e s m args below meth c H locs ls hx hb hr hlk hml hown hts hA hK hW hS hl
  exact lv_icmp_gt hx hb hd ht (fun z => kt z p e s m args below meth c H locs ls hx hb hr hlk hml hown hts hA hK hW hS hl) (fun z => kf z p e s m args below meth c H locs ls hx hb hr hlk hml hown hts hA hK hW hS hl)
theorem R_if_gt {x : Int32} {off : Int} {tgt : Nat} (hd : decode cc pc = .ok (.ifCond .gt off, 3)) (ht : (pc : Int) + off = (tgt : Int)) (kt : 0 < x → RJ l cx h own cc nL ret tgt lv st σ Q) (kf : ¬ 0 < x → RJ l cx h own cc nL ret (pc + 3) lv st σ Q) : RJ l cx h own cc nL ret pc lv (.inl x :: st) σ Q := by
  intro p e s m args below meth c H locs ls hx hb hr hlk hml hown hts hA hK hW hS hl
  exact lv_if_gt hx hb hd ht (fun z => kt z p e s m args below meth c H locs ls hx hb hr hlk hml hown hts hA hK hW hS hl) (fun z => kf z p e s m args below meth c H locs ls hx hb hr hlk hml hown hts hA hK hW hS hl)
theorem R_icmp_le {x y : Int32} {off : Int} {tgt : Nat} (hd : decode cc pc = .ok (.if_icmp .le off, 3)) (ht : (pc : Int) + off = (tgt : Int)) (kt : ¬ y < x → RJ l cx h own cc nL ret tgt lv st σ Q) (kf : y < x → RJ l cx h own cc nL ret (pc + 3) lv st σ Q) : RJ l cx h own cc nL ret pc lv (.inl y :: .inl x :: st) σ Q := by
  intro p e s m args below meth c H locs ls hx hb hr hlk hml hown hts hA hK hW hS hl
  exact lv_icmp_le hx hb hd ht (fun z => kt (Int32.not_lt.mpr z) p e s m args below meth c H locs ls hx hb hr hlk hml hown hts hA hK hW hS hl) (fun z => kf (Int32.not_le.mp z) p e s m args below meth c H locs ls hx hb hr hlk hml hown hts hA hK hW hS hl)
theorem R_if_le {x : Int32} {off : Int} {tgt : Nat} (hd : decode cc pc = .ok (.ifCond .le off, 3)) (ht : (pc : Int) + off = (tgt : Int)) (kt : ¬ 0 < x → RJ l cx h own cc nL ret tgt lv st σ Q) (kf : 0 < x → RJ l cx h own cc nL ret (pc + 3) lv st σ Q) : RJ l cx h own cc nL ret pc lv (.inl x :: st) σ Q := by
  intro p e s m args below meth c H locs ls hx hb hr hlk hml hown hts hA hK hW hS hl
  exact lv_if_le hx hb hd ht (fun z => kt (Int32.not_lt.mpr z) p e s m args below meth c H locs ls hx hb hr hlk hml hown hts hA hK hW hS hl) (fun z => kf (Int32.not_le.mp z) p e s m args below meth c H locs ls hx hb hr hlk hml hown hts hA hK hW hS hl)
theorem R_tswIn {dflt lo hi : Int} {offs : Array Int} {len : Nat} {x v : Int32} {off : Int} {tgt : Nat} (hd : decode cc pc = .ok (.tableswitch dflt lo hi offs, len)) (hv : x = v) (h1 : lo ≤ v.toInt) (h2 : v.toInt ≤ hi) (ho : offs[(v.toInt - lo).toNat]? = some off) (ht : (pc : Int) + off = (tgt : Int)) (k : RJ l cx h own cc nL ret tgt lv st σ Q) : RJ l cx h own cc nL ret pc lv (.inl x :: st) σ Q := by
  intro p e s m args below meth c H locs ls hx hb hr hlk hml hown hts hA hK hW hS hl
  subst hv
  exact lv_tableIn hx hb hd (Int.not_lt.mpr h1) (Int.not_lt.mpr h2) ho ht (k p e s m args below meth c H locs ls hx hb hr hlk hml hown hts hA hK hW hS hl)
theorem R_tswOut {dflt lo hi : Int} {offs : Array Int} {len : Nat} {x : Int32} {tgt : Nat} (hd : decode cc pc = .ok (.tableswitch dflt lo hi offs, len)) (vs : List Int32) (hvs : ∀ v ∈ vs, ¬ x = v) (hc : ∀ j : Nat, j < (hi - lo + 1).toNat → (vs.map Int32.toInt)[j]? = some (lo + j)) (ht : (pc : Int) + dflt = (tgt : Int)) (k : RJ l cx h own cc nL ret tgt lv st σ Q) : RJ l cx h own cc nL ret pc lv (.inl x :: st) σ Q := by
  intro p e s m args below meth c H locs ls hx hb hr hlk hml hown hts hA hK hW hS hl
  refine lv_tableOut hx hb hd ?_ ht (k p e s m args below meth c H locs ls hx hb hr hlk hml hown hts hA hK hW hS hl)
  refine Classical.byContradiction fun q => ?_
  have h1 : lo ≤ x.toInt := by omega
  have h2 : x.toInt ≤ hi := by omega
  have h3 := hc (x.toInt - lo).toNat (by omega)
  have h4 : lo + ((x.toInt - lo).toNat : Int) = x.toInt := by omega
  rw [h4, List.getElem?_map] at h3
  cases h5 : vs[(x.toInt - lo).toNat]? with
  | none => rw [h5] at h3; cases h3
  | some v =>
    rw [h5] at h3
    exact hvs v (List.mem_of_getElem? h5) (Int32.toInt_inj.mp (Option.some.inj h3)).symm
theorem am_lsw : ∀ (ps : List (Int × Int)) (d x : Int), (∀ q ∈ ps, ¬ x = q.1) → Op.lookupswitch.offset ps d x = d
  | [], _, _, _ => rfl
  | (a, o) :: r, d, x, h => by
    have h1 : ¬ x = a := h (a, o) List.mem_cons_self
    have h2 := am_lsw r d x (fun q hq => h q (List.mem_cons_of_mem _ hq))
    simp only [Op.lookupswitch.offset]
    first
      | (rw [if_neg h1]; exact h2)
      | (rw [if_neg (fun z => h1 z.symm)]; exact h2)
      | (simp [h1, h2]; done)
      | (simp [fun z : a = x => h1 z.symm, h2])
theorem R_lswIn {dflt : Int} {ps : Array (Int × Int)} {len : Nat} {x v : Int32} {off : Int} {tgt : Nat} (hd : decode cc pc = .ok (.lookupswitch dflt ps, len)) (hp : (ps.toList.zip (ps.toList.drop 1)).all (fun (a, next) => a.1 < next.1) = true) (hv : x = v) (ho : Op.lookupswitch.offset ps.toList dflt v.toInt = off) (ht : (pc : Int) + off = (tgt : Int)) (k : RJ l cx h own cc nL ret tgt lv st σ Q) : RJ l cx h own cc nL ret pc lv (.inl x :: st) σ Q := by
  intro p e s m args below meth c H locs ls hx hb hr hlk hml hown hts hA hK hW hS hl
  subst hv
  exact lv_lookup hx hb hd hp ho ht (k p e s m args below meth c H locs ls hx hb hr hlk hml hown hts hA hK hW hS hl)
theorem R_lswOut {dflt : Int} {ps : Array (Int × Int)} {len : Nat} {x : Int32} {tgt : Nat} (hd : decode cc pc = .ok (.lookupswitch dflt ps, len)) (hp : (ps.toList.zip (ps.toList.drop 1)).all (fun (a, next) => a.1 < next.1) = true) (vs : List Int32) (hvs : ∀ v ∈ vs, ¬ x = v) (hc : ps.toList.map (fun q => q.1) = vs.map Int32.toInt) (ht : (pc : Int) + dflt = (tgt : Int)) (k : RJ l cx h own cc nL ret tgt lv st σ Q) : RJ l cx h own cc nL ret pc lv (.inl x :: st) σ Q := by
  intro p e s m args below meth c H locs ls hx hb hr hlk hml hown hts hA hK hW hS hl
  refine lv_lookup hx hb hd hp (am_lsw _ _ _ fun q hq e2 => ?_) ht (k p e s m args below meth c H locs ls hx hb hr hlk hml hown hts hA hK hW hS hl)
  have h1 : q.1 ∈ ps.toList.map (fun q => q.1) := List.mem_map.mpr ⟨q, hq, rfl⟩
  rw [hc] at h1
  obtain ⟨v, hv, e3⟩ := List.mem_map.mp h1
  exact hvs v hv (Int32.toInt_inj.mp (e2.trans e3.symm))
/-! returns -/
theorem R_ireturn {x : Int32} (hd : decode cc pc = .ok (.ireturn, 1)) (hr0 : ret = some .int) (hq : Q (some (.inl x)) σ) : RJ l cx h own cc nL ret pc lv [.inl x] σ Q := by
  intro p e s m args below meth c H locs ls hx hb hr hlk hml hown hts hA hK hW hS hl
  exact W.iret hx hb (hr.trans hr0) (fun t ht _ => ⟨⟨some (.inl x), σ, rfl, hq, by rw [ht]; exact hW⟩, hS.F ht⟩) hS.2.2 hd hlk
theorem R_zreturn {x : Int32} (hd : decode cc pc = .ok (.ireturn, 1)) (hr0 : ret = some .boolean) (hx0 : x = 0 ∨ x = 1) (hq : Q (some (.inl x)) σ) : RJ l cx h own cc nL ret pc lv [.inl x] σ Q := by
  intro p e s m args below meth c H locs ls hx hb hr hlk hml hown hts hA hK hW hS hl
  exact W.zret hx hb (hr.trans hr0) (by rcases hx0 with e | e <;> subst e <;> decide) (fun t ht _ => ⟨⟨some (.inl x), σ, rfl, hq, by rw [ht]; exact hW⟩, hS.F ht⟩) hS.2.2 hd hlk
theorem R_vreturn (hd : decode cc pc = .ok (.return_, 1)) (hr0 : ret = none) (hq : Q none σ) : RJ l cx h own cc nL ret pc lv [] σ Q := by
  intro p e s m args below meth c H locs ls hx hb hr hlk hml hown hts hA hK hW hS hl
  exact W.vret hx hb (hr.trans hr0) (fun t ht _ => ⟨⟨none, σ, rfl, hq, by rw [ht]; exact hW⟩, hS.F ht⟩) hS.2.2 hd hlk
theorem R_lreturn {x : Int64} (hd : decode cc pc = .ok (.lreturn, 1)) (hr0 : ret = some .long) (hq : Q (some (.inr (.inl x))) σ) : RJ l cx h own cc nL ret pc lv [.inr (.inl x)] σ Q := by
  intro p e s m args below meth c H locs ls hx hb hr hlk hml hown hts hA hK hW hS hl
  exact W.lret hx hb (hr.trans hr0) (fun t ht _ => ⟨⟨some (.inr (.inl x)), σ, rfl, hq, by rw [ht]; exact hW⟩, hS.F ht⟩) hS.2.2 hd hlk
/-! fields -/
theorem am_getf {c0 o k index : Nat} {C : String} {T : u_T} {N : Nat} (hc : am_cl c0 C T N) (ho : o < am_cnt c0) (hk : k < N) (hlink : Cond.fieldLink own index (T k).1 (T k).2.1 (T k).2.2.1 ∈ GW) (hd : decode cc pc = .ok (.getfield index, 3)) {v : AV} (hv : ∀ cx : CX, am_fv cx σ c0 o k = cv cx v)
    (kk : RJ l cx h own cc nL ret (pc + 3) lv (v :: st) σ Q) : RJ l cx h own cc nL ret pc lv (.inr (.inr (c0, o, 0)) :: st) σ Q := by
  intro p e s m args below meth c H locs ls hx hb hr hlk hml hown hts hA hK hW hS hl
  obtain ⟨hc1, rfl, hin, -, -⟩ := hc
  obtain ⟨cell, q1, q2, q3, q4⟩ := hW.1 c0 o ho
  obtain ⟨hS1, hfc, kC, hkC, hkind⟩ := hK.1.1 c0 _ hc1
  obtain ⟨cf, kf, fi, f, hi, hsl⟩ := hS1 k hk
  refine W.getf hx hb hown (hts _ hlink) hi (u_facts hfc hkC (u_lays hts hin hk) hi).1 q1 (by rw [q3]; exact fun h => by cases h) (v := cv cx v) ?_ rfl rfl hd (kk p e s m args below meth c H locs ls hx hb hr hlk hml hown hts hA hK hW hS hl)
  show cell.slots[f.slot]? = _
  rw [hsl, q4 k hk, hv cx]
theorem R_getfI {c0 o k index : Nat} {C : String} {T : u_T} {N : Nat} (hc : am_cl c0 C T N) (ho : o < am_cnt c0) (hk : k < N) (hlink : Cond.fieldLink own index (T k).1 (T k).2.1 (T k).2.2.1 ∈ GW) (hd : decode cc pc = .ok (.getfield index, 3)) (hv : Nat.ble (am_k c0 k).1 1 = true)
    (kk : RJ l cx h own cc nL ret (pc + 3) lv (.inl (gF σ c0 o k) :: st) σ Q) : RJ l cx h own cc nL ret pc lv (.inr (.inr (c0, o, 0)) :: st) σ Q := by
  refine am_getf hc ho hk hlink hd (fun cx => ?_) kk
  have h1 := Nat.le_of_ble_eq_true hv
  have h2 : (am_k c0 k).1 = 0 ∨ (am_k c0 k).1 = 1 := by omega
  rcases h2 with h2 | h2 <;> simp [am_fv, h2, cv]
theorem R_getfA {c0 o k index : Nat} {C : String} {T : u_T} {N : Nat} (hc : am_cl c0 C T N) (ho : o < am_cnt c0) (hk : k < N) (hlink : Cond.fieldLink own index (T k).1 (T k).2.1 (T k).2.2.1 ∈ GW) (hd : decode cc pc = .ok (.getfield index, 3)) (hv : am_isA c0 k = true)
    (kk : RJ l cx h own cc nL ret (pc + 3) lv (.inr (.inr (c0, o, k + 1)) :: st) σ Q) : RJ l cx h own cc nL ret pc lv (.inr (.inr (c0, o, 0)) :: st) σ Q := by
  refine am_getf hc ho hk hlink hd (fun cx => ?_) kk
  simp only [am_isA, Bool.and_eq_true, Nat.ble_eq] at hv
  have h0 : ¬ (am_k c0 k).1 = 0 := by omega
  have h1 : ¬ (am_k c0 k).1 = 1 := by omega
  have h5 : ¬ (am_k c0 k).1 = 5 := by omega
  simp [am_fv, h0, h1, h5, cv]
theorem R_getfO {c0 o k index c1 o1 : Nat} {C : String} {T : u_T} {N : Nat} (hc : am_cl c0 C T N) (ho : o < am_cnt c0) (hk : k < N) (hlink : Cond.fieldLink own index (T k).1 (T k).2.1 (T k).2.2.1 ∈ GW) (hd : decode cc pc = .ok (.getfield index, 3)) (hv : am_k c0 k = (5, c1, o1))
    (kk : RJ l cx h own cc nL ret (pc + 3) lv (.inr (.inr (c1, o1, 0)) :: st) σ Q) : RJ l cx h own cc nL ret pc lv (.inr (.inr (c0, o, 0)) :: st) σ Q := by
  refine am_getf hc ho hk hlink hd (fun cx => ?_) kk
  simp [am_fv, hv, cv]
theorem R_putf {c0 o k index : Nat} {C : String} {T : u_T} {N : Nat} {v : Int32} {ty : FieldType} (hc : am_cl c0 C T N) (ho : o < am_cnt c0) (hk : k < N) (hlink : Cond.fieldLink own index (T k).1 (T k).2.1 (T k).2.2.1 ∈ GW) (hfin : (T k).2.2.2 = false) (hdt : parseFieldDescriptor (T k).2.2.1 = some ty) (hty : (ty = .int) ∨ (ty = .boolean ∧ (v = 0 ∨ v = 1))) (hd : decode cc pc = .ok (.putfield index, 3)) (hv : Nat.ble (am_k c0 k).1 1 = true)
    (kk : RJ l cx h own cc nL ret (pc + 3) lv st (sF σ c0 o k v) Q) : RJ l cx h own cc nL ret pc lv (.inl v :: .inr (.inr (c0, o, 0)) :: st) σ Q := by
  intro p e s m args below meth c H locs ls hx hb hr hlk hml hown hts hA hK hW hS hl
  obtain ⟨hc1, rfl, hin, ⟨ty0, hty0⟩, hnm⟩ := hc
  have hap := va_apart (own := own) hts hin ty0 hty0 hnm hK.1 hc1
  obtain ⟨cell, q1, q2, q3, q4⟩ := hW.1 c0 o ho
  obtain ⟨hS1, hfc, kC, hkC, hkind⟩ := hK.1.1 c0 _ hc1
  obtain ⟨cf, kf, fi, f, hi, hsl⟩ := hS1 k hk
  have hlay := hts _ (hin _ (u_in_lay hk))
  unfold u_lay at hlay
  rw [if_neg (by rw [hfin]; decide)] at hlay
  have hst := (u_facts hfc hkC (u_lays hts hin hk) hi).1
  have hn : narrow ty (.int v) = .int v ∧ fits ty (.int v) = true := by
    rcases hty with e | ⟨e, e2⟩
    · subst e; exact ⟨rfl, rfl⟩
    · subst e; rcases e2 with e2 | e2 <;> subst e2 <;> exact ⟨by decide, by decide⟩
  have h6 := u_store hfc hkC hkind hlay hi hdt hn.1 hn.2
  refine W.putK hx hb (f := f) ⟨hown, hts _ hlink, ⟨_, _, _, hi⟩, hst⟩ (by rw [q2]; exact h6) q1 q3 (by rw [hsl]; exact k2_hasslot (q4 k hk)) rfl rfl hd fun H' e1 e2 e3 => ?_
  have e1' : H'[cxa cx c0 o 0]? = some (cell.setSlot ((cxD cx).2 c0 k) (.int v)) := by rw [← hsl]; exact e1
  have h1 := Nat.le_of_ble_eq_true hv
  exact kk p e s m args below meth c H' _ ls hx hb hr hlk hml hown hts hA hK (hW.setF hA ho (by omega) ⟨_, e1', q2, q3, t_set q4 hap hk (.int v)⟩ e3) (hS.put e2 e3 (hA.2 c0 o 0 ⟨ho, Or.inl rfl⟩)) hl
/-! arrays -/
theorem R_iald {c0 o k n z : Nat} {i : Int32} (hk : am_k c0 k = (2, n, z)) (ho : o < am_cnt c0) (hi : inb i n) (hd : decode cc pc = .ok (.iaload, 1)) (kk : RJ l cx h own cc nL ret (pc + 1) lv (.inl (gA σ c0 o k i) :: st) σ Q) : RJ l cx h own cc nL ret pc lv (.inl i :: .inr (.inr (c0, o, k + 1)) :: st) σ Q := by
  intro p e s m args below meth c H locs ls hx hb hr hlk hml hown hts hA hK hW hS hl
  have hc := hW.2 c0 o k ho (am_nf_of hk (by omega)) (am_isA_of hk (by omega) (by omega))
  rw [am_acA hk] at hc
  exact W.iald (v := .int (gA σ c0 o k i)) hx hb hc ((hK.1.2 0 _ rfl).1 n _) (fun q => by cases q) (by rw [arrV_size]; exact inb_in hi) (by rw [arrV_read _ _ hi.2]) rfl rfl hd (kk p e s m args below meth c H locs ls hx hb hr hlk hml hown hts hA hK hW hS hl)
theorem R_lald {c0 o k n z : Nat} {i : Int32} (hk : am_k c0 k = (3, n, z)) (ho : o < am_cnt c0) (hi : inb i n) (hd : decode cc pc = .ok (.laload, 1)) (kk : RJ l cx h own cc nL ret (pc + 1) lv (.inr (.inl (gL σ c0 o k i)) :: st) σ Q) : RJ l cx h own cc nL ret pc lv (.inl i :: .inr (.inr (c0, o, k + 1)) :: st) σ Q := by
  intro p e s m args below meth c H locs ls hx hb hr hlk hml hown hts hA hK hW hS hl
  have hc := hW.2 c0 o k ho (am_nf_of hk (by omega)) (am_isA_of hk (by omega) (by omega))
  rw [am_acL hk] at hc
  exact W.lald (v := .long (gL σ c0 o k i)) hx hb hc ((hK.1.2 1 _ rfl).1 n _) (fun q => by cases q) (by rw [arrV_size]; exact inb_in hi) (by rw [arrV_read _ _ hi.2]) rfl rfl hd (kk p e s m args below meth c H locs ls hx hb hr hlk hml hown hts hA hK hW hS hl)
theorem R_aald {c0 o k n z : Nat} {i : Int32} (hk : am_k c0 k = (4, n, z)) (ho : o < am_cnt c0) (hi : inb i n) (hd : decode cc pc = .ok (.aaload, 1)) (kk : RJ l cx h own cc nL ret (pc + 1) lv (.inr (.inr (z, i.toNatClampNeg, 0)) :: st) σ Q) : RJ l cx h own cc nL ret pc lv (.inl i :: .inr (.inr (c0, o, k + 1)) :: st) σ Q := by
  intro p e s m args below meth c H locs ls hx hb hr hlk hml hown hts hA hK hW hS hl
  have hc := hW.2 c0 o k ho (am_nf_of hk (by omega)) (am_isA_of hk (by omega) (by omega))
  rw [am_acR hk] at hc
  exact W.aald (v := .ref (cxa cx z i.toNatClampNeg 0)) hx hb hc ((hK.1.2 2 _ rfl).1 n _) rfl (fun q => by cases q) (by rw [arrV_size]; exact inb_in hi) (by rw [arrV_read _ _ hi.2]) rfl rfl hd (kk p e s m args below meth c H locs ls hx hb hr hlk hml hown hts hA hK hW hS hl)
theorem R_iast {c0 o k n z : Nat} {i x : Int32} (hk : am_k c0 k = (2, n, z)) (ho : o < am_cnt c0) (hi : inb i n) (hd : decode cc pc = .ok (.iastore, 1)) (kk : RJ l cx h own cc nL ret (pc + 1) lv st (sA σ c0 o k i x) Q) : RJ l cx h own cc nL ret pc lv (.inl x :: .inl i :: .inr (.inr (c0, o, k + 1)) :: st) σ Q := by
  intro p e s m args below meth c H locs ls hx hb hr hlk hml hown hts hA hK hW hS hl
  have hn := am_nf_of hk (by omega)
  have ha := am_isA_of hk (by omega) (by omega)
  have hc := hW.2 c0 o k ho hn ha
  rw [am_acA hk] at hc
  refine W.iast hx hb hc ((hK.1.2 0 _ rfl).1 n _) (fun q => by cases q) (by rw [arrV_size]; exact inb_in hi) rfl rfl hd fun H1 e1 e2 e3 => ?_
  rw [arrV_store] at e1
  exact kk p e s m args below meth c H1 _ ls hx hb hr hlk hml hown hts hA hK (hW.setA hA ho hk (by rw [e1]; congr 2; funext q; by_cases hq : q = i.toNatClampNeg <;> simp [updV, upd, hq]) e3) (hS.put e2 e3 (hA.2 c0 o (k + 1) ⟨ho, Or.inr ⟨k, rfl, hn, ha⟩⟩)) hl
theorem R_last {c0 o k n z : Nat} {i : Int32} {x : Int64} (hk : am_k c0 k = (3, n, z)) (ho : o < am_cnt c0) (hi : inb i n) (hd : decode cc pc = .ok (.lastore, 1)) (kk : RJ l cx h own cc nL ret (pc + 1) lv st (sL σ c0 o k i x) Q) : RJ l cx h own cc nL ret pc lv (.inr (.inl x) :: .inl i :: .inr (.inr (c0, o, k + 1)) :: st) σ Q := by
  intro p e s m args below meth c H locs ls hx hb hr hlk hml hown hts hA hK hW hS hl
  have hn := am_nf_of hk (by omega)
  have ha := am_isA_of hk (by omega) (by omega)
  have hc := hW.2 c0 o k ho hn ha
  rw [am_acL hk] at hc
  refine W.last hx hb hc ((hK.1.2 1 _ rfl).1 n _) (fun q => by cases q) (by rw [arrV_size]; exact inb_in hi) rfl rfl hd fun H1 e1 e2 e3 => ?_
  rw [arrV_store] at e1
  exact kk p e s m args below meth c H1 _ ls hx hb hr hlk hml hown hts hA hK (hW.setL hA ho hk (by rw [e1]; congr 2; funext q; by_cases hq : q = i.toNatClampNeg <;> simp [updV, vp_updL, hq]) e3) (hS.put e2 e3 (hA.2 c0 o (k + 1) ⟨ho, Or.inr ⟨k, rfl, hn, ha⟩⟩)) hl
theorem R_alenI {c0 o k n z : Nat} (hk : am_k c0 k = (2, n, z)) (ho : o < am_cnt c0) (hd : decode cc pc = .ok (.arraylength, 1)) (kk : RJ l cx h own cc nL ret (pc + 1) lv (.inl (Int32.ofNat n) :: st) σ Q) : RJ l cx h own cc nL ret pc lv (.inr (.inr (c0, o, k + 1)) :: st) σ Q := by
  intro p e s m args below meth c H locs ls hx hb hr hlk hml hown hts hA hK hW hS hl
  have hc := hW.2 c0 o k ho (am_nf_of hk (by omega)) (am_isA_of hk (by omega) (by omega))
  rw [am_acA hk] at hc
  exact W.alen hx hb hc ((hK.1.2 0 _ rfl).1 n _) (by rw [arrV_size]) rfl rfl hd (kk p e s m args below meth c H locs ls hx hb hr hlk hml hown hts hA hK hW hS hl)
theorem R_alenL {c0 o k n z : Nat} (hk : am_k c0 k = (3, n, z)) (ho : o < am_cnt c0) (hd : decode cc pc = .ok (.arraylength, 1)) (kk : RJ l cx h own cc nL ret (pc + 1) lv (.inl (Int32.ofNat n) :: st) σ Q) : RJ l cx h own cc nL ret pc lv (.inr (.inr (c0, o, k + 1)) :: st) σ Q := by
  intro p e s m args below meth c H locs ls hx hb hr hlk hml hown hts hA hK hW hS hl
  have hc := hW.2 c0 o k ho (am_nf_of hk (by omega)) (am_isA_of hk (by omega) (by omega))
  rw [am_acL hk] at hc
  exact W.alen hx hb hc ((hK.1.2 1 _ rfl).1 n _) (by rw [arrV_size]) rfl rfl hd (kk p e s m args below meth c H locs ls hx hb hr hlk hml hown hts hA hK hW hS hl)
/-! the two constant tables -/
theorem R_gets0 {index : Nat} (hlink : Cond.fieldLink own index RX2 "ABOVE" "[I" ∈ GW) (hd : decode cc pc = .ok (.getstatic index, 3)) (kk : RJ l cx h own cc nL ret (pc + 3) lv (.inr (.inr (10, 0, 1)) :: st) σ Q) : RJ l cx h own cc nL ret pc lv st σ Q := by
  intro p e s m args below meth c H locs ls hx hb hr hlk hml hown hts hA hK hW hS hl
  exact va_gets hx hb hK.2.2.1.1 hS hown (hts _ hlink) (fun _ z => z) hd (kk p e s m args below meth c H locs ls hx hb hr hlk hml hown hts hA hK hW hS hl)
theorem R_gets1 {index : Nat} (hlink : Cond.fieldLink own index RX2 "OWN" "[I" ∈ GW) (hd : decode cc pc = .ok (.getstatic index, 3)) (kk : RJ l cx h own cc nL ret (pc + 3) lv (.inr (.inr (10, 0, 2)) :: st) σ Q) : RJ l cx h own cc nL ret pc lv st σ Q := by
  intro p e s m args below meth c H locs ls hx hb hr hlk hml hown hts hA hK hW hS hl
  exact va_gets hx hb hK.2.2.1.2 hS hown (hts _ hlink) (fun _ z => z) hd (kk p e s m args below meth c H locs ls hx hb hr hlk hml hown hts hA hK hW hS hl)
theorem R_sald {k n : Nat} {i : Int32} (hk : k < 2) (hn : am_stn k = n) (hi : inb i n) (hd : decode cc pc = .ok (.iaload, 1)) (kk : RJ l cx h own cc nL ret (pc + 1) lv (.inl (am_st k i.toNatClampNeg) :: st) σ Q) : RJ l cx h own cc nL ret pc lv (.inl i :: .inr (.inr (10, 0, k + 1)) :: st) σ Q := by
  intro p e s m args below meth c H locs ls hx hb hr hlk hml hown hts hA hK hW hS hl
  subst hn
  obtain ⟨hX, hnA⟩ := hK.2.2.2 k hk
  have hlt : cxa cx 10 0 (k + 1) < s.heap.size := by obtain ⟨scr, h1, -⟩ := hX; exact (Array.getElem?_eq_some_iff.mp h1).1
  exact va_sld hx hb hX hlt hnA hS (inb_in hi) hd (kk p e s m args below meth c H locs ls hx hb hr hlk hml hown hts hA hK hW hS hl)
/-! calls -/
theorem KX.moved {cx : CX} {s U : State} {H : Heap} {locs : List Loc} (hK : KX cx s) (hS : va_S (cxA cx) s.heap H locs) (hU : U.heap = H) (hW : s.WarmedH U.vm) : KX cx U := by
  have hvm := hW.alike
  have hq : ∀ a : Nat, a < s.heap.size → ¬ cxA cx a → U.heap[a]? = s.heap[a]? := fun a h1 h2 => by rw [hU]; exact hS.2.1 a h1 h2
  refine ⟨va_K.moved hvm hK.1, ?_, ⟨(hK.2.2.1.1.kept hq).moved hvm, (hK.2.2.1.2.kept hq).moved hvm⟩, fun k hk => ?_⟩
  · exact va_Nw.warmM hW hK.2.1
  · obtain ⟨hX, hnA⟩ := hK.2.2.2 k hk
    have hlt : cxa cx 10 0 (k + 1) < s.heap.size := by obtain ⟨scr, h1, -⟩ := hX; exact (Array.getElem?_eq_some_iff.mp h1).1
    exact ⟨(hX.kept (hq _ hlt hnA)).moved hvm, hnA⟩
theorem KX.blind {cx : CX} {av : List Value} {σ : AS} : FrameBlind (va_Pc av (fun U => KX cx U ∧ WD cx σ U.heap)) := by
  intro a U g mk q
  obtain ⟨q1, ⟨h1, h2, h3, h4⟩, hW⟩ := q
  refine ⟨q1, ⟨va_K.moved (u := U) (U := U.calling g mk a) (Vm.Alike.refl U.vm) h1, ?_, ⟨?_, ?_⟩, fun k hk => ?_⟩, hW⟩
  · exact va_Nw.same rfl rfl h2
  · exact h3.1.moved (u := U) (U := U.calling g mk a) (Vm.Alike.refl U.vm)
  · exact h3.2.moved (u := U) (U := U.calling g mk a) (Vm.Alike.refl U.vm)
  · exact ⟨(h4 k hk).1.moved (u := U) (U := U.calling g mk a) (Vm.Alike.refl U.vm), (h4 k hk).2⟩
theorem am_call {p : Program} {e : Env} {R : Room} {s : State} {m : MethodId} {args : Array Value} {below : List Frame} {meth : Method} {c : Code} {H : Heap} {locs : List Loc} {ls : Array Slot} {st0 rest : List Value} {a : Array Value} {Q' : Option AV → AS → Prop} {Z : State → Prop} {A : Nat → Prop} {H0 : Heap} {cells slots : Nat}
    (hr : va_Run p l e R s m args below meth c H locs cells slots 0 0 (F0 m pc ls st0) rest (QA cx Q' a) (cxA cx)) (hA : ∀ q, cxA cx q → A q) (hS : va_S A H0 H locs)
    (kk : ∀ (r : Option AV) (σ1 : AS) (H1 : Heap) (locs1 : List Loc), Q' r σ1 → WD cx σ1 H1 → va_S A H0 H1 locs1 → va_F (cxA cx) { s with heap := H } { s with heap := H1 } → W p l e R s m args below meth c H1 locs1 cells slots Z (F0 m (pc + 3) ls ((r.map (cv cx)).toList ++ rest))) : W p l e R s m args below meth c H locs cells slots Z (F0 m pc ls st0) := by
  intro T hT X
  obtain ⟨v, st₀, t, T', L, h0, X', hL, e1, e2, ⟨⟨r, σ1, hv, hq, hW⟩, hz, hk⟩, st⟩ := hr T hT X
  cases hv
  rw [h0] at hz hk
  obtain ⟨t2, a1, b1⟩ := kk r σ1 T'.heap (locs ++ L) hq (by rw [e1]; exact hW)
    ⟨Nat.le_trans hS.1 (by rw [e1]; exact hz), fun q h1 h2 => by rw [e1, hk q (Nat.lt_of_lt_of_le h1 hS.1) (fun z => h2 (hA q z))]; exact hS.2.1 q h1 h2, fun q hq => by
      rcases List.mem_append.mp hq with h | h
      · exact hS.2.2 q h
      · exact hA _ (hL q h)⟩ ⟨by rw [e1]; exact hz, fun q h1 h2 => by rw [e1]; exact hk q h1 h2⟩ T' rfl X'
  exact ⟨t2, st t2 a1, b1⟩
theorem am_rm {h h' nL : Nat} (hh : h' + 1 ≤ h) (hn : nL ≤ 45) : (rmD h').frames + 1 ≤ (rmD h).frames ∧ 8 + (nL + 11) + (rmD h').locals ≤ (rmD h).locals := ⟨hh, by show 8 + (nL + 11) + 64 * h' ≤ 64 * h; omega⟩
theorem am_recv {s : State} {H : Heap} {c0 o : Nat} {C : String} {T : u_T} {N : Nat} (hK : KX cx s) (hW : WD cx σ H) (hc : am_cl c0 C T N) (ho : o < am_cnt c0) : ∃ cellB : Cell, H[cxa cx c0 o 0]? = some cellB ∧ cellB.vm.isStatics = false ∧ s.vm.findClass C = some cellB.cls := by
  obtain ⟨cell, q1, q2, q3, -⟩ := hW.1 c0 o ho
  obtain ⟨-, hfc, -⟩ := hK.1.1 c0 _ hc.1
  exact ⟨cell, q1, by rw [q3]; rfl, by rw [q2]; exact hfc⟩
theorem R_callV {y : MethodName} {cc' : ByteArray} {nL' h' n index c0 o : Nat} {ret' : Option FieldType} {C : String} {T : u_T} {N : Nat} {As : List AV} {Q' : Option AV → AS → Prop} (hc : am_cl c0 C T N) (hC : y.cls = C) (ho : o < am_cnt c0) (hm : am_mV y cc' nL' ret' n) (hlink : Cond.methodLink own index y ∈ GW) (hn : As.length = n) (hw : am_w st ≤ 8) (hh : h' + 1 ≤ h) (hd : decode cc pc = .ok (.invokevirtual index, 3))
    (hM : AMet l cx h' y cc' nL' ret' (.inr (.inr (c0, o, 0)) :: As) σ Q') (kk : ∀ r σ1, Q' r σ1 → RJ l cx h own cc nL ret (pc + 3) lv (r.toList ++ st) σ1 Q) : RJ l cx h own cc nL ret pc lv (As.reverse ++ .inr (.inr (c0, o, 0)) :: st) σ Q := by
  intro p e s m args below meth c H locs ls hx hb hr hlk hml hown hts hA hK hW hS hl
  subst hC
  obtain ⟨m1, m2, m3, m4, m5, m6, m7, m8⟩ := hm
  have hrun : va_Run p l e (rmD h) s m args below meth c H locs 0 0 0 0 (F0 m pc ls ((As.reverse ++ .inr (.inr (c0, o, 0)) :: st).map (cv cx))) (st.map (cv cx)) (QA cx Q' (Value.ref (cxa cx c0 o 0) :: As.map (cv cx)).toArray) (cxA cx) :=
    va_runV (Ts := GW) (As := As.map (cv cx)) (C := y.cls) (n := n) ⟨hx, hb, hml, hown, hts⟩ hM
      ⟨callB_of n hts (gw_in0 m1) rfl rfl rfl (hts _ m2) (hts _ hlink) ⟨m5, m6, m7⟩ (am_rm hh m8), hts _ m3, hts _ m4⟩
      ⟨KX.blind, am_recv hK hW hc ho, fun U hU hWm => ⟨rfl, hK.moved hS hU hWm, by rw [hU]; exact hW⟩⟩ rfl (by rw [List.length_map]; exact hn) hl.1
      (by rw [List.map_append, List.map_reverse]; rfl) (lv_room (by rw [am_w_eq]; exact hw)) hd ⟨Nat.le_refl 0, Nat.le_refl 0⟩
  exact am_call hrun (fun _ z => z) hS (fun r σ1 H1 locs1 hq hW1 hS1 _ => by
    have h1 := kk r σ1 hq p e s m args below meth c H1 locs1 ls hx hb hr hlk hml hown hts hA hK hW1 hS1 hl
    cases r with
    | none => exact h1
    | some v => exact h1)
theorem R_callS {y : MethodName} {cc' : ByteArray} {nL' h' n index : Nat} {ret' : Option FieldType} {As : List AV} {Q' : Option AV → AS → Prop} (hm : am_mS y cc' nL' ret' n) (hlink : Cond.methodLink own index y ∈ GW) (hn : As.length = n) (hw : am_w st ≤ 8) (hh : h' + 1 ≤ h) (hd : decode cc pc = .ok (.invokestatic index, 3))
    (hM : AMet l cx h' y cc' nL' ret' As σ Q') (kk : ∀ r σ1, Q' r σ1 → RJ l cx h own cc nL ret (pc + 3) lv (r.toList ++ st) σ1 Q) : RJ l cx h own cc nL ret pc lv (As.reverse ++ st) σ Q := by
  intro p e s m args below meth c H locs ls hx hb hr hlk hml hown hts hA hK hW hS hl
  obtain ⟨m1, m2, m3, m5, m6, m7, m8⟩ := hm
  have hrun : va_Run p l e (rmD h) s m args below meth c H locs 0 0 0 0 (F0 m pc ls ((As.reverse ++ st).map (cv cx))) (st.map (cv cx)) (QA cx Q' (As.map (cv cx)).toArray) (cxA cx) :=
    va_runS (Ts := GW) (As := As.map (cv cx)) (n := n) ⟨hx, hb, hml, hown, hts⟩ hM
      ⟨callB_of n hts (gw_in0 m1) rfl rfl rfl (hts _ m2) (hts _ hlink) ⟨m5, m6, m7⟩ (am_rm hh m8), hts _ m3⟩
      ⟨KX.blind, fun U hU hWm => ⟨rfl, hK.moved hS hU hWm, by rw [hU]; exact hW⟩⟩ rfl (by rw [List.length_map]; exact hn) hl.1
      (by rw [List.map_append, List.map_reverse]) (lv_room (by rw [am_w_eq]; exact hw)) hd ⟨Nat.le_refl 0, Nat.le_refl 0⟩
  exact am_call hrun (fun _ z => z) hS (fun r σ1 H1 locs1 hq hW1 hS1 _ => by
    have h1 := kk r σ1 hq p e s m args below meth c H1 locs1 ls hx hb hr hlk hml hown hts hA hK hW1 hS1 hl
    cases r with
    | none => exact h1
    | some v => exact h1)
/-- the one call of another class's private static method -/
theorem R_callN {y : MethodName} {cc' : ByteArray} {nL' h' n index : Nat} {host : String} {ret' : Option FieldType} {As : List AV} {Q' : Option AV → AS → Prop} (hne : am_nest = .methodLinkNest own index y host) (hm : am_mS y cc' nL' ret' n) (hn : As.length = n) (hw : am_w st ≤ 8) (hh : h' + 1 ≤ h) (hd : decode cc pc = .ok (.invokestatic index, 3))
    (hM : AMet l cx h' y cc' nL' ret' As σ Q') (kk : ∀ r σ1, Q' r σ1 → RJ l cx h own cc nL ret (pc + 3) lv (r.toList ++ st) σ1 Q) : RJ l cx h own cc nL ret pc lv (As.reverse ++ st) σ Q := by
  intro p e s m args below meth c H locs ls hx hb hr hlk hml hown hts hA hK hW hS hl
  obtain ⟨m1, m2, m3, m5, m6, m7, m8⟩ := hm
  have hrun : va_Run p l e (rmD h) s m args below meth c H locs 0 0 0 0 (F0 m pc ls ((As.reverse ++ st).map (cv cx))) (st.map (cv cx)) (QA cx Q' (As.map (cv cx)).toArray) (cxA cx) :=
    va_runSN (Ts := GW) (As := As.map (cv cx)) (n := n) (host := host) ⟨hx, hb, hml, hown, hts⟩ hM
      ⟨va_cnB n hts (gw_in0 m1) rfl rfl rfl (hne ▸ hK.2.1) (hts _ m2) ⟨m5, m6, m7⟩ (am_rm hh m8), hts _ m3, trivial⟩
      ⟨KX.blind, fun U hU hWm => ⟨rfl, hK.moved hS hU hWm, by rw [hU]; exact hW⟩⟩ rfl (by rw [List.length_map]; exact hn) hl.1
      (by rw [List.map_append, List.map_reverse]) (lv_room (by rw [am_w_eq]; exact hw)) hd ⟨Nat.le_refl 0, Nat.le_refl 0⟩
  exact am_call hrun (fun _ z => z) hS (fun r σ1 H1 locs1 hq hW1 hS1 _ => by
    have h1 := kk r σ1 hq p e s m args below meth c H1 locs1 ls hx hb hr hlk hml hown hts hA hK hW1 hS1 hl
    cases r with
    | none => exact h1
    | some v => exact h1)
end AMR
