
/-! An abstract machine for both classes: whole numbers, longs, and references by (class, object, 0 or 1 + slot of an array) -/
abbrev AV : Type := Int32 ⊕ (Int64 ⊕ (Nat × Nat × Nat))
abbrev AS : Type := (Nat → Nat → Nat → Int32) × ((Nat → Nat → Nat → Nat → Int32) × (Nat → Nat → Nat → Nat → Int64))
/-- the context: classes and slots, addresses, the cells that may be written, the array classes of ints, longs, references -/
abbrev CX : Type := va_G × ((Nat → Nat → Nat → Nat) × ((Nat → Prop) × (ClassId × (ClassId × ClassId))))
abbrev cxD (cx : CX) : va_G := cx.1
abbrev cxa (cx : CX) : Nat → Nat → Nat → Nat := cx.2.1
abbrev cxA (cx : CX) : Nat → Prop := cx.2.2.1
abbrev cxI (cx : CX) : ClassId := cx.2.2.2.1
abbrev cxL (cx : CX) : ClassId := cx.2.2.2.2.1
abbrev cxR (cx : CX) : ClassId := cx.2.2.2.2.2
def cv (cx : CX) : AV → Value
  | .inl x => .int x
  | .inr (.inl x) => .long x
  | .inr (.inr r) => .ref (cxa cx r.1 r.2.1 r.2.2)
def am_two : AV → Bool
  | .inl _ => false
  | .inr (.inl _) => true
  | .inr (.inr _) => false
theorem am_cat (cx : CX) (v : AV) : (cv cx v).category = if am_two v then 2 else 1 := by
  rcases v with x | x | x <;> rfl
theorem am_cat2 (cx : CX) (v : AV) : ((cv cx v).category == 2) = am_two v := by
  rcases v with x | x | x <;> rfl
theorem am_cat1 (cx : CX) {v : AV} (h : am_two v = false) : (cv cx v).category = 1 := by rw [am_cat, h]; rfl
def cvl (cx : CX) (lv : List (Nat × AV)) : List (Nat × Value) := lv.map (fun q => (q.1, cv cx q.2))
/-- kinds of fields by class: (0 int, 1 boolean, 2 int row, 3 long row, 4 row of references, 5 object; length or class; object or class) -/
def am_kt : List (List (Nat × Nat × Nat)) := [[(2, 40, 0), (2, 40, 0), (2, 40, 0), (2, 40, 0), (0, 0, 0), (0, 0, 0)], [(5, 6, 0), (5, 3, 0), (2, 7, 0), (2, 7, 0), (2, 7, 0), (2, 7, 0), (2, 8, 0), (2, 8, 0), (2, 8, 0), (2, 8, 0), (1, 0, 0), (0, 0, 0), (0, 0, 0), (0, 0, 0), (0, 0, 0)], [(2, 50, 0), (2, 24, 0), (0, 0, 0), (0, 0, 0), (0, 0, 0)], [(2, 128, 0), (2, 128, 0), (2, 128, 0), (2, 9, 0), (0, 0, 0), (0, 0, 0)], [(2, 168, 0), (2, 168, 0), (2, 168, 0)], [(3, 60, 0), (0, 0, 0), (0, 0, 0), (0, 0, 0)], [(2, 40, 0), (2, 192, 0), (0, 0, 0)], [(2, 120, 0), (0, 0, 0), (0, 0, 0), (0, 0, 0)], [(5, 6, 0), (5, 3, 0), (5, 3, 1), (5, 7, 0), (5, 1, 0), (5, 1, 1), (5, 1, 2), (5, 4, 0), (5, 0, 0), (5, 2, 0), (4, 6, 5), (1, 0, 0)], [(2, 40, 0), (2, 40, 0), (2, 40, 0), (2, 40, 0), (0, 0, 0), (0, 0, 0), (0, 0, 0), (2, 7, 0), (2, 192, 0), (2, 14, 0), (2, 8, 0), (2, 8, 0), (0, 0, 0), (0, 0, 0), (2, 8, 0), (2, 120, 0), (0, 0, 0), (2, 120, 0), (0, 0, 0), (0, 0, 0), (0, 0, 0), (0, 0, 0), (0, 0, 0), (0, 0, 0), (2, 9, 0), (0, 0, 0), (0, 0, 0), (1, 0, 0), (2, 7, 0), (2, 8, 0), (2, 8, 0), (2, 336, 0), (2, 168, 0), (2, 14, 0), (0, 0, 0), (0, 0, 0), (1, 0, 0), (0, 0, 0), (0, 0, 0), (2, 14, 0), (2, 8, 0), (2, 8, 0), (2, 336, 0), (2, 168, 0), (0, 0, 0), (2, 50, 0), (2, 24, 0), (0, 0, 0), (0, 0, 0), (0, 0, 0), (2, 6, 0), (2, 6, 0), (3, 360, 0), (3, 60, 0)]]
def am_k (c k : Nat) : Nat × Nat × Nat := (am_kt.getD c []).getD k (9, 0, 0)
def am_nf (c : Nat) : Nat := (am_kt.getD c []).length
def am_cnt (c : Nat) : Nat := ([1, 3, 1, 2, 1, 6, 1, 1, 1, 1] : List Nat).getD c 0
def am_isA (c k : Nat) : Bool := Nat.ble 2 (am_k c k).1 && Nat.ble (am_k c k).1 4
def am_fv (cx : CX) (σ : AS) (c o k : Nat) : Value :=
  if (am_k c k).1 = 0 then .int (σ.1 c o k) else if (am_k c k).1 = 1 then .int (σ.1 c o k)
  else if (am_k c k).1 = 5 then .ref (cxa cx (am_k c k).2.1 (am_k c k).2.2 0) else .ref (cxa cx c o (k + 1))
def am_ac (cx : CX) (σ : AS) (c o k : Nat) : Cell :=
  if (am_k c k).1 = 2 then arrV (cxI cx) (am_k c k).2.1 (fun j => .int (σ.2.1 c o k j))
  else if (am_k c k).1 = 3 then arrV (cxL cx) (am_k c k).2.1 (fun j => .long (σ.2.2 c o k j))
  else arrV (cxR cx) (am_k c k).2.1 (fun j => .ref (cxa cx (am_k c k).2.2 j 0))
def am_ok (c o j : Nat) : Prop := o < am_cnt c ∧ (j = 0 ∨ ∃ k, j = k + 1 ∧ k < am_nf c ∧ am_isA c k = true)
/-- the world -/
def WD (cx : CX) (σ : AS) (H : Heap) : Prop :=
  (∀ c o, o < am_cnt c → t_OB (cxa cx c o 0) ((cxD cx).1 c) (am_nf c) ((cxD cx).2 c) H (am_fv cx σ c o)) ∧
  ∀ c o k, o < am_cnt c → k < am_nf c → am_isA c k = true → H[cxa cx c o (k + 1)]? = some (am_ac cx σ c o k)
def AD (cx : CX) : Prop := (∀ c o j c' o' j', am_ok c o j → am_ok c' o' j' → cxa cx c o j = cxa cx c' o' j' → c = c' ∧ o = o' ∧ j = j') ∧ ∀ c o j, am_ok c o j → cxA cx (cxa cx c o j)
def am_st : Nat → Nat → Int32
  | 0, j => ([-1, 0, 0, 2, 1, 3, 0, 4] : List Int32).getD j 0
  | _, j => ([1, 10, 11, 2, 20, 0, 0, 0, 0, 30, 0, 0, 0, 41, 40, 0, 0, 0, 50, 0, 0, 0, 0, 60, 70, 0, 0, 0, 0, 80, 0, 81] : List Int32).getD j 0
def am_stn : Nat → Nat | 0 => 8 | _ => 32
def am_nest : Cond := .methodLinkNest "TwoElbows$Tape" 64 ⟨"TwoElbows", "isDigit", "(J)Z"⟩ "TwoElbows"
def KX (cx : CX) (U : State) : Prop :=
  va_K (cxD cx) vwCl [(cxI cx, .int), (cxL cx, .long), (cxR cx, .object RX5)] U ∧ va_Nw am_nest U ∧
  (va_Z RX2 "ABOVE" "[I" (.ref (cxa cx 10 0 1)) (cxA cx) U U.heap ∧ va_Z RX2 "OWN" "[I" (.ref (cxa cx 10 0 2)) (cxA cx) U U.heap) ∧
  ∀ k, k < 2 → va_X (cxa cx 10 0 (k + 1)) (am_stn k) (am_st k) U U.heap ∧ ¬ cxA cx (cxa cx 10 0 (k + 1))
/-- the words that every method has -/
def GW : List Cond := lw_tbl.filter goodWord
theorem gw_mem {w : Cond} (i : Nat) (h : lw_tbl[i]? = some w) (g : goodWord w = true) : w ∈ GW := List.mem_filter.mpr ⟨List.mem_of_getElem? h, g⟩
theorem gw_good {w : Cond} (h : w ∈ GW) : goodWord w = true := (List.mem_filter.mp h).2
theorem gw_in {a b : Cond} (h : b ∈ GW) : GoodIn (a :: GW) (b :: GW) := fun w hw => (List.mem_cons.mp hw).elim (fun e => by rw [e]; exact ⟨List.mem_cons_of_mem _ h, good_of_word (gw_good h)⟩) (fun h2 => ⟨List.mem_cons_of_mem _ h2, good_of_word (gw_good h2)⟩)
theorem gw_in0 {b : Cond} (h : b ∈ GW) : GoodIn GW (b :: GW) := fun w hw => (List.mem_cons.mp hw).elim (fun e => by rw [e]; exact ⟨h, good_of_word (gw_good h)⟩) (fun h2 => ⟨h2, good_of_word (gw_good h2)⟩)
/-- what is known of a class's table -/
def am_cl (c : Nat) (C : String) (T : u_T) (N : Nat) : Prop :=
  vwCl[c]? = some (C, T, N) ∧ N = am_nf c ∧ (∀ w ∈ u_ws C T N, w ∈ GW) ∧ (∃ ty : Nat → FieldType, ∀ k, k < N → parseFieldDescriptor (T k).2.2.1 = some (ty k)) ∧ (∀ a, a < N → ∀ b, b < N → a ≠ b → (T a).2.1 ≠ (T b).2.1)
/-- what is known of a method: its code, its class initialised, how many arguments -/
def am_mV (y : MethodName) (cc : ByteArray) (nL : Nat) (ret : Option FieldType) (n : Nat) : Prop :=
  Cond.code y cc nL ret ∈ GW ∧ Cond.initialized y.cls ∈ GW ∧ Cond.instanceMethod y ∈ GW ∧ Cond.selects y.cls y y ∈ GW ∧ y.cls ≠ "java/lang/invoke/MethodHandle" ∧ y.cls ≠ "java/lang/invoke/VarHandle" ∧ (parseMethodDescriptor y.desc).map (fun d => d.parameters.length) = some n ∧ nL ≤ 45
def am_mS (y : MethodName) (cc : ByteArray) (nL : Nat) (ret : Option FieldType) (n : Nat) : Prop :=
  Cond.code y cc nL ret ∈ GW ∧ Cond.initialized y.cls ∈ GW ∧ Cond.static y ∈ GW ∧ y.cls ≠ "java/lang/invoke/MethodHandle" ∧ y.cls ≠ "java/lang/invoke/VarHandle" ∧ (parseMethodDescriptor y.desc).map (fun d => d.parameters.length) = some n ∧ nL ≤ 45
