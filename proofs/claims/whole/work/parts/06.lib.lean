section AML
variable {l : Launch} {cx : CX} {h : Nat} {own : String} {cc : ByteArray} {nL : Nat} {ret : Option FieldType} {pc : Nat} {lv : List (Nat × AV)} {st : List AV} {σ : AS} {Q : Option AV → AS → Prop}
/-! the JDK's methods that are called -/
theorem R_mmax {index : Nat} {x y : Int32} (hlink : Cond.methodLink own index Lib.Math.max.name ∈ GW) (hh : 1 ≤ h) (hw : am_w st ≤ 8) (hd : decode cc pc = .ok (.invokestatic index, 3)) (kk : RJ l cx h own cc nL ret (pc + 3) lv (.inl (mxi x y) :: st) σ Q) : RJ l cx h own cc nL ret pc lv (.inl y :: .inl x :: st) σ Q := by
  intro p e s m args below meth c H locs ls hx hb hr hlk hml hown hts hA hK hW hS hl
  exact va_mmax hx hb (hml.trans hl.1.symm) hown (hts _ hlink) (hts _ mj_max.1) (hts _ mj_math) (hts _ mj_max.2) hh (by rw [am_w_eq]; show am_w st + 13 ≤ 64 * h; omega) (Nat.le_refl 0) (Nat.le_refl 0) hd (kk p e s m args below meth c H locs ls hx hb hr hlk hml hown hts hA hK hW hS hl)
theorem R_mmin {index : Nat} {x y : Int32} (hlink : Cond.methodLink own index Lib.Math.min.name ∈ GW) (hh : 1 ≤ h) (hw : am_w st ≤ 8) (hd : decode cc pc = .ok (.invokestatic index, 3)) (kk : RJ l cx h own cc nL ret (pc + 3) lv (.inl (mni x y) :: st) σ Q) : RJ l cx h own cc nL ret pc lv (.inl y :: .inl x :: st) σ Q := by
  intro p e s m args below meth c H locs ls hx hb hr hlk hml hown hts hA hK hW hS hl
  exact va_mmin hx hb (hml.trans hl.1.symm) hown (hts _ hlink) (hts _ mj_min.1) (hts _ mj_math) (hts _ mj_min.2) hh (by rw [am_w_eq]; show am_w st + 13 ≤ 64 * h; omega) (Nat.le_refl 0) (Nat.le_refl 0) hd (kk p e s m args below meth c H locs ls hx hb hr hlk hml hown hts hA hK hW hS hl)
theorem R_mabs {index : Nat} {x : Int32} (hlink : Cond.methodLink own index Lib.Math.abs.name ∈ GW) (hh : 1 ≤ h) (hw : am_w st ≤ 8) (hd : decode cc pc = .ok (.invokestatic index, 3)) (kk : RJ l cx h own cc nL ret (pc + 3) lv (.inl (abi x) :: st) σ Q) : RJ l cx h own cc nL ret pc lv (.inl x :: st) σ Q := by
  intro p e s m args below meth c H locs ls hx hb hr hlk hml hown hts hA hK hW hS hl
  exact va_mabs hx hb (hml.trans hl.1.symm) hown (hts _ hlink) (hts _ mj_abs.1) (hts _ mj_math) (hts _ mj_abs.2) hh (by rw [am_w_eq]; show am_w st + 13 ≤ 64 * h; omega) (Nat.le_refl 0) (Nat.le_refl 0) hd (kk p e s m args below meth c H locs ls hx hb hr hlk hml hown hts hA hK hW hS hl)
/-- what System.arraycopy asks of its numbers -/
abbrev cpy_ok (sp dp n : Int32) (n0 n1 : Nat) : Prop := 0 ≤ sp ∧ 0 ≤ dp ∧ 0 ≤ n ∧ sp.toNatClampNeg + n.toNatClampNeg ≤ n0 ∧ dp.toNatClampNeg + n.toNatClampNeg ≤ n1
abbrev cpyA (σ : AS) (c o k c1 o1 k1 : Nat) (sp dp n : Int32) : AS := sAf σ c1 o1 k1 (va_cpy (σ.2.1 c o k) (σ.2.1 c1 o1 k1) sp.toNatClampNeg dp.toNatClampNeg n.toNatClampNeg)
abbrev cpyL (σ : AS) (c o k c1 o1 k1 : Nat) (sp dp n : Int32) : AS := sLf σ c1 o1 k1 (va_cpy (σ.2.2 c o k) (σ.2.2 c1 o1 k1) sp.toNatClampNeg dp.toNatClampNeg n.toNatClampNeg)
theorem am_nn {z : Int32} (hz : 0 ≤ z) : ¬ z < 0 ∧ z.toInt = (z.toNatClampNeg : Int) := by
  have h0 : (0 : Int) ≤ z.toInt := by simpa using Int32.le_iff_toInt_le.mp hz
  refine ⟨Int32.not_lt.mpr hz, ?_⟩
  show z.toInt = ((z.toInt.toNat : Nat) : Int)
  omega
theorem am_copy {mk : Type} (f : mk → Value) {p : Program} {e : Env} {s : State} {m : MethodId} {args : Array Value} {below : List Frame} {meth : Method} {c : Code} {H : Heap} {locs : List Loc} {ls : Array Slot} {rest : List Value} {Z : State → Prop}
    (hx : p.tables.exec = Jvm.exec) (hb : c.code = cc) (hml : c.maxLocals = ls.size) (hown : s.vm.findClass own = some m.cls) (hts : ∀ w ∈ GW, w.before args s = true) {index : Nat} (hlink : Cond.methodLink own index arraycopyName ∈ GW) (hh : 1 ≤ h) (hw : (rest.map fun v => v.category).sum ≤ 8) (hd : decode cc pc = .ok (.invokestatic index, 3))
    {cA : ClassId} {ty : FieldType} (hT : ArrOfT s cA ty) (hprim : refKind ty = false) {a0 a1 n0 n1 : Nat} {g0 g1 : Nat → mk} {sp dp n : Int32} (ok : cpy_ok sp dp n n0 n1) (hfit : ∀ x : mk, fits ty (f x) = true) (hnz : ∀ x : mk, ∀ z, f x ≠ .ref z)
    (h0 : H[a0]? = some (arrV cA n0 (fun j => f (g0 j)))) (h1 : H[a1]? = some (arrV cA n1 (fun j => f (g1 j)))) (hsto : ∀ (vm₁ : Vm) (x : mk), True)
    (kk : ∀ (H1 : Heap) (L : List Loc), H1[a1]? = some (arrV cA n1 (fun j => f (va_cpy g0 g1 sp.toNatClampNeg dp.toNatClampNeg n.toNatClampNeg j))) → H1.size = H.size → (∀ q : Nat, q ≠ a1 → H1[q]? = H[q]?) → (∀ q ∈ L, q.base = a1) → W p l e (rmD h) s m args below meth c H1 (locs ++ L) 0 0 Z (F0 m (pc + 3) ls rest)) :
    W p l e (rmD h) s m args below meth c H locs 0 0 Z (F0 m pc ls (.int n :: .int dp :: .ref a1 :: .int sp :: .ref a0 :: rest)) := by
  obtain ⟨o1, o2, o3, o4, o5⟩ := ok
  intro T hT0 X
  obtain ⟨-, k0, hk0, cm0, hkk0⟩ := hT n0 (fun j => f (g0 j))
  obtain ⟨-, k1, hk1, cm1, hkk1⟩ := hT n1 (fun j => f (g1 j))
  obtain ⟨vm', X', step⟩ := X.arraycopy hx hown (hts _ hlink) (hts _ mj_sys.2.2) (hts _ mj_sys.2.1) (hts _ mj_sys.1) (src := a0) (dst := a1) (cs := arrV cA n0 (fun j => f (g0 j))) (cd := arrV cA n1 (fun j => f (g1 j))) (srcPos := sp) (destPos := dp) (n := n) (by rw [hT0]; exact h0) (by rw [hT0]; exact h1)
    (fun _ h => by cases h) (fun _ h => by cases h) (fun h => by cases h) (fun h => by cases h) hk0 hk1 hkk0 hkk1 (by simp [hprim]) (am_nn o1).1 (am_nn o2).1 (am_nn o3).1
    (by rw [(am_nn o1).2, (am_nn o3).2, arrV_size]; omega)
    (by rw [(am_nn o2).2, (am_nn o3).2, arrV_size]; omega)
    (fun vm₁ _ i hi => by
      have e : (arrV cA n0 (fun j => f (g0 j))).slots.getD (sp.toNatClampNeg + i) .null = f (g0 (sp.toNatClampNeg + i)) := by
        rw [Array.getD_eq_getD_getElem?, arrV_read _ _ (by omega)]
        rfl
      refine ⟨?_, ?_⟩
      · rw [e]
        exact hfit _
      · rw [e]
        have hz := hnz (g0 (sp.toNatClampNeg + i))
        cases hv : f (g0 (sp.toNatClampNeg + i)) <;> first | exact trivial | exact absurd hv (hz _))
    (g := F0 m pc ls (.int n :: .int dp :: .ref a1 :: .int sp :: .ref a0 :: rest)) rfl (by rw [hml]) (rest := rest) rfl (by rw [hb]; exact hd) hh (by
      have hq : nativeFrameWords "java/lang/System" "arraycopy" 5 + 11 ≤ 56 := by decide
      show 2 * 0 + _ + _ ≤ 64 * h
      omega)
  have e1 : copied (arrV cA n0 (fun j => f (g0 j))) (arrV cA n1 (fun j => f (g1 j))) sp dp n = arrV cA n1 (fun j => f (va_cpy g0 g1 sp.toNatClampNeg dp.toNatClampNeg n.toNatClampNeg j)) := va_copied f cA cA g0 g1 o4
  rw [e1] at X' step
  have hl : a1 < H.size := (Array.getElem?_eq_some_iff.mp h1).1
  have hheap : ((T.setVm vm').setCell a1 (arrV cA n1 (fun j => f (va_cpy g0 g1 sp.toNatClampNeg dp.toNatClampNeg n.toNatClampNeg j)))).heap = H.setIfInBounds a1 (arrV cA n1 (fun j => f (va_cpy g0 g1 sp.toNatClampNeg dp.toNatClampNeg n.toNatClampNeg j))) := by rw [← hT0]; rfl
  obtain ⟨t, b1, b2⟩ := kk _ _ (show (H.setIfInBounds a1 _)[a1]? = some _ by simp [Array.getElem?_setIfInBounds, hl]) (by simp) (fun q hq => by simp [Array.getElem?_setIfInBounds, Ne.symm hq]) (fun q hq => by
      obtain ⟨z, -, hz⟩ := List.mem_map.mp hq
      rw [← hz]) _ hheap X'
  exact ⟨t, step t b1, b2⟩
theorem va_S.putL {A : Nat → Prop} {H0 H H1 : Heap} {locs L : List Loc} {a : Nat} (hS : va_S A H0 H locs) (z : H1.size = H.size) (oq : ∀ q : Nat, q ≠ a → H1[q]? = H[q]?) (ha : A a) (hL : ∀ q ∈ L, q.base = a) : va_S A H0 H1 (locs ++ L) := by
  refine ⟨by rw [z]; exact hS.1, fun q h1 h2 => ?_, fun q hq => ?_⟩
  · rw [oq q (fun e => h2 (by rw [e]; exact ha))]
    exact hS.2.1 q h1 h2
  · rcases List.mem_append.mp hq with h1 | h1
    · exact hS.2.2 q h1
    · rw [hL q h1]; exact ha
theorem R_copyA {index c0 o0 k0 c1 o1 k1 n0 n1 z0 z1 : Nat} {sp dp n : Int32} (hk0 : am_k c0 k0 = (2, n0, z0)) (hk1 : am_k c1 k1 = (2, n1, z1)) (ho0 : o0 < am_cnt c0) (ho1 : o1 < am_cnt c1) (ok : cpy_ok sp dp n n0 n1) (hlink : Cond.methodLink own index arraycopyName ∈ GW) (hh : 1 ≤ h) (hw : am_w st ≤ 8) (hd : decode cc pc = .ok (.invokestatic index, 3))
    (kk : RJ l cx h own cc nL ret (pc + 3) lv st (cpyA σ c0 o0 k0 c1 o1 k1 sp dp n) Q) : RJ l cx h own cc nL ret pc lv (.inl n :: .inl dp :: .inr (.inr (c1, o1, k1 + 1)) :: .inl sp :: .inr (.inr (c0, o0, k0 + 1)) :: st) σ Q := by
  intro p e s m args below meth c H locs ls hx hb hr hlk hml hown hts hA hK hW hS hl
  have hn0 := am_nf_of hk0 (by omega)
  have ha0 := am_isA_of hk0 (by omega) (by omega)
  have hn1 := am_nf_of hk1 (by omega)
  have ha1 := am_isA_of hk1 (by omega) (by omega)
  have h0 := hW.2 c0 o0 k0 ho0 hn0 ha0
  have h1 := hW.2 c1 o1 k1 ho1 hn1 ha1
  rw [am_acA hk0] at h0
  rw [am_acA hk1] at h1
  exact am_copy (fun x : Int32 => Value.int x) hx hb (hml.trans hl.1.symm) hown hts hlink hh (by rw [am_w_eq]; exact hw) hd (hK.1.2 0 _ rfl).1 rfl ok (fun _ => rfl) (fun _ _ q => by cases q) h0 h1 (fun _ _ => trivial) (fun H1 L e1 e2 e3 e4 =>
    kk p e s m args below meth c H1 _ ls hx hb hr hlk hml hown hts hA hK (hW.setA hA ho1 hk1 e1 e3) (hS.putL e2 e3 (hA.2 c1 o1 (k1 + 1) ⟨ho1, Or.inr ⟨k1, rfl, hn1, ha1⟩⟩) e4) hl)
theorem R_copyL {index c0 o0 k0 c1 o1 k1 n0 n1 z0 z1 : Nat} {sp dp n : Int32} (hk0 : am_k c0 k0 = (3, n0, z0)) (hk1 : am_k c1 k1 = (3, n1, z1)) (ho0 : o0 < am_cnt c0) (ho1 : o1 < am_cnt c1) (ok : cpy_ok sp dp n n0 n1) (hlink : Cond.methodLink own index arraycopyName ∈ GW) (hh : 1 ≤ h) (hw : am_w st ≤ 8) (hd : decode cc pc = .ok (.invokestatic index, 3))
    (kk : RJ l cx h own cc nL ret (pc + 3) lv st (cpyL σ c0 o0 k0 c1 o1 k1 sp dp n) Q) : RJ l cx h own cc nL ret pc lv (.inl n :: .inl dp :: .inr (.inr (c1, o1, k1 + 1)) :: .inl sp :: .inr (.inr (c0, o0, k0 + 1)) :: st) σ Q := by
  intro p e s m args below meth c H locs ls hx hb hr hlk hml hown hts hA hK hW hS hl
  have hn0 := am_nf_of hk0 (by omega)
  have ha0 := am_isA_of hk0 (by omega) (by omega)
  have hn1 := am_nf_of hk1 (by omega)
  have ha1 := am_isA_of hk1 (by omega) (by omega)
  have h0 := hW.2 c0 o0 k0 ho0 hn0 ha0
  have h1 := hW.2 c1 o1 k1 ho1 hn1 ha1
  rw [am_acL hk0] at h0
  rw [am_acL hk1] at h1
  exact am_copy (fun x : Int64 => Value.long x) hx hb (hml.trans hl.1.symm) hown hts hlink hh (by rw [am_w_eq]; exact hw) hd (hK.1.2 1 _ rfl).1 rfl ok (fun _ => rfl) (fun _ _ q => by cases q) h0 h1 (fun _ _ => trivial) (fun H1 L e1 e2 e3 e4 =>
    kk p e s m args below meth c H1 _ ls hx hb hr hlk hml hown hts hA hK (hW.setL hA ho1 hk1 e1 e3) (hS.putL e2 e3 (hA.2 c1 o1 (k1 + 1) ⟨ho1, Or.inr ⟨k1, rfl, hn1, ha1⟩⟩) e4) hl)
/-! Arrays.fill -/
abbrev filA (σ : AS) (c o k n : Nat) (v : Int32) : AS := sAf σ c o k (fun j => if j < n then v else σ.2.1 c o k j)
abbrev filL (σ : AS) (c o k n : Nat) (v : Int64) : AS := sLf σ c o k (fun j => if j < n then v else σ.2.2 c o k j)
theorem am_fill1 {α : Type} (f : Nat → α) (u : (Nat → α) → Nat → α → Nat → α) (hu : ∀ g k x j, u g k x j = if j = k then x else g j) (v : α) (i : Nat) : u (fun j => if j < i then v else f j) i v = fun j => if j < i + 1 then v else f j := by
  funext j
  rw [hu]
  by_cases h1 : j = i
  · subst h1; simp
  · by_cases h2 : j < i
    · simp [h1, h2, Nat.lt_succ_of_lt h2]
    · have h3 : ¬ j < i + 1 := by omega
      simp [h1, h2, h3]
theorem sAf_sAf (σ : AS) (c o k : Nat) (f g : Nat → Int32) : sAf (sAf σ c o k f) c o k g = sAf σ c o k g := by
  unfold sAf
  congr 2
  funext c' o' k'
  by_cases hq : c' = c ∧ o' = o ∧ k' = k <;> simp [hq]
theorem sLf_sLf (σ : AS) (c o k : Nat) (f g : Nat → Int64) : sLf (sLf σ c o k f) c o k g = sLf σ c o k g := by
  unfold sLf
  congr 2
  funext c' o' k'
  by_cases hq : c' = c ∧ o' = o ∧ k' = k <;> simp [hq]
theorem sAf_at (σ : AS) (c o k : Nat) (f : Nat → Int32) : (sAf σ c o k f).2.1 c o k = f := by simp [sAf]
theorem sLf_at (σ : AS) (c o k : Nat) (f : Nat → Int64) : (sLf σ c o k f).2.2 c o k = f := by simp [sLf]
theorem sAf_self (σ : AS) (c o k : Nat) : sAf σ c o k (σ.2.1 c o k) = σ := by
  unfold sAf
  show (σ.1, _, σ.2.2) = (σ.1, σ.2.1, σ.2.2)
  congr 2
  funext c' o' k'
  by_cases hq : c' = c ∧ o' = o ∧ k' = k
  · obtain ⟨rfl, rfl, rfl⟩ := hq; simp
  · simp [hq]
theorem sLf_self (σ : AS) (c o k : Nat) : sLf σ c o k (σ.2.2 c o k) = σ := by
  unfold sLf
  show (σ.1, σ.2.1, _) = (σ.1, σ.2.1, σ.2.2)
  congr 2
  funext c' o' k'
  by_cases hq : c' = c ∧ o' = o ∧ k' = k
  · obtain ⟨rfl, rfl, rfl⟩ := hq; simp
  · simp [hq]
end AML
set_option maxRecDepth 20000 in
theorem ct_fillA {l : Launch} {cx : CX} (hA : AD cx) {c0 o k n z : Nat} (hk : am_k c0 k = (2, n, z)) (ho : o < am_cnt c0) (hn : n < 2 ^ 31) (v : Int32) (σ : AS) (Q : Unit → AS → Prop) (hq : Q () (filA σ c0 o k n v)) :
    AMet l cx 1 yJ7_fill_53178 cJ7_fill_53178 4 none [.inr (.inr (c0, o, k + 1)), .inl v] σ (QV Q) := by
  have loop : ∀ (d i : Nat) (x : Int32), i + d = n → x = nI i → RJ l cx 1 RJ7 cJ7_fill_53178 4 none 5 [(2, .inl x), (0, .inr (.inr (c0, o, k + 1))), (1, .inl v), (3, .inl (nI n))] [] (sAf σ c0 o k (fun j => if j < i then v else σ.2.1 c0 o k j)) (QV Q) := by
    intro d
    induction d with
    | zero =>
      intro i x hi hx
      have e : i = n := by omega
      subst e; subst hx
      refine R_iload_n dJ7_fill_53178_5 rfl 0 rfl ?_
      refine R_iload_n dJ7_fill_53178_6 rfl 3 rfl ?_
      refine R_icmp_ge (tgt := 20) dJ7_fill_53178_7 (by decide) (fun _ => ?_) (fun z => absurd z (nI_nlt (Nat.le_refl i) hn))
      exact R_vreturn dJ7_fill_53178_20 rfl ⟨rfl, hq⟩
    | succ d ih =>
      intro i x hi hx
      have hlt : i < n := by omega
      subst hx
      have hin : inb (nI i) n := ⟨nI_pos' (by omega), by rw [nI_clamp (by omega)]; exact hlt⟩
      refine R_iload_n dJ7_fill_53178_5 rfl 0 rfl ?_
      refine R_iload_n dJ7_fill_53178_6 rfl 3 rfl ?_
      refine R_icmp_ge (tgt := 20) dJ7_fill_53178_7 (by decide) (fun z => absurd (nI_lt hlt (by omega)) z) (fun _ => ?_)
      refine R_aload_n dJ7_fill_53178_10 rfl 1 rfl ?_
      refine R_iload_n dJ7_fill_53178_11 rfl 0 rfl ?_
      refine R_iload_n dJ7_fill_53178_12 rfl 2 rfl ?_
      refine R_iast hk ho hin dJ7_fill_53178_13 ?_
      refine R_iinc dJ7_fill_53178_14 0 rfl rfl (by decide) rfl ?_
      refine R_goto (tgt := 5) dJ7_fill_53178_17 (by decide) ?_
      show RJ l cx 1 RJ7 cJ7_fill_53178 4 none 5 _ [] (sAf (sAf σ c0 o k _) c0 o k (upd ((sAf σ c0 o k _).2.1 c0 o k) (nI i).toNatClampNeg v)) (QV Q)
      rw [sAf_sAf, sAf_at, nI_clamp (by omega), am_fill1 (σ.2.1 c0 o k) upd (fun g k x j => rfl) v i]
      exact ih (i + 1) _ (by omega) (nI_1 i)
  refine AMet.of (own := RJ7) (by decide) rfl hA (Nat.le_of_ble_eq_true rfl) ?_
  refine R_iconst (v := nI 0) dJ7_fill_53178_0 (by decide) ?_
  refine R_istore_n dJ7_fill_53178_1 rfl (by decide) rfl ?_
  refine R_aload_n dJ7_fill_53178_2 rfl 1 rfl ?_
  refine R_alenI hk ho dJ7_fill_53178_3 ?_
  refine R_istore_n dJ7_fill_53178_4 rfl (by decide) rfl ?_
  refine R_sub [1, 2, 3, 0] rfl ?_
  have h0 := loop n 0 (nI 0) (by omega) rfl
  simp only [Nat.not_lt_zero, if_false, sAf_self] at h0
  exact h0
set_option maxRecDepth 20000 in
theorem ct_fillL {l : Launch} {cx : CX} (hA : AD cx) {c0 o k n z : Nat} (hk : am_k c0 k = (3, n, z)) (ho : o < am_cnt c0) (hn : n < 2 ^ 31) (v : Int64) (σ : AS) (Q : Unit → AS → Prop) (hq : Q () (filL σ c0 o k n v)) :
    AMet l cx 1 yJ7_fill_d0a16 cJ7_fill_d0a16 5 none [.inr (.inr (c0, o, k + 1)), .inr (.inl v)] σ (QV Q) := by
  have loop : ∀ (d i : Nat) (x : Int32), i + d = n → x = nI i → RJ l cx 1 RJ7 cJ7_fill_d0a16 5 none 6 [(3, .inl x), (0, .inr (.inr (c0, o, k + 1))), (1, .inr (.inl v)), (4, .inl (nI n))] [] (sLf σ c0 o k (fun j => if j < i then v else σ.2.2 c0 o k j)) (QV Q) := by
    intro d
    induction d with
    | zero =>
      intro i x hi hx
      have e : i = n := by omega
      subst e; subst hx
      refine R_iload_n dJ7_fill_d0a16_6 rfl 0 rfl ?_
      refine R_iload dJ7_fill_d0a16_7 3 rfl ?_
      refine R_icmp_ge (tgt := 22) dJ7_fill_d0a16_9 (by decide) (fun _ => ?_) (fun z => absurd z (nI_nlt (Nat.le_refl i) hn))
      exact R_vreturn dJ7_fill_d0a16_22 rfl ⟨rfl, hq⟩
    | succ d ih =>
      intro i x hi hx
      have hlt : i < n := by omega
      subst hx
      have hin : inb (nI i) n := ⟨nI_pos' (by omega), by rw [nI_clamp (by omega)]; exact hlt⟩
      refine R_iload_n dJ7_fill_d0a16_6 rfl 0 rfl ?_
      refine R_iload dJ7_fill_d0a16_7 3 rfl ?_
      refine R_icmp_ge (tgt := 22) dJ7_fill_d0a16_9 (by decide) (fun z => absurd (nI_lt hlt (by omega)) z) (fun _ => ?_)
      refine R_aload_n dJ7_fill_d0a16_12 rfl 1 rfl ?_
      refine R_iload_n dJ7_fill_d0a16_13 rfl 0 rfl ?_
      refine R_lload_n dJ7_fill_d0a16_14 rfl 2 rfl ?_
      refine R_last hk ho hin dJ7_fill_d0a16_15 ?_
      refine R_iinc dJ7_fill_d0a16_16 0 rfl rfl (by decide) rfl ?_
      refine R_goto (tgt := 6) dJ7_fill_d0a16_19 (by decide) ?_
      show RJ l cx 1 RJ7 cJ7_fill_d0a16 5 none 6 _ [] (sLf (sLf σ c0 o k _) c0 o k (vp_updL ((sLf σ c0 o k _).2.2 c0 o k) (nI i).toNatClampNeg v)) (QV Q)
      rw [sLf_sLf, sLf_at, nI_clamp (by omega), am_fill1 (σ.2.2 c0 o k) vp_updL (fun g k x j => rfl) v i]
      exact ih (i + 1) _ (by omega) (nI_1 i)
  refine AMet.of (own := RJ7) (by decide) rfl hA (Nat.le_of_ble_eq_true rfl) ?_
  refine R_iconst (v := nI 0) dJ7_fill_d0a16_0 (by decide) ?_
  refine R_istore_n dJ7_fill_d0a16_1 rfl (by decide) rfl ?_
  refine R_aload_n dJ7_fill_d0a16_2 rfl 1 rfl ?_
  refine R_alenL hk ho dJ7_fill_d0a16_3 ?_
  refine R_istore dJ7_fill_d0a16_4 (by decide) rfl ?_
  refine R_sub [1, 2, 3, 0] rfl ?_
  have h0 := loop n 0 (nI 0) (by omega) rfl
  simp only [Nat.not_lt_zero, if_false, sLf_self] at h0
  exact h0
/-! calls by kind of answer -/
theorem oz0_0 : 0 < am_cnt 0 := by decide
theorem oz1_0 : 0 < am_cnt 1 := by decide
theorem oz1_1 : 1 < am_cnt 1 := by decide
theorem oz1_2 : 2 < am_cnt 1 := by decide
theorem oz2_0 : 0 < am_cnt 2 := by decide
theorem oz3_0 : 0 < am_cnt 3 := by decide
theorem oz3_1 : 1 < am_cnt 3 := by decide
theorem oz4_0 : 0 < am_cnt 4 := by decide
theorem oz5_0 : 0 < am_cnt 5 := by decide
theorem oz5_1 : 1 < am_cnt 5 := by decide
theorem oz5_2 : 2 < am_cnt 5 := by decide
theorem oz5_3 : 3 < am_cnt 5 := by decide
theorem oz5_4 : 4 < am_cnt 5 := by decide
theorem oz5_5 : 5 < am_cnt 5 := by decide
theorem oz6_0 : 0 < am_cnt 6 := by decide
theorem oz7_0 : 0 < am_cnt 7 := by decide
theorem oz8_0 : 0 < am_cnt 8 := by decide
theorem oz9_0 : 0 < am_cnt 9 := by decide
theorem am_hle {f a : Nat} (b : Nat) (h : b ≤ a + 1 := by decide) : b ≤ f + 1 + a := by omega
section AMC
variable {l : Launch} {cx : CX} {h : Nat} {own : String} {cc : ByteArray} {nL : Nat} {ret : Option FieldType} {pc : Nat} {lv : List (Nat × AV)} {st : List AV} {σ : AS} {Q : Option AV → AS → Prop}
theorem R_callVI {y : MethodName} {cc' : ByteArray} {nL' h' n index c0 o : Nat} {ret' : Option FieldType} {C : String} {T : u_T} {N : Nat} {As : List AV} {S : List AV} {Q' : Int32 → AS → Prop} (hc : am_cl c0 C T N) (hC : y.cls = C) (ho : o < am_cnt c0) (hm : am_mV y cc' nL' ret' n) (hlink : Cond.methodLink own index y ∈ GW) (hn : As.length = n) (hw : am_w st ≤ 8) (hh : h' + 1 ≤ h) (hd : decode cc pc = .ok (.invokevirtual index, 3))
    (hM : AMet l cx h' y cc' nL' ret' (.inr (.inr (c0, o, 0)) :: As) σ (QI Q')) (kk : ∀ x σ1, Q' x σ1 → RJ l cx h own cc nL ret (pc + 3) lv (.inl x :: st) σ1 Q) (hS : As.reverse ++ .inr (.inr (c0, o, 0)) :: st = S := by rfl) : RJ l cx h own cc nL ret pc lv S σ Q := by
  subst hS
  exact R_callV hc hC ho hm hlink hn hw hh hd hM (fun r σ1 q => by obtain ⟨x, rfl, q⟩ := q; exact kk x σ1 q)
theorem R_callSI {y : MethodName} {cc' : ByteArray} {nL' h' n index : Nat} {ret' : Option FieldType} {As : List AV} {S : List AV} {Q' : Int32 → AS → Prop} (hm : am_mS y cc' nL' ret' n) (hlink : Cond.methodLink own index y ∈ GW) (hn : As.length = n) (hw : am_w st ≤ 8) (hh : h' + 1 ≤ h) (hd : decode cc pc = .ok (.invokestatic index, 3))
    (hM : AMet l cx h' y cc' nL' ret' As σ (QI Q')) (kk : ∀ x σ1, Q' x σ1 → RJ l cx h own cc nL ret (pc + 3) lv (.inl x :: st) σ1 Q) (hS : As.reverse ++ st = S := by rfl) : RJ l cx h own cc nL ret pc lv S σ Q := by
  subst hS
  exact R_callS hm hlink hn hw hh hd hM (fun r σ1 q => by obtain ⟨x, rfl, q⟩ := q; exact kk x σ1 q)
theorem R_callNI {y : MethodName} {cc' : ByteArray} {nL' h' n index : Nat} {host : String} {ret' : Option FieldType} {As : List AV} {S : List AV} {Q' : Int32 → AS → Prop} (hne : am_nest = .methodLinkNest own index y host) (hm : am_mS y cc' nL' ret' n) (hn : As.length = n) (hw : am_w st ≤ 8) (hh : h' + 1 ≤ h) (hd : decode cc pc = .ok (.invokestatic index, 3))
    (hM : AMet l cx h' y cc' nL' ret' As σ (QI Q')) (kk : ∀ x σ1, Q' x σ1 → RJ l cx h own cc nL ret (pc + 3) lv (.inl x :: st) σ1 Q) (hS : As.reverse ++ st = S := by rfl) : RJ l cx h own cc nL ret pc lv S σ Q := by
  subst hS
  exact R_callN hne hm hn hw hh hd hM (fun r σ1 q => by obtain ⟨x, rfl, q⟩ := q; exact kk x σ1 q)
theorem R_callVJ {y : MethodName} {cc' : ByteArray} {nL' h' n index c0 o : Nat} {ret' : Option FieldType} {C : String} {T : u_T} {N : Nat} {As : List AV} {S : List AV} {Q' : Int64 → AS → Prop} (hc : am_cl c0 C T N) (hC : y.cls = C) (ho : o < am_cnt c0) (hm : am_mV y cc' nL' ret' n) (hlink : Cond.methodLink own index y ∈ GW) (hn : As.length = n) (hw : am_w st ≤ 8) (hh : h' + 1 ≤ h) (hd : decode cc pc = .ok (.invokevirtual index, 3))
    (hM : AMet l cx h' y cc' nL' ret' (.inr (.inr (c0, o, 0)) :: As) σ (QJ Q')) (kk : ∀ x σ1, Q' x σ1 → RJ l cx h own cc nL ret (pc + 3) lv (.inr (.inl x) :: st) σ1 Q) (hS : As.reverse ++ .inr (.inr (c0, o, 0)) :: st = S := by rfl) : RJ l cx h own cc nL ret pc lv S σ Q := by
  subst hS
  exact R_callV hc hC ho hm hlink hn hw hh hd hM (fun r σ1 q => by obtain ⟨x, rfl, q⟩ := q; exact kk x σ1 q)
theorem R_callSJ {y : MethodName} {cc' : ByteArray} {nL' h' n index : Nat} {ret' : Option FieldType} {As : List AV} {S : List AV} {Q' : Int64 → AS → Prop} (hm : am_mS y cc' nL' ret' n) (hlink : Cond.methodLink own index y ∈ GW) (hn : As.length = n) (hw : am_w st ≤ 8) (hh : h' + 1 ≤ h) (hd : decode cc pc = .ok (.invokestatic index, 3))
    (hM : AMet l cx h' y cc' nL' ret' As σ (QJ Q')) (kk : ∀ x σ1, Q' x σ1 → RJ l cx h own cc nL ret (pc + 3) lv (.inr (.inl x) :: st) σ1 Q) (hS : As.reverse ++ st = S := by rfl) : RJ l cx h own cc nL ret pc lv S σ Q := by
  subst hS
  exact R_callS hm hlink hn hw hh hd hM (fun r σ1 q => by obtain ⟨x, rfl, q⟩ := q; exact kk x σ1 q)
theorem R_callNJ {y : MethodName} {cc' : ByteArray} {nL' h' n index : Nat} {host : String} {ret' : Option FieldType} {As : List AV} {S : List AV} {Q' : Int64 → AS → Prop} (hne : am_nest = .methodLinkNest own index y host) (hm : am_mS y cc' nL' ret' n) (hn : As.length = n) (hw : am_w st ≤ 8) (hh : h' + 1 ≤ h) (hd : decode cc pc = .ok (.invokestatic index, 3))
    (hM : AMet l cx h' y cc' nL' ret' As σ (QJ Q')) (kk : ∀ x σ1, Q' x σ1 → RJ l cx h own cc nL ret (pc + 3) lv (.inr (.inl x) :: st) σ1 Q) (hS : As.reverse ++ st = S := by rfl) : RJ l cx h own cc nL ret pc lv S σ Q := by
  subst hS
  exact R_callN hne hm hn hw hh hd hM (fun r σ1 q => by obtain ⟨x, rfl, q⟩ := q; exact kk x σ1 q)
theorem R_callVV {y : MethodName} {cc' : ByteArray} {nL' h' n index c0 o : Nat} {ret' : Option FieldType} {C : String} {T : u_T} {N : Nat} {As : List AV} {S : List AV} {Q' : Unit → AS → Prop} (hc : am_cl c0 C T N) (hC : y.cls = C) (ho : o < am_cnt c0) (hm : am_mV y cc' nL' ret' n) (hlink : Cond.methodLink own index y ∈ GW) (hn : As.length = n) (hw : am_w st ≤ 8) (hh : h' + 1 ≤ h) (hd : decode cc pc = .ok (.invokevirtual index, 3))
    (hM : AMet l cx h' y cc' nL' ret' (.inr (.inr (c0, o, 0)) :: As) σ (QV Q')) (kk : ∀ σ1, Q' () σ1 → RJ l cx h own cc nL ret (pc + 3) lv st σ1 Q) (hS : As.reverse ++ .inr (.inr (c0, o, 0)) :: st = S := by rfl) : RJ l cx h own cc nL ret pc lv S σ Q := by
  subst hS
  exact R_callV hc hC ho hm hlink hn hw hh hd hM (fun r σ1 q => by obtain ⟨rfl, q⟩ := q; exact kk σ1 q)
theorem R_callSV {y : MethodName} {cc' : ByteArray} {nL' h' n index : Nat} {ret' : Option FieldType} {As : List AV} {S : List AV} {Q' : Unit → AS → Prop} (hm : am_mS y cc' nL' ret' n) (hlink : Cond.methodLink own index y ∈ GW) (hn : As.length = n) (hw : am_w st ≤ 8) (hh : h' + 1 ≤ h) (hd : decode cc pc = .ok (.invokestatic index, 3))
    (hM : AMet l cx h' y cc' nL' ret' As σ (QV Q')) (kk : ∀ σ1, Q' () σ1 → RJ l cx h own cc nL ret (pc + 3) lv st σ1 Q) (hS : As.reverse ++ st = S := by rfl) : RJ l cx h own cc nL ret pc lv S σ Q := by
  subst hS
  exact R_callS hm hlink hn hw hh hd hM (fun r σ1 q => by obtain ⟨rfl, q⟩ := q; exact kk σ1 q)
theorem R_callNV {y : MethodName} {cc' : ByteArray} {nL' h' n index : Nat} {host : String} {ret' : Option FieldType} {As : List AV} {S : List AV} {Q' : Unit → AS → Prop} (hne : am_nest = .methodLinkNest own index y host) (hm : am_mS y cc' nL' ret' n) (hn : As.length = n) (hw : am_w st ≤ 8) (hh : h' + 1 ≤ h) (hd : decode cc pc = .ok (.invokestatic index, 3))
    (hM : AMet l cx h' y cc' nL' ret' As σ (QV Q')) (kk : ∀ σ1, Q' () σ1 → RJ l cx h own cc nL ret (pc + 3) lv st σ1 Q) (hS : As.reverse ++ st = S := by rfl) : RJ l cx h own cc nL ret pc lv S σ Q := by
  subst hS
  exact R_callN hne hm hn hw hh hd hM (fun r σ1 q => by obtain ⟨rfl, q⟩ := q; exact kk σ1 q)
end AMC
theorem ct_filA {l : Launch} {cx : CX} (hA : AD cx) {c0 o k n z : Nat} (hk : am_k c0 k = (2, n, z)) (ho : o < am_cnt c0) (hn : n < 2 ^ 31) {v : Int32} {σ : AS} {α : Type} {F : AS → Option (α × AS)} {Q0 : α → AS → Prop} (w : wpO (lt (filA σ c0 o k n v) F) Q0) :
    AMet l cx 1 yJ7_fill_53178 cJ7_fill_53178 4 none [.inr (.inr (c0, o, k + 1)), .inl v] σ (QV (fun _ σ1 => wpO (F σ1) Q0)) := ct_fillA hA hk ho hn v σ (fun _ σ1 => wpO (F σ1) Q0) w
theorem ct_filL {l : Launch} {cx : CX} (hA : AD cx) {c0 o k n z : Nat} (hk : am_k c0 k = (3, n, z)) (ho : o < am_cnt c0) (hn : n < 2 ^ 31) {v : Int64} {σ : AS} {α : Type} {F : AS → Option (α × AS)} {Q0 : α → AS → Prop} (w : wpO (lt (filL σ c0 o k n v) F) Q0) :
    AMet l cx 1 yJ7_fill_d0a16 cJ7_fill_d0a16 5 none [.inr (.inr (c0, o, k + 1)), .inr (.inl v)] σ (QV (fun _ σ1 => wpO (F σ1) Q0)) := ct_fillL hA hk ho hn v σ (fun _ σ1 => wpO (F σ1) Q0) w
