def g_X2_has (a0 : Int32) (σ : AS) : Option (Int32 × AS) := (if a0 < 0 then some (0, σ) else (if a0 < gF σ 2 0 2 then some (1, σ) else some (0, σ)))
set_option maxRecDepth 100000 in
set_option maxHeartbeats 4000000 in
theorem ct_X2_has {l : Launch} {cx : CX} (hA : AD cx) (a0 : Int32) (σ : AS) (Q : Int32 → AS → Prop) (w : wpO (g_X2_has a0 σ) Q) : AMet l cx 0 yX2_has cX2_has 2 (some .boolean) [.inr (.inr (2, 0, 0)), .inl a0] σ (QI Q) := by
  unfold g_X2_has at w
  refine AMet.of (own := RX2) (by decide) rfl hA (Nat.le_of_ble_eq_true rfl) ?_
  show RJ l cx 0 RX2 cX2_has 2 (some .boolean) 0 [(0, .inr (.inr (2, 0, 0))), (1, .inl a0)] [] σ _
  refine R_iload_n dX2_has_0 rfl 1 rfl ?_
  refine R_if_lt (tgt := 16) dX2_has_1 (by decide) (fun c1 => ?_) (fun c1 => ?_)
  · have w := wp_t c1 w
    refine R_iconst (v := 0) dX2_has_16 (by decide) ?_
    exact R_zreturn dX2_has_17 rfl (by decide) ⟨_, rfl, wp_some w⟩
  · have w := wp_f c1 w
    refine R_iload_n dX2_has_4 rfl 1 rfl ?_
    refine R_aload_n dX2_has_5 rfl 0 rfl ?_
    refine R_getfI (k := 2) acl2 oz2_0 (by decide) fl_RX2_18 dX2_has_6 rfl ?_
    refine R_icmp_ge (tgt := 16) dX2_has_9 (by decide) (fun c2 => ?_) (fun c2 => ?_)
    · have w := wp_f c2 w
      refine R_iconst (v := 0) dX2_has_16 (by decide) ?_
      exact R_zreturn dX2_has_17 rfl (by decide) ⟨_, rfl, wp_some w⟩
    · have w := wp_t c2 w
      refine R_iconst (v := 1) dX2_has_12 (by decide) ?_
      refine R_goto (tgt := 17) dX2_has_13 (by decide) ?_
      exact R_zreturn dX2_has_17 rfl (by decide) ⟨_, rfl, wp_some w⟩
def g_X2_begin_19     (σ : AS) : Option (Unit × AS) := (lt (sF σ 2 0 3 ((gF σ 2 0 3) + 1)) fun σ2 => some ((), σ2))
set_option maxRecDepth 100000 in
set_option maxHeartbeats 4000000 in
theorem rk_X2_begin_19 {l : Launch} {cx : CX} (hA : AD cx)    (Q : Unit → AS → Prop)  (σ : AS) (w : wpO (g_X2_begin_19  σ) Q) : RJ l cx 0 RX2 cX2_begin 2 none 19 [(0, .inr (.inr (2, 0, 0)))] [] σ (QV Q) := by
  unfold g_X2_begin_19 at w
  refine R_aload_n dX2_begin_19 rfl 0 rfl ?_
  refine R_dup dX2_begin_20 rfl ?_
  refine R_getfI (k := 3) acl2 oz2_0 (by decide) fl_RX2_22 dX2_begin_21 rfl ?_
  refine R_iconst (v := 1) dX2_begin_24 (by decide) ?_
  refine R_iadd dX2_begin_25 ?_
  refine R_putf (k := 3) (ty := .int) acl2 oz2_0 (by decide) fl_RX2_22 rfl (tyX2_ok 3 (by decide)) (Or.inl rfl) dX2_begin_26 rfl ?_
  refine R_nameS w ?_; clear w; intro σ2 w
  exact R_vreturn dX2_begin_29 rfl ⟨rfl, wp_some w⟩
def g_X2_begin (a0 : Int32) (σ : AS) : Option (Unit × AS) := (if gF σ 2 0 3 < 24 then (if inb (gF σ 2 0 3) 24 then (lt (sA σ 2 0 1 (gF σ 2 0 3) a0) fun σ4 => g_X2_begin_19 σ4) else none) else g_X2_begin_19 σ)
set_option maxRecDepth 100000 in
set_option maxHeartbeats 4000000 in
theorem ct_X2_begin {l : Launch} {cx : CX} (hA : AD cx) (a0 : Int32) (σ : AS) (Q : Unit → AS → Prop) (w : wpO (g_X2_begin a0 σ) Q) : AMet l cx 0 yX2_begin cX2_begin 2 none [.inr (.inr (2, 0, 0)), .inl a0] σ (QV Q) := by
  unfold g_X2_begin at w
  refine AMet.of (own := RX2) (by decide) rfl hA (Nat.le_of_ble_eq_true rfl) ?_
  show RJ l cx 0 RX2 cX2_begin 2 none 0 [(0, .inr (.inr (2, 0, 0))), (1, .inl a0)] [] σ _
  refine R_aload_n dX2_begin_0 rfl 0 rfl ?_
  refine R_getfI (k := 3) acl2 oz2_0 (by decide) fl_RX2_22 dX2_begin_1 rfl ?_
  refine R_bipush (v := 24) dX2_begin_4 (by decide) ?_
  refine R_icmp_ge (tgt := 19) dX2_begin_6 (by decide) (fun c1 => ?_) (fun c1 => ?_)
  · have w := wp_f c1 w
    refine R_sub [0] rfl ?_
    exact rk_X2_begin_19 hA _ σ w
  · have w := wp_t c1 w
    refine R_aload_n dX2_begin_9 rfl 0 rfl ?_
    refine R_getfA (k := 1) acl2 oz2_0 (by decide) fl_RX2_15 dX2_begin_10 rfl ?_
    refine R_aload_n dX2_begin_13 rfl 0 rfl ?_
    refine R_getfI (k := 3) acl2 oz2_0 (by decide) fl_RX2_22 dX2_begin_14 rfl ?_
    refine R_iload_n dX2_begin_17 rfl 1 rfl ?_
    obtain ⟨b3, w⟩ := wp_chk w
    refine R_iast rfl oz2_0 b3 dX2_begin_18 ?_
    refine R_nameS w ?_; clear w; intro σ4 w
    refine R_sub [0] rfl ?_
    exact rk_X2_begin_19 hA _ σ4 w
def g_X2_isKind (a0 : Int32) (σ : AS) : Option (Int32 × AS) := (if a0 < 0 then some (0, σ) else (if a0 < 8 then some (1, σ) else some (0, σ)))
set_option maxRecDepth 100000 in
set_option maxHeartbeats 4000000 in
theorem ct_X2_isKind {l : Launch} {cx : CX} (hA : AD cx) (a0 : Int32) (σ : AS) (Q : Int32 → AS → Prop) (w : wpO (g_X2_isKind a0 σ) Q) : AMet l cx 0 yX2_isKind cX2_isKind 1 (some .boolean) [.inl a0] σ (QI Q) := by
  unfold g_X2_isKind at w
  refine AMet.of (own := RX2) (by decide) rfl hA (Nat.le_of_ble_eq_true rfl) ?_
  show RJ l cx 0 RX2 cX2_isKind 1 (some .boolean) 0 [(0, .inl a0)] [] σ _
  refine R_iload_n dX2_isKind_0 rfl 0 rfl ?_
  refine R_if_lt (tgt := 14) dX2_isKind_1 (by decide) (fun c1 => ?_) (fun c1 => ?_)
  · have w := wp_t c1 w
    refine R_iconst (v := 0) dX2_isKind_14 (by decide) ?_
    exact R_zreturn dX2_isKind_15 rfl (by decide) ⟨_, rfl, wp_some w⟩
  · have w := wp_f c1 w
    refine R_iload_n dX2_isKind_4 rfl 0 rfl ?_
    refine R_bipush (v := 8) dX2_isKind_5 (by decide) ?_
    refine R_icmp_ge (tgt := 14) dX2_isKind_7 (by decide) (fun c2 => ?_) (fun c2 => ?_)
    · have w := wp_f c2 w
      refine R_iconst (v := 0) dX2_isKind_14 (by decide) ?_
      exact R_zreturn dX2_isKind_15 rfl (by decide) ⟨_, rfl, wp_some w⟩
    · have w := wp_t c2 w
      refine R_iconst (v := 1) dX2_isKind_10 (by decide) ?_
      refine R_goto (tgt := 15) dX2_isKind_11 (by decide) ?_
      exact R_zreturn dX2_isKind_15 rfl (by decide) ⟨_, rfl, wp_some w⟩
def g_X2_holderOf_4    : Nat → Int32 → Int32 → Int32 → AS → Option (Int32 × AS)
  | 0, _, _, _, _ => none
  | f0 + 1, v0, v2, v3, σ => (if v3 < 8 then (bnd (g_X2_isKind v2 σ) fun r2 σ3 => (if r2 = 0 then some ((-1), σ3) else (if inb ((v2 * 4) + v0) 32 then (if am_st 1 ((v2 * 4) + v0).toNatClampNeg = 0 then (if inb v2 8 then (lt (am_st 0 v2.toNatClampNeg) fun x8 => (g_X2_holderOf_4 f0) v0 x8 (v3 + 1) σ3) else none) else some (v2, σ3)) else none))) else some ((-1), σ))
set_option maxRecDepth 100000 in
set_option maxHeartbeats 4000000 in
theorem rk_X2_holderOf_4 {l : Launch} {cx : CX} (hA : AD cx)    (Q : Int32 → AS → Prop) : ∀ (f0 : Nat) (v0 : Int32) (v2 : Int32) (v3 : Int32) (σ : AS), wpO (g_X2_holderOf_4 f0 v0 v2 v3 σ) Q → RJ l cx 1 RX2 cX2_holderOf 4 (some .int) 4 [(0, .inl v0), (2, .inl v2), (3, .inl v3)] [] σ (QI Q) := by
  intro f0
  induction f0 with
  | zero => intro v0 v2 v3 σ w; exact wp_no w
  | succ f0 ih =>
    intro v0 v2 v3 σ w
    rw [g_X2_holderOf_4] at w
    refine R_iload_n dX2_holderOf_4 rfl 2 rfl ?_
    refine R_bipush (v := 8) dX2_holderOf_5 (by decide) ?_
    refine R_icmp_ge (tgt := 43) dX2_holderOf_7 (by decide) (fun c1 => ?_) (fun c1 => ?_)
    · have w := wp_f c1 w
      refine R_iconst (v := (-1)) dX2_holderOf_43 (by decide) ?_
      exact R_ireturn dX2_holderOf_44 rfl ⟨_, rfl, wp_some w⟩
    · have w := wp_t c1 w
      refine R_iload_n dX2_holderOf_10 rfl 1 rfl ?_
      refine R_callSI (As := [.inl v2]) mi_X2_isKind ml_RX2_36 rfl (Nat.le_of_ble_eq_true rfl) (by decide) dX2_holderOf_11 (ct_X2_isKind hA v2 σ _ (wp_bnd w)) (fun r2 σ3 w => ?_)
      refine R_if_eq (tgt := 43) dX2_holderOf_14 (by decide) (fun c4 => ?_) (fun c4 => ?_)
      · have w := wp_t c4 w
        refine R_iconst (v := (-1)) dX2_holderOf_43 (by decide) ?_
        exact R_ireturn dX2_holderOf_44 rfl ⟨_, rfl, wp_some w⟩
      · have w := wp_f c4 w
        refine R_gets1 fl_RX2_50 dX2_holderOf_17 ?_
        refine R_iload_n dX2_holderOf_20 rfl 1 rfl ?_
        refine R_iconst (v := 4) dX2_holderOf_21 (by decide) ?_
        refine R_imul dX2_holderOf_22 ?_
        refine R_iload_n dX2_holderOf_23 rfl 0 rfl ?_
        refine R_iadd dX2_holderOf_24 ?_
        obtain ⟨b5, w⟩ := wp_chk w
        refine R_sald (k := 1) (by decide) rfl b5 dX2_holderOf_25 ?_
        refine R_if_eq (tgt := 31) dX2_holderOf_26 (by decide) (fun c6 => ?_) (fun c6 => ?_)
        · have w := wp_t c6 w
          refine R_gets0 fl_RX2_39 dX2_holderOf_31 ?_
          refine R_iload_n dX2_holderOf_34 rfl 1 rfl ?_
          obtain ⟨b7, w⟩ := wp_chk w
          refine R_sald (k := 0) (by decide) rfl b7 dX2_holderOf_35 ?_
          refine R_nameI w ?_; clear w; intro x8 w
          refine R_istore_n (lv' := [(2, .inl x8), (0, .inl v0), (3, .inl v3)]) dX2_holderOf_36 rfl (by decide) rfl ?_
          refine R_iinc (v := v3 + 1) (lv' := [(3, .inl (v3 + 1)), (2, .inl x8), (0, .inl v0)]) dX2_holderOf_37 2 rfl rfl (by decide) rfl ?_
          refine R_goto (tgt := 4) dX2_holderOf_40 (by decide) ?_
          refine R_sub [2, 1, 0] rfl ?_
          exact ih v0 x8 (v3 + 1) σ3 w
        · have w := wp_f c6 w
          refine R_iload_n dX2_holderOf_29 rfl 1 rfl ?_
          exact R_ireturn dX2_holderOf_30 rfl ⟨_, rfl, wp_some w⟩
def g_X2_holderOf (a0 : Int32) (a1 : Int32) (σ : AS) : Option (Int32 × AS) := g_X2_holderOf_4 400 a0 a1 0 σ
set_option maxRecDepth 100000 in
set_option maxHeartbeats 4000000 in
theorem ct_X2_holderOf {l : Launch} {cx : CX} (hA : AD cx) (a0 : Int32) (a1 : Int32) (σ : AS) (Q : Int32 → AS → Prop) (w : wpO (g_X2_holderOf a0 a1 σ) Q) : AMet l cx 1 yX2_holderOf cX2_holderOf 4 (some .int) [.inl a0, .inl a1] σ (QI Q) := by
  unfold g_X2_holderOf at w
  refine AMet.of (own := RX2) (by decide) rfl hA (Nat.le_of_ble_eq_true rfl) ?_
  show RJ l cx 1 RX2 cX2_holderOf 4 (some .int) 0 [(0, .inl a0), (1, .inl a1)] [] σ _
  refine R_iload_n dX2_holderOf_0 rfl 1 rfl ?_
  refine R_istore_n (lv' := [(2, .inl a1), (0, .inl a0), (1, .inl a1)]) dX2_holderOf_1 rfl (by decide) rfl ?_
  refine R_iconst (v := 0) dX2_holderOf_2 (by decide) ?_
  refine R_istore_n (lv' := [(3, .inl 0), (2, .inl a1), (0, .inl a0), (1, .inl a1)]) dX2_holderOf_3 rfl (by decide) rfl ?_
  refine R_sub [2, 1, 0] rfl ?_
  exact rk_X2_holderOf_4 hA _ 400 a0 a1 0 σ w
def g_X2_kindOf (a0 : Int32) (σ : AS) : Option (Int32 × AS) := (bnd (g_X2_has a0 σ) fun r1 σ2 => (if r1 = 0 then some ((-1), σ2) else (if inb a0 50 then some (gA σ2 2 0 0 a0, σ2) else none)))
set_option maxRecDepth 100000 in
set_option maxHeartbeats 4000000 in
theorem ct_X2_kindOf {l : Launch} {cx : CX} (hA : AD cx) (a0 : Int32) (σ : AS) (Q : Int32 → AS → Prop) (w : wpO (g_X2_kindOf a0 σ) Q) : AMet l cx 1 yX2_kindOf cX2_kindOf 2 (some .int) [.inr (.inr (2, 0, 0)), .inl a0] σ (QI Q) := by
  unfold g_X2_kindOf at w
  refine AMet.of (own := RX2) (by decide) rfl hA (Nat.le_of_ble_eq_true rfl) ?_
  show RJ l cx 1 RX2 cX2_kindOf 2 (some .int) 0 [(0, .inr (.inr (2, 0, 0))), (1, .inl a0)] [] σ _
  refine R_aload_n dX2_kindOf_0 rfl 0 rfl ?_
  refine R_iload_n dX2_kindOf_1 rfl 1 rfl ?_
  refine R_callVI (As := [.inl a0]) acl2 rfl oz2_0 mi_X2_has ml_RX2_28 rfl (Nat.le_of_ble_eq_true rfl) (by decide) dX2_kindOf_2 (ct_X2_has hA a0 σ _ (wp_bnd w)) (fun r1 σ2 w => ?_)
  refine R_if_eq (tgt := 17) dX2_kindOf_5 (by decide) (fun c3 => ?_) (fun c3 => ?_)
  · have w := wp_t c3 w
    refine R_iconst (v := (-1)) dX2_kindOf_17 (by decide) ?_
    exact R_ireturn dX2_kindOf_18 rfl ⟨_, rfl, wp_some w⟩
  · have w := wp_f c3 w
    refine R_aload_n dX2_kindOf_8 rfl 0 rfl ?_
    refine R_getfA (k := 0) acl2 oz2_0 (by decide) fl_RX2_11 dX2_kindOf_9 rfl ?_
    refine R_iload_n dX2_kindOf_12 rfl 1 rfl ?_
    obtain ⟨b4, w⟩ := wp_chk w
    refine R_iald rfl oz2_0 b4 dX2_kindOf_13 ?_
    refine R_goto (tgt := 18) dX2_kindOf_14 (by decide) ?_
    exact R_ireturn dX2_kindOf_18 rfl ⟨_, rfl, wp_some w⟩
abbrev GT0 : Type := (Int32 → Int32 → Int32 → Int32 → AS → Option (Int32 × AS))
abbrev GC0 (l : Launch) (cx : CX) (f : Nat) (rc : GT0) : Prop := (∀ (a0 : Int32) (a1 : Int32) (a2 : Int32) (a3 : Int32) (σ : AS) (Q : Int32 → AS → Prop), wpO (rc a0 a1 a2 a3 σ) Q → AMet l cx (f + 2) yX2_perform cX2_perform 10 (some .int) [.inr (.inr (2, 0, 0)), .inl a0, .inl a1, .inl a2, .inl a3] σ (QI Q))
def gb_X2_perform (rc : GT0) (a0 : Int32) (a1 : Int32) (a2 : Int32) (a3 : Int32) (σ : AS) : Option (Int32 × AS) := (bnd (g_X2_holderOf a0 a1 σ) fun r1 σ2 => (bnd (g_X2_isKind r1 σ2) fun r3 σ4 => (if r3 = 0 then some (0, σ4) else (if (40 : Int32) < a3 then some (0, σ4) else (bnd (g_X2_kindOf (gF σ4 2 0 4) σ4) fun r7 σ8 => (if inb r1 8 then (lt (am_st 0 r1.toNatClampNeg) fun x10 => (if inb ((r1 * 4) + a0) 32 then (lt (am_st 1 ((r1 * 4) + a0).toNatClampNeg) fun x12 => (lt (a3 + 1) fun x13 => (bnd (g_X2_begin x12 σ8) fun _ σ14 => (if x12 = 1 then some (a2 + (gF σ14 2 0 4), σ14) else (if x12 = 2 then (bnd (rc 1 r7 a2 x13 σ14) fun r17 σ18 => (bnd (rc 2 r7 1 x13 σ18) fun r19 σ20 => some (r17 - r19, σ20))) else (if x12 = 10 then (bnd (rc 0 r7 a2 x13 σ14) fun r22 σ23 => some (r22 * 2, σ23)) else (if x12 = 11 then some (a2 ^^^ (gF σ14 2 0 4), σ14) else (if x12 = 20 then (bnd (rc 0 x10 a2 x13 σ14) fun r26 σ27 => some (r26 + 3, σ27)) else (if x12 = 30 then (bnd (rc 1 x10 a2 x13 σ14) fun r29 σ30 => some (-r29, σ30)) else (if x12 = 40 then (bnd (rc 2 x10 a2 x13 σ14) fun r32 σ33 => some (r32 * 3, σ33)) else (if x12 = 41 then (bnd (rc 1 x10 (a2 + 1) x13 σ14) fun r35 σ36 => some (r35, σ36)) else (if x12 = 50 then (bnd (rc 2 x10 a2 x13 σ14) fun r38 σ39 => (bnd (rc 0 r7 2 x13 σ39) fun r40 σ41 => some (r38 - r40, σ41))) else (if x12 = 60 then (bnd (rc 3 x10 a2 x13 σ14) fun r43 σ44 => some (r43 ^^^ 5, σ44)) else (if x12 = 70 then (bnd (rc 0 x10 a2 x13 σ14) fun r46 σ47 => some (r46 * 2, σ47)) else (if x12 = 80 then (bnd (rc 1 x10 a2 x13 σ14) fun r49 σ50 => (bnd (rc 2 r7 2 x13 σ50) fun r51 σ52 => some (r49 + r51, σ52))) else (if x12 = 81 then (bnd (rc 3 x10 a2 x13 σ14) fun r54 σ55 => some (r54 - 1, σ55)) else some (0, σ14))))))))))))))))) else none)) else none))))))
set_option maxRecDepth 100000 in
set_option maxHeartbeats 4000000 in
theorem cb_X2_perform {l : Launch} {cx : CX} (hA : AD cx) {f : Nat} (rc : GT0) (hrc : GC0 l cx f rc) (a0 : Int32) (a1 : Int32) (a2 : Int32) (a3 : Int32) (σ : AS) (Q : Int32 → AS → Prop) (w : wpO (gb_X2_perform rc a0 a1 a2 a3 σ) Q) : AMet l cx (f + 1 + 2) yX2_perform cX2_perform 10 (some .int) [.inr (.inr (2, 0, 0)), .inl a0, .inl a1, .inl a2, .inl a3] σ (QI Q) := by
  unfold gb_X2_perform at w
  refine AMet.of (own := RX2) (by decide) rfl hA (Nat.le_of_ble_eq_true rfl) ?_
  show RJ l cx (f + 1 + 2) RX2 cX2_perform 10 (some .int) 0 [(0, .inr (.inr (2, 0, 0))), (1, .inl a0), (2, .inl a1), (3, .inl a2), (4, .inl a3)] [] σ _
  refine R_iload_n dX2_perform_0 rfl 1 rfl ?_
  refine R_iload_n dX2_perform_1 rfl 2 rfl ?_
  refine R_callSI (As := [.inl a0, .inl a1]) mi_X2_holderOf ml_RX2_46 rfl (Nat.le_of_ble_eq_true rfl) (am_hle 2) dX2_perform_2 (ct_X2_holderOf hA a0 a1 σ _ (wp_bnd w)) (fun r1 σ2 w => ?_)
  refine R_istore (lv' := [(5, .inl r1), (0, .inr (.inr (2, 0, 0))), (1, .inl a0), (2, .inl a1), (3, .inl a2), (4, .inl a3)]) dX2_perform_5 (by decide) rfl ?_
  refine R_iload dX2_perform_7 0 rfl ?_
  refine R_callSI (As := [.inl r1]) mi_X2_isKind ml_RX2_36 rfl (Nat.le_of_ble_eq_true rfl) (am_hle 1) dX2_perform_9 (ct_X2_isKind hA r1 σ2 _ (wp_bnd w)) (fun r3 σ4 w => ?_)
  refine R_if_eq (tgt := 22) dX2_perform_12 (by decide) (fun c5 => ?_) (fun c5 => ?_)
  · have w := wp_t c5 w
    refine R_iconst (v := 0) dX2_perform_22 (by decide) ?_
    exact R_ireturn dX2_perform_23 rfl ⟨_, rfl, wp_some w⟩
  · have w := wp_f c5 w
    refine R_iload dX2_perform_15 5 rfl ?_
    refine R_bipush (v := 40) dX2_perform_17 (by decide) ?_
    refine R_icmp_le (tgt := 24) dX2_perform_19 (by decide) (fun c6 => ?_) (fun c6 => ?_)
    · have w := wp_f c6 w
      refine R_aload_n dX2_perform_24 rfl 1 rfl ?_
      refine R_aload_n dX2_perform_25 rfl 1 rfl ?_
      refine R_getfI (k := 4) acl2 oz2_0 (by decide) fl_RX2_25 dX2_perform_26 rfl ?_
      refine R_callVI (As := [.inl (gF σ4 2 0 4)]) acl2 rfl oz2_0 mi_X2_kindOf ml_RX2_32 rfl (Nat.le_of_ble_eq_true rfl) (am_hle 2) dX2_perform_29 (ct_X2_kindOf hA (gF σ4 2 0 4) σ4 _ (wp_bnd w)) (fun r7 σ8 w => ?_)
      refine R_istore (lv' := [(6, .inl r7), (5, .inl r1), (0, .inr (.inr (2, 0, 0))), (1, .inl a0), (2, .inl a1), (3, .inl a2), (4, .inl a3)]) dX2_perform_32 (by decide) rfl ?_
      refine R_gets0 fl_RX2_39 dX2_perform_34 ?_
      refine R_iload dX2_perform_37 1 rfl ?_
      obtain ⟨b9, w⟩ := wp_chk w
      refine R_sald (k := 0) (by decide) rfl b9 dX2_perform_39 ?_
      refine R_nameI w ?_; clear w; intro x10 w
      refine R_istore (lv' := [(7, .inl x10), (6, .inl r7), (5, .inl r1), (0, .inr (.inr (2, 0, 0))), (1, .inl a0), (2, .inl a1), (3, .inl a2), (4, .inl a3)]) dX2_perform_40 (by decide) rfl ?_
      refine R_gets1 fl_RX2_50 dX2_perform_42 ?_
      refine R_iload dX2_perform_45 2 rfl ?_
      refine R_iconst (v := 4) dX2_perform_47 (by decide) ?_
      refine R_imul dX2_perform_48 ?_
      refine R_iload_n dX2_perform_49 rfl 4 rfl ?_
      refine R_iadd dX2_perform_50 ?_
      obtain ⟨b11, w⟩ := wp_chk w
      refine R_sald (k := 1) (by decide) rfl b11 dX2_perform_51 ?_
      refine R_nameI w ?_; clear w; intro x12 w
      refine R_istore (lv' := [(8, .inl x12), (7, .inl x10), (6, .inl r7), (5, .inl r1), (0, .inr (.inr (2, 0, 0))), (1, .inl a0), (2, .inl a1), (3, .inl a2), (4, .inl a3)]) dX2_perform_52 (by decide) rfl ?_
      refine R_iload dX2_perform_54 8 rfl ?_
      refine R_iconst (v := 1) dX2_perform_56 (by decide) ?_
      refine R_iadd dX2_perform_57 ?_
      refine R_nameI w ?_; clear w; intro x13 w
      refine R_istore (lv' := [(9, .inl x13), (8, .inl x12), (7, .inl x10), (6, .inl r7), (5, .inl r1), (0, .inr (.inr (2, 0, 0))), (1, .inl a0), (2, .inl a1), (3, .inl a2), (4, .inl a3)]) dX2_perform_58 (by decide) rfl ?_
      refine R_aload_n dX2_perform_60 rfl 5 rfl ?_
      refine R_iload dX2_perform_61 1 rfl ?_
      refine R_callVV (As := [.inl x12]) acl2 rfl oz2_0 mi_X2_begin ml_RX2_53 rfl (Nat.le_of_ble_eq_true rfl) (am_hle 1) dX2_perform_63 (ct_X2_begin hA x12 σ8 _ (wp_bnd w)) (fun σ14 w => ?_)
      refine R_iload dX2_perform_66 1 rfl ?_
      by_cases c15 : x12 = 1
      · have w := wp_t c15 w
        refine R_lswIn (v := 1) (tgt := 184) dX2_perform_68 (by decide) c15 rfl (by decide) ?_
        refine R_iload_n dX2_perform_184 rfl 8 rfl ?_
        refine R_aload_n dX2_perform_185 rfl 5 rfl ?_
        refine R_getfI (k := 4) acl2 oz2_0 (by decide) fl_RX2_25 dX2_perform_186 rfl ?_
        refine R_iadd dX2_perform_189 ?_
        exact R_ireturn dX2_perform_190 rfl ⟨_, rfl, wp_some w⟩
      have w := wp_f c15 w
      by_cases c16 : x12 = 2
      · have w := wp_t c16 w
        refine R_lswIn (v := 2) (tgt := 191) dX2_perform_68 (by decide) c16 rfl (by decide) ?_
        refine R_aload_n dX2_perform_191 rfl 5 rfl ?_
        refine R_iconst (v := 1) dX2_perform_192 (by decide) ?_
        refine R_iload dX2_perform_193 3 rfl ?_
        refine R_iload_n dX2_perform_195 rfl 8 rfl ?_
        refine R_iload dX2_perform_196 0 rfl ?_
        refine R_callVI (As := [.inl 1, .inl r7, .inl a2, .inl x13]) acl2 rfl oz2_0 mi_X2_perform ml_RX2_42 rfl (Nat.le_of_ble_eq_true rfl) (Nat.le_refl _) dX2_perform_198 (hrc 1 r7 a2 x13 σ14 _ (wp_bnd w)) (fun r17 σ18 w => ?_)
        refine R_aload_n dX2_perform_201 rfl 5 rfl ?_
        refine R_iconst (v := 2) dX2_perform_202 (by decide) ?_
        refine R_iload dX2_perform_203 3 rfl ?_
        refine R_iconst (v := 1) dX2_perform_205 (by decide) ?_
        refine R_iload dX2_perform_206 0 rfl ?_
        refine R_callVI (As := [.inl 2, .inl r7, .inl 1, .inl x13]) acl2 rfl oz2_0 mi_X2_perform ml_RX2_42 rfl (Nat.le_of_ble_eq_true rfl) (Nat.le_refl _) dX2_perform_208 (hrc 2 r7 1 x13 σ18 _ (wp_bnd w)) (fun r19 σ20 w => ?_)
        refine R_isub dX2_perform_211 ?_
        exact R_ireturn dX2_perform_212 rfl ⟨_, rfl, wp_some w⟩
      have w := wp_f c16 w
      by_cases c21 : x12 = 10
      · have w := wp_t c21 w
        refine R_lswIn (v := 10) (tgt := 213) dX2_perform_68 (by decide) c21 rfl (by decide) ?_
        refine R_aload_n dX2_perform_213 rfl 5 rfl ?_
        refine R_iconst (v := 0) dX2_perform_214 (by decide) ?_
        refine R_iload dX2_perform_215 3 rfl ?_
        refine R_iload_n dX2_perform_217 rfl 8 rfl ?_
        refine R_iload dX2_perform_218 0 rfl ?_
        refine R_callVI (As := [.inl 0, .inl r7, .inl a2, .inl x13]) acl2 rfl oz2_0 mi_X2_perform ml_RX2_42 rfl (Nat.le_of_ble_eq_true rfl) (Nat.le_refl _) dX2_perform_220 (hrc 0 r7 a2 x13 σ14 _ (wp_bnd w)) (fun r22 σ23 w => ?_)
        refine R_iconst (v := 2) dX2_perform_223 (by decide) ?_
        refine R_imul dX2_perform_224 ?_
        exact R_ireturn dX2_perform_225 rfl ⟨_, rfl, wp_some w⟩
      have w := wp_f c21 w
      by_cases c24 : x12 = 11
      · have w := wp_t c24 w
        refine R_lswIn (v := 11) (tgt := 226) dX2_perform_68 (by decide) c24 rfl (by decide) ?_
        refine R_iload_n dX2_perform_226 rfl 8 rfl ?_
        refine R_aload_n dX2_perform_227 rfl 5 rfl ?_
        refine R_getfI (k := 4) acl2 oz2_0 (by decide) fl_RX2_25 dX2_perform_228 rfl ?_
        refine R_ixor dX2_perform_231 ?_
        exact R_ireturn dX2_perform_232 rfl ⟨_, rfl, wp_some w⟩
      have w := wp_f c24 w
      by_cases c25 : x12 = 20
      · have w := wp_t c25 w
        refine R_lswIn (v := 20) (tgt := 233) dX2_perform_68 (by decide) c25 rfl (by decide) ?_
        refine R_aload_n dX2_perform_233 rfl 5 rfl ?_
        refine R_iconst (v := 0) dX2_perform_234 (by decide) ?_
        refine R_iload dX2_perform_235 2 rfl ?_
        refine R_iload_n dX2_perform_237 rfl 8 rfl ?_
        refine R_iload dX2_perform_238 0 rfl ?_
        refine R_callVI (As := [.inl 0, .inl x10, .inl a2, .inl x13]) acl2 rfl oz2_0 mi_X2_perform ml_RX2_42 rfl (Nat.le_of_ble_eq_true rfl) (Nat.le_refl _) dX2_perform_240 (hrc 0 x10 a2 x13 σ14 _ (wp_bnd w)) (fun r26 σ27 w => ?_)
        refine R_iconst (v := 3) dX2_perform_243 (by decide) ?_
        refine R_iadd dX2_perform_244 ?_
        exact R_ireturn dX2_perform_245 rfl ⟨_, rfl, wp_some w⟩
      have w := wp_f c25 w
      by_cases c28 : x12 = 30
      · have w := wp_t c28 w
        refine R_lswIn (v := 30) (tgt := 246) dX2_perform_68 (by decide) c28 rfl (by decide) ?_
        refine R_aload_n dX2_perform_246 rfl 5 rfl ?_
        refine R_iconst (v := 1) dX2_perform_247 (by decide) ?_
        refine R_iload dX2_perform_248 2 rfl ?_
        refine R_iload_n dX2_perform_250 rfl 8 rfl ?_
        refine R_iload dX2_perform_251 0 rfl ?_
        refine R_callVI (As := [.inl 1, .inl x10, .inl a2, .inl x13]) acl2 rfl oz2_0 mi_X2_perform ml_RX2_42 rfl (Nat.le_of_ble_eq_true rfl) (Nat.le_refl _) dX2_perform_253 (hrc 1 x10 a2 x13 σ14 _ (wp_bnd w)) (fun r29 σ30 w => ?_)
        refine R_ineg dX2_perform_256 ?_
        exact R_ireturn dX2_perform_257 rfl ⟨_, rfl, wp_some w⟩
      have w := wp_f c28 w
      by_cases c31 : x12 = 40
      · have w := wp_t c31 w
        refine R_lswIn (v := 40) (tgt := 258) dX2_perform_68 (by decide) c31 rfl (by decide) ?_
        refine R_aload_n dX2_perform_258 rfl 5 rfl ?_
        refine R_iconst (v := 2) dX2_perform_259 (by decide) ?_
        refine R_iload dX2_perform_260 2 rfl ?_
        refine R_iload_n dX2_perform_262 rfl 8 rfl ?_
        refine R_iload dX2_perform_263 0 rfl ?_
        refine R_callVI (As := [.inl 2, .inl x10, .inl a2, .inl x13]) acl2 rfl oz2_0 mi_X2_perform ml_RX2_42 rfl (Nat.le_of_ble_eq_true rfl) (Nat.le_refl _) dX2_perform_265 (hrc 2 x10 a2 x13 σ14 _ (wp_bnd w)) (fun r32 σ33 w => ?_)
        refine R_iconst (v := 3) dX2_perform_268 (by decide) ?_
        refine R_imul dX2_perform_269 ?_
        exact R_ireturn dX2_perform_270 rfl ⟨_, rfl, wp_some w⟩
      have w := wp_f c31 w
      by_cases c34 : x12 = 41
      · have w := wp_t c34 w
        refine R_lswIn (v := 41) (tgt := 271) dX2_perform_68 (by decide) c34 rfl (by decide) ?_
        refine R_aload_n dX2_perform_271 rfl 5 rfl ?_
        refine R_iconst (v := 1) dX2_perform_272 (by decide) ?_
        refine R_iload dX2_perform_273 2 rfl ?_
        refine R_iload_n dX2_perform_275 rfl 8 rfl ?_
        refine R_iconst (v := 1) dX2_perform_276 (by decide) ?_
        refine R_iadd dX2_perform_277 ?_
        refine R_iload dX2_perform_278 0 rfl ?_
        refine R_callVI (As := [.inl 1, .inl x10, .inl (a2 + 1), .inl x13]) acl2 rfl oz2_0 mi_X2_perform ml_RX2_42 rfl (Nat.le_of_ble_eq_true rfl) (Nat.le_refl _) dX2_perform_280 (hrc 1 x10 (a2 + 1) x13 σ14 _ (wp_bnd w)) (fun r35 σ36 w => ?_)
        exact R_ireturn dX2_perform_283 rfl ⟨_, rfl, wp_some w⟩
      have w := wp_f c34 w
      by_cases c37 : x12 = 50
      · have w := wp_t c37 w
        refine R_lswIn (v := 50) (tgt := 284) dX2_perform_68 (by decide) c37 rfl (by decide) ?_
        refine R_aload_n dX2_perform_284 rfl 5 rfl ?_
        refine R_iconst (v := 2) dX2_perform_285 (by decide) ?_
        refine R_iload dX2_perform_286 2 rfl ?_
        refine R_iload_n dX2_perform_288 rfl 8 rfl ?_
        refine R_iload dX2_perform_289 0 rfl ?_
        refine R_callVI (As := [.inl 2, .inl x10, .inl a2, .inl x13]) acl2 rfl oz2_0 mi_X2_perform ml_RX2_42 rfl (Nat.le_of_ble_eq_true rfl) (Nat.le_refl _) dX2_perform_291 (hrc 2 x10 a2 x13 σ14 _ (wp_bnd w)) (fun r38 σ39 w => ?_)
        refine R_aload_n dX2_perform_294 rfl 5 rfl ?_
        refine R_iconst (v := 0) dX2_perform_295 (by decide) ?_
        refine R_iload dX2_perform_296 3 rfl ?_
        refine R_iconst (v := 2) dX2_perform_298 (by decide) ?_
        refine R_iload dX2_perform_299 0 rfl ?_
        refine R_callVI (As := [.inl 0, .inl r7, .inl 2, .inl x13]) acl2 rfl oz2_0 mi_X2_perform ml_RX2_42 rfl (Nat.le_of_ble_eq_true rfl) (Nat.le_refl _) dX2_perform_301 (hrc 0 r7 2 x13 σ39 _ (wp_bnd w)) (fun r40 σ41 w => ?_)
        refine R_isub dX2_perform_304 ?_
        exact R_ireturn dX2_perform_305 rfl ⟨_, rfl, wp_some w⟩
      have w := wp_f c37 w
      by_cases c42 : x12 = 60
      · have w := wp_t c42 w
        refine R_lswIn (v := 60) (tgt := 306) dX2_perform_68 (by decide) c42 rfl (by decide) ?_
        refine R_aload_n dX2_perform_306 rfl 5 rfl ?_
        refine R_iconst (v := 3) dX2_perform_307 (by decide) ?_
        refine R_iload dX2_perform_308 2 rfl ?_
        refine R_iload_n dX2_perform_310 rfl 8 rfl ?_
        refine R_iload dX2_perform_311 0 rfl ?_
        refine R_callVI (As := [.inl 3, .inl x10, .inl a2, .inl x13]) acl2 rfl oz2_0 mi_X2_perform ml_RX2_42 rfl (Nat.le_of_ble_eq_true rfl) (Nat.le_refl _) dX2_perform_313 (hrc 3 x10 a2 x13 σ14 _ (wp_bnd w)) (fun r43 σ44 w => ?_)
        refine R_iconst (v := 5) dX2_perform_316 (by decide) ?_
        refine R_ixor dX2_perform_317 ?_
        exact R_ireturn dX2_perform_318 rfl ⟨_, rfl, wp_some w⟩
      have w := wp_f c42 w
      by_cases c45 : x12 = 70
      · have w := wp_t c45 w
        refine R_lswIn (v := 70) (tgt := 319) dX2_perform_68 (by decide) c45 rfl (by decide) ?_
        refine R_aload_n dX2_perform_319 rfl 5 rfl ?_
        refine R_iconst (v := 0) dX2_perform_320 (by decide) ?_
        refine R_iload dX2_perform_321 2 rfl ?_
        refine R_iload_n dX2_perform_323 rfl 8 rfl ?_
        refine R_iload dX2_perform_324 0 rfl ?_
        refine R_callVI (As := [.inl 0, .inl x10, .inl a2, .inl x13]) acl2 rfl oz2_0 mi_X2_perform ml_RX2_42 rfl (Nat.le_of_ble_eq_true rfl) (Nat.le_refl _) dX2_perform_326 (hrc 0 x10 a2 x13 σ14 _ (wp_bnd w)) (fun r46 σ47 w => ?_)
        refine R_iconst (v := 2) dX2_perform_329 (by decide) ?_
        refine R_imul dX2_perform_330 ?_
        exact R_ireturn dX2_perform_331 rfl ⟨_, rfl, wp_some w⟩
      have w := wp_f c45 w
      by_cases c48 : x12 = 80
      · have w := wp_t c48 w
        refine R_lswIn (v := 80) (tgt := 332) dX2_perform_68 (by decide) c48 rfl (by decide) ?_
        refine R_aload_n dX2_perform_332 rfl 5 rfl ?_
        refine R_iconst (v := 1) dX2_perform_333 (by decide) ?_
        refine R_iload dX2_perform_334 2 rfl ?_
        refine R_iload_n dX2_perform_336 rfl 8 rfl ?_
        refine R_iload dX2_perform_337 0 rfl ?_
        refine R_callVI (As := [.inl 1, .inl x10, .inl a2, .inl x13]) acl2 rfl oz2_0 mi_X2_perform ml_RX2_42 rfl (Nat.le_of_ble_eq_true rfl) (Nat.le_refl _) dX2_perform_339 (hrc 1 x10 a2 x13 σ14 _ (wp_bnd w)) (fun r49 σ50 w => ?_)
        refine R_aload_n dX2_perform_342 rfl 5 rfl ?_
        refine R_iconst (v := 2) dX2_perform_343 (by decide) ?_
        refine R_iload dX2_perform_344 3 rfl ?_
        refine R_iconst (v := 2) dX2_perform_346 (by decide) ?_
        refine R_iload dX2_perform_347 0 rfl ?_
        refine R_callVI (As := [.inl 2, .inl r7, .inl 2, .inl x13]) acl2 rfl oz2_0 mi_X2_perform ml_RX2_42 rfl (Nat.le_of_ble_eq_true rfl) (Nat.le_refl _) dX2_perform_349 (hrc 2 r7 2 x13 σ50 _ (wp_bnd w)) (fun r51 σ52 w => ?_)
        refine R_iadd dX2_perform_352 ?_
        exact R_ireturn dX2_perform_353 rfl ⟨_, rfl, wp_some w⟩
      have w := wp_f c48 w
      by_cases c53 : x12 = 81
      · have w := wp_t c53 w
        refine R_lswIn (v := 81) (tgt := 354) dX2_perform_68 (by decide) c53 rfl (by decide) ?_
        refine R_aload_n dX2_perform_354 rfl 5 rfl ?_
        refine R_iconst (v := 3) dX2_perform_355 (by decide) ?_
        refine R_iload dX2_perform_356 2 rfl ?_
        refine R_iload_n dX2_perform_358 rfl 8 rfl ?_
        refine R_iload dX2_perform_359 0 rfl ?_
        refine R_callVI (As := [.inl 3, .inl x10, .inl a2, .inl x13]) acl2 rfl oz2_0 mi_X2_perform ml_RX2_42 rfl (Nat.le_of_ble_eq_true rfl) (Nat.le_refl _) dX2_perform_361 (hrc 3 x10 a2 x13 σ14 _ (wp_bnd w)) (fun r54 σ55 w => ?_)
        refine R_iconst (v := 1) dX2_perform_364 (by decide) ?_
        refine R_isub dX2_perform_365 ?_
        exact R_ireturn dX2_perform_366 rfl ⟨_, rfl, wp_some w⟩
      have w := wp_f c53 w
      refine R_lswOut (tgt := 367) dX2_perform_68 (by decide) [1, 2, 10, 11, 20, 30, 40, 41, 50, 60, 70, 80, 81] (List.forall_mem_cons.mpr ⟨c15, (List.forall_mem_cons.mpr ⟨c16, (List.forall_mem_cons.mpr ⟨c21, (List.forall_mem_cons.mpr ⟨c24, (List.forall_mem_cons.mpr ⟨c25, (List.forall_mem_cons.mpr ⟨c28, (List.forall_mem_cons.mpr ⟨c31, (List.forall_mem_cons.mpr ⟨c34, (List.forall_mem_cons.mpr ⟨c37, (List.forall_mem_cons.mpr ⟨c42, (List.forall_mem_cons.mpr ⟨c45, (List.forall_mem_cons.mpr ⟨c48, (List.forall_mem_cons.mpr ⟨c53, (fun _ z => absurd z List.not_mem_nil)⟩)⟩)⟩)⟩)⟩)⟩)⟩)⟩)⟩)⟩)⟩)⟩)⟩) rfl (by decide) ?_
      refine R_iconst (v := 0) dX2_perform_367 (by decide) ?_
      exact R_ireturn dX2_perform_368 rfl ⟨_, rfl, wp_some w⟩
    · have w := wp_t c6 w
      refine R_iconst (v := 0) dX2_perform_22 (by decide) ?_
      exact R_ireturn dX2_perform_23 rfl ⟨_, rfl, wp_some w⟩
def gr0 : Nat → GT0
  | 0 => ((fun _ _ _ _ _ => none))
  | f + 1 => (gb_X2_perform (gr0 f))
set_option maxRecDepth 100000 in
set_option maxHeartbeats 4000000 in
theorem gc0 {l : Launch} {cx : CX} (hA : AD cx) : ∀ f, GC0 l cx f (gr0 f)
  | 0 => (fun a0 a1 a2 a3 σ Q w => wp_no w)
  | f + 1 => by
    have ih := gc0 (l := l) hA f
    have e : ∀ b : Nat, f + 1 + b = f + 1 + b := fun _ => rfl
    exact (fun a0 a1 a2 a3 σ Q w => cb_X2_perform hA (gr0 f) ih a0 a1 a2 a3 σ Q w)
def g_X2_perform (a0 : Int32) (a1 : Int32) (a2 : Int32) (a3 : Int32) (σ : AS) : Option (Int32 × AS) := (gr0 100) a0 a1 a2 a3 σ
set_option maxRecDepth 100000 in
set_option maxHeartbeats 4000000 in
theorem ct_X2_perform {l : Launch} {cx : CX} (hA : AD cx) (a0 : Int32) (a1 : Int32) (a2 : Int32) (a3 : Int32) (σ : AS) (Q : Int32 → AS → Prop) (w : wpO (g_X2_perform a0 a1 a2 a3 σ) Q) : AMet l cx 102 yX2_perform cX2_perform 10 (some .int) [.inr (.inr (2, 0, 0)), .inl a0, .inl a1, .inl a2, .inl a3] σ (QI Q) := (gc0 hA 100) a0 a1 a2 a3 σ Q w
def g_X2_run (a0 : Int32) (a1 : Int32) (a2 : Int32) (σ : AS) : Option (Int32 × AS) := (lt (sF σ 2 0 3 0) fun σ1 => (bnd (g_X2_has a0 σ1) fun r2 σ3 => (if r2 = 0 then some (0, σ3) else (if a1 < 0 then some (0, σ3) else (if a1 < 4 then (lt (sF σ3 2 0 4 a0) fun σ7 => (if inb a0 50 then (bnd (g_X2_perform a1 (gA σ7 2 0 0 a0) a2 0 σ7) fun r9 σ10 => some (r9, σ10)) else none)) else some (0, σ3))))))
set_option maxRecDepth 100000 in
set_option maxHeartbeats 4000000 in
theorem ct_X2_run {l : Launch} {cx : CX} (hA : AD cx) (a0 : Int32) (a1 : Int32) (a2 : Int32) (σ : AS) (Q : Int32 → AS → Prop) (w : wpO (g_X2_run a0 a1 a2 σ) Q) : AMet l cx 103 yX2_run cX2_run 4 (some .int) [.inr (.inr (2, 0, 0)), .inl a0, .inl a1, .inl a2] σ (QI Q) := by
  unfold g_X2_run at w
  refine AMet.of (own := RX2) (by decide) rfl hA (Nat.le_of_ble_eq_true rfl) ?_
  show RJ l cx 103 RX2 cX2_run 4 (some .int) 0 [(0, .inr (.inr (2, 0, 0))), (1, .inl a0), (2, .inl a1), (3, .inl a2)] [] σ _
  refine R_aload_n dX2_run_0 rfl 0 rfl ?_
  refine R_iconst (v := 0) dX2_run_1 (by decide) ?_
  refine R_putf (k := 3) (ty := .int) acl2 oz2_0 (by decide) fl_RX2_22 rfl (tyX2_ok 3 (by decide)) (Or.inl rfl) dX2_run_2 rfl ?_
  refine R_nameS w ?_; clear w; intro σ1 w
  refine R_aload_n dX2_run_5 rfl 0 rfl ?_
  refine R_iload_n dX2_run_6 rfl 1 rfl ?_
  refine R_callVI (As := [.inl a0]) acl2 rfl oz2_0 mi_X2_has ml_RX2_28 rfl (Nat.le_of_ble_eq_true rfl) (by decide) dX2_run_7 (ct_X2_has hA a0 σ1 _ (wp_bnd w)) (fun r2 σ3 w => ?_)
  refine R_if_eq (tgt := 22) dX2_run_10 (by decide) (fun c4 => ?_) (fun c4 => ?_)
  · have w := wp_t c4 w
    refine R_iconst (v := 0) dX2_run_22 (by decide) ?_
    exact R_ireturn dX2_run_23 rfl ⟨_, rfl, wp_some w⟩
  · have w := wp_f c4 w
    refine R_iload_n dX2_run_13 rfl 2 rfl ?_
    refine R_if_lt (tgt := 22) dX2_run_14 (by decide) (fun c5 => ?_) (fun c5 => ?_)
    · have w := wp_t c5 w
      refine R_iconst (v := 0) dX2_run_22 (by decide) ?_
      exact R_ireturn dX2_run_23 rfl ⟨_, rfl, wp_some w⟩
    · have w := wp_f c5 w
      refine R_iload_n dX2_run_17 rfl 2 rfl ?_
      refine R_iconst (v := 4) dX2_run_18 (by decide) ?_
      refine R_icmp_lt (tgt := 24) dX2_run_19 (by decide) (fun c6 => ?_) (fun c6 => ?_)
      · have w := wp_t c6 w
        refine R_aload_n dX2_run_24 rfl 0 rfl ?_
        refine R_iload_n dX2_run_25 rfl 1 rfl ?_
        refine R_putf (k := 4) (ty := .int) acl2 oz2_0 (by decide) fl_RX2_25 rfl (tyX2_ok 4 (by decide)) (Or.inl rfl) dX2_run_26 rfl ?_
        refine R_nameS w ?_; clear w; intro σ7 w
        refine R_aload_n dX2_run_29 rfl 0 rfl ?_
        refine R_iload_n dX2_run_30 rfl 2 rfl ?_
        refine R_aload_n dX2_run_31 rfl 0 rfl ?_
        refine R_getfA (k := 0) acl2 oz2_0 (by decide) fl_RX2_11 dX2_run_32 rfl ?_
        refine R_iload_n dX2_run_35 rfl 1 rfl ?_
        obtain ⟨b8, w⟩ := wp_chk w
        refine R_iald rfl oz2_0 b8 dX2_run_36 ?_
        refine R_iload_n dX2_run_37 rfl 3 rfl ?_
        refine R_iconst (v := 0) dX2_run_38 (by decide) ?_
        refine R_callVI (As := [.inl a1, .inl (gA σ7 2 0 0 a0), .inl a2, .inl 0]) acl2 rfl oz2_0 mi_X2_perform ml_RX2_42 rfl (Nat.le_of_ble_eq_true rfl) (by decide) dX2_run_39 (ct_X2_perform hA a1 (gA σ7 2 0 0 a0) a2 0 σ7 _ (wp_bnd w)) (fun r9 σ10 w => ?_)
        exact R_ireturn dX2_run_42 rfl ⟨_, rfl, wp_some w⟩
      · have w := wp_f c6 w
        refine R_iconst (v := 0) dX2_run_22 (by decide) ?_
        exact R_ireturn dX2_run_23 rfl ⟨_, rfl, wp_some w⟩
def g_X8_act (a0 : Int32) (a1 : Int32) (a2 : Int32) (σ : AS) : Option (Int32 × AS) := (bnd (g_X2_run a0 a1 a2 σ) fun r1 σ2 => some (r1, σ2))
set_option maxRecDepth 100000 in
set_option maxHeartbeats 4000000 in
theorem ct_X8_act {l : Launch} {cx : CX} (hA : AD cx) (a0 : Int32) (a1 : Int32) (a2 : Int32) (σ : AS) (Q : Int32 → AS → Prop) (w : wpO (g_X8_act a0 a1 a2 σ) Q) : AMet l cx 104 yX8_act cX8_act 4 (some .int) [.inr (.inr (8, 0, 0)), .inl a0, .inl a1, .inl a2] σ (QI Q) := by
  unfold g_X8_act at w
  refine AMet.of (own := RX8) (by decide) rfl hA (Nat.le_of_ble_eq_true rfl) ?_
  show RJ l cx 104 RX8 cX8_act 4 (some .int) 0 [(0, .inr (.inr (8, 0, 0))), (1, .inl a0), (2, .inl a1), (3, .inl a2)] [] σ _
  refine R_aload_n dX8_act_0 rfl 0 rfl ?_
  refine R_getfO (k := 9) acl8 oz8_0 (by decide) fl_RX8_65 dX8_act_1 rfl ?_
  refine R_iload_n dX8_act_4 rfl 1 rfl ?_
  refine R_iload_n dX8_act_5 rfl 2 rfl ?_
  refine R_iload_n dX8_act_6 rfl 3 rfl ?_
  refine R_callVI (As := [.inl a0, .inl a1, .inl a2]) acl2 rfl oz2_0 mi_X2_run ml_RX8_255 rfl (Nat.le_of_ble_eq_true rfl) (by decide) dX8_act_7 (ct_X2_run hA a0 a1 a2 σ _ (wp_bnd w)) (fun r1 σ2 w => ?_)
  exact R_ireturn dX8_act_10 rfl ⟨_, rfl, wp_some w⟩
def g_X1_becomeAs (o : Nat) (o1 : Nat) (σ : AS) : Option (Unit × AS) := (lt (cpyA σ 1 o1 3 1 o 3 0 0 7) fun σ1 => (lt (cpyA σ1 1 o1 4 1 o 4 0 0 7) fun σ2 => (lt (cpyA σ2 1 o1 6 1 o 6 0 0 8) fun σ3 => (lt (cpyA σ3 1 o1 7 1 o 7 0 0 8) fun σ4 => (lt (sF σ4 1 o 11 (gF σ4 1 o1 11)) fun σ5 => (lt (sF σ5 1 o 12 (gF σ5 1 o1 12)) fun σ6 => some ((), σ6)))))))
set_option maxRecDepth 100000 in
set_option maxHeartbeats 4000000 in
theorem ct_X1_becomeAs {l : Launch} {cx : CX} (hA : AD cx) (o : Nat) (ho : o < am_cnt 1) (o1 : Nat) (ho1 : o1 < am_cnt 1) (σ : AS) (Q : Unit → AS → Prop) (w : wpO (g_X1_becomeAs o o1 σ) Q) : AMet l cx 2 yX1_becomeAs cX1_becomeAs 2 none [.inr (.inr (1, o, 0)), .inr (.inr (1, o1, 0))] σ (QV Q) := by
  unfold g_X1_becomeAs at w
  refine AMet.of (own := RX1) (by decide) rfl hA (Nat.le_of_ble_eq_true rfl) ?_
  show RJ l cx 2 RX1 cX1_becomeAs 2 none 0 [(0, .inr (.inr (1, o, 0))), (1, .inr (.inr (1, o1, 0)))] [] σ _
  refine R_aload_n dX1_becomeAs_0 rfl 1 rfl ?_
  refine R_getfA (k := 3) acl1 ho1 (by decide) fl_RX1_15 dX1_becomeAs_1 rfl ?_
  refine R_iconst (v := 0) dX1_becomeAs_4 (by decide) ?_
  refine R_aload_n dX1_becomeAs_5 rfl 0 rfl ?_
  refine R_getfA (k := 3) acl1 ho (by decide) fl_RX1_15 dX1_becomeAs_6 rfl ?_
  refine R_iconst (v := 0) dX1_becomeAs_9 (by decide) ?_
  refine R_bipush (v := 7) dX1_becomeAs_10 (by decide) ?_
  refine R_copyA rfl rfl ho1 ho (by decide) ml_RX1_67 (by decide) (Nat.le_of_ble_eq_true rfl) dX1_becomeAs_12 ?_
  refine R_nameS w ?_; clear w; intro σ1 w
  refine R_aload_n dX1_becomeAs_15 rfl 1 rfl ?_
  refine R_getfA (k := 4) acl1 ho1 (by decide) fl_RX1_18 dX1_becomeAs_16 rfl ?_
  refine R_iconst (v := 0) dX1_becomeAs_19 (by decide) ?_
  refine R_aload_n dX1_becomeAs_20 rfl 0 rfl ?_
  refine R_getfA (k := 4) acl1 ho (by decide) fl_RX1_18 dX1_becomeAs_21 rfl ?_
  refine R_iconst (v := 0) dX1_becomeAs_24 (by decide) ?_
  refine R_bipush (v := 7) dX1_becomeAs_25 (by decide) ?_
  refine R_copyA rfl rfl ho1 ho (by decide) ml_RX1_67 (by decide) (Nat.le_of_ble_eq_true rfl) dX1_becomeAs_27 ?_
  refine R_nameS w ?_; clear w; intro σ2 w
  refine R_aload_n dX1_becomeAs_30 rfl 1 rfl ?_
  refine R_getfA (k := 6) acl1 ho1 (by decide) fl_RX1_24 dX1_becomeAs_31 rfl ?_
  refine R_iconst (v := 0) dX1_becomeAs_34 (by decide) ?_
  refine R_aload_n dX1_becomeAs_35 rfl 0 rfl ?_
  refine R_getfA (k := 6) acl1 ho (by decide) fl_RX1_24 dX1_becomeAs_36 rfl ?_
  refine R_iconst (v := 0) dX1_becomeAs_39 (by decide) ?_
  refine R_bipush (v := 8) dX1_becomeAs_40 (by decide) ?_
  refine R_copyA rfl rfl ho1 ho (by decide) ml_RX1_67 (by decide) (Nat.le_of_ble_eq_true rfl) dX1_becomeAs_42 ?_
  refine R_nameS w ?_; clear w; intro σ3 w
  refine R_aload_n dX1_becomeAs_45 rfl 1 rfl ?_
  refine R_getfA (k := 7) acl1 ho1 (by decide) fl_RX1_27 dX1_becomeAs_46 rfl ?_
  refine R_iconst (v := 0) dX1_becomeAs_49 (by decide) ?_
  refine R_aload_n dX1_becomeAs_50 rfl 0 rfl ?_
  refine R_getfA (k := 7) acl1 ho (by decide) fl_RX1_27 dX1_becomeAs_51 rfl ?_
  refine R_iconst (v := 0) dX1_becomeAs_54 (by decide) ?_
  refine R_bipush (v := 8) dX1_becomeAs_55 (by decide) ?_
  refine R_copyA rfl rfl ho1 ho (by decide) ml_RX1_67 (by decide) (Nat.le_of_ble_eq_true rfl) dX1_becomeAs_57 ?_
  refine R_nameS w ?_; clear w; intro σ4 w
  refine R_aload_n dX1_becomeAs_60 rfl 0 rfl ?_
  refine R_aload_n dX1_becomeAs_61 rfl 1 rfl ?_
  refine R_getfI (k := 11) acl1 ho1 (by decide) fl_RX1_40 dX1_becomeAs_62 rfl ?_
  refine R_putf (k := 11) (ty := .int) acl1 ho (by decide) fl_RX1_40 rfl (tyX1_ok 11 (by decide)) (Or.inl rfl) dX1_becomeAs_65 rfl ?_
  refine R_nameS w ?_; clear w; intro σ5 w
  refine R_aload_n dX1_becomeAs_68 rfl 0 rfl ?_
  refine R_aload_n dX1_becomeAs_69 rfl 1 rfl ?_
  refine R_getfI (k := 12) acl1 ho1 (by decide) fl_RX1_44 dX1_becomeAs_70 rfl ?_
  refine R_putf (k := 12) (ty := .int) acl1 ho (by decide) fl_RX1_44 rfl (tyX1_ok 12 (by decide)) (Or.inl rfl) dX1_becomeAs_73 rfl ?_
  refine R_nameS w ?_; clear w; intro σ6 w
  exact R_vreturn dX1_becomeAs_76 rfl ⟨rfl, wp_some w⟩
def g_X1_fit (o : Nat) (a0 : Int32) (a1 : Int32) (σ : AS) : Option (Unit × AS) := (if inb a0 7 then (lt (sA σ 1 o 2 a0 a1) fun σ2 => (lt (sA σ2 1 o 3 a0 (mni (gA σ2 1 o 3 a0) a1)) fun σ3 => (lt (sA σ3 1 o 4 a0 (mni (gA σ3 1 o 4 a0) (a1 - (gA σ3 1 o 3 a0)))) fun σ4 => some ((), σ4)))) else none)
set_option maxRecDepth 100000 in
set_option maxHeartbeats 4000000 in
theorem ct_X1_fit {l : Launch} {cx : CX} (hA : AD cx) (o : Nat) (ho : o < am_cnt 1) (a0 : Int32) (a1 : Int32) (σ : AS) (Q : Unit → AS → Prop) (w : wpO (g_X1_fit o a0 a1 σ) Q) : AMet l cx 2 yX1_fit cX1_fit 3 none [.inr (.inr (1, o, 0)), .inl a0, .inl a1] σ (QV Q) := by
  unfold g_X1_fit at w
  refine AMet.of (own := RX1) (by decide) rfl hA (Nat.le_of_ble_eq_true rfl) ?_
  show RJ l cx 2 RX1 cX1_fit 3 none 0 [(0, .inr (.inr (1, o, 0))), (1, .inl a0), (2, .inl a1)] [] σ _
  refine R_aload_n dX1_fit_0 rfl 0 rfl ?_
  refine R_getfA (k := 2) acl1 ho (by decide) fl_RX1_9 dX1_fit_1 rfl ?_
  refine R_iload_n dX1_fit_4 rfl 1 rfl ?_
  refine R_iload_n dX1_fit_5 rfl 2 rfl ?_
  obtain ⟨b1, w⟩ := wp_chk w
  refine R_iast rfl ho b1 dX1_fit_6 ?_
  refine R_nameS w ?_; clear w; intro σ2 w
  refine R_aload_n dX1_fit_7 rfl 0 rfl ?_
  refine R_getfA (k := 3) acl1 ho (by decide) fl_RX1_15 dX1_fit_8 rfl ?_
  refine R_iload_n dX1_fit_11 rfl 1 rfl ?_
  refine R_aload_n dX1_fit_12 rfl 0 rfl ?_
  refine R_getfA (k := 3) acl1 ho (by decide) fl_RX1_15 dX1_fit_13 rfl ?_
  refine R_iload_n dX1_fit_16 rfl 1 rfl ?_
  refine R_iald rfl ho b1 dX1_fit_17 ?_
  refine R_iload_n dX1_fit_18 rfl 2 rfl ?_
  refine R_mmin ml_RX1_83 (by decide) (Nat.le_of_ble_eq_true rfl) dX1_fit_19 ?_
  refine R_iast rfl ho b1 dX1_fit_22 ?_
  refine R_nameS w ?_; clear w; intro σ3 w
  refine R_aload_n dX1_fit_23 rfl 0 rfl ?_
  refine R_getfA (k := 4) acl1 ho (by decide) fl_RX1_18 dX1_fit_24 rfl ?_
  refine R_iload_n dX1_fit_27 rfl 1 rfl ?_
  refine R_aload_n dX1_fit_28 rfl 0 rfl ?_
  refine R_getfA (k := 4) acl1 ho (by decide) fl_RX1_18 dX1_fit_29 rfl ?_
  refine R_iload_n dX1_fit_32 rfl 1 rfl ?_
  refine R_iald rfl ho b1 dX1_fit_33 ?_
  refine R_iload_n dX1_fit_34 rfl 2 rfl ?_
  refine R_aload_n dX1_fit_35 rfl 0 rfl ?_
  refine R_getfA (k := 3) acl1 ho (by decide) fl_RX1_15 dX1_fit_36 rfl ?_
  refine R_iload_n dX1_fit_39 rfl 1 rfl ?_
  refine R_iald rfl ho b1 dX1_fit_40 ?_
  refine R_isub dX1_fit_41 ?_
  refine R_mmin ml_RX1_83 (by decide) (Nat.le_of_ble_eq_true rfl) dX1_fit_42 ?_
  refine R_iast rfl ho b1 dX1_fit_45 ?_
  refine R_nameS w ?_; clear w; intro σ4 w
  exact R_vreturn dX1_fit_46 rfl ⟨rfl, wp_some w⟩
def g_X8_back_23    : Nat → Int32 → AS → Option (Int32 × AS)
  | 0, _, _ => none
  | f0 + 1, v1, σ => (if v1 < 7 then (if inb v1 7 then (bnd (g_X1_fit 0 v1 (gA σ 1 0 2 v1) σ) fun _ σ5 => (g_X8_back_23 f0) (v1 + 1) σ5) else none) else some (gF σ 1 0 11, σ))
set_option maxRecDepth 100000 in
set_option maxHeartbeats 4000000 in
theorem rk_X8_back_23 {l : Launch} {cx : CX} (hA : AD cx)    (Q : Int32 → AS → Prop) : ∀ (f0 : Nat) (v1 : Int32) (σ : AS), wpO (g_X8_back_23 f0 v1 σ) Q → RJ l cx 3 RX8 cX8_back 2 (some .int) 23 [(0, .inr (.inr (8, 0, 0))), (1, .inl v1)] [] σ (QI Q) := by
  intro f0
  induction f0 with
  | zero => intro v1 σ w; exact wp_no w
  | succ f0 ih =>
    intro v1 σ w
    rw [g_X8_back_23] at w
    refine R_iload_n dX8_back_23 rfl 1 rfl ?_
    refine R_bipush (v := 7) dX8_back_24 (by decide) ?_
    refine R_icmp_ge (tgt := 52) dX8_back_26 (by decide) (fun c3 => ?_) (fun c3 => ?_)
    · have w := wp_f c3 w
      refine R_aload_n dX8_back_52 rfl 0 rfl ?_
      refine R_getfO (k := 4) acl8 oz8_0 (by decide) fl_RX8_38 dX8_back_53 rfl ?_
      refine R_getfI (k := 11) acl1 oz1_0 (by decide) fl_RX8_80 dX8_back_56 rfl ?_
      exact R_ireturn dX8_back_59 rfl ⟨_, rfl, wp_some w⟩
    · have w := wp_t c3 w
      refine R_aload_n dX8_back_29 rfl 0 rfl ?_
      refine R_getfO (k := 4) acl8 oz8_0 (by decide) fl_RX8_38 dX8_back_30 rfl ?_
      refine R_iload_n dX8_back_33 rfl 1 rfl ?_
      refine R_aload_n dX8_back_34 rfl 0 rfl ?_
      refine R_getfO (k := 4) acl8 oz8_0 (by decide) fl_RX8_38 dX8_back_35 rfl ?_
      refine R_getfA (k := 2) acl1 oz1_0 (by decide) fl_RX8_99 dX8_back_38 rfl ?_
      refine R_iload_n dX8_back_41 rfl 1 rfl ?_
      obtain ⟨b4, w⟩ := wp_chk w
      refine R_iald rfl oz1_0 b4 dX8_back_42 ?_
      refine R_callVV (As := [.inl v1, .inl (gA σ 1 0 2 v1)]) acl1 rfl oz1_0 mi_X1_fit ml_RX8_103 rfl (Nat.le_of_ble_eq_true rfl) (by decide) dX8_back_43 (ct_X1_fit hA 0 oz1_0 v1 (gA σ 1 0 2 v1) σ _ (wp_bnd w)) (fun σ5 w => ?_)
      refine R_iinc (v := v1 + 1) (lv' := [(1, .inl (v1 + 1)), (0, .inr (.inr (8, 0, 0)))]) dX8_back_46 1 rfl rfl (by decide) rfl ?_
      refine R_goto (tgt := 23) dX8_back_49 (by decide) ?_
      refine R_sub [1, 0] rfl ?_
      exact ih (v1 + 1) σ5 w
def g_X8_back (σ : AS) : Option (Int32 × AS) := (if gF σ 8 0 11 = 0 then some ((-5), σ) else (bnd (g_X1_becomeAs 0 2 σ) fun _ σ2 => g_X8_back_23 400 0 σ2))
set_option maxRecDepth 100000 in
set_option maxHeartbeats 4000000 in
theorem ct_X8_back {l : Launch} {cx : CX} (hA : AD cx) (σ : AS) (Q : Int32 → AS → Prop) (w : wpO (g_X8_back σ) Q) : AMet l cx 3 yX8_back cX8_back 2 (some .int) [.inr (.inr (8, 0, 0))] σ (QI Q) := by
  unfold g_X8_back at w
  refine AMet.of (own := RX8) (by decide) rfl hA (Nat.le_of_ble_eq_true rfl) ?_
  show RJ l cx 3 RX8 cX8_back 2 (some .int) 0 [(0, .inr (.inr (8, 0, 0)))] [] σ _
  refine R_aload_n dX8_back_0 rfl 0 rfl ?_
  refine R_getfI (k := 11) acl8 oz8_0 (by decide) fl_RX8_75 dX8_back_1 rfl ?_
  refine R_if_ne (tgt := 10) dX8_back_4 (by decide) (fun c1 => ?_) (fun c1 => ?_)
  · have w := wp_f c1 w
    refine R_aload_n dX8_back_10 rfl 0 rfl ?_
    refine R_getfO (k := 4) acl8 oz8_0 (by decide) fl_RX8_38 dX8_back_11 rfl ?_
    refine R_aload_n dX8_back_14 rfl 0 rfl ?_
    refine R_getfO (k := 6) acl8 oz8_0 (by decide) fl_RX8_45 dX8_back_15 rfl ?_
    refine R_callVV (As := [.inr (.inr (1, 2, 0))]) acl1 rfl oz1_0 mi_X1_becomeAs ml_RX8_241 rfl (Nat.le_of_ble_eq_true rfl) (by decide) dX8_back_18 (ct_X1_becomeAs hA 0 oz1_0 2 oz1_2 σ _ (wp_bnd w)) (fun σ2 w => ?_)
    refine R_iconst (v := 0) dX8_back_21 (by decide) ?_
    refine R_istore_n (lv' := [(1, .inl 0), (0, .inr (.inr (8, 0, 0)))]) dX8_back_22 rfl (by decide) rfl ?_
    refine R_sub [1, 0] rfl ?_
    exact rk_X8_back_23 hA _ 400 0 σ2 w
  · have w := wp_t c1 w
    refine R_bipush (v := (-5)) dX8_back_7 (by decide) ?_
    exact R_ireturn dX8_back_9 rfl ⟨_, rfl, wp_some w⟩
def g_X2_add (a0 : Int32) (σ : AS) : Option (Int32 × AS) := (if gF σ 2 0 2 < 50 then (if inb (gF σ 2 0 2) 50 then (lt (sA σ 2 0 0 (gF σ 2 0 2) a0) fun σ3 => (lt (sF σ3 2 0 2 ((gF σ3 2 0 2) + 1)) fun σ4 => some ((gF σ4 2 0 2) - 1, σ4))) else none) else some ((-3), σ))
set_option maxRecDepth 100000 in
set_option maxHeartbeats 4000000 in
theorem ct_X2_add {l : Launch} {cx : CX} (hA : AD cx) (a0 : Int32) (σ : AS) (Q : Int32 → AS → Prop) (w : wpO (g_X2_add a0 σ) Q) : AMet l cx 0 yX2_add cX2_add 2 (some .int) [.inr (.inr (2, 0, 0)), .inl a0] σ (QI Q) := by
  unfold g_X2_add at w
  refine AMet.of (own := RX2) (by decide) rfl hA (Nat.le_of_ble_eq_true rfl) ?_
  show RJ l cx 0 RX2 cX2_add 2 (some .int) 0 [(0, .inr (.inr (2, 0, 0))), (1, .inl a0)] [] σ _
  refine R_aload_n dX2_add_0 rfl 0 rfl ?_
  refine R_getfI (k := 2) acl2 oz2_0 (by decide) fl_RX2_18 dX2_add_1 rfl ?_
  refine R_bipush (v := 50) dX2_add_4 (by decide) ?_
  refine R_icmp_lt (tgt := 12) dX2_add_6 (by decide) (fun c1 => ?_) (fun c1 => ?_)
  · have w := wp_t c1 w
    refine R_aload_n dX2_add_12 rfl 0 rfl ?_
    refine R_getfA (k := 0) acl2 oz2_0 (by decide) fl_RX2_11 dX2_add_13 rfl ?_
    refine R_aload_n dX2_add_16 rfl 0 rfl ?_
    refine R_getfI (k := 2) acl2 oz2_0 (by decide) fl_RX2_18 dX2_add_17 rfl ?_
    refine R_iload_n dX2_add_20 rfl 1 rfl ?_
    obtain ⟨b2, w⟩ := wp_chk w
    refine R_iast rfl oz2_0 b2 dX2_add_21 ?_
    refine R_nameS w ?_; clear w; intro σ3 w
    refine R_aload_n dX2_add_22 rfl 0 rfl ?_
    refine R_dup dX2_add_23 rfl ?_
    refine R_getfI (k := 2) acl2 oz2_0 (by decide) fl_RX2_18 dX2_add_24 rfl ?_
    refine R_iconst (v := 1) dX2_add_27 (by decide) ?_
    refine R_iadd dX2_add_28 ?_
    refine R_putf (k := 2) (ty := .int) acl2 oz2_0 (by decide) fl_RX2_18 rfl (tyX2_ok 2 (by decide)) (Or.inl rfl) dX2_add_29 rfl ?_
    refine R_nameS w ?_; clear w; intro σ4 w
    refine R_aload_n dX2_add_32 rfl 0 rfl ?_
    refine R_getfI (k := 2) acl2 oz2_0 (by decide) fl_RX2_18 dX2_add_33 rfl ?_
    refine R_iconst (v := 1) dX2_add_36 (by decide) ?_
    refine R_isub dX2_add_37 ?_
    exact R_ireturn dX2_add_38 rfl ⟨_, rfl, wp_some w⟩
  · have w := wp_f c1 w
    refine R_bipush (v := (-3)) dX2_add_9 (by decide) ?_
    exact R_ireturn dX2_add_11 rfl ⟨_, rfl, wp_some w⟩
def g_X8_body (a0 : Int32) (σ : AS) : Option (Int32 × AS) := (bnd (g_X2_isKind a0 σ) fun r1 σ2 => (if r1 = 0 then some ((-1), σ2) else (bnd (g_X2_add a0 σ2) fun r4 σ5 => some (r4, σ5))))
set_option maxRecDepth 100000 in
set_option maxHeartbeats 4000000 in
theorem ct_X8_body {l : Launch} {cx : CX} (hA : AD cx) (a0 : Int32) (σ : AS) (Q : Int32 → AS → Prop) (w : wpO (g_X8_body a0 σ) Q) : AMet l cx 1 yX8_body cX8_body 2 (some .int) [.inr (.inr (8, 0, 0)), .inl a0] σ (QI Q) := by
  unfold g_X8_body at w
  refine AMet.of (own := RX8) (by decide) rfl hA (Nat.le_of_ble_eq_true rfl) ?_
  show RJ l cx 1 RX8 cX8_body 2 (some .int) 0 [(0, .inr (.inr (8, 0, 0))), (1, .inl a0)] [] σ _
  refine R_iload_n dX8_body_0 rfl 1 rfl ?_
  refine R_callSI (As := [.inl a0]) mi_X2_isKind ml_RX8_251 rfl (Nat.le_of_ble_eq_true rfl) (by decide) dX8_body_1 (ct_X2_isKind hA a0 σ _ (wp_bnd w)) (fun r1 σ2 w => ?_)
  refine R_if_ne (tgt := 9) dX8_body_4 (by decide) (fun c3 => ?_) (fun c3 => ?_)
  · have w := wp_f c3 w
    refine R_aload_n dX8_body_9 rfl 0 rfl ?_
    refine R_getfO (k := 9) acl8 oz8_0 (by decide) fl_RX8_65 dX8_body_10 rfl ?_
    refine R_iload_n dX8_body_13 rfl 1 rfl ?_
    refine R_callVI (As := [.inl a0]) acl2 rfl oz2_0 mi_X2_add ml_RX8_254 rfl (Nat.le_of_ble_eq_true rfl) (by decide) dX8_body_14 (ct_X2_add hA a0 σ2 _ (wp_bnd w)) (fun r4 σ5 w => ?_)
    exact R_ireturn dX8_body_17 rfl ⟨_, rfl, wp_some w⟩
  · have w := wp_t c3 w
    refine R_iconst (v := (-1)) dX8_body_7 (by decide) ?_
    exact R_ireturn dX8_body_8 rfl ⟨_, rfl, wp_some w⟩
def g_X6_hasRest (a0 : Int32) (σ : AS) : Option (Int32 × AS) := (if a0 < 0 then some (0, σ) else (if a0 < (gF σ 6 0 2) - 1 then some (1, σ) else some (0, σ)))
set_option maxRecDepth 100000 in
set_option maxHeartbeats 4000000 in
theorem ct_X6_hasRest {l : Launch} {cx : CX} (hA : AD cx) (a0 : Int32) (σ : AS) (Q : Int32 → AS → Prop) (w : wpO (g_X6_hasRest a0 σ) Q) : AMet l cx 0 yX6_hasRest cX6_hasRest 2 (some .boolean) [.inr (.inr (6, 0, 0)), .inl a0] σ (QI Q) := by
  unfold g_X6_hasRest at w
  refine AMet.of (own := RX6) (by decide) rfl hA (Nat.le_of_ble_eq_true rfl) ?_
  show RJ l cx 0 RX6 cX6_hasRest 2 (some .boolean) 0 [(0, .inr (.inr (6, 0, 0))), (1, .inl a0)] [] σ _
  refine R_iload_n dX6_hasRest_0 rfl 1 rfl ?_
  refine R_if_lt (tgt := 18) dX6_hasRest_1 (by decide) (fun c1 => ?_) (fun c1 => ?_)
  · have w := wp_t c1 w
    refine R_iconst (v := 0) dX6_hasRest_18 (by decide) ?_
    exact R_zreturn dX6_hasRest_19 rfl (by decide) ⟨_, rfl, wp_some w⟩
  · have w := wp_f c1 w
    refine R_iload_n dX6_hasRest_4 rfl 1 rfl ?_
    refine R_aload_n dX6_hasRest_5 rfl 0 rfl ?_
    refine R_getfI (k := 2) acl6 oz6_0 (by decide) fl_RX6_18 dX6_hasRest_6 rfl ?_
    refine R_iconst (v := 1) dX6_hasRest_9 (by decide) ?_
    refine R_isub dX6_hasRest_10 ?_
    refine R_icmp_ge (tgt := 18) dX6_hasRest_11 (by decide) (fun c2 => ?_) (fun c2 => ?_)
    · have w := wp_f c2 w
      refine R_iconst (v := 0) dX6_hasRest_18 (by decide) ?_
      exact R_zreturn dX6_hasRest_19 rfl (by decide) ⟨_, rfl, wp_some w⟩
    · have w := wp_t c2 w
      refine R_iconst (v := 1) dX6_hasRest_14 (by decide) ?_
      refine R_goto (tgt := 19) dX6_hasRest_15 (by decide) ?_
      exact R_zreturn dX6_hasRest_19 rfl (by decide) ⟨_, rfl, wp_some w⟩
def g_X6_has (a0 : Int32) (σ : AS) : Option (Int32 × AS) := (if a0 < 0 then some (0, σ) else (if a0 < gF σ 6 0 2 then some (1, σ) else some (0, σ)))
set_option maxRecDepth 100000 in
set_option maxHeartbeats 4000000 in
theorem ct_X6_has {l : Launch} {cx : CX} (hA : AD cx) (a0 : Int32) (σ : AS) (Q : Int32 → AS → Prop) (w : wpO (g_X6_has a0 σ) Q) : AMet l cx 0 yX6_has cX6_has 2 (some .boolean) [.inr (.inr (6, 0, 0)), .inl a0] σ (QI Q) := by
  unfold g_X6_has at w
  refine AMet.of (own := RX6) (by decide) rfl hA (Nat.le_of_ble_eq_true rfl) ?_
  show RJ l cx 0 RX6 cX6_has 2 (some .boolean) 0 [(0, .inr (.inr (6, 0, 0))), (1, .inl a0)] [] σ _
  refine R_iload_n dX6_has_0 rfl 1 rfl ?_
  refine R_if_lt (tgt := 16) dX6_has_1 (by decide) (fun c1 => ?_) (fun c1 => ?_)
  · have w := wp_t c1 w
    refine R_iconst (v := 0) dX6_has_16 (by decide) ?_
    exact R_zreturn dX6_has_17 rfl (by decide) ⟨_, rfl, wp_some w⟩
  · have w := wp_f c1 w
    refine R_iload_n dX6_has_4 rfl 1 rfl ?_
    refine R_aload_n dX6_has_5 rfl 0 rfl ?_
    refine R_getfI (k := 2) acl6 oz6_0 (by decide) fl_RX6_18 dX6_has_6 rfl ?_
    refine R_icmp_ge (tgt := 16) dX6_has_9 (by decide) (fun c2 => ?_) (fun c2 => ?_)
    · have w := wp_f c2 w
      refine R_iconst (v := 0) dX6_has_16 (by decide) ?_
      exact R_zreturn dX6_has_17 rfl (by decide) ⟨_, rfl, wp_some w⟩
    · have w := wp_t c2 w
      refine R_iconst (v := 1) dX6_has_12 (by decide) ?_
      refine R_goto (tgt := 17) dX6_has_13 (by decide) ?_
      exact R_zreturn dX6_has_17 rfl (by decide) ⟨_, rfl, wp_some w⟩
def g_X6_trait (a0 : Int32) (a1 : Int32) (σ : AS) : Option (Int32 × AS) := (bnd (g_X6_has a0 σ) fun r1 σ2 => (if r1 = 0 then some (0, σ2) else (if a1 < 0 then some (0, σ2) else (if a1 < 5 then (if inb ((a0 * 5) + a1) 40 then some (gA σ2 6 0 0 ((a0 * 5) + a1), σ2) else none) else some (0, σ2)))))
set_option maxRecDepth 100000 in
set_option maxHeartbeats 4000000 in
theorem ct_X6_trait {l : Launch} {cx : CX} (hA : AD cx) (a0 : Int32) (a1 : Int32) (σ : AS) (Q : Int32 → AS → Prop) (w : wpO (g_X6_trait a0 a1 σ) Q) : AMet l cx 1 yX6_trait cX6_trait 3 (some .int) [.inr (.inr (6, 0, 0)), .inl a0, .inl a1] σ (QI Q) := by
  unfold g_X6_trait at w
  refine AMet.of (own := RX6) (by decide) rfl hA (Nat.le_of_ble_eq_true rfl) ?_
  show RJ l cx 1 RX6 cX6_trait 3 (some .int) 0 [(0, .inr (.inr (6, 0, 0))), (1, .inl a0), (2, .inl a1)] [] σ _
  refine R_aload_n dX6_trait_0 rfl 0 rfl ?_
  refine R_iload_n dX6_trait_1 rfl 1 rfl ?_
  refine R_callVI (As := [.inl a0]) acl6 rfl oz6_0 mi_X6_has ml_RX6_26 rfl (Nat.le_of_ble_eq_true rfl) (by decide) dX6_trait_2 (ct_X6_has hA a0 σ _ (wp_bnd w)) (fun r1 σ2 w => ?_)
  refine R_if_eq (tgt := 17) dX6_trait_5 (by decide) (fun c3 => ?_) (fun c3 => ?_)
  · have w := wp_t c3 w
    refine R_iconst (v := 0) dX6_trait_17 (by decide) ?_
    exact R_ireturn dX6_trait_18 rfl ⟨_, rfl, wp_some w⟩
  · have w := wp_f c3 w
    refine R_iload_n dX6_trait_8 rfl 2 rfl ?_
    refine R_if_lt (tgt := 17) dX6_trait_9 (by decide) (fun c4 => ?_) (fun c4 => ?_)
    · have w := wp_t c4 w
      refine R_iconst (v := 0) dX6_trait_17 (by decide) ?_
      exact R_ireturn dX6_trait_18 rfl ⟨_, rfl, wp_some w⟩
    · have w := wp_f c4 w
      refine R_iload_n dX6_trait_12 rfl 2 rfl ?_
      refine R_iconst (v := 5) dX6_trait_13 (by decide) ?_
      refine R_icmp_lt (tgt := 19) dX6_trait_14 (by decide) (fun c5 => ?_) (fun c5 => ?_)
      · have w := wp_t c5 w
        refine R_aload_n dX6_trait_19 rfl 0 rfl ?_
        refine R_getfA (k := 0) acl6 oz6_0 (by decide) fl_RX6_9 dX6_trait_20 rfl ?_
        refine R_iload_n dX6_trait_23 rfl 1 rfl ?_
        refine R_iconst (v := 5) dX6_trait_24 (by decide) ?_
        refine R_imul dX6_trait_25 ?_
        refine R_iload_n dX6_trait_26 rfl 2 rfl ?_
        refine R_iadd dX6_trait_27 ?_
        obtain ⟨b6, w⟩ := wp_chk w
        refine R_iald rfl oz6_0 b6 dX6_trait_28 ?_
        exact R_ireturn dX6_trait_29 rfl ⟨_, rfl, wp_some w⟩
      · have w := wp_f c5 w
        refine R_iconst (v := 0) dX6_trait_17 (by decide) ?_
        exact R_ireturn dX6_trait_18 rfl ⟨_, rfl, wp_some w⟩
def g_X8_usedByLeft (a0 : Int32) (a1 : Int32) (σ : AS) : Option (Int32 × AS) := (bnd (g_X6_trait a0 0 σ) fun r1 σ2 => some (mni a1 r1, σ2))
set_option maxRecDepth 100000 in
set_option maxHeartbeats 4000000 in
theorem ct_X8_usedByLeft {l : Launch} {cx : CX} (hA : AD cx) (a0 : Int32) (a1 : Int32) (σ : AS) (Q : Int32 → AS → Prop) (w : wpO (g_X8_usedByLeft a0 a1 σ) Q) : AMet l cx 2 yX8_usedByLeft cX8_usedByLeft 3 (some .int) [.inr (.inr (8, 0, 0)), .inl a0, .inl a1] σ (QI Q) := by
  unfold g_X8_usedByLeft at w
  refine AMet.of (own := RX8) (by decide) rfl hA (Nat.le_of_ble_eq_true rfl) ?_
  show RJ l cx 2 RX8 cX8_usedByLeft 3 (some .int) 0 [(0, .inr (.inr (8, 0, 0))), (1, .inl a0), (2, .inl a1)] [] σ _
  refine R_iload_n dX8_usedByLeft_0 rfl 2 rfl ?_
  refine R_aload_n dX8_usedByLeft_1 rfl 0 rfl ?_
  refine R_getfO (k := 0) acl8 oz8_0 (by decide) fl_RX8_10 dX8_usedByLeft_2 rfl ?_
  refine R_iload_n dX8_usedByLeft_5 rfl 1 rfl ?_
  refine R_iconst (v := 0) dX8_usedByLeft_6 (by decide) ?_
  refine R_callVI (As := [.inl a0, .inl 0]) acl6 rfl oz6_0 mi_X6_trait ml_RX8_114 rfl (Nat.le_of_ble_eq_true rfl) (by decide) dX8_usedByLeft_7 (ct_X6_trait hA a0 0 σ _ (wp_bnd w)) (fun r1 σ2 w => ?_)
  refine R_mmin ml_RX8_344 (by decide) (Nat.le_of_ble_eq_true rfl) dX8_usedByLeft_10 ?_
  exact R_ireturn dX8_usedByLeft_13 rfl ⟨_, rfl, wp_some w⟩
def g_X8_usedByRight (a0 : Int32) (a1 : Int32) (σ : AS) : Option (Int32 × AS) := (if inb a0 7 then (bnd (g_X6_trait (a0 + 1) 0 σ) fun r2 σ3 => some (mni ((gA σ 1 0 2 a0) - a1) r2, σ3)) else none)
set_option maxRecDepth 100000 in
set_option maxHeartbeats 4000000 in
theorem ct_X8_usedByRight {l : Launch} {cx : CX} (hA : AD cx) (a0 : Int32) (a1 : Int32) (σ : AS) (Q : Int32 → AS → Prop) (w : wpO (g_X8_usedByRight a0 a1 σ) Q) : AMet l cx 2 yX8_usedByRight cX8_usedByRight 3 (some .int) [.inr (.inr (8, 0, 0)), .inl a0, .inl a1] σ (QI Q) := by
  unfold g_X8_usedByRight at w
  refine AMet.of (own := RX8) (by decide) rfl hA (Nat.le_of_ble_eq_true rfl) ?_
  show RJ l cx 2 RX8 cX8_usedByRight 3 (some .int) 0 [(0, .inr (.inr (8, 0, 0))), (1, .inl a0), (2, .inl a1)] [] σ _
  refine R_aload_n dX8_usedByRight_0 rfl 0 rfl ?_
  refine R_getfO (k := 4) acl8 oz8_0 (by decide) fl_RX8_38 dX8_usedByRight_1 rfl ?_
  refine R_getfA (k := 2) acl1 oz1_0 (by decide) fl_RX8_99 dX8_usedByRight_4 rfl ?_
  refine R_iload_n dX8_usedByRight_7 rfl 1 rfl ?_
  obtain ⟨b1, w⟩ := wp_chk w
  refine R_iald rfl oz1_0 b1 dX8_usedByRight_8 ?_
  refine R_iload_n dX8_usedByRight_9 rfl 2 rfl ?_
  refine R_isub dX8_usedByRight_10 ?_
  refine R_aload_n dX8_usedByRight_11 rfl 0 rfl ?_
  refine R_getfO (k := 0) acl8 oz8_0 (by decide) fl_RX8_10 dX8_usedByRight_12 rfl ?_
  refine R_iload_n dX8_usedByRight_15 rfl 1 rfl ?_
  refine R_iconst (v := 1) dX8_usedByRight_16 (by decide) ?_
  refine R_iadd dX8_usedByRight_17 ?_
  refine R_iconst (v := 0) dX8_usedByRight_18 (by decide) ?_
  refine R_callVI (As := [.inl (a0 + 1), .inl 0]) acl6 rfl oz6_0 mi_X6_trait ml_RX8_114 rfl (Nat.le_of_ble_eq_true rfl) (by decide) dX8_usedByRight_19 (ct_X6_trait hA (a0 + 1) 0 σ _ (wp_bnd w)) (fun r2 σ3 w => ?_)
  refine R_mmin ml_RX8_344 (by decide) (Nat.le_of_ble_eq_true rfl) dX8_usedByRight_22 ?_
  exact R_ireturn dX8_usedByRight_25 rfl ⟨_, rfl, wp_some w⟩
def g_X8_isBetterForBoth (a0 : Int32) (a1 : Int32) (a2 : Int32) (σ : AS) : Option (Int32 × AS) := (bnd (g_X8_usedByLeft a0 a1 σ) fun r1 σ2 => (bnd (g_X8_usedByRight a0 a1 σ2) fun r3 σ4 => (bnd (g_X8_usedByLeft a0 a2 σ4) fun r5 σ6 => (bnd (g_X8_usedByRight a0 a2 σ6) fun r7 σ8 => (if r1 + r3 = r5 + r7 then (if mni r5 r7 < mni r1 r3 then some (1, σ8) else some (0, σ8)) else (if r5 + r7 < r1 + r3 then some (1, σ8) else some (0, σ8)))))))
set_option maxRecDepth 100000 in
set_option maxHeartbeats 4000000 in
theorem ct_X8_isBetterForBoth {l : Launch} {cx : CX} (hA : AD cx) (a0 : Int32) (a1 : Int32) (a2 : Int32) (σ : AS) (Q : Int32 → AS → Prop) (w : wpO (g_X8_isBetterForBoth a0 a1 a2 σ) Q) : AMet l cx 3 yX8_isBetterForBoth cX8_isBetterForBoth 8 (some .boolean) [.inr (.inr (8, 0, 0)), .inl a0, .inl a1, .inl a2] σ (QI Q) := by
  unfold g_X8_isBetterForBoth at w
  refine AMet.of (own := RX8) (by decide) rfl hA (Nat.le_of_ble_eq_true rfl) ?_
  show RJ l cx 3 RX8 cX8_isBetterForBoth 8 (some .boolean) 0 [(0, .inr (.inr (8, 0, 0))), (1, .inl a0), (2, .inl a1), (3, .inl a2)] [] σ _
  refine R_aload_n dX8_isBetterForBoth_0 rfl 0 rfl ?_
  refine R_iload_n dX8_isBetterForBoth_1 rfl 1 rfl ?_
  refine R_iload_n dX8_isBetterForBoth_2 rfl 2 rfl ?_
  refine R_callVI (As := [.inl a0, .inl a1]) acl8 rfl oz8_0 mi_X8_usedByLeft ml_RX8_227 rfl (Nat.le_of_ble_eq_true rfl) (by decide) dX8_isBetterForBoth_3 (ct_X8_usedByLeft hA a0 a1 σ _ (wp_bnd w)) (fun r1 σ2 w => ?_)
  refine R_istore (lv' := [(4, .inl r1), (0, .inr (.inr (8, 0, 0))), (1, .inl a0), (2, .inl a1), (3, .inl a2)]) dX8_isBetterForBoth_6 (by decide) rfl ?_
  refine R_aload_n dX8_isBetterForBoth_8 rfl 1 rfl ?_
  refine R_iload_n dX8_isBetterForBoth_9 rfl 2 rfl ?_
  refine R_iload_n dX8_isBetterForBoth_10 rfl 3 rfl ?_
  refine R_callVI (As := [.inl a0, .inl a1]) acl8 rfl oz8_0 mi_X8_usedByRight ml_RX8_230 rfl (Nat.le_of_ble_eq_true rfl) (by decide) dX8_isBetterForBoth_11 (ct_X8_usedByRight hA a0 a1 σ2 _ (wp_bnd w)) (fun r3 σ4 w => ?_)
  refine R_istore (lv' := [(5, .inl r3), (4, .inl r1), (0, .inr (.inr (8, 0, 0))), (1, .inl a0), (2, .inl a1), (3, .inl a2)]) dX8_isBetterForBoth_14 (by decide) rfl ?_
  refine R_aload_n dX8_isBetterForBoth_16 rfl 2 rfl ?_
  refine R_iload_n dX8_isBetterForBoth_17 rfl 3 rfl ?_
  refine R_iload_n dX8_isBetterForBoth_18 rfl 5 rfl ?_
  refine R_callVI (As := [.inl a0, .inl a2]) acl8 rfl oz8_0 mi_X8_usedByLeft ml_RX8_227 rfl (Nat.le_of_ble_eq_true rfl) (by decide) dX8_isBetterForBoth_19 (ct_X8_usedByLeft hA a0 a2 σ4 _ (wp_bnd w)) (fun r5 σ6 w => ?_)
  refine R_istore (lv' := [(6, .inl r5), (5, .inl r3), (4, .inl r1), (0, .inr (.inr (8, 0, 0))), (1, .inl a0), (2, .inl a1), (3, .inl a2)]) dX8_isBetterForBoth_22 (by decide) rfl ?_
  refine R_aload_n dX8_isBetterForBoth_24 rfl 3 rfl ?_
  refine R_iload_n dX8_isBetterForBoth_25 rfl 4 rfl ?_
  refine R_iload_n dX8_isBetterForBoth_26 rfl 6 rfl ?_
  refine R_callVI (As := [.inl a0, .inl a2]) acl8 rfl oz8_0 mi_X8_usedByRight ml_RX8_230 rfl (Nat.le_of_ble_eq_true rfl) (by decide) dX8_isBetterForBoth_27 (ct_X8_usedByRight hA a0 a2 σ6 _ (wp_bnd w)) (fun r7 σ8 w => ?_)
  refine R_istore (lv' := [(7, .inl r7), (6, .inl r5), (5, .inl r3), (4, .inl r1), (0, .inr (.inr (8, 0, 0))), (1, .inl a0), (2, .inl a1), (3, .inl a2)]) dX8_isBetterForBoth_30 (by decide) rfl ?_
  refine R_iload dX8_isBetterForBoth_32 3 rfl ?_
  refine R_iload dX8_isBetterForBoth_34 2 rfl ?_
  refine R_iadd dX8_isBetterForBoth_36 ?_
  refine R_iload dX8_isBetterForBoth_37 1 rfl ?_
  refine R_iload dX8_isBetterForBoth_39 0 rfl ?_
  refine R_iadd dX8_isBetterForBoth_41 ?_
  refine R_icmp_eq (tgt := 64) dX8_isBetterForBoth_42 (by decide) (fun c9 => ?_) (fun c9 => ?_)
  · have w := wp_t c9 w
    refine R_iload dX8_isBetterForBoth_64 3 rfl ?_
    refine R_iload dX8_isBetterForBoth_66 2 rfl ?_
    refine R_mmin ml_RX8_344 (by decide) (Nat.le_of_ble_eq_true rfl) dX8_isBetterForBoth_68 ?_
    refine R_iload dX8_isBetterForBoth_71 1 rfl ?_
    refine R_iload dX8_isBetterForBoth_73 0 rfl ?_
    refine R_mmin ml_RX8_344 (by decide) (Nat.le_of_ble_eq_true rfl) dX8_isBetterForBoth_75 ?_
    refine R_icmp_le (tgt := 85) dX8_isBetterForBoth_78 (by decide) (fun c10 => ?_) (fun c10 => ?_)
    · have w := wp_f c10 w
      refine R_iconst (v := 0) dX8_isBetterForBoth_85 (by decide) ?_
      exact R_zreturn dX8_isBetterForBoth_86 rfl (by decide) ⟨_, rfl, wp_some w⟩
    · have w := wp_t c10 w
      refine R_iconst (v := 1) dX8_isBetterForBoth_81 (by decide) ?_
      refine R_goto (tgt := 86) dX8_isBetterForBoth_82 (by decide) ?_
      exact R_zreturn dX8_isBetterForBoth_86 rfl (by decide) ⟨_, rfl, wp_some w⟩
  · have w := wp_f c9 w
    refine R_iload dX8_isBetterForBoth_45 3 rfl ?_
    refine R_iload dX8_isBetterForBoth_47 2 rfl ?_
    refine R_iadd dX8_isBetterForBoth_49 ?_
    refine R_iload dX8_isBetterForBoth_50 1 rfl ?_
    refine R_iload dX8_isBetterForBoth_52 0 rfl ?_
    refine R_iadd dX8_isBetterForBoth_54 ?_
    refine R_icmp_le (tgt := 62) dX8_isBetterForBoth_55 (by decide) (fun c11 => ?_) (fun c11 => ?_)
    · have w := wp_f c11 w
      refine R_iconst (v := 0) dX8_isBetterForBoth_62 (by decide) ?_
      exact R_zreturn dX8_isBetterForBoth_63 rfl (by decide) ⟨_, rfl, wp_some w⟩
    · have w := wp_t c11 w
      refine R_iconst (v := 1) dX8_isBetterForBoth_58 (by decide) ?_
      refine R_goto (tgt := 63) dX8_isBetterForBoth_59 (by decide) ?_
      exact R_zreturn dX8_isBetterForBoth_63 rfl (by decide) ⟨_, rfl, wp_some w⟩
def g_X8_both_27    : Nat → Int32 → Int32 → Int32 → Int32 → AS → Option (Int32 × AS)
  | 0, _, _, _, _, _ => none
  | f0 + 1, v1, v2, v3, v4, σ => (if inb v1 7 then (if gA σ 1 0 2 v1 < v4 then (if v2 = 0 then some (v3, σ) else (bnd (g_X8_usedByLeft v1 v3 σ) fun r9 σ10 => (bnd (g_X8_usedByRight v1 v3 σ10) fun r11 σ12 => some (r9 + r11, σ12)))) else (bnd (g_X8_isBetterForBoth v1 v4 v3 σ) fun r13 σ14 => (if r13 = 0 then (g_X8_both_27 f0) v1 v2 v3 (v4 + 1) σ14 else (g_X8_both_27 f0) v1 v2 v4 (v4 + 1) σ14))) else none)
set_option maxRecDepth 100000 in
set_option maxHeartbeats 4000000 in
theorem rk_X8_both_27 {l : Launch} {cx : CX} (hA : AD cx)    (Q : Int32 → AS → Prop) : ∀ (f0 : Nat) (v1 : Int32) (v2 : Int32) (v3 : Int32) (v4 : Int32) (σ : AS), wpO (g_X8_both_27 f0 v1 v2 v3 v4 σ) Q → RJ l cx 4 RX8 cX8_both 5 (some .int) 27 [(0, .inr (.inr (8, 0, 0))), (1, .inl v1), (2, .inl v2), (3, .inl v3), (4, .inl v4)] [] σ (QI Q) := by
  intro f0
  induction f0 with
  | zero => intro v1 v2 v3 v4 σ w; exact wp_no w
  | succ f0 ih =>
    intro v1 v2 v3 v4 σ w
    rw [g_X8_both_27] at w
    refine R_iload dX8_both_27 4 rfl ?_
    refine R_aload_n dX8_both_29 rfl 0 rfl ?_
    refine R_getfO (k := 4) acl8 oz8_0 (by decide) fl_RX8_38 dX8_both_30 rfl ?_
    refine R_getfA (k := 2) acl1 oz1_0 (by decide) fl_RX8_99 dX8_both_33 rfl ?_
    refine R_iload_n dX8_both_36 rfl 1 rfl ?_
    obtain ⟨b6, w⟩ := wp_chk w
    refine R_iald rfl oz1_0 b6 dX8_both_37 ?_
    refine R_icmp_gt (tgt := 61) dX8_both_38 (by decide) (fun c7 => ?_) (fun c7 => ?_)
    · have w := wp_t c7 w
      refine R_iload_n dX8_both_61 rfl 2 rfl ?_
      refine R_if_ne (tgt := 69) dX8_both_62 (by decide) (fun c8 => ?_) (fun c8 => ?_)
      · have w := wp_f c8 w
        refine R_aload_n dX8_both_69 rfl 0 rfl ?_
        refine R_iload_n dX8_both_70 rfl 1 rfl ?_
        refine R_iload_n dX8_both_71 rfl 3 rfl ?_
        refine R_callVI (As := [.inl v1, .inl v3]) acl8 rfl oz8_0 mi_X8_usedByLeft ml_RX8_227 rfl (Nat.le_of_ble_eq_true rfl) (by decide) dX8_both_72 (ct_X8_usedByLeft hA v1 v3 σ _ (wp_bnd w)) (fun r9 σ10 w => ?_)
        refine R_aload_n dX8_both_75 rfl 0 rfl ?_
        refine R_iload_n dX8_both_76 rfl 1 rfl ?_
        refine R_iload_n dX8_both_77 rfl 3 rfl ?_
        refine R_callVI (As := [.inl v1, .inl v3]) acl8 rfl oz8_0 mi_X8_usedByRight ml_RX8_230 rfl (Nat.le_of_ble_eq_true rfl) (by decide) dX8_both_78 (ct_X8_usedByRight hA v1 v3 σ10 _ (wp_bnd w)) (fun r11 σ12 w => ?_)
        refine R_iadd dX8_both_81 ?_
        exact R_ireturn dX8_both_82 rfl ⟨_, rfl, wp_some w⟩
      · have w := wp_t c8 w
        refine R_iload_n dX8_both_65 rfl 3 rfl ?_
        refine R_goto (tgt := 82) dX8_both_66 (by decide) ?_
        exact R_ireturn dX8_both_82 rfl ⟨_, rfl, wp_some w⟩
    · have w := wp_f c7 w
      refine R_aload_n dX8_both_41 rfl 0 rfl ?_
      refine R_iload_n dX8_both_42 rfl 1 rfl ?_
      refine R_iload dX8_both_43 4 rfl ?_
      refine R_iload_n dX8_both_45 rfl 3 rfl ?_
      refine R_callVI (As := [.inl v1, .inl v4, .inl v3]) acl8 rfl oz8_0 mi_X8_isBetterForBoth ml_RX8_224 rfl (Nat.le_of_ble_eq_true rfl) (by decide) dX8_both_46 (ct_X8_isBetterForBoth hA v1 v4 v3 σ _ (wp_bnd w)) (fun r13 σ14 w => ?_)
      refine R_if_eq (tgt := 55) dX8_both_49 (by decide) (fun c15 => ?_) (fun c15 => ?_)
      · have w := wp_t c15 w
        refine R_iinc (v := v4 + 1) (lv' := [(4, .inl (v4 + 1)), (0, .inr (.inr (8, 0, 0))), (1, .inl v1), (2, .inl v2), (3, .inl v3)]) dX8_both_55 4 rfl rfl (by decide) rfl ?_
        refine R_goto (tgt := 27) dX8_both_58 (by decide) ?_
        refine R_sub [1, 2, 3, 4, 0] rfl ?_
        exact ih v1 v2 v3 (v4 + 1) σ14 w
      · have w := wp_f c15 w
        refine R_iload dX8_both_52 4 rfl ?_
        refine R_istore_n (lv' := [(3, .inl v4), (0, .inr (.inr (8, 0, 0))), (1, .inl v1), (2, .inl v2), (4, .inl v4)]) dX8_both_54 rfl (by decide) rfl ?_
        refine R_iinc (v := v4 + 1) (lv' := [(4, .inl (v4 + 1)), (3, .inl v4), (0, .inr (.inr (8, 0, 0))), (1, .inl v1), (2, .inl v2)]) dX8_both_55 4 rfl rfl (by decide) rfl ?_
        refine R_goto (tgt := 27) dX8_both_58 (by decide) ?_
        refine R_sub [2, 3, 4, 1, 0] rfl ?_
        exact ih v1 v2 v4 (v4 + 1) σ14 w
def g_X8_both (a0 : Int32) (a1 : Int32) (σ : AS) : Option (Int32 × AS) := (bnd (g_X6_hasRest a0 σ) fun r1 σ2 => (if r1 = 0 then some ((-1), σ2) else (if a1 < 0 then some ((-1), σ2) else (if (1 : Int32) < a1 then some ((-1), σ2) else g_X8_both_27 400 a0 a1 0 1 σ2))))
set_option maxRecDepth 100000 in
set_option maxHeartbeats 4000000 in
theorem ct_X8_both {l : Launch} {cx : CX} (hA : AD cx) (a0 : Int32) (a1 : Int32) (σ : AS) (Q : Int32 → AS → Prop) (w : wpO (g_X8_both a0 a1 σ) Q) : AMet l cx 4 yX8_both cX8_both 5 (some .int) [.inr (.inr (8, 0, 0)), .inl a0, .inl a1] σ (QI Q) := by
  unfold g_X8_both at w
  refine AMet.of (own := RX8) (by decide) rfl hA (Nat.le_of_ble_eq_true rfl) ?_
  show RJ l cx 4 RX8 cX8_both 5 (some .int) 0 [(0, .inr (.inr (8, 0, 0))), (1, .inl a0), (2, .inl a1)] [] σ _
  refine R_aload_n dX8_both_0 rfl 0 rfl ?_
  refine R_getfO (k := 0) acl8 oz8_0 (by decide) fl_RX8_10 dX8_both_1 rfl ?_
  refine R_iload_n dX8_both_4 rfl 1 rfl ?_
  refine R_callVI (As := [.inl a0]) acl6 rfl oz6_0 mi_X6_hasRest ml_RX8_150 rfl (Nat.le_of_ble_eq_true rfl) (by decide) dX8_both_5 (ct_X6_hasRest hA a0 σ _ (wp_bnd w)) (fun r1 σ2 w => ?_)
  refine R_if_eq (tgt := 20) dX8_both_8 (by decide) (fun c3 => ?_) (fun c3 => ?_)
  · have w := wp_t c3 w
    refine R_iconst (v := (-1)) dX8_both_20 (by decide) ?_
    exact R_ireturn dX8_both_21 rfl ⟨_, rfl, wp_some w⟩
  · have w := wp_f c3 w
    refine R_iload_n dX8_both_11 rfl 2 rfl ?_
    refine R_if_lt (tgt := 20) dX8_both_12 (by decide) (fun c4 => ?_) (fun c4 => ?_)
    · have w := wp_t c4 w
      refine R_iconst (v := (-1)) dX8_both_20 (by decide) ?_
      exact R_ireturn dX8_both_21 rfl ⟨_, rfl, wp_some w⟩
    · have w := wp_f c4 w
      refine R_iload_n dX8_both_15 rfl 2 rfl ?_
      refine R_iconst (v := 1) dX8_both_16 (by decide) ?_
      refine R_icmp_le (tgt := 22) dX8_both_17 (by decide) (fun c5 => ?_) (fun c5 => ?_)
      · have w := wp_f c5 w
        refine R_iconst (v := 0) dX8_both_22 (by decide) ?_
        refine R_istore_n (lv' := [(3, .inl 0), (0, .inr (.inr (8, 0, 0))), (1, .inl a0), (2, .inl a1)]) dX8_both_23 rfl (by decide) rfl ?_
        refine R_iconst (v := 1) dX8_both_24 (by decide) ?_
        refine R_istore (lv' := [(4, .inl 1), (3, .inl 0), (0, .inr (.inr (8, 0, 0))), (1, .inl a0), (2, .inl a1)]) dX8_both_25 (by decide) rfl ?_
        refine R_sub [2, 3, 4, 1, 0] rfl ?_
        exact rk_X8_both_27 hA _ 400 a0 a1 0 1 σ2 w
      · have w := wp_t c5 w
        refine R_iconst (v := (-1)) dX8_both_20 (by decide) ?_
        exact R_ireturn dX8_both_21 rfl ⟨_, rfl, wp_some w⟩
def g_X6_number (σ : AS) : Option (Int32 × AS) := some (gF σ 6 0 2, σ)
set_option maxRecDepth 100000 in
set_option maxHeartbeats 4000000 in
theorem ct_X6_number {l : Launch} {cx : CX} (hA : AD cx) (σ : AS) (Q : Int32 → AS → Prop) (w : wpO (g_X6_number σ) Q) : AMet l cx 0 yX6_number cX6_number 1 (some .int) [.inr (.inr (6, 0, 0))] σ (QI Q) := by
  unfold g_X6_number at w
  refine AMet.of (own := RX6) (by decide) rfl hA (Nat.le_of_ble_eq_true rfl) ?_
  show RJ l cx 0 RX6 cX6_number 1 (some .int) 0 [(0, .inr (.inr (6, 0, 0)))] [] σ _
  refine R_aload_n dX6_number_0 rfl 0 rfl ?_
  refine R_getfI (k := 2) acl6 oz6_0 (by decide) fl_RX6_18 dX6_number_1 rfl ?_
  exact R_ireturn dX6_number_4 rfl ⟨_, rfl, wp_some w⟩
def g_X1_comfortOfAll_4  (o : Nat)  : Nat → Int32 → Int32 → AS → Option (Int32 × AS)
  | 0, _, _, _ => none
  | f0 + 1, v1, v2, σ => (bnd (g_X6_number σ) fun r1 σ2 => (if v2 < r1 then (if inb v2 8 then (lt (v1 + (gA σ2 1 o 6 v2)) fun x5 => (g_X1_comfortOfAll_4 o f0) x5 (v2 + 1) σ2) else none) else some (v1, σ2)))
set_option maxRecDepth 100000 in
set_option maxHeartbeats 4000000 in
theorem rk_X1_comfortOfAll_4 {l : Launch} {cx : CX} (hA : AD cx)  (o : Nat) (ho : o < am_cnt 1)  (Q : Int32 → AS → Prop) : ∀ (f0 : Nat) (v1 : Int32) (v2 : Int32) (σ : AS), wpO (g_X1_comfortOfAll_4 o f0 v1 v2 σ) Q → RJ l cx 1 RX1 cX1_comfortOfAll 3 (some .int) 4 [(0, .inr (.inr (1, o, 0))), (1, .inl v1), (2, .inl v2)] [] σ (QI Q) := by
  intro f0
  induction f0 with
  | zero => intro v1 v2 σ w; exact wp_no w
  | succ f0 ih =>
    intro v1 v2 σ w
    rw [g_X1_comfortOfAll_4] at w
    refine R_iload_n dX1_comfortOfAll_4 rfl 2 rfl ?_
    refine R_aload_n dX1_comfortOfAll_5 rfl 0 rfl ?_
    refine R_getfO (k := 0) acl1 ho (by decide) fl_RX1_53 dX1_comfortOfAll_6 rfl ?_
    refine R_callVI (As := []) acl6 rfl oz6_0 mi_X6_number ml_RX1_89 rfl (Nat.le_of_ble_eq_true rfl) (by decide) dX1_comfortOfAll_9 (ct_X6_number hA σ _ (wp_bnd w)) (fun r1 σ2 w => ?_)
    refine R_icmp_ge (tgt := 30) dX1_comfortOfAll_12 (by decide) (fun c3 => ?_) (fun c3 => ?_)
    · have w := wp_f c3 w
      refine R_iload_n dX1_comfortOfAll_30 rfl 1 rfl ?_
      exact R_ireturn dX1_comfortOfAll_31 rfl ⟨_, rfl, wp_some w⟩
    · have w := wp_t c3 w
      refine R_iload_n dX1_comfortOfAll_15 rfl 1 rfl ?_
      refine R_aload_n dX1_comfortOfAll_16 rfl 0 rfl ?_
      refine R_getfA (k := 6) acl1 ho (by decide) fl_RX1_24 dX1_comfortOfAll_17 rfl ?_
      refine R_iload_n dX1_comfortOfAll_20 rfl 2 rfl ?_
      obtain ⟨b4, w⟩ := wp_chk w
      refine R_iald rfl ho b4 dX1_comfortOfAll_21 ?_
      refine R_iadd dX1_comfortOfAll_22 ?_
      refine R_nameI w ?_; clear w; intro x5 w
      refine R_istore_n (lv' := [(1, .inl x5), (0, .inr (.inr (1, o, 0))), (2, .inl v2)]) dX1_comfortOfAll_23 rfl (by decide) rfl ?_
      refine R_iinc (v := v2 + 1) (lv' := [(2, .inl (v2 + 1)), (1, .inl x5), (0, .inr (.inr (1, o, 0)))]) dX1_comfortOfAll_24 2 rfl rfl (by decide) rfl ?_
      refine R_goto (tgt := 4) dX1_comfortOfAll_27 (by decide) ?_
      refine R_sub [2, 1, 0] rfl ?_
      exact ih x5 (v2 + 1) σ2 w
def g_X1_comfortOfAll (o : Nat) (σ : AS) : Option (Int32 × AS) := g_X1_comfortOfAll_4 o 400 0 0 σ
set_option maxRecDepth 100000 in
set_option maxHeartbeats 4000000 in
theorem ct_X1_comfortOfAll {l : Launch} {cx : CX} (hA : AD cx) (o : Nat) (ho : o < am_cnt 1) (σ : AS) (Q : Int32 → AS → Prop) (w : wpO (g_X1_comfortOfAll o σ) Q) : AMet l cx 1 yX1_comfortOfAll cX1_comfortOfAll 3 (some .int) [.inr (.inr (1, o, 0))] σ (QI Q) := by
  unfold g_X1_comfortOfAll at w
  refine AMet.of (own := RX1) (by decide) rfl hA (Nat.le_of_ble_eq_true rfl) ?_
  show RJ l cx 1 RX1 cX1_comfortOfAll 3 (some .int) 0 [(0, .inr (.inr (1, o, 0)))] [] σ _
  refine R_iconst (v := 0) dX1_comfortOfAll_0 (by decide) ?_
  refine R_istore_n (lv' := [(1, .inl 0), (0, .inr (.inr (1, o, 0)))]) dX1_comfortOfAll_1 rfl (by decide) rfl ?_
  refine R_iconst (v := 0) dX1_comfortOfAll_2 (by decide) ?_
  refine R_istore_n (lv' := [(2, .inl 0), (1, .inl 0), (0, .inr (.inr (1, o, 0)))]) dX1_comfortOfAll_3 rfl (by decide) rfl ?_
  refine R_sub [2, 1, 0] rfl ?_
  exact rk_X1_comfortOfAll_4 hA o ho _ 400 0 0 σ w
def g_X1_begin_63  (o : Nat) (o1 : Nat)  : Nat → Int32 → Int32 → AS → Option (Unit × AS)
  | 0, _, _, _ => none
  | f0 + 1, v2, v3, σ => (if v3 < 8 then (if inb v3 8 then (lt (sA σ 1 o 8 v3 v3) fun σ12 => (g_X1_begin_63 o o1 f0) v2 (v3 + 1) σ12) else none) else (lt (sF σ 1 o 11 (gF σ 1 o1 11)) fun σ7 => (lt (sF σ7 1 o 12 0) fun σ8 => (lt (sF σ8 1 o 13 v2) fun σ9 => (lt (sF σ9 1 o 14 (gF σ9 1 o 11)) fun σ10 => some ((), σ10))))))
set_option maxRecDepth 100000 in
set_option maxHeartbeats 4000000 in
theorem rk_X1_begin_63 {l : Launch} {cx : CX} (hA : AD cx)  (o : Nat) (ho : o < am_cnt 1) (o1 : Nat) (ho1 : o1 < am_cnt 1)  (Q : Unit → AS → Prop) : ∀ (f0 : Nat) (v2 : Int32) (v3 : Int32) (σ : AS), wpO (g_X1_begin_63 o o1 f0 v2 v3 σ) Q → RJ l cx 2 RX1 cX1_begin 4 none 63 [(0, .inr (.inr (1, o, 0))), (1, .inr (.inr (1, o1, 0))), (2, .inl v2), (3, .inl v3)] [] σ (QV Q) := by
  intro f0
  induction f0 with
  | zero => intro v2 v3 σ w; exact wp_no w
  | succ f0 ih =>
    intro v2 v3 σ w
    rw [g_X1_begin_63] at w
    refine R_iload_n dX1_begin_63 rfl 3 rfl ?_
    refine R_bipush (v := 8) dX1_begin_64 (by decide) ?_
    refine R_icmp_ge (tgt := 82) dX1_begin_66 (by decide) (fun c6 => ?_) (fun c6 => ?_)
    · have w := wp_f c6 w
      refine R_aload_n dX1_begin_82 rfl 0 rfl ?_
      refine R_aload_n dX1_begin_83 rfl 1 rfl ?_
      refine R_getfI (k := 11) acl1 ho1 (by decide) fl_RX1_40 dX1_begin_84 rfl ?_
      refine R_putf (k := 11) (ty := .int) acl1 ho (by decide) fl_RX1_40 rfl (tyX1_ok 11 (by decide)) (Or.inl rfl) dX1_begin_87 rfl ?_
      refine R_nameS w ?_; clear w; intro σ7 w
      refine R_aload_n dX1_begin_90 rfl 0 rfl ?_
      refine R_iconst (v := 0) dX1_begin_91 (by decide) ?_
      refine R_putf (k := 12) (ty := .int) acl1 ho (by decide) fl_RX1_44 rfl (tyX1_ok 12 (by decide)) (Or.inl rfl) dX1_begin_92 rfl ?_
      refine R_nameS w ?_; clear w; intro σ8 w
      refine R_aload_n dX1_begin_95 rfl 0 rfl ?_
      refine R_iload_n dX1_begin_96 rfl 2 rfl ?_
      refine R_putf (k := 13) (ty := .int) acl1 ho (by decide) fl_RX1_47 rfl (tyX1_ok 13 (by decide)) (Or.inl rfl) dX1_begin_97 rfl ?_
      refine R_nameS w ?_; clear w; intro σ9 w
      refine R_aload_n dX1_begin_100 rfl 0 rfl ?_
      refine R_aload_n dX1_begin_101 rfl 0 rfl ?_
      refine R_getfI (k := 11) acl1 ho (by decide) fl_RX1_40 dX1_begin_102 rfl ?_
      refine R_putf (k := 14) (ty := .int) acl1 ho (by decide) fl_RX1_50 rfl (tyX1_ok 14 (by decide)) (Or.inl rfl) dX1_begin_105 rfl ?_
      refine R_nameS w ?_; clear w; intro σ10 w
      exact R_vreturn dX1_begin_108 rfl ⟨rfl, wp_some w⟩
    · have w := wp_t c6 w
      refine R_aload_n dX1_begin_69 rfl 0 rfl ?_
      refine R_getfA (k := 8) acl1 ho (by decide) fl_RX1_30 dX1_begin_70 rfl ?_
      refine R_iload_n dX1_begin_73 rfl 3 rfl ?_
      refine R_iload_n dX1_begin_74 rfl 3 rfl ?_
      obtain ⟨b11, w⟩ := wp_chk w
      refine R_iast rfl ho b11 dX1_begin_75 ?_
      refine R_nameS w ?_; clear w; intro σ12 w
      refine R_iinc (v := v3 + 1) (lv' := [(3, .inl (v3 + 1)), (0, .inr (.inr (1, o, 0))), (1, .inr (.inr (1, o1, 0))), (2, .inl v2)]) dX1_begin_76 3 rfl rfl (by decide) rfl ?_
      refine R_goto (tgt := 63) dX1_begin_79 (by decide) ?_
      refine R_sub [1, 2, 3, 0] rfl ?_
      exact ih v2 (v3 + 1) σ12 w
def g_X1_begin (o : Nat) (o1 : Nat) (a1 : Int32) (σ : AS) : Option (Unit × AS) := (lt (cpyA σ 1 o1 2 1 o 2 0 0 7) fun σ1 => (lt (cpyA σ1 1 o1 3 1 o 3 0 0 7) fun σ2 => (lt (cpyA σ2 1 o1 4 1 o 4 0 0 7) fun σ3 => (lt (filA σ3 1 o 6 8 0) fun σ4 => (lt (filA σ4 1 o 7 8 0) fun σ5 => g_X1_begin_63 o o1 400 a1 0 σ5)))))
set_option maxRecDepth 100000 in
set_option maxHeartbeats 4000000 in
theorem ct_X1_begin {l : Launch} {cx : CX} (hA : AD cx) (o : Nat) (ho : o < am_cnt 1) (o1 : Nat) (ho1 : o1 < am_cnt 1) (a1 : Int32) (σ : AS) (Q : Unit → AS → Prop) (w : wpO (g_X1_begin o o1 a1 σ) Q) : AMet l cx 2 yX1_begin cX1_begin 4 none [.inr (.inr (1, o, 0)), .inr (.inr (1, o1, 0)), .inl a1] σ (QV Q) := by
  unfold g_X1_begin at w
  refine AMet.of (own := RX1) (by decide) rfl hA (Nat.le_of_ble_eq_true rfl) ?_
  show RJ l cx 2 RX1 cX1_begin 4 none 0 [(0, .inr (.inr (1, o, 0))), (1, .inr (.inr (1, o1, 0))), (2, .inl a1)] [] σ _
  refine R_aload_n dX1_begin_0 rfl 1 rfl ?_
  refine R_getfA (k := 2) acl1 ho1 (by decide) fl_RX1_9 dX1_begin_1 rfl ?_
  refine R_iconst (v := 0) dX1_begin_4 (by decide) ?_
  refine R_aload_n dX1_begin_5 rfl 0 rfl ?_
  refine R_getfA (k := 2) acl1 ho (by decide) fl_RX1_9 dX1_begin_6 rfl ?_
  refine R_iconst (v := 0) dX1_begin_9 (by decide) ?_
  refine R_bipush (v := 7) dX1_begin_10 (by decide) ?_
  refine R_copyA rfl rfl ho1 ho (by decide) ml_RX1_67 (by decide) (Nat.le_of_ble_eq_true rfl) dX1_begin_12 ?_
  refine R_nameS w ?_; clear w; intro σ1 w
  refine R_aload_n dX1_begin_15 rfl 1 rfl ?_
  refine R_getfA (k := 3) acl1 ho1 (by decide) fl_RX1_15 dX1_begin_16 rfl ?_
  refine R_iconst (v := 0) dX1_begin_19 (by decide) ?_
  refine R_aload_n dX1_begin_20 rfl 0 rfl ?_
  refine R_getfA (k := 3) acl1 ho (by decide) fl_RX1_15 dX1_begin_21 rfl ?_
  refine R_iconst (v := 0) dX1_begin_24 (by decide) ?_
  refine R_bipush (v := 7) dX1_begin_25 (by decide) ?_
  refine R_copyA rfl rfl ho1 ho (by decide) ml_RX1_67 (by decide) (Nat.le_of_ble_eq_true rfl) dX1_begin_27 ?_
  refine R_nameS w ?_; clear w; intro σ2 w
  refine R_aload_n dX1_begin_30 rfl 1 rfl ?_
  refine R_getfA (k := 4) acl1 ho1 (by decide) fl_RX1_18 dX1_begin_31 rfl ?_
  refine R_iconst (v := 0) dX1_begin_34 (by decide) ?_
  refine R_aload_n dX1_begin_35 rfl 0 rfl ?_
  refine R_getfA (k := 4) acl1 ho (by decide) fl_RX1_18 dX1_begin_36 rfl ?_
  refine R_iconst (v := 0) dX1_begin_39 (by decide) ?_
  refine R_bipush (v := 7) dX1_begin_40 (by decide) ?_
  refine R_copyA rfl rfl ho1 ho (by decide) ml_RX1_67 (by decide) (Nat.le_of_ble_eq_true rfl) dX1_begin_42 ?_
  refine R_nameS w ?_; clear w; intro σ3 w
  refine R_aload_n dX1_begin_45 rfl 0 rfl ?_
  refine R_getfA (k := 6) acl1 ho (by decide) fl_RX1_24 dX1_begin_46 rfl ?_
  refine R_iconst (v := 0) dX1_begin_49 (by decide) ?_
  refine R_callSV (As := [.inr (.inr (1, o, 6 + 1)), .inl 0]) mi_J7_fill_53178 ml_RX1_61 rfl (Nat.le_of_ble_eq_true rfl) (by decide) dX1_begin_50 (ct_filA hA rfl ho (by decide) w) (fun σ4 w => ?_)
  refine R_aload_n dX1_begin_53 rfl 0 rfl ?_
  refine R_getfA (k := 7) acl1 ho (by decide) fl_RX1_27 dX1_begin_54 rfl ?_
  refine R_iconst (v := 0) dX1_begin_57 (by decide) ?_
  refine R_callSV (As := [.inr (.inr (1, o, 7 + 1)), .inl 0]) mi_J7_fill_53178 ml_RX1_61 rfl (Nat.le_of_ble_eq_true rfl) (by decide) dX1_begin_58 (ct_filA hA rfl ho (by decide) w) (fun σ5 w => ?_)
  refine R_iconst (v := 0) dX1_begin_61 (by decide) ?_
  refine R_istore_n (lv' := [(3, .inl 0), (0, .inr (.inr (1, o, 0))), (1, .inr (.inr (1, o1, 0))), (2, .inl a1)]) dX1_begin_62 rfl (by decide) rfl ?_
  refine R_sub [1, 2, 3, 0] rfl ?_
  exact rk_X1_begin_63 hA o ho o1 ho1 _ 400 a1 0 σ5 w
def g_X1_changeSeats (o : Nat) (a0 : Int32) (a1 : Int32) (σ : AS) : Option (Unit × AS) := (bnd (g_X6_has a0 σ) fun r1 σ2 => (if r1 = 0 then some ((), σ2) else (bnd (g_X6_has a1 σ2) fun r4 σ5 => (if r4 = 0 then some ((), σ5) else (if inb a0 8 then (lt (sA σ5 1 o 8 a0 a1) fun σ8 => (if inb a1 8 then (lt (sA σ8 1 o 8 a1 a0) fun σ10 => some ((), σ10)) else none)) else none)))))
set_option maxRecDepth 100000 in
set_option maxHeartbeats 4000000 in
theorem ct_X1_changeSeats {l : Launch} {cx : CX} (hA : AD cx) (o : Nat) (ho : o < am_cnt 1) (a0 : Int32) (a1 : Int32) (σ : AS) (Q : Unit → AS → Prop) (w : wpO (g_X1_changeSeats o a0 a1 σ) Q) : AMet l cx 1 yX1_changeSeats cX1_changeSeats 3 none [.inr (.inr (1, o, 0)), .inl a0, .inl a1] σ (QV Q) := by
  unfold g_X1_changeSeats at w
  refine AMet.of (own := RX1) (by decide) rfl hA (Nat.le_of_ble_eq_true rfl) ?_
  show RJ l cx 1 RX1 cX1_changeSeats 3 none 0 [(0, .inr (.inr (1, o, 0))), (1, .inl a0), (2, .inl a1)] [] σ _
  refine R_aload_n dX1_changeSeats_0 rfl 0 rfl ?_
  refine R_getfO (k := 0) acl1 ho (by decide) fl_RX1_53 dX1_changeSeats_1 rfl ?_
  refine R_iload_n dX1_changeSeats_4 rfl 1 rfl ?_
  refine R_callVI (As := [.inl a0]) acl6 rfl oz6_0 mi_X6_has ml_RX1_77 rfl (Nat.le_of_ble_eq_true rfl) (by decide) dX1_changeSeats_5 (ct_X6_has hA a0 σ _ (wp_bnd w)) (fun r1 σ2 w => ?_)
  refine R_if_eq (tgt := 22) dX1_changeSeats_8 (by decide) (fun c3 => ?_) (fun c3 => ?_)
  · have w := wp_t c3 w
    exact R_vreturn dX1_changeSeats_22 rfl ⟨rfl, wp_some w⟩
  · have w := wp_f c3 w
    refine R_aload_n dX1_changeSeats_11 rfl 0 rfl ?_
    refine R_getfO (k := 0) acl1 ho (by decide) fl_RX1_53 dX1_changeSeats_12 rfl ?_
    refine R_iload_n dX1_changeSeats_15 rfl 2 rfl ?_
    refine R_callVI (As := [.inl a1]) acl6 rfl oz6_0 mi_X6_has ml_RX1_77 rfl (Nat.le_of_ble_eq_true rfl) (by decide) dX1_changeSeats_16 (ct_X6_has hA a1 σ2 _ (wp_bnd w)) (fun r4 σ5 w => ?_)
    refine R_if_ne (tgt := 23) dX1_changeSeats_19 (by decide) (fun c6 => ?_) (fun c6 => ?_)
    · have w := wp_f c6 w
      refine R_aload_n dX1_changeSeats_23 rfl 0 rfl ?_
      refine R_getfA (k := 8) acl1 ho (by decide) fl_RX1_30 dX1_changeSeats_24 rfl ?_
      refine R_iload_n dX1_changeSeats_27 rfl 1 rfl ?_
      refine R_iload_n dX1_changeSeats_28 rfl 2 rfl ?_
      obtain ⟨b7, w⟩ := wp_chk w
      refine R_iast rfl ho b7 dX1_changeSeats_29 ?_
      refine R_nameS w ?_; clear w; intro σ8 w
      refine R_aload_n dX1_changeSeats_30 rfl 0 rfl ?_
      refine R_getfA (k := 8) acl1 ho (by decide) fl_RX1_30 dX1_changeSeats_31 rfl ?_
      refine R_iload_n dX1_changeSeats_34 rfl 2 rfl ?_
      refine R_iload_n dX1_changeSeats_35 rfl 1 rfl ?_
      obtain ⟨b9, w⟩ := wp_chk w
      refine R_iast rfl ho b9 dX1_changeSeats_36 ?_
      refine R_nameS w ?_; clear w; intro σ10 w
      exact R_vreturn dX1_changeSeats_37 rfl ⟨rfl, wp_some w⟩
    · have w := wp_t c6 w
      exact R_vreturn dX1_changeSeats_22 rfl ⟨rfl, wp_some w⟩
def g_X1_fightsOfSeat_21  (o : Nat)  (v1 : Int32) (s0 : Int32) (σ : AS) : Option (Int32 × AS) := (bnd (g_X6_hasRest (v1 - 1) σ) fun r4 σ5 => (if r4 = 0 then some (s0, σ5) else (if inb (v1 - 1) 7 then some (s0 + (gA σ5 1 o 5 (v1 - 1)), σ5) else none)))
set_option maxRecDepth 100000 in
set_option maxHeartbeats 4000000 in
theorem rk_X1_fightsOfSeat_21 {l : Launch} {cx : CX} (hA : AD cx)  (o : Nat) (ho : o < am_cnt 1)  (Q : Int32 → AS → Prop) (v1 : Int32) (s0 : Int32) (σ : AS) (w : wpO (g_X1_fightsOfSeat_21 o v1 s0 σ) Q) : RJ l cx 1 RX1 cX1_fightsOfSeat 3 (some .int) 21 [(0, .inr (.inr (1, o, 0))), (1, .inl v1)] [.inl s0] σ (QI Q) := by
  unfold g_X1_fightsOfSeat_21 at w
  refine R_istore_n (lv' := [(2, .inl s0), (0, .inr (.inr (1, o, 0))), (1, .inl v1)]) dX1_fightsOfSeat_21 rfl (by decide) rfl ?_
  refine R_aload_n dX1_fightsOfSeat_22 rfl 1 rfl ?_
  refine R_getfO (k := 0) acl1 ho (by decide) fl_RX1_53 dX1_fightsOfSeat_23 rfl ?_
  refine R_iload_n dX1_fightsOfSeat_26 rfl 2 rfl ?_
  refine R_iconst (v := 1) dX1_fightsOfSeat_27 (by decide) ?_
  refine R_isub dX1_fightsOfSeat_28 ?_
  refine R_callVI (As := [.inl (v1 - 1)]) acl6 rfl oz6_0 mi_X6_hasRest ml_RX1_122 rfl (Nat.le_of_ble_eq_true rfl) (by decide) dX1_fightsOfSeat_29 (ct_X6_hasRest hA (v1 - 1) σ _ (wp_bnd w)) (fun r4 σ5 w => ?_)
  refine R_if_eq (tgt := 48) dX1_fightsOfSeat_32 (by decide) (fun c6 => ?_) (fun c6 => ?_)
  · have w := wp_t c6 w
    refine R_iload_n dX1_fightsOfSeat_48 rfl 0 rfl ?_
    exact R_ireturn dX1_fightsOfSeat_49 rfl ⟨_, rfl, wp_some w⟩
  · have w := wp_f c6 w
    refine R_iload_n dX1_fightsOfSeat_35 rfl 0 rfl ?_
    refine R_aload_n dX1_fightsOfSeat_36 rfl 1 rfl ?_
    refine R_getfA (k := 5) acl1 ho (by decide) fl_RX1_21 dX1_fightsOfSeat_37 rfl ?_
    refine R_iload_n dX1_fightsOfSeat_40 rfl 2 rfl ?_
    refine R_iconst (v := 1) dX1_fightsOfSeat_41 (by decide) ?_
    refine R_isub dX1_fightsOfSeat_42 ?_
    obtain ⟨b7, w⟩ := wp_chk w
    refine R_iald rfl ho b7 dX1_fightsOfSeat_43 ?_
    refine R_iadd dX1_fightsOfSeat_44 ?_
    refine R_goto (tgt := 49) dX1_fightsOfSeat_45 (by decide) ?_
    exact R_ireturn dX1_fightsOfSeat_49 rfl ⟨_, rfl, wp_some w⟩
def g_X1_fightsOfSeat (o : Nat) (a0 : Int32) (σ : AS) : Option (Int32 × AS) := (bnd (g_X6_hasRest a0 σ) fun r1 σ2 => (if r1 = 0 then g_X1_fightsOfSeat_21 o a0 0 σ2 else (if inb a0 7 then g_X1_fightsOfSeat_21 o a0 (gA σ2 1 o 5 a0) σ2 else none)))
set_option maxRecDepth 100000 in
set_option maxHeartbeats 4000000 in
theorem ct_X1_fightsOfSeat {l : Launch} {cx : CX} (hA : AD cx) (o : Nat) (ho : o < am_cnt 1) (a0 : Int32) (σ : AS) (Q : Int32 → AS → Prop) (w : wpO (g_X1_fightsOfSeat o a0 σ) Q) : AMet l cx 1 yX1_fightsOfSeat cX1_fightsOfSeat 3 (some .int) [.inr (.inr (1, o, 0)), .inl a0] σ (QI Q) := by
  unfold g_X1_fightsOfSeat at w
  refine AMet.of (own := RX1) (by decide) rfl hA (Nat.le_of_ble_eq_true rfl) ?_
  show RJ l cx 1 RX1 cX1_fightsOfSeat 3 (some .int) 0 [(0, .inr (.inr (1, o, 0))), (1, .inl a0)] [] σ _
  refine R_aload_n dX1_fightsOfSeat_0 rfl 0 rfl ?_
  refine R_getfO (k := 0) acl1 ho (by decide) fl_RX1_53 dX1_fightsOfSeat_1 rfl ?_
  refine R_iload_n dX1_fightsOfSeat_4 rfl 1 rfl ?_
  refine R_callVI (As := [.inl a0]) acl6 rfl oz6_0 mi_X6_hasRest ml_RX1_122 rfl (Nat.le_of_ble_eq_true rfl) (by decide) dX1_fightsOfSeat_5 (ct_X6_hasRest hA a0 σ _ (wp_bnd w)) (fun r1 σ2 w => ?_)
  refine R_if_eq (tgt := 20) dX1_fightsOfSeat_8 (by decide) (fun c3 => ?_) (fun c3 => ?_)
  · have w := wp_t c3 w
    refine R_iconst (v := 0) dX1_fightsOfSeat_20 (by decide) ?_
    refine R_sub [0, 1] rfl ?_
    exact rk_X1_fightsOfSeat_21 hA o ho _ a0 0 σ2 w
  · have w := wp_f c3 w
    refine R_aload_n dX1_fightsOfSeat_11 rfl 0 rfl ?_
    refine R_getfA (k := 5) acl1 ho (by decide) fl_RX1_21 dX1_fightsOfSeat_12 rfl ?_
    refine R_iload_n dX1_fightsOfSeat_15 rfl 1 rfl ?_
    obtain ⟨b8, w⟩ := wp_chk w
    refine R_iald rfl ho b8 dX1_fightsOfSeat_16 ?_
    refine R_goto (tgt := 21) dX1_fightsOfSeat_17 (by decide) ?_
    refine R_sub [0, 1] rfl ?_
    exact rk_X1_fightsOfSeat_21 hA o ho _ a0 (gA σ2 1 o 5 a0) σ2 w
def g_X1_inchesOfSeat_21  (o : Nat)  (v1 : Int32) (s0 : Int32) (σ : AS) : Option (Int32 × AS) := (bnd (g_X6_hasRest (v1 - 1) σ) fun r4 σ5 => (if r4 = 0 then some (s0, σ5) else (if inb (v1 - 1) 7 then some (s0 + (gA σ5 1 o 4 (v1 - 1)), σ5) else none)))
set_option maxRecDepth 100000 in
set_option maxHeartbeats 4000000 in
theorem rk_X1_inchesOfSeat_21 {l : Launch} {cx : CX} (hA : AD cx)  (o : Nat) (ho : o < am_cnt 1)  (Q : Int32 → AS → Prop) (v1 : Int32) (s0 : Int32) (σ : AS) (w : wpO (g_X1_inchesOfSeat_21 o v1 s0 σ) Q) : RJ l cx 1 RX1 cX1_inchesOfSeat 3 (some .int) 21 [(0, .inr (.inr (1, o, 0))), (1, .inl v1)] [.inl s0] σ (QI Q) := by
  unfold g_X1_inchesOfSeat_21 at w
  refine R_istore_n (lv' := [(2, .inl s0), (0, .inr (.inr (1, o, 0))), (1, .inl v1)]) dX1_inchesOfSeat_21 rfl (by decide) rfl ?_
  refine R_aload_n dX1_inchesOfSeat_22 rfl 1 rfl ?_
  refine R_getfO (k := 0) acl1 ho (by decide) fl_RX1_53 dX1_inchesOfSeat_23 rfl ?_
  refine R_iload_n dX1_inchesOfSeat_26 rfl 2 rfl ?_
  refine R_iconst (v := 1) dX1_inchesOfSeat_27 (by decide) ?_
  refine R_isub dX1_inchesOfSeat_28 ?_
  refine R_callVI (As := [.inl (v1 - 1)]) acl6 rfl oz6_0 mi_X6_hasRest ml_RX1_122 rfl (Nat.le_of_ble_eq_true rfl) (by decide) dX1_inchesOfSeat_29 (ct_X6_hasRest hA (v1 - 1) σ _ (wp_bnd w)) (fun r4 σ5 w => ?_)
  refine R_if_eq (tgt := 48) dX1_inchesOfSeat_32 (by decide) (fun c6 => ?_) (fun c6 => ?_)
  · have w := wp_t c6 w
    refine R_iload_n dX1_inchesOfSeat_48 rfl 0 rfl ?_
    exact R_ireturn dX1_inchesOfSeat_49 rfl ⟨_, rfl, wp_some w⟩
  · have w := wp_f c6 w
    refine R_iload_n dX1_inchesOfSeat_35 rfl 0 rfl ?_
    refine R_aload_n dX1_inchesOfSeat_36 rfl 1 rfl ?_
    refine R_getfA (k := 4) acl1 ho (by decide) fl_RX1_18 dX1_inchesOfSeat_37 rfl ?_
    refine R_iload_n dX1_inchesOfSeat_40 rfl 2 rfl ?_
    refine R_iconst (v := 1) dX1_inchesOfSeat_41 (by decide) ?_
    refine R_isub dX1_inchesOfSeat_42 ?_
    obtain ⟨b7, w⟩ := wp_chk w
    refine R_iald rfl ho b7 dX1_inchesOfSeat_43 ?_
    refine R_iadd dX1_inchesOfSeat_44 ?_
    refine R_goto (tgt := 49) dX1_inchesOfSeat_45 (by decide) ?_
    exact R_ireturn dX1_inchesOfSeat_49 rfl ⟨_, rfl, wp_some w⟩
def g_X1_inchesOfSeat (o : Nat) (a0 : Int32) (σ : AS) : Option (Int32 × AS) := (bnd (g_X6_hasRest a0 σ) fun r1 σ2 => (if r1 = 0 then g_X1_inchesOfSeat_21 o a0 0 σ2 else (if inb a0 7 then g_X1_inchesOfSeat_21 o a0 (gA σ2 1 o 3 a0) σ2 else none)))
set_option maxRecDepth 100000 in
set_option maxHeartbeats 4000000 in
theorem ct_X1_inchesOfSeat {l : Launch} {cx : CX} (hA : AD cx) (o : Nat) (ho : o < am_cnt 1) (a0 : Int32) (σ : AS) (Q : Int32 → AS → Prop) (w : wpO (g_X1_inchesOfSeat o a0 σ) Q) : AMet l cx 1 yX1_inchesOfSeat cX1_inchesOfSeat 3 (some .int) [.inr (.inr (1, o, 0)), .inl a0] σ (QI Q) := by
  unfold g_X1_inchesOfSeat at w
  refine AMet.of (own := RX1) (by decide) rfl hA (Nat.le_of_ble_eq_true rfl) ?_
  show RJ l cx 1 RX1 cX1_inchesOfSeat 3 (some .int) 0 [(0, .inr (.inr (1, o, 0))), (1, .inl a0)] [] σ _
  refine R_aload_n dX1_inchesOfSeat_0 rfl 0 rfl ?_
  refine R_getfO (k := 0) acl1 ho (by decide) fl_RX1_53 dX1_inchesOfSeat_1 rfl ?_
  refine R_iload_n dX1_inchesOfSeat_4 rfl 1 rfl ?_
  refine R_callVI (As := [.inl a0]) acl6 rfl oz6_0 mi_X6_hasRest ml_RX1_122 rfl (Nat.le_of_ble_eq_true rfl) (by decide) dX1_inchesOfSeat_5 (ct_X6_hasRest hA a0 σ _ (wp_bnd w)) (fun r1 σ2 w => ?_)
  refine R_if_eq (tgt := 20) dX1_inchesOfSeat_8 (by decide) (fun c3 => ?_) (fun c3 => ?_)
  · have w := wp_t c3 w
    refine R_iconst (v := 0) dX1_inchesOfSeat_20 (by decide) ?_
    refine R_sub [0, 1] rfl ?_
    exact rk_X1_inchesOfSeat_21 hA o ho _ a0 0 σ2 w
  · have w := wp_f c3 w
    refine R_aload_n dX1_inchesOfSeat_11 rfl 0 rfl ?_
    refine R_getfA (k := 3) acl1 ho (by decide) fl_RX1_15 dX1_inchesOfSeat_12 rfl ?_
    refine R_iload_n dX1_inchesOfSeat_15 rfl 1 rfl ?_
    obtain ⟨b8, w⟩ := wp_chk w
    refine R_iald rfl ho b8 dX1_inchesOfSeat_16 ?_
    refine R_goto (tgt := 21) dX1_inchesOfSeat_17 (by decide) ?_
    refine R_sub [0, 1] rfl ?_
    exact rk_X1_inchesOfSeat_21 hA o ho _ a0 (gA σ2 1 o 3 a0) σ2 w
def g_X6_how (a0 : Int32) (a1 : Int32) (σ : AS) : Option (Int32 × AS) := (bnd (g_X6_has a0 σ) fun r1 σ2 => (if r1 = 0 then some (0, σ2) else (if a1 < 0 then some (0, σ2) else (if a1 < 24 then (if inb ((a0 * 24) + a1) 192 then some (gA σ2 6 0 1 ((a0 * 24) + a1), σ2) else none) else some (0, σ2)))))
set_option maxRecDepth 100000 in
set_option maxHeartbeats 4000000 in
theorem ct_X6_how {l : Launch} {cx : CX} (hA : AD cx) (a0 : Int32) (a1 : Int32) (σ : AS) (Q : Int32 → AS → Prop) (w : wpO (g_X6_how a0 a1 σ) Q) : AMet l cx 1 yX6_how cX6_how 3 (some .int) [.inr (.inr (6, 0, 0)), .inl a0, .inl a1] σ (QI Q) := by
  unfold g_X6_how at w
  refine AMet.of (own := RX6) (by decide) rfl hA (Nat.le_of_ble_eq_true rfl) ?_
  show RJ l cx 1 RX6 cX6_how 3 (some .int) 0 [(0, .inr (.inr (6, 0, 0))), (1, .inl a0), (2, .inl a1)] [] σ _
  refine R_aload_n dX6_how_0 rfl 0 rfl ?_
  refine R_iload_n dX6_how_1 rfl 1 rfl ?_
  refine R_callVI (As := [.inl a0]) acl6 rfl oz6_0 mi_X6_has ml_RX6_26 rfl (Nat.le_of_ble_eq_true rfl) (by decide) dX6_how_2 (ct_X6_has hA a0 σ _ (wp_bnd w)) (fun r1 σ2 w => ?_)
  refine R_if_eq (tgt := 18) dX6_how_5 (by decide) (fun c3 => ?_) (fun c3 => ?_)
  · have w := wp_t c3 w
    refine R_iconst (v := 0) dX6_how_18 (by decide) ?_
    exact R_ireturn dX6_how_19 rfl ⟨_, rfl, wp_some w⟩
  · have w := wp_f c3 w
    refine R_iload_n dX6_how_8 rfl 2 rfl ?_
    refine R_if_lt (tgt := 18) dX6_how_9 (by decide) (fun c4 => ?_) (fun c4 => ?_)
    · have w := wp_t c4 w
      refine R_iconst (v := 0) dX6_how_18 (by decide) ?_
      exact R_ireturn dX6_how_19 rfl ⟨_, rfl, wp_some w⟩
    · have w := wp_f c4 w
      refine R_iload_n dX6_how_12 rfl 2 rfl ?_
      refine R_bipush (v := 24) dX6_how_13 (by decide) ?_
      refine R_icmp_lt (tgt := 20) dX6_how_15 (by decide) (fun c5 => ?_) (fun c5 => ?_)
      · have w := wp_t c5 w
        refine R_aload_n dX6_how_20 rfl 0 rfl ?_
        refine R_getfA (k := 1) acl6 oz6_0 (by decide) fl_RX6_15 dX6_how_21 rfl ?_
        refine R_iload_n dX6_how_24 rfl 1 rfl ?_
        refine R_bipush (v := 24) dX6_how_25 (by decide) ?_
        refine R_imul dX6_how_27 ?_
        refine R_iload_n dX6_how_28 rfl 2 rfl ?_
        refine R_iadd dX6_how_29 ?_
        obtain ⟨b6, w⟩ := wp_chk w
        refine R_iald rfl oz6_0 b6 dX6_how_30 ?_
        exact R_ireturn dX6_how_31 rfl ⟨_, rfl, wp_some w⟩
      · have w := wp_f c5 w
        refine R_iconst (v := 0) dX6_how_18 (by decide) ?_
        exact R_ireturn dX6_how_19 rfl ⟨_, rfl, wp_some w⟩
def g_X1_comfortAt (o : Nat) (a0 : Int32) (σ : AS) : Option (Int32 × AS) := (if inb a0 8 then (lt (gA σ 1 o 8 a0) fun x2 => (bnd (g_X6_how x2 (gF σ 1 o 11) σ) fun r3 σ4 => (if r3 = 2 then some (0, σ4) else (bnd (g_X1_inchesOfSeat o a0 σ4) fun r6 σ7 => (bnd (g_X6_trait x2 0 σ7) fun r8 σ9 => (bnd (g_X1_fightsOfSeat o a0 σ9) fun r10 σ11 => some ((3 * (mni r6 r8)) - (2 * r10), σ11))))))) else none)
set_option maxRecDepth 100000 in
set_option maxHeartbeats 4000000 in
theorem ct_X1_comfortAt {l : Launch} {cx : CX} (hA : AD cx) (o : Nat) (ho : o < am_cnt 1) (a0 : Int32) (σ : AS) (Q : Int32 → AS → Prop) (w : wpO (g_X1_comfortAt o a0 σ) Q) : AMet l cx 2 yX1_comfortAt cX1_comfortAt 3 (some .int) [.inr (.inr (1, o, 0)), .inl a0] σ (QI Q) := by
  unfold g_X1_comfortAt at w
  refine AMet.of (own := RX1) (by decide) rfl hA (Nat.le_of_ble_eq_true rfl) ?_
  show RJ l cx 2 RX1 cX1_comfortAt 3 (some .int) 0 [(0, .inr (.inr (1, o, 0))), (1, .inl a0)] [] σ _
  refine R_aload_n dX1_comfortAt_0 rfl 0 rfl ?_
  refine R_getfA (k := 8) acl1 ho (by decide) fl_RX1_30 dX1_comfortAt_1 rfl ?_
  refine R_iload_n dX1_comfortAt_4 rfl 1 rfl ?_
  obtain ⟨b1, w⟩ := wp_chk w
  refine R_iald rfl ho b1 dX1_comfortAt_5 ?_
  refine R_nameI w ?_; clear w; intro x2 w
  refine R_istore_n (lv' := [(2, .inl x2), (0, .inr (.inr (1, o, 0))), (1, .inl a0)]) dX1_comfortAt_6 rfl (by decide) rfl ?_
  refine R_aload_n dX1_comfortAt_7 rfl 1 rfl ?_
  refine R_getfO (k := 0) acl1 ho (by decide) fl_RX1_53 dX1_comfortAt_8 rfl ?_
  refine R_iload_n dX1_comfortAt_11 rfl 0 rfl ?_
  refine R_aload_n dX1_comfortAt_12 rfl 1 rfl ?_
  refine R_getfI (k := 11) acl1 ho (by decide) fl_RX1_40 dX1_comfortAt_13 rfl ?_
  refine R_callVI (As := [.inl x2, .inl (gF σ 1 o 11)]) acl6 rfl oz6_0 mi_X6_how ml_RX1_110 rfl (Nat.le_of_ble_eq_true rfl) (by decide) dX1_comfortAt_16 (ct_X6_how hA x2 (gF σ 1 o 11) σ _ (wp_bnd w)) (fun r3 σ4 w => ?_)
  refine R_iconst (v := 2) dX1_comfortAt_19 (by decide) ?_
  refine R_icmp_ne (tgt := 25) dX1_comfortAt_20 (by decide) (fun c5 => ?_) (fun c5 => ?_)
  · have w := wp_f c5 w
    refine R_iconst (v := 3) dX1_comfortAt_25 (by decide) ?_
    refine R_aload_n dX1_comfortAt_26 rfl 1 rfl ?_
    refine R_iload_n dX1_comfortAt_27 rfl 2 rfl ?_
    refine R_callVI (As := [.inl a0]) acl1 rfl ho mi_X1_inchesOfSeat ml_RX1_93 rfl (Nat.le_of_ble_eq_true rfl) (by decide) dX1_comfortAt_28 (ct_X1_inchesOfSeat hA o ho a0 σ4 _ (wp_bnd w)) (fun r6 σ7 w => ?_)
    refine R_aload_n dX1_comfortAt_31 rfl 1 rfl ?_
    refine R_getfO (k := 0) acl1 ho (by decide) fl_RX1_53 dX1_comfortAt_32 rfl ?_
    refine R_iload_n dX1_comfortAt_35 rfl 0 rfl ?_
    refine R_iconst (v := 0) dX1_comfortAt_36 (by decide) ?_
    refine R_callVI (As := [.inl x2, .inl 0]) acl6 rfl oz6_0 mi_X6_trait ml_RX1_107 rfl (Nat.le_of_ble_eq_true rfl) (by decide) dX1_comfortAt_37 (ct_X6_trait hA x2 0 σ7 _ (wp_bnd w)) (fun r8 σ9 w => ?_)
    refine R_mmin ml_RX1_83 (by decide) (Nat.le_of_ble_eq_true rfl) dX1_comfortAt_40 ?_
    refine R_imul dX1_comfortAt_43 ?_
    refine R_iconst (v := 2) dX1_comfortAt_44 (by decide) ?_
    refine R_aload_n dX1_comfortAt_45 rfl 1 rfl ?_
    refine R_iload_n dX1_comfortAt_46 rfl 2 rfl ?_
    refine R_callVI (As := [.inl a0]) acl1 rfl ho mi_X1_fightsOfSeat ml_RX1_157 rfl (Nat.le_of_ble_eq_true rfl) (by decide) dX1_comfortAt_47 (ct_X1_fightsOfSeat hA o ho a0 σ9 _ (wp_bnd w)) (fun r10 σ11 w => ?_)
    refine R_imul dX1_comfortAt_50 ?_
    refine R_isub dX1_comfortAt_51 ?_
    exact R_ireturn dX1_comfortAt_52 rfl ⟨_, rfl, wp_some w⟩
  · have w := wp_t c5 w
    refine R_iconst (v := 0) dX1_comfortAt_23 (by decide) ?_
    exact R_ireturn dX1_comfortAt_24 rfl ⟨_, rfl, wp_some w⟩
def g_X1_nextCough (o : Nat) (σ : AS) : Option (Int32 × AS) := (lt (sF σ 1 o 13 (((gF σ 1 o 13) * 1103515245) + 12345)) fun σ1 => some (rmi (ush (gF σ1 1 o 13) 8) 100, σ1))
set_option maxRecDepth 100000 in
set_option maxHeartbeats 4000000 in
theorem ct_X1_nextCough {l : Launch} {cx : CX} (hA : AD cx) (o : Nat) (ho : o < am_cnt 1) (σ : AS) (Q : Int32 → AS → Prop) (w : wpO (g_X1_nextCough o σ) Q) : AMet l cx 0 yX1_nextCough cX1_nextCough 1 (some .int) [.inr (.inr (1, o, 0))] σ (QI Q) := by
  unfold g_X1_nextCough at w
  refine AMet.of (own := RX1) (by decide) rfl hA (Nat.le_of_ble_eq_true rfl) ?_
  show RJ l cx 0 RX1 cX1_nextCough 1 (some .int) 0 [(0, .inr (.inr (1, o, 0)))] [] σ _
  refine R_aload_n dX1_nextCough_0 rfl 0 rfl ?_
  refine R_aload_n dX1_nextCough_1 rfl 0 rfl ?_
  refine R_getfI (k := 13) acl1 ho (by decide) fl_RX1_47 dX1_nextCough_2 rfl ?_
  refine R_ldc dX1_nextCough_5 ck_RX1_156 ?_
  refine R_imul dX1_nextCough_7 ?_
  refine R_sipush (v := 12345) dX1_nextCough_8 (by decide) ?_
  refine R_iadd dX1_nextCough_11 ?_
  refine R_putf (k := 13) (ty := .int) acl1 ho (by decide) fl_RX1_47 rfl (tyX1_ok 13 (by decide)) (Or.inl rfl) dX1_nextCough_12 rfl ?_
  refine R_nameS w ?_; clear w; intro σ1 w
  refine R_aload_n dX1_nextCough_15 rfl 0 rfl ?_
  refine R_getfI (k := 13) acl1 ho (by decide) fl_RX1_47 dX1_nextCough_16 rfl ?_
  refine R_bipush (v := 8) dX1_nextCough_19 (by decide) ?_
  refine R_iushr dX1_nextCough_21 ?_
  refine R_bipush (v := 100) dX1_nextCough_22 (by decide) ?_
  refine R_irem dX1_nextCough_24 (by decide) ?_
  exact R_ireturn dX1_nextCough_25 rfl ⟨_, rfl, wp_some w⟩
def g_X3_isTold (o : Nat) (σ : AS) : Option (Int32 × AS) := (if (0 : Int32) < gF σ 3 o 4 then some (1, σ) else some (0, σ))
set_option maxRecDepth 100000 in
set_option maxHeartbeats 4000000 in
theorem ct_X3_isTold {l : Launch} {cx : CX} (hA : AD cx) (o : Nat) (ho : o < am_cnt 3) (σ : AS) (Q : Int32 → AS → Prop) (w : wpO (g_X3_isTold o σ) Q) : AMet l cx 0 yX3_isTold cX3_isTold 1 (some .boolean) [.inr (.inr (3, o, 0))] σ (QI Q) := by
  unfold g_X3_isTold at w
  refine AMet.of (own := RX3) (by decide) rfl hA (Nat.le_of_ble_eq_true rfl) ?_
  show RJ l cx 0 RX3 cX3_isTold 1 (some .boolean) 0 [(0, .inr (.inr (3, o, 0)))] [] σ _
  refine R_aload_n dX3_isTold_0 rfl 0 rfl ?_
  refine R_getfI (k := 4) acl3 ho (by decide) fl_RX3_22 dX3_isTold_1 rfl ?_
  refine R_if_le (tgt := 11) dX3_isTold_4 (by decide) (fun c1 => ?_) (fun c1 => ?_)
  · have w := wp_f c1 w
    refine R_iconst (v := 0) dX3_isTold_11 (by decide) ?_
    exact R_zreturn dX3_isTold_12 rfl (by decide) ⟨_, rfl, wp_some w⟩
  · have w := wp_t c1 w
    refine R_iconst (v := 1) dX3_isTold_7 (by decide) ?_
    refine R_goto (tgt := 12) dX3_isTold_8 (by decide) ?_
    exact R_zreturn dX3_isTold_12 rfl (by decide) ⟨_, rfl, wp_some w⟩
def g_X3_joined (a0 : Int32) (a1 : Int32) (a2 : Int32) (σ : AS) : Option (Int32 × AS) := (if a0 = 37 then (if a2 = 0 then some (0, σ) else (if ¬ a2 = 0 then some (rmi a1 a2, σ) else none)) else (if a0 = 38 then (if a1 = 0 then some (0, σ) else (if a2 = 0 then some (0, σ) else some (1, σ))) else (if a0 = 42 then some (a1 * a2, σ) else (if a0 = 43 then some (a1 + a2, σ) else (if a0 = 45 then some (a1 - a2, σ) else (if a0 = 47 then (if a2 = 0 then some (0, σ) else (if ¬ a2 = 0 then some (a1 / a2, σ) else none)) else (if a0 = 60 then (if a1 < a2 then some (1, σ) else some (0, σ)) else (if a0 = 61 then (if a1 = a2 then some (1, σ) else some (0, σ)) else (if a0 = 62 then (if a2 < a1 then some (1, σ) else some (0, σ)) else (if a0 = 124 then (if a1 = 0 then (if a2 = 0 then some (0, σ) else some (1, σ)) else some (1, σ)) else some (0, σ)))))))))))
set_option maxRecDepth 100000 in
set_option maxHeartbeats 4000000 in
theorem ct_X3_joined {l : Launch} {cx : CX} (hA : AD cx) (a0 : Int32) (a1 : Int32) (a2 : Int32) (σ : AS) (Q : Int32 → AS → Prop) (w : wpO (g_X3_joined a0 a1 a2 σ) Q) : AMet l cx 0 yX3_joined cX3_joined 3 (some .int) [.inl a0, .inl a1, .inl a2] σ (QI Q) := by
  unfold g_X3_joined at w
  refine AMet.of (own := RX3) (by decide) rfl hA (Nat.le_of_ble_eq_true rfl) ?_
  show RJ l cx 0 RX3 cX3_joined 3 (some .int) 0 [(0, .inl a0), (1, .inl a1), (2, .inl a2)] [] σ _
  refine R_iload_n dX3_joined_0 rfl 0 rfl ?_
  by_cases c1 : a0 = 37
  · have w := wp_t c1 w
    refine R_lswIn (v := 37) (tgt := 116) dX3_joined_1 (by decide) c1 rfl (by decide) ?_
    refine R_iload_n dX3_joined_116 rfl 2 rfl ?_
    refine R_if_ne (tgt := 124) dX3_joined_117 (by decide) (fun c2 => ?_) (fun c2 => ?_)
    · have w := wp_f c2 w
      refine R_iload_n dX3_joined_124 rfl 1 rfl ?_
      refine R_iload_n dX3_joined_125 rfl 2 rfl ?_
      obtain ⟨b3, w⟩ := wp_chk w
      refine R_irem dX3_joined_126 b3 ?_
      exact R_ireturn dX3_joined_127 rfl ⟨_, rfl, wp_some w⟩
    · have w := wp_t c2 w
      refine R_iconst (v := 0) dX3_joined_120 (by decide) ?_
      refine R_goto (tgt := 127) dX3_joined_121 (by decide) ?_
      exact R_ireturn dX3_joined_127 rfl ⟨_, rfl, wp_some w⟩
  have w := wp_f c1 w
  by_cases c4 : a0 = 38
  · have w := wp_t c4 w
    refine R_lswIn (v := 38) (tgt := 161) dX3_joined_1 (by decide) c4 rfl (by decide) ?_
    refine R_iload_n dX3_joined_161 rfl 1 rfl ?_
    refine R_if_eq (tgt := 173) dX3_joined_162 (by decide) (fun c5 => ?_) (fun c5 => ?_)
    · have w := wp_t c5 w
      refine R_iconst (v := 0) dX3_joined_173 (by decide) ?_
      exact R_ireturn dX3_joined_174 rfl ⟨_, rfl, wp_some w⟩
    · have w := wp_f c5 w
      refine R_iload_n dX3_joined_165 rfl 2 rfl ?_
      refine R_if_eq (tgt := 173) dX3_joined_166 (by decide) (fun c6 => ?_) (fun c6 => ?_)
      · have w := wp_t c6 w
        refine R_iconst (v := 0) dX3_joined_173 (by decide) ?_
        exact R_ireturn dX3_joined_174 rfl ⟨_, rfl, wp_some w⟩
      · have w := wp_f c6 w
        refine R_iconst (v := 1) dX3_joined_169 (by decide) ?_
        refine R_goto (tgt := 174) dX3_joined_170 (by decide) ?_
        exact R_ireturn dX3_joined_174 rfl ⟨_, rfl, wp_some w⟩
  have w := wp_f c4 w
  by_cases c7 : a0 = 42
  · have w := wp_t c7 w
    refine R_lswIn (v := 42) (tgt := 100) dX3_joined_1 (by decide) c7 rfl (by decide) ?_
    refine R_iload_n dX3_joined_100 rfl 1 rfl ?_
    refine R_iload_n dX3_joined_101 rfl 2 rfl ?_
    refine R_imul dX3_joined_102 ?_
    exact R_ireturn dX3_joined_103 rfl ⟨_, rfl, wp_some w⟩
  have w := wp_f c7 w
  by_cases c8 : a0 = 43
  · have w := wp_t c8 w
    refine R_lswIn (v := 43) (tgt := 92) dX3_joined_1 (by decide) c8 rfl (by decide) ?_
    refine R_iload_n dX3_joined_92 rfl 1 rfl ?_
    refine R_iload_n dX3_joined_93 rfl 2 rfl ?_
    refine R_iadd dX3_joined_94 ?_
    exact R_ireturn dX3_joined_95 rfl ⟨_, rfl, wp_some w⟩
  have w := wp_f c8 w
  by_cases c9 : a0 = 45
  · have w := wp_t c9 w
    refine R_lswIn (v := 45) (tgt := 96) dX3_joined_1 (by decide) c9 rfl (by decide) ?_
    refine R_iload_n dX3_joined_96 rfl 1 rfl ?_
    refine R_iload_n dX3_joined_97 rfl 2 rfl ?_
    refine R_isub dX3_joined_98 ?_
    exact R_ireturn dX3_joined_99 rfl ⟨_, rfl, wp_some w⟩
  have w := wp_f c9 w
  by_cases c10 : a0 = 47
  · have w := wp_t c10 w
    refine R_lswIn (v := 47) (tgt := 104) dX3_joined_1 (by decide) c10 rfl (by decide) ?_
    refine R_iload_n dX3_joined_104 rfl 2 rfl ?_
    refine R_if_ne (tgt := 112) dX3_joined_105 (by decide) (fun c11 => ?_) (fun c11 => ?_)
    · have w := wp_f c11 w
      refine R_iload_n dX3_joined_112 rfl 1 rfl ?_
      refine R_iload_n dX3_joined_113 rfl 2 rfl ?_
      obtain ⟨b12, w⟩ := wp_chk w
      refine R_idiv dX3_joined_114 b12 ?_
      exact R_ireturn dX3_joined_115 rfl ⟨_, rfl, wp_some w⟩
    · have w := wp_t c11 w
      refine R_iconst (v := 0) dX3_joined_108 (by decide) ?_
      refine R_goto (tgt := 115) dX3_joined_109 (by decide) ?_
      exact R_ireturn dX3_joined_115 rfl ⟨_, rfl, wp_some w⟩
  have w := wp_f c10 w
  by_cases c13 : a0 = 60
  · have w := wp_t c13 w
    refine R_lswIn (v := 60) (tgt := 128) dX3_joined_1 (by decide) c13 rfl (by decide) ?_
    refine R_iload_n dX3_joined_128 rfl 1 rfl ?_
    refine R_iload_n dX3_joined_129 rfl 2 rfl ?_
    refine R_icmp_ge (tgt := 137) dX3_joined_130 (by decide) (fun c14 => ?_) (fun c14 => ?_)
    · have w := wp_f c14 w
      refine R_iconst (v := 0) dX3_joined_137 (by decide) ?_
      exact R_ireturn dX3_joined_138 rfl ⟨_, rfl, wp_some w⟩
    · have w := wp_t c14 w
      refine R_iconst (v := 1) dX3_joined_133 (by decide) ?_
      refine R_goto (tgt := 138) dX3_joined_134 (by decide) ?_
      exact R_ireturn dX3_joined_138 rfl ⟨_, rfl, wp_some w⟩
  have w := wp_f c13 w
  by_cases c15 : a0 = 61
  · have w := wp_t c15 w
    refine R_lswIn (v := 61) (tgt := 139) dX3_joined_1 (by decide) c15 rfl (by decide) ?_
    refine R_iload_n dX3_joined_139 rfl 1 rfl ?_
    refine R_iload_n dX3_joined_140 rfl 2 rfl ?_
    refine R_icmp_ne (tgt := 148) dX3_joined_141 (by decide) (fun c16 => ?_) (fun c16 => ?_)
    · have w := wp_f c16 w
      refine R_iconst (v := 0) dX3_joined_148 (by decide) ?_
      exact R_ireturn dX3_joined_149 rfl ⟨_, rfl, wp_some w⟩
    · have w := wp_t c16 w
      refine R_iconst (v := 1) dX3_joined_144 (by decide) ?_
      refine R_goto (tgt := 149) dX3_joined_145 (by decide) ?_
      exact R_ireturn dX3_joined_149 rfl ⟨_, rfl, wp_some w⟩
  have w := wp_f c15 w
  by_cases c17 : a0 = 62
  · have w := wp_t c17 w
    refine R_lswIn (v := 62) (tgt := 150) dX3_joined_1 (by decide) c17 rfl (by decide) ?_
    refine R_iload_n dX3_joined_150 rfl 1 rfl ?_
    refine R_iload_n dX3_joined_151 rfl 2 rfl ?_
    refine R_icmp_le (tgt := 159) dX3_joined_152 (by decide) (fun c18 => ?_) (fun c18 => ?_)
    · have w := wp_f c18 w
      refine R_iconst (v := 0) dX3_joined_159 (by decide) ?_
      exact R_ireturn dX3_joined_160 rfl ⟨_, rfl, wp_some w⟩
    · have w := wp_t c18 w
      refine R_iconst (v := 1) dX3_joined_155 (by decide) ?_
      refine R_goto (tgt := 160) dX3_joined_156 (by decide) ?_
      exact R_ireturn dX3_joined_160 rfl ⟨_, rfl, wp_some w⟩
  have w := wp_f c17 w
  by_cases c19 : a0 = 124
  · have w := wp_t c19 w
    refine R_lswIn (v := 124) (tgt := 175) dX3_joined_1 (by decide) c19 rfl (by decide) ?_
    refine R_iload_n dX3_joined_175 rfl 1 rfl ?_
    refine R_if_ne (tgt := 183) dX3_joined_176 (by decide) (fun c20 => ?_) (fun c20 => ?_)
    · have w := wp_f c20 w
      refine R_iconst (v := 1) dX3_joined_183 (by decide) ?_
      refine R_goto (tgt := 188) dX3_joined_184 (by decide) ?_
      exact R_ireturn dX3_joined_188 rfl ⟨_, rfl, wp_some w⟩
    · have w := wp_t c20 w
      refine R_iload_n dX3_joined_179 rfl 2 rfl ?_
      refine R_if_eq (tgt := 187) dX3_joined_180 (by decide) (fun c21 => ?_) (fun c21 => ?_)
      · have w := wp_t c21 w
        refine R_iconst (v := 0) dX3_joined_187 (by decide) ?_
        exact R_ireturn dX3_joined_188 rfl ⟨_, rfl, wp_some w⟩
      · have w := wp_f c21 w
        refine R_iconst (v := 1) dX3_joined_183 (by decide) ?_
        refine R_goto (tgt := 188) dX3_joined_184 (by decide) ?_
        exact R_ireturn dX3_joined_188 rfl ⟨_, rfl, wp_some w⟩
  have w := wp_f c19 w
  refine R_lswOut (tgt := 189) dX3_joined_1 (by decide) [37, 38, 42, 43, 45, 47, 60, 61, 62, 124] (List.forall_mem_cons.mpr ⟨c1, (List.forall_mem_cons.mpr ⟨c4, (List.forall_mem_cons.mpr ⟨c7, (List.forall_mem_cons.mpr ⟨c8, (List.forall_mem_cons.mpr ⟨c9, (List.forall_mem_cons.mpr ⟨c10, (List.forall_mem_cons.mpr ⟨c13, (List.forall_mem_cons.mpr ⟨c15, (List.forall_mem_cons.mpr ⟨c17, (List.forall_mem_cons.mpr ⟨c19, (fun _ z => absurd z List.not_mem_nil)⟩)⟩)⟩)⟩)⟩)⟩)⟩)⟩)⟩)⟩) rfl (by decide) ?_
  refine R_iconst (v := 0) dX3_joined_189 (by decide) ?_
  exact R_ireturn dX3_joined_190 rfl ⟨_, rfl, wp_some w⟩
def g_X3_pull (o : Nat) (σ : AS) : Option (Int32 × AS) := (if (0 : Int32) < gF σ 3 o 5 then (lt (sF σ 3 o 5 ((gF σ 3 o 5) - 1)) fun σ2 => (if inb (gF σ2 3 o 5) 128 then some (gA σ2 3 o 2 (gF σ2 3 o 5), σ2) else none)) else some (0, σ))
set_option maxRecDepth 100000 in
set_option maxHeartbeats 4000000 in
theorem ct_X3_pull {l : Launch} {cx : CX} (hA : AD cx) (o : Nat) (ho : o < am_cnt 3) (σ : AS) (Q : Int32 → AS → Prop) (w : wpO (g_X3_pull o σ) Q) : AMet l cx 0 yX3_pull cX3_pull 1 (some .int) [.inr (.inr (3, o, 0))] σ (QI Q) := by
  unfold g_X3_pull at w
  refine AMet.of (own := RX3) (by decide) rfl hA (Nat.le_of_ble_eq_true rfl) ?_
  show RJ l cx 0 RX3 cX3_pull 1 (some .int) 0 [(0, .inr (.inr (3, o, 0)))] [] σ _
  refine R_aload_n dX3_pull_0 rfl 0 rfl ?_
  refine R_getfI (k := 5) acl3 ho (by decide) fl_RX3_26 dX3_pull_1 rfl ?_
  refine R_if_gt (tgt := 9) dX3_pull_4 (by decide) (fun c1 => ?_) (fun c1 => ?_)
  · have w := wp_t c1 w
    refine R_aload_n dX3_pull_9 rfl 0 rfl ?_
    refine R_dup dX3_pull_10 rfl ?_
    refine R_getfI (k := 5) acl3 ho (by decide) fl_RX3_26 dX3_pull_11 rfl ?_
    refine R_iconst (v := 1) dX3_pull_14 (by decide) ?_
    refine R_isub dX3_pull_15 ?_
    refine R_putf (k := 5) (ty := .int) acl3 ho (by decide) fl_RX3_26 rfl (tyX3_ok 5 (by decide)) (Or.inl rfl) dX3_pull_16 rfl ?_
    refine R_nameS w ?_; clear w; intro σ2 w
    refine R_aload_n dX3_pull_19 rfl 0 rfl ?_
    refine R_getfA (k := 2) acl3 ho (by decide) fl_RX3_16 dX3_pull_20 rfl ?_
    refine R_aload_n dX3_pull_23 rfl 0 rfl ?_
    refine R_getfI (k := 5) acl3 ho (by decide) fl_RX3_26 dX3_pull_24 rfl ?_
    obtain ⟨b3, w⟩ := wp_chk w
    refine R_iald rfl ho b3 dX3_pull_27 ?_
    exact R_ireturn dX3_pull_28 rfl ⟨_, rfl, wp_some w⟩
  · have w := wp_f c1 w
    refine R_iconst (v := 0) dX3_pull_7 (by decide) ?_
    exact R_ireturn dX3_pull_8 rfl ⟨_, rfl, wp_some w⟩
def g_X3_push (o : Nat) (a0 : Int32) (σ : AS) : Option (Unit × AS) := (if gF σ 3 o 5 < 128 then (if inb (gF σ 3 o 5) 128 then (lt (sA σ 3 o 2 (gF σ 3 o 5) a0) fun σ3 => (lt (sF σ3 3 o 5 ((gF σ3 3 o 5) + 1)) fun σ4 => some ((), σ4))) else none) else some ((), σ))
set_option maxRecDepth 100000 in
set_option maxHeartbeats 4000000 in
theorem ct_X3_push {l : Launch} {cx : CX} (hA : AD cx) (o : Nat) (ho : o < am_cnt 3) (a0 : Int32) (σ : AS) (Q : Unit → AS → Prop) (w : wpO (g_X3_push o a0 σ) Q) : AMet l cx 0 yX3_push cX3_push 2 none [.inr (.inr (3, o, 0)), .inl a0] σ (QV Q) := by
  unfold g_X3_push at w
  refine AMet.of (own := RX3) (by decide) rfl hA (Nat.le_of_ble_eq_true rfl) ?_
  show RJ l cx 0 RX3 cX3_push 2 none 0 [(0, .inr (.inr (3, o, 0))), (1, .inl a0)] [] σ _
  refine R_aload_n dX3_push_0 rfl 0 rfl ?_
  refine R_getfI (k := 5) acl3 ho (by decide) fl_RX3_26 dX3_push_1 rfl ?_
  refine R_sipush (v := 128) dX3_push_4 (by decide) ?_
  refine R_icmp_lt (tgt := 11) dX3_push_7 (by decide) (fun c1 => ?_) (fun c1 => ?_)
  · have w := wp_t c1 w
    refine R_aload_n dX3_push_11 rfl 0 rfl ?_
    refine R_getfA (k := 2) acl3 ho (by decide) fl_RX3_16 dX3_push_12 rfl ?_
    refine R_aload_n dX3_push_15 rfl 0 rfl ?_
    refine R_getfI (k := 5) acl3 ho (by decide) fl_RX3_26 dX3_push_16 rfl ?_
    refine R_iload_n dX3_push_19 rfl 1 rfl ?_
    obtain ⟨b2, w⟩ := wp_chk w
    refine R_iast rfl ho b2 dX3_push_20 ?_
    refine R_nameS w ?_; clear w; intro σ3 w
    refine R_aload_n dX3_push_21 rfl 0 rfl ?_
    refine R_dup dX3_push_22 rfl ?_
    refine R_getfI (k := 5) acl3 ho (by decide) fl_RX3_26 dX3_push_23 rfl ?_
    refine R_iconst (v := 1) dX3_push_26 (by decide) ?_
    refine R_iadd dX3_push_27 ?_
    refine R_putf (k := 5) (ty := .int) acl3 ho (by decide) fl_RX3_26 rfl (tyX3_ok 5 (by decide)) (Or.inl rfl) dX3_push_28 rfl ?_
    refine R_nameS w ?_; clear w; intro σ4 w
    exact R_vreturn dX3_push_31 rfl ⟨rfl, wp_some w⟩
  · have w := wp_f c1 w
    exact R_vreturn dX3_push_10 rfl ⟨rfl, wp_some w⟩
def g_X3_work_140  (o : Nat)  (k7 : Int32 → AS → Option (Int32 × AS)) (v1 : Int32) (s0 : Int32) (σ : AS) : Option (Int32 × AS) := (bnd (g_X3_push o s0 σ) fun _ σ10 => k7 v1 σ10)
set_option maxRecDepth 100000 in
set_option maxHeartbeats 4000000 in
theorem rk_X3_work_140 {l : Launch} {cx : CX} (hA : AD cx)  (o : Nat) (ho : o < am_cnt 3)  (Q : Int32 → AS → Prop) (k7 : Int32 → AS → Option (Int32 × AS)) (hk7 : ∀ (v1 : Int32) (σ : AS), wpO (k7 v1 σ) Q → RJ l cx 2 RX3 cX3_work 5 (some .int) 7 [(0, .inr (.inr (3, o, 0))), (1, .inl v1)] [] σ (QI Q)) (v1 : Int32) (s0 : Int32) (σ : AS) (w : wpO (g_X3_work_140 o k7 v1 s0 σ) Q) : RJ l cx 2 RX3 cX3_work 5 (some .int) 140 [(0, .inr (.inr (3, o, 0))), (1, .inl v1)] [.inl s0, .inr (.inr (3, o, 0))] σ (QI Q) := by
  unfold g_X3_work_140 at w
  refine R_callVV (As := [.inl s0]) acl3 rfl ho mi_X3_push ml_RX3_35 rfl (Nat.le_of_ble_eq_true rfl) (by decide) dX3_work_140 (ct_X3_push hA o ho s0 σ _ (wp_bnd w)) (fun σ10 w => ?_)
  refine R_goto (tgt := 209) dX3_work_143 (by decide) ?_
  refine R_goto (tgt := 7) dX3_work_209 (by decide) ?_
  refine R_sub [0, 1] rfl ?_
  exact hk7 v1 σ10 w
def g_X3_work_121  (o : Nat)  (k7 : Int32 → AS → Option (Int32 × AS)) (v1 : Int32) (s0 : Int32) (σ : AS) : Option (Int32 × AS) := (bnd (g_X3_push o s0 σ) fun _ σ23 => k7 v1 σ23)
set_option maxRecDepth 100000 in
set_option maxHeartbeats 4000000 in
theorem rk_X3_work_121 {l : Launch} {cx : CX} (hA : AD cx)  (o : Nat) (ho : o < am_cnt 3)  (Q : Int32 → AS → Prop) (k7 : Int32 → AS → Option (Int32 × AS)) (hk7 : ∀ (v1 : Int32) (σ : AS), wpO (k7 v1 σ) Q → RJ l cx 2 RX3 cX3_work 5 (some .int) 7 [(0, .inr (.inr (3, o, 0))), (1, .inl v1)] [] σ (QI Q)) (v1 : Int32) (s0 : Int32) (σ : AS) (w : wpO (g_X3_work_121 o k7 v1 s0 σ) Q) : RJ l cx 2 RX3 cX3_work 5 (some .int) 121 [(0, .inr (.inr (3, o, 0))), (1, .inl v1)] [.inl s0, .inr (.inr (3, o, 0))] σ (QI Q) := by
  unfold g_X3_work_121 at w
  refine R_callVV (As := [.inl s0]) acl3 rfl ho mi_X3_push ml_RX3_35 rfl (Nat.le_of_ble_eq_true rfl) (by decide) dX3_work_121 (ct_X3_push hA o ho s0 σ _ (wp_bnd w)) (fun σ23 w => ?_)
  refine R_goto (tgt := 209) dX3_work_124 (by decide) ?_
  refine R_goto (tgt := 7) dX3_work_209 (by decide) ?_
  refine R_sub [0, 1] rfl ?_
  exact hk7 v1 σ23 w
def g_X3_work_120  (o : Nat)  (k7 : Int32 → AS → Option (Int32 × AS)) (v1 : Int32) (σ : AS) : Option (Int32 × AS) := g_X3_work_121 o k7 v1 0 σ
set_option maxRecDepth 100000 in
set_option maxHeartbeats 4000000 in
theorem rk_X3_work_120 {l : Launch} {cx : CX} (hA : AD cx)  (o : Nat) (ho : o < am_cnt 3)  (Q : Int32 → AS → Prop) (k7 : Int32 → AS → Option (Int32 × AS)) (hk7 : ∀ (v1 : Int32) (σ : AS), wpO (k7 v1 σ) Q → RJ l cx 2 RX3 cX3_work 5 (some .int) 7 [(0, .inr (.inr (3, o, 0))), (1, .inl v1)] [] σ (QI Q)) (v1 : Int32) (σ : AS) (w : wpO (g_X3_work_120 o k7 v1 σ) Q) : RJ l cx 2 RX3 cX3_work 5 (some .int) 120 [(0, .inr (.inr (3, o, 0))), (1, .inl v1)] [.inr (.inr (3, o, 0))] σ (QI Q) := by
  unfold g_X3_work_120 at w
  refine R_iconst (v := 0) dX3_work_120 (by decide) ?_
  refine R_sub [0, 1] rfl ?_
  exact rk_X3_work_121 hA o ho _ k7 hk7 v1 0 σ w
def g_X3_work_7  (o : Nat)  : Nat → Int32 → AS → Option (Int32 × AS)
  | 0, _, _ => none
  | f0 + 1, v1, σ => (if v1 < gF σ 3 o 4 then (if inb v1 128 then (lt (gA σ 3 o 0 v1) fun x4 => (lt (gA σ 3 o 1 v1) fun x5 => (if x4 = 33 then (bnd (g_X3_pull o σ) fun r7 σ8 => (if r7 = 0 then g_X3_work_140 o (g_X3_work_7 o f0) (v1 + 1) 1 σ8 else g_X3_work_140 o (g_X3_work_7 o f0) (v1 + 1) 0 σ8)) else (if x4 = 35 then (bnd (g_X3_push o x5 σ) fun _ σ12 => (g_X3_work_7 o f0) (v1 + 1) σ12) else (if x4 = 59 then (bnd (g_X3_pull o σ) fun r14 σ15 => some (mxi 0 (mni r14 999), σ15)) else (if x4 = 63 then (bnd (g_X3_pull o σ) fun r17 σ18 => (if r17 = 0 then (lt (mxi (v1 + 1) x5) fun x20 => (g_X3_work_7 o f0) x20 σ18) else (g_X3_work_7 o f0) (v1 + 1) σ18)) else (if x4 = 110 then (if x5 < 0 then g_X3_work_120 o (g_X3_work_7 o f0) (v1 + 1) σ else (if x5 < 9 then (if inb x5 9 then g_X3_work_121 o (g_X3_work_7 o f0) (v1 + 1) (gA σ 3 o 3 x5) σ else none) else g_X3_work_120 o (g_X3_work_7 o f0) (v1 + 1) σ)) else (if x4 = 126 then (bnd (g_X3_pull o σ) fun r27 σ28 => (bnd (g_X3_push o (-r27) σ28) fun _ σ29 => (g_X3_work_7 o f0) (v1 + 1) σ29)) else (bnd (g_X3_pull o σ) fun r30 σ31 => (bnd (g_X3_pull o σ31) fun r32 σ33 => (bnd (g_X3_joined x4 r32 r30 σ33) fun r34 σ35 => (bnd (g_X3_push o r34 σ35) fun _ σ36 => (g_X3_work_7 o f0) (v1 + 1) σ36)))))))))))) else none) else some (0, σ))
set_option maxRecDepth 100000 in
set_option maxHeartbeats 4000000 in
theorem rk_X3_work_7 {l : Launch} {cx : CX} (hA : AD cx)  (o : Nat) (ho : o < am_cnt 3)  (Q : Int32 → AS → Prop) : ∀ (f0 : Nat) (v1 : Int32) (σ : AS), wpO (g_X3_work_7 o f0 v1 σ) Q → RJ l cx 2 RX3 cX3_work 5 (some .int) 7 [(0, .inr (.inr (3, o, 0))), (1, .inl v1)] [] σ (QI Q) := by
  intro f0
  induction f0 with
  | zero => intro v1 σ w; exact wp_no w
  | succ f0 ih =>
    intro v1 σ w
    rw [g_X3_work_7] at w
    refine R_iload_n dX3_work_7 rfl 1 rfl ?_
    refine R_aload_n dX3_work_8 rfl 0 rfl ?_
    refine R_getfI (k := 4) acl3 ho (by decide) fl_RX3_22 dX3_work_9 rfl ?_
    refine R_icmp_ge (tgt := 212) dX3_work_12 (by decide) (fun c2 => ?_) (fun c2 => ?_)
    · have w := wp_f c2 w
      refine R_iconst (v := 0) dX3_work_212 (by decide) ?_
      exact R_ireturn dX3_work_213 rfl ⟨_, rfl, wp_some w⟩
    · have w := wp_t c2 w
      refine R_aload_n dX3_work_15 rfl 0 rfl ?_
      refine R_getfA (k := 0) acl3 ho (by decide) fl_RX3_9 dX3_work_16 rfl ?_
      refine R_iload_n dX3_work_19 rfl 1 rfl ?_
      obtain ⟨b3, w⟩ := wp_chk w
      refine R_iald rfl ho b3 dX3_work_20 ?_
      refine R_nameI w ?_; clear w; intro x4 w
      refine R_istore_n (lv' := [(2, .inl x4), (0, .inr (.inr (3, o, 0))), (1, .inl v1)]) dX3_work_21 rfl (by decide) rfl ?_
      refine R_aload_n dX3_work_22 rfl 1 rfl ?_
      refine R_getfA (k := 1) acl3 ho (by decide) fl_RX3_13 dX3_work_23 rfl ?_
      refine R_iload_n dX3_work_26 rfl 2 rfl ?_
      refine R_iald rfl ho b3 dX3_work_27 ?_
      refine R_nameI w ?_; clear w; intro x5 w
      refine R_istore_n (lv' := [(3, .inl x5), (2, .inl x4), (0, .inr (.inr (3, o, 0))), (1, .inl v1)]) dX3_work_28 rfl (by decide) rfl ?_
      refine R_iinc (v := v1 + 1) (lv' := [(1, .inl (v1 + 1)), (3, .inl x5), (2, .inl x4), (0, .inr (.inr (3, o, 0)))]) dX3_work_29 3 rfl rfl (by decide) rfl ?_
      refine R_iload_n dX3_work_32 rfl 2 rfl ?_
      by_cases c6 : x4 = 33
      · have w := wp_t c6 w
        refine R_lswIn (v := 33) (tgt := 127) dX3_work_33 (by decide) c6 rfl (by decide) ?_
        refine R_aload_n dX3_work_127 rfl 3 rfl ?_
        refine R_aload_n dX3_work_128 rfl 3 rfl ?_
        refine R_callVI (As := []) acl3 rfl ho mi_X3_pull ml_RX3_39 rfl (Nat.le_of_ble_eq_true rfl) (by decide) dX3_work_129 (ct_X3_pull hA o ho σ _ (wp_bnd w)) (fun r7 σ8 w => ?_)
        refine R_if_ne (tgt := 139) dX3_work_132 (by decide) (fun c9 => ?_) (fun c9 => ?_)
        · have w := wp_f c9 w
          refine R_iconst (v := 0) dX3_work_139 (by decide) ?_
          refine R_sub [3, 0] rfl ?_
          exact rk_X3_work_140 hA o ho _ (g_X3_work_7 o f0) ih (v1 + 1) 0 σ8 w
        · have w := wp_t c9 w
          refine R_iconst (v := 1) dX3_work_135 (by decide) ?_
          refine R_goto (tgt := 140) dX3_work_136 (by decide) ?_
          refine R_sub [3, 0] rfl ?_
          exact rk_X3_work_140 hA o ho _ (g_X3_work_7 o f0) ih (v1 + 1) 1 σ8 w
      have w := wp_f c6 w
      by_cases c11 : x4 = 35
      · have w := wp_t c11 w
        refine R_lswIn (v := 35) (tgt := 92) dX3_work_33 (by decide) c11 rfl (by decide) ?_
        refine R_aload_n dX3_work_92 rfl 3 rfl ?_
        refine R_iload_n dX3_work_93 rfl 1 rfl ?_
        refine R_callVV (As := [.inl x5]) acl3 rfl ho mi_X3_push ml_RX3_35 rfl (Nat.le_of_ble_eq_true rfl) (by decide) dX3_work_94 (ct_X3_push hA o ho x5 σ _ (wp_bnd w)) (fun σ12 w => ?_)
        refine R_goto (tgt := 209) dX3_work_97 (by decide) ?_
        refine R_goto (tgt := 7) dX3_work_209 (by decide) ?_
        refine R_sub [3, 0] rfl ?_
        exact ih (v1 + 1) σ12 w
      have w := wp_f c11 w
      by_cases c13 : x4 = 59
      · have w := wp_t c13 w
        refine R_lswIn (v := 59) (tgt := 174) dX3_work_33 (by decide) c13 rfl (by decide) ?_
        refine R_iconst (v := 0) dX3_work_174 (by decide) ?_
        refine R_aload_n dX3_work_175 rfl 3 rfl ?_
        refine R_callVI (As := []) acl3 rfl ho mi_X3_pull ml_RX3_39 rfl (Nat.le_of_ble_eq_true rfl) (by decide) dX3_work_176 (ct_X3_pull hA o ho σ _ (wp_bnd w)) (fun r14 σ15 w => ?_)
        refine R_sipush (v := 999) dX3_work_179 (by decide) ?_
        refine R_mmin ml_RX3_49 (by decide) (Nat.le_of_ble_eq_true rfl) dX3_work_182 ?_
        refine R_mmax ml_RX3_43 (by decide) (Nat.le_of_ble_eq_true rfl) dX3_work_185 ?_
        exact R_ireturn dX3_work_188 rfl ⟨_, rfl, wp_some w⟩
      have w := wp_f c13 w
      by_cases c16 : x4 = 63
      · have w := wp_t c16 w
        refine R_lswIn (v := 63) (tgt := 158) dX3_work_33 (by decide) c16 rfl (by decide) ?_
        refine R_aload_n dX3_work_158 rfl 3 rfl ?_
        refine R_callVI (As := []) acl3 rfl ho mi_X3_pull ml_RX3_39 rfl (Nat.le_of_ble_eq_true rfl) (by decide) dX3_work_159 (ct_X3_pull hA o ho σ _ (wp_bnd w)) (fun r17 σ18 w => ?_)
        refine R_if_ne (tgt := 209) dX3_work_162 (by decide) (fun c19 => ?_) (fun c19 => ?_)
        · have w := wp_f c19 w
          refine R_goto (tgt := 7) dX3_work_209 (by decide) ?_
          refine R_sub [3, 0] rfl ?_
          exact ih (v1 + 1) σ18 w
        · have w := wp_t c19 w
          refine R_iload_n dX3_work_165 rfl 0 rfl ?_
          refine R_iload_n dX3_work_166 rfl 1 rfl ?_
          refine R_mmax ml_RX3_43 (by decide) (Nat.le_of_ble_eq_true rfl) dX3_work_167 ?_
          refine R_nameI w ?_; clear w; intro x20 w
          refine R_istore_n (lv' := [(1, .inl x20), (3, .inl x5), (2, .inl x4), (0, .inr (.inr (3, o, 0)))]) dX3_work_170 rfl (by decide) rfl ?_
          refine R_goto (tgt := 209) dX3_work_171 (by decide) ?_
          refine R_goto (tgt := 7) dX3_work_209 (by decide) ?_
          refine R_sub [3, 0] rfl ?_
          exact ih x20 σ18 w
      have w := wp_f c16 w
      by_cases c21 : x4 = 110
      · have w := wp_t c21 w
        refine R_lswIn (v := 110) (tgt := 100) dX3_work_33 (by decide) c21 rfl (by decide) ?_
        refine R_aload_n dX3_work_100 rfl 3 rfl ?_
        refine R_iload_n dX3_work_101 rfl 1 rfl ?_
        refine R_if_lt (tgt := 120) dX3_work_102 (by decide) (fun c22 => ?_) (fun c22 => ?_)
        · have w := wp_t c22 w
          refine R_sub [3, 0] rfl ?_
          exact rk_X3_work_120 hA o ho _ (g_X3_work_7 o f0) ih (v1 + 1) σ w
        · have w := wp_f c22 w
          refine R_iload_n dX3_work_105 rfl 1 rfl ?_
          refine R_bipush (v := 9) dX3_work_106 (by decide) ?_
          refine R_icmp_ge (tgt := 120) dX3_work_108 (by decide) (fun c24 => ?_) (fun c24 => ?_)
          · have w := wp_f c24 w
            refine R_sub [3, 0] rfl ?_
            exact rk_X3_work_120 hA o ho _ (g_X3_work_7 o f0) ih (v1 + 1) σ w
          · have w := wp_t c24 w
            refine R_aload_n dX3_work_111 rfl 3 rfl ?_
            refine R_getfA (k := 3) acl3 ho (by decide) fl_RX3_19 dX3_work_112 rfl ?_
            refine R_iload_n dX3_work_115 rfl 1 rfl ?_
            obtain ⟨b25, w⟩ := wp_chk w
            refine R_iald rfl ho b25 dX3_work_116 ?_
            refine R_goto (tgt := 121) dX3_work_117 (by decide) ?_
            refine R_sub [3, 0] rfl ?_
            exact rk_X3_work_121 hA o ho _ (g_X3_work_7 o f0) ih (v1 + 1) (gA σ 3 o 3 x5) σ w
      have w := wp_f c21 w
      by_cases c26 : x4 = 126
      · have w := wp_t c26 w
        refine R_lswIn (v := 126) (tgt := 146) dX3_work_33 (by decide) c26 rfl (by decide) ?_
        refine R_aload_n dX3_work_146 rfl 3 rfl ?_
        refine R_aload_n dX3_work_147 rfl 3 rfl ?_
        refine R_callVI (As := []) acl3 rfl ho mi_X3_pull ml_RX3_39 rfl (Nat.le_of_ble_eq_true rfl) (by decide) dX3_work_148 (ct_X3_pull hA o ho σ _ (wp_bnd w)) (fun r27 σ28 w => ?_)
        refine R_ineg dX3_work_151 ?_
        refine R_callVV (As := [.inl (-r27)]) acl3 rfl ho mi_X3_push ml_RX3_35 rfl (Nat.le_of_ble_eq_true rfl) (by decide) dX3_work_152 (ct_X3_push hA o ho (-r27) σ28 _ (wp_bnd w)) (fun σ29 w => ?_)
        refine R_goto (tgt := 209) dX3_work_155 (by decide) ?_
        refine R_goto (tgt := 7) dX3_work_209 (by decide) ?_
        refine R_sub [3, 0] rfl ?_
        exact ih (v1 + 1) σ29 w
      have w := wp_f c26 w
      refine R_lswOut (tgt := 189) dX3_work_33 (by decide) [33, 35, 59, 63, 110, 126] (List.forall_mem_cons.mpr ⟨c6, (List.forall_mem_cons.mpr ⟨c11, (List.forall_mem_cons.mpr ⟨c13, (List.forall_mem_cons.mpr ⟨c16, (List.forall_mem_cons.mpr ⟨c21, (List.forall_mem_cons.mpr ⟨c26, (fun _ z => absurd z List.not_mem_nil)⟩)⟩)⟩)⟩)⟩)⟩) rfl (by decide) ?_
      refine R_aload_n dX3_work_189 rfl 3 rfl ?_
      refine R_callVI (As := []) acl3 rfl ho mi_X3_pull ml_RX3_39 rfl (Nat.le_of_ble_eq_true rfl) (by decide) dX3_work_190 (ct_X3_pull hA o ho σ _ (wp_bnd w)) (fun r30 σ31 w => ?_)
      refine R_istore (lv' := [(4, .inl r30), (1, .inl (v1 + 1)), (3, .inl x5), (2, .inl x4), (0, .inr (.inr (3, o, 0)))]) dX3_work_193 (by decide) rfl ?_
      refine R_aload_n dX3_work_195 rfl 4 rfl ?_
      refine R_iload_n dX3_work_196 rfl 3 rfl ?_
      refine R_aload_n dX3_work_197 rfl 4 rfl ?_
      refine R_callVI (As := []) acl3 rfl ho mi_X3_pull ml_RX3_39 rfl (Nat.le_of_ble_eq_true rfl) (by decide) dX3_work_198 (ct_X3_pull hA o ho σ31 _ (wp_bnd w)) (fun r32 σ33 w => ?_)
      refine R_iload dX3_work_201 0 rfl ?_
      refine R_callSI (As := [.inl x4, .inl r32, .inl r30]) mi_X3_joined ml_RX3_52 rfl (Nat.le_of_ble_eq_true rfl) (by decide) dX3_work_203 (ct_X3_joined hA x4 r32 r30 σ33 _ (wp_bnd w)) (fun r34 σ35 w => ?_)
      refine R_callVV (As := [.inl r34]) acl3 rfl ho mi_X3_push ml_RX3_35 rfl (Nat.le_of_ble_eq_true rfl) (by decide) dX3_work_206 (ct_X3_push hA o ho r34 σ35 _ (wp_bnd w)) (fun σ36 w => ?_)
      refine R_goto (tgt := 7) dX3_work_209 (by decide) ?_
      refine R_sub [4, 1] rfl ?_
      exact ih (v1 + 1) σ36 w
def g_X3_work (o : Nat) (σ : AS) : Option (Int32 × AS) := (lt (sF σ 3 o 5 0) fun σ1 => g_X3_work_7 o 400 0 σ1)
set_option maxRecDepth 100000 in
set_option maxHeartbeats 4000000 in
theorem ct_X3_work {l : Launch} {cx : CX} (hA : AD cx) (o : Nat) (ho : o < am_cnt 3) (σ : AS) (Q : Int32 → AS → Prop) (w : wpO (g_X3_work o σ) Q) : AMet l cx 2 yX3_work cX3_work 5 (some .int) [.inr (.inr (3, o, 0))] σ (QI Q) := by
  unfold g_X3_work at w
  refine AMet.of (own := RX3) (by decide) rfl hA (Nat.le_of_ble_eq_true rfl) ?_
  show RJ l cx 2 RX3 cX3_work 5 (some .int) 0 [(0, .inr (.inr (3, o, 0)))] [] σ _
  refine R_aload_n dX3_work_0 rfl 0 rfl ?_
  refine R_iconst (v := 0) dX3_work_1 (by decide) ?_
  refine R_putf (k := 5) (ty := .int) acl3 ho (by decide) fl_RX3_26 rfl (tyX3_ok 5 (by decide)) (Or.inl rfl) dX3_work_2 rfl ?_
  refine R_nameS w ?_; clear w; intro σ1 w
  refine R_iconst (v := 0) dX3_work_5 (by decide) ?_
  refine R_istore_n (lv' := [(1, .inl 0), (0, .inr (.inr (3, o, 0)))]) dX3_work_6 rfl (by decide) rfl ?_
  refine R_sub [1, 0] rfl ?_
  exact rk_X3_work_7 hA o ho _ 400 0 σ1 w
def g_X1_strengthAt_243  (o : Nat)  (v3 : Int32) (s0 : Int32) (s1 : Int32) (σ : AS) : Option (Int32 × AS) := (if inb s1 9 then (lt (sA σ 3 0 3 s1 s0) fun σ30 => (lt (sA σ30 3 0 3 7 v3) fun σ31 => (lt (sA σ31 3 0 3 8 (gF σ31 1 o 11)) fun σ32 => (bnd (g_X3_work 0 σ32) fun r33 σ34 => some (r33, σ34))))) else none)
set_option maxRecDepth 100000 in
set_option maxHeartbeats 4000000 in
theorem rk_X1_strengthAt_243 {l : Launch} {cx : CX} (hA : AD cx)  (o : Nat) (ho : o < am_cnt 1)  (Q : Int32 → AS → Prop) (v3 : Int32) (s0 : Int32) (s1 : Int32) (σ : AS) (w : wpO (g_X1_strengthAt_243 o v3 s0 s1 σ) Q) : RJ l cx 3 RX1 cX1_strengthAt 9 (some .int) 243 [(0, .inr (.inr (1, o, 0))), (3, .inl v3)] [.inl s0, .inl s1, .inr (.inr (3, 0, 3 + 1))] σ (QI Q) := by
  unfold g_X1_strengthAt_243 at w
  obtain ⟨b29, w⟩ := wp_chk w
  refine R_iast rfl oz3_0 b29 dX1_strengthAt_243 ?_
  refine R_nameS w ?_; clear w; intro σ30 w
  refine R_aload_n dX1_strengthAt_244 rfl 0 rfl ?_
  refine R_getfO (k := 1) acl1 ho (by decide) fl_RX1_57 dX1_strengthAt_245 rfl ?_
  refine R_getfA (k := 3) acl3 oz3_0 (by decide) fl_RX1_119 dX1_strengthAt_248 rfl ?_
  refine R_bipush (v := 7) dX1_strengthAt_251 (by decide) ?_
  refine R_iload_n dX1_strengthAt_253 rfl 1 rfl ?_
  refine R_iast rfl oz3_0 (by decide) dX1_strengthAt_254 ?_
  refine R_nameS w ?_; clear w; intro σ31 w
  refine R_aload_n dX1_strengthAt_255 rfl 0 rfl ?_
  refine R_getfO (k := 1) acl1 ho (by decide) fl_RX1_57 dX1_strengthAt_256 rfl ?_
  refine R_getfA (k := 3) acl3 oz3_0 (by decide) fl_RX1_119 dX1_strengthAt_259 rfl ?_
  refine R_bipush (v := 8) dX1_strengthAt_262 (by decide) ?_
  refine R_aload_n dX1_strengthAt_264 rfl 0 rfl ?_
  refine R_getfI (k := 11) acl1 ho (by decide) fl_RX1_40 dX1_strengthAt_265 rfl ?_
  refine R_iast rfl oz3_0 (by decide) dX1_strengthAt_268 ?_
  refine R_nameS w ?_; clear w; intro σ32 w
  refine R_aload_n dX1_strengthAt_269 rfl 0 rfl ?_
  refine R_getfO (k := 1) acl1 ho (by decide) fl_RX1_57 dX1_strengthAt_270 rfl ?_
  refine R_callVI (As := []) acl3 rfl oz3_0 mi_X3_work ml_RX1_125 rfl (Nat.le_of_ble_eq_true rfl) (by decide) dX1_strengthAt_273 (ct_X3_work hA 0 oz3_0 σ32 _ (wp_bnd w)) (fun r33 σ34 w => ?_)
  exact R_ireturn dX1_strengthAt_276 rfl ⟨_, rfl, wp_some w⟩
def g_X1_strengthAt_242  (o : Nat)  (v3 : Int32) (s0 : Int32) (σ : AS) : Option (Int32 × AS) := g_X1_strengthAt_243 o v3 0 s0 σ
set_option maxRecDepth 100000 in
set_option maxHeartbeats 4000000 in
theorem rk_X1_strengthAt_242 {l : Launch} {cx : CX} (hA : AD cx)  (o : Nat) (ho : o < am_cnt 1)  (Q : Int32 → AS → Prop) (v3 : Int32) (s0 : Int32) (σ : AS) (w : wpO (g_X1_strengthAt_242 o v3 s0 σ) Q) : RJ l cx 3 RX1 cX1_strengthAt 9 (some .int) 242 [(0, .inr (.inr (1, o, 0))), (3, .inl v3)] [.inl s0, .inr (.inr (3, 0, 3 + 1))] σ (QI Q) := by
  unfold g_X1_strengthAt_242 at w
  refine R_iconst (v := 0) dX1_strengthAt_242 (by decide) ?_
  refine R_sub [0, 1] rfl ?_
  exact rk_X1_strengthAt_243 hA o ho _ v3 0 s0 σ w
def g_X1_strengthAt_193  (o : Nat)  (v1 : Int32) (v3 : Int32) (v8 : Int32) (s0 : Int32) (s1 : Int32) (σ : AS) : Option (Int32 × AS) := (if inb s1 9 then (lt (sA σ 3 0 3 s1 s0) fun σ24 => (lt (sA σ24 3 0 3 5 v8) fun σ25 => (bnd (g_X6_hasRest (v1 - 1) σ25) fun r26 σ27 => (if r26 = 0 then g_X1_strengthAt_242 o v3 6 σ27 else (bnd (g_X6_hasRest v1 σ27) fun r35 σ36 => (if r35 = 0 then g_X1_strengthAt_242 o v3 6 σ36 else g_X1_strengthAt_243 o v3 1 6 σ36)))))) else none)
set_option maxRecDepth 100000 in
set_option maxHeartbeats 4000000 in
theorem rk_X1_strengthAt_193 {l : Launch} {cx : CX} (hA : AD cx)  (o : Nat) (ho : o < am_cnt 1)  (Q : Int32 → AS → Prop) (v1 : Int32) (v3 : Int32) (v8 : Int32) (s0 : Int32) (s1 : Int32) (σ : AS) (w : wpO (g_X1_strengthAt_193 o v1 v3 v8 s0 s1 σ) Q) : RJ l cx 3 RX1 cX1_strengthAt 9 (some .int) 193 [(0, .inr (.inr (1, o, 0))), (1, .inl v1), (3, .inl v3), (8, .inl v8)] [.inl s0, .inl s1, .inr (.inr (3, 0, 3 + 1))] σ (QI Q) := by
  unfold g_X1_strengthAt_193 at w
  obtain ⟨b23, w⟩ := wp_chk w
  refine R_iast rfl oz3_0 b23 dX1_strengthAt_193 ?_
  refine R_nameS w ?_; clear w; intro σ24 w
  refine R_aload_n dX1_strengthAt_194 rfl 0 rfl ?_
  refine R_getfO (k := 1) acl1 ho (by decide) fl_RX1_57 dX1_strengthAt_195 rfl ?_
  refine R_getfA (k := 3) acl3 oz3_0 (by decide) fl_RX1_119 dX1_strengthAt_198 rfl ?_
  refine R_iconst (v := 5) dX1_strengthAt_201 (by decide) ?_
  refine R_iload dX1_strengthAt_202 3 rfl ?_
  refine R_iast rfl oz3_0 (by decide) dX1_strengthAt_204 ?_
  refine R_nameS w ?_; clear w; intro σ25 w
  refine R_aload_n dX1_strengthAt_205 rfl 0 rfl ?_
  refine R_getfO (k := 1) acl1 ho (by decide) fl_RX1_57 dX1_strengthAt_206 rfl ?_
  refine R_getfA (k := 3) acl3 oz3_0 (by decide) fl_RX1_119 dX1_strengthAt_209 rfl ?_
  refine R_bipush (v := 6) dX1_strengthAt_212 (by decide) ?_
  refine R_aload_n dX1_strengthAt_214 rfl 0 rfl ?_
  refine R_getfO (k := 0) acl1 ho (by decide) fl_RX1_53 dX1_strengthAt_215 rfl ?_
  refine R_iload_n dX1_strengthAt_218 rfl 1 rfl ?_
  refine R_iconst (v := 1) dX1_strengthAt_219 (by decide) ?_
  refine R_isub dX1_strengthAt_220 ?_
  refine R_callVI (As := [.inl (v1 - 1)]) acl6 rfl oz6_0 mi_X6_hasRest ml_RX1_122 rfl (Nat.le_of_ble_eq_true rfl) (by decide) dX1_strengthAt_221 (ct_X6_hasRest hA (v1 - 1) σ25 _ (wp_bnd w)) (fun r26 σ27 w => ?_)
  refine R_if_eq (tgt := 242) dX1_strengthAt_224 (by decide) (fun c28 => ?_) (fun c28 => ?_)
  · have w := wp_t c28 w
    refine R_sub [0, 2] rfl ?_
    exact rk_X1_strengthAt_242 hA o ho _ v3 6 σ27 w
  · have w := wp_f c28 w
    refine R_aload_n dX1_strengthAt_227 rfl 0 rfl ?_
    refine R_getfO (k := 0) acl1 ho (by decide) fl_RX1_53 dX1_strengthAt_228 rfl ?_
    refine R_iload_n dX1_strengthAt_231 rfl 1 rfl ?_
    refine R_callVI (As := [.inl v1]) acl6 rfl oz6_0 mi_X6_hasRest ml_RX1_122 rfl (Nat.le_of_ble_eq_true rfl) (by decide) dX1_strengthAt_232 (ct_X6_hasRest hA v1 σ27 _ (wp_bnd w)) (fun r35 σ36 w => ?_)
    refine R_if_eq (tgt := 242) dX1_strengthAt_235 (by decide) (fun c37 => ?_) (fun c37 => ?_)
    · have w := wp_t c37 w
      refine R_sub [0, 2] rfl ?_
      exact rk_X1_strengthAt_242 hA o ho _ v3 6 σ36 w
    · have w := wp_f c37 w
      refine R_iconst (v := 1) dX1_strengthAt_238 (by decide) ?_
      refine R_goto (tgt := 243) dX1_strengthAt_239 (by decide) ?_
      refine R_sub [0, 2] rfl ?_
      exact rk_X1_strengthAt_243 hA o ho _ v3 1 6 σ36 w
def g_X1_strengthAt_40  (o : Nat)  (v1 : Int32) (v2 : Int32) (v3 : Int32) (v4 : Int32) (v5 : Int32) (s0 : Int32) (σ : AS) : Option (Int32 × AS) := (bnd (g_X6_trait v4 1 σ) fun r6 σ7 => (bnd (g_X6_how v4 (gF σ7 1 o 11) σ7) fun r8 σ9 => (bnd (g_X3_isTold 0 σ9) fun r10 σ11 => (if r10 = 0 then (if r8 = 1 then some (((2 * r6) + s0) / 2, σ11) else some ((2 * r6) + s0, σ11)) else (bnd (g_X6_trait v4 0 σ11) fun r13 σ14 => (lt (sA σ14 3 0 3 0 r13) fun σ15 => (lt (sA σ15 3 0 3 1 r6) fun σ16 => (bnd (g_X6_trait v4 2 σ16) fun r17 σ18 => (lt (sA σ18 3 0 3 2 r17) fun σ19 => (lt (sA σ19 3 0 3 3 s0) fun σ20 => (if v5 = 0 then (if inb v2 7 then g_X1_strengthAt_193 o v1 v3 r8 (gA σ20 1 o 3 v2) 4 σ20 else none) else (if inb v2 7 then g_X1_strengthAt_193 o v1 v3 r8 (gA σ20 1 o 4 v2) 4 σ20 else none))))))))))))
set_option maxRecDepth 100000 in
set_option maxHeartbeats 4000000 in
theorem rk_X1_strengthAt_40 {l : Launch} {cx : CX} (hA : AD cx)  (o : Nat) (ho : o < am_cnt 1)  (Q : Int32 → AS → Prop) (v1 : Int32) (v2 : Int32) (v3 : Int32) (v4 : Int32) (v5 : Int32) (s0 : Int32) (σ : AS) (w : wpO (g_X1_strengthAt_40 o v1 v2 v3 v4 v5 s0 σ) Q) : RJ l cx 3 RX1 cX1_strengthAt 9 (some .int) 40 [(0, .inr (.inr (1, o, 0))), (1, .inl v1), (2, .inl v2), (3, .inl v3), (4, .inl v4), (5, .inl v5)] [.inl s0] σ (QI Q) := by
  unfold g_X1_strengthAt_40 at w
  refine R_istore (lv' := [(6, .inl s0), (0, .inr (.inr (1, o, 0))), (1, .inl v1), (2, .inl v2), (3, .inl v3), (4, .inl v4), (5, .inl v5)]) dX1_strengthAt_40 (by decide) rfl ?_
  refine R_aload_n dX1_strengthAt_42 rfl 1 rfl ?_
  refine R_getfO (k := 0) acl1 ho (by decide) fl_RX1_53 dX1_strengthAt_43 rfl ?_
  refine R_iload dX1_strengthAt_46 5 rfl ?_
  refine R_iconst (v := 1) dX1_strengthAt_48 (by decide) ?_
  refine R_callVI (As := [.inl v4, .inl 1]) acl6 rfl oz6_0 mi_X6_trait ml_RX1_107 rfl (Nat.le_of_ble_eq_true rfl) (by decide) dX1_strengthAt_49 (ct_X6_trait hA v4 1 σ _ (wp_bnd w)) (fun r6 σ7 w => ?_)
  refine R_istore (lv' := [(7, .inl r6), (6, .inl s0), (0, .inr (.inr (1, o, 0))), (1, .inl v1), (2, .inl v2), (3, .inl v3), (4, .inl v4), (5, .inl v5)]) dX1_strengthAt_52 (by decide) rfl ?_
  refine R_aload_n dX1_strengthAt_54 rfl 2 rfl ?_
  refine R_getfO (k := 0) acl1 ho (by decide) fl_RX1_53 dX1_strengthAt_55 rfl ?_
  refine R_iload dX1_strengthAt_58 6 rfl ?_
  refine R_aload_n dX1_strengthAt_60 rfl 2 rfl ?_
  refine R_getfI (k := 11) acl1 ho (by decide) fl_RX1_40 dX1_strengthAt_61 rfl ?_
  refine R_callVI (As := [.inl v4, .inl (gF σ7 1 o 11)]) acl6 rfl oz6_0 mi_X6_how ml_RX1_110 rfl (Nat.le_of_ble_eq_true rfl) (by decide) dX1_strengthAt_64 (ct_X6_how hA v4 (gF σ7 1 o 11) σ7 _ (wp_bnd w)) (fun r8 σ9 w => ?_)
  refine R_istore (lv' := [(8, .inl r8), (7, .inl r6), (6, .inl s0), (0, .inr (.inr (1, o, 0))), (1, .inl v1), (2, .inl v2), (3, .inl v3), (4, .inl v4), (5, .inl v5)]) dX1_strengthAt_67 (by decide) rfl ?_
  refine R_aload_n dX1_strengthAt_69 rfl 3 rfl ?_
  refine R_getfO (k := 1) acl1 ho (by decide) fl_RX1_57 dX1_strengthAt_70 rfl ?_
  refine R_callVI (As := []) acl3 rfl oz3_0 mi_X3_isTold ml_RX1_113 rfl (Nat.le_of_ble_eq_true rfl) (by decide) dX1_strengthAt_73 (ct_X3_isTold hA 0 oz3_0 σ9 _ (wp_bnd w)) (fun r10 σ11 w => ?_)
  refine R_if_ne (tgt := 105) dX1_strengthAt_76 (by decide) (fun c12 => ?_) (fun c12 => ?_)
  · have w := wp_f c12 w
    refine R_aload_n dX1_strengthAt_105 rfl 3 rfl ?_
    refine R_getfO (k := 1) acl1 ho (by decide) fl_RX1_57 dX1_strengthAt_106 rfl ?_
    refine R_getfA (k := 3) acl3 oz3_0 (by decide) fl_RX1_119 dX1_strengthAt_109 rfl ?_
    refine R_iconst (v := 0) dX1_strengthAt_112 (by decide) ?_
    refine R_aload_n dX1_strengthAt_113 rfl 3 rfl ?_
    refine R_getfO (k := 0) acl1 ho (by decide) fl_RX1_53 dX1_strengthAt_114 rfl ?_
    refine R_iload dX1_strengthAt_117 7 rfl ?_
    refine R_iconst (v := 0) dX1_strengthAt_119 (by decide) ?_
    refine R_callVI (As := [.inl v4, .inl 0]) acl6 rfl oz6_0 mi_X6_trait ml_RX1_107 rfl (Nat.le_of_ble_eq_true rfl) (by decide) dX1_strengthAt_120 (ct_X6_trait hA v4 0 σ11 _ (wp_bnd w)) (fun r13 σ14 w => ?_)
    refine R_iast rfl oz3_0 (by decide) dX1_strengthAt_123 ?_
    refine R_nameS w ?_; clear w; intro σ15 w
    refine R_aload_n dX1_strengthAt_124 rfl 3 rfl ?_
    refine R_getfO (k := 1) acl1 ho (by decide) fl_RX1_57 dX1_strengthAt_125 rfl ?_
    refine R_getfA (k := 3) acl3 oz3_0 (by decide) fl_RX1_119 dX1_strengthAt_128 rfl ?_
    refine R_iconst (v := 1) dX1_strengthAt_131 (by decide) ?_
    refine R_iload dX1_strengthAt_132 1 rfl ?_
    refine R_iast rfl oz3_0 (by decide) dX1_strengthAt_134 ?_
    refine R_nameS w ?_; clear w; intro σ16 w
    refine R_aload_n dX1_strengthAt_135 rfl 3 rfl ?_
    refine R_getfO (k := 1) acl1 ho (by decide) fl_RX1_57 dX1_strengthAt_136 rfl ?_
    refine R_getfA (k := 3) acl3 oz3_0 (by decide) fl_RX1_119 dX1_strengthAt_139 rfl ?_
    refine R_iconst (v := 2) dX1_strengthAt_142 (by decide) ?_
    refine R_aload_n dX1_strengthAt_143 rfl 3 rfl ?_
    refine R_getfO (k := 0) acl1 ho (by decide) fl_RX1_53 dX1_strengthAt_144 rfl ?_
    refine R_iload dX1_strengthAt_147 7 rfl ?_
    refine R_iconst (v := 2) dX1_strengthAt_149 (by decide) ?_
    refine R_callVI (As := [.inl v4, .inl 2]) acl6 rfl oz6_0 mi_X6_trait ml_RX1_107 rfl (Nat.le_of_ble_eq_true rfl) (by decide) dX1_strengthAt_150 (ct_X6_trait hA v4 2 σ16 _ (wp_bnd w)) (fun r17 σ18 w => ?_)
    refine R_iast rfl oz3_0 (by decide) dX1_strengthAt_153 ?_
    refine R_nameS w ?_; clear w; intro σ19 w
    refine R_aload_n dX1_strengthAt_154 rfl 3 rfl ?_
    refine R_getfO (k := 1) acl1 ho (by decide) fl_RX1_57 dX1_strengthAt_155 rfl ?_
    refine R_getfA (k := 3) acl3 oz3_0 (by decide) fl_RX1_119 dX1_strengthAt_158 rfl ?_
    refine R_iconst (v := 3) dX1_strengthAt_161 (by decide) ?_
    refine R_iload dX1_strengthAt_162 2 rfl ?_
    refine R_iast rfl oz3_0 (by decide) dX1_strengthAt_164 ?_
    refine R_nameS w ?_; clear w; intro σ20 w
    refine R_aload_n dX1_strengthAt_165 rfl 3 rfl ?_
    refine R_getfO (k := 1) acl1 ho (by decide) fl_RX1_57 dX1_strengthAt_166 rfl ?_
    refine R_getfA (k := 3) acl3 oz3_0 (by decide) fl_RX1_119 dX1_strengthAt_169 rfl ?_
    refine R_iconst (v := 4) dX1_strengthAt_172 (by decide) ?_
    refine R_iload dX1_strengthAt_173 8 rfl ?_
    refine R_if_eq (tgt := 187) dX1_strengthAt_175 (by decide) (fun c21 => ?_) (fun c21 => ?_)
    · have w := wp_t c21 w
      refine R_aload_n dX1_strengthAt_187 rfl 3 rfl ?_
      refine R_getfA (k := 3) acl1 ho (by decide) fl_RX1_15 dX1_strengthAt_188 rfl ?_
      refine R_iload_n dX1_strengthAt_191 rfl 5 rfl ?_
      obtain ⟨b22, w⟩ := wp_chk w
      refine R_iald rfl ho b22 dX1_strengthAt_192 ?_
      refine R_sub [3, 4, 6, 0] rfl ?_
      exact rk_X1_strengthAt_193 hA o ho _ v1 v3 r8 (gA σ20 1 o 3 v2) 4 σ20 w
    · have w := wp_f c21 w
      refine R_aload_n dX1_strengthAt_178 rfl 3 rfl ?_
      refine R_getfA (k := 4) acl1 ho (by decide) fl_RX1_18 dX1_strengthAt_179 rfl ?_
      refine R_iload_n dX1_strengthAt_182 rfl 5 rfl ?_
      obtain ⟨b38, w⟩ := wp_chk w
      refine R_iald rfl ho b38 dX1_strengthAt_183 ?_
      refine R_goto (tgt := 193) dX1_strengthAt_184 (by decide) ?_
      refine R_sub [3, 4, 6, 0] rfl ?_
      exact rk_X1_strengthAt_193 hA o ho _ v1 v3 r8 (gA σ20 1 o 4 v2) 4 σ20 w
  · have w := wp_t c12 w
    refine R_iload dX1_strengthAt_79 0 rfl ?_
    refine R_iconst (v := 1) dX1_strengthAt_81 (by decide) ?_
    refine R_icmp_ne (tgt := 97) dX1_strengthAt_82 (by decide) (fun c39 => ?_) (fun c39 => ?_)
    · have w := wp_f c39 w
      refine R_iconst (v := 2) dX1_strengthAt_97 (by decide) ?_
      refine R_iload dX1_strengthAt_98 1 rfl ?_
      refine R_imul dX1_strengthAt_100 ?_
      refine R_iload dX1_strengthAt_101 2 rfl ?_
      refine R_iadd dX1_strengthAt_103 ?_
      exact R_ireturn dX1_strengthAt_104 rfl ⟨_, rfl, wp_some w⟩
    · have w := wp_t c39 w
      refine R_iconst (v := 2) dX1_strengthAt_85 (by decide) ?_
      refine R_iload dX1_strengthAt_86 1 rfl ?_
      refine R_imul dX1_strengthAt_88 ?_
      refine R_iload dX1_strengthAt_89 2 rfl ?_
      refine R_iadd dX1_strengthAt_91 ?_
      refine R_iconst (v := 2) dX1_strengthAt_92 (by decide) ?_
      refine R_idiv dX1_strengthAt_93 (by decide) ?_
      refine R_goto (tgt := 104) dX1_strengthAt_94 (by decide) ?_
      exact R_ireturn dX1_strengthAt_104 rfl ⟨_, rfl, wp_some w⟩
def g_X1_strengthAt_18  (o : Nat)  (v1 : Int32) (v2 : Int32) (v3 : Int32) (v4 : Int32) (s0 : Int32) (σ : AS) : Option (Int32 × AS) := (if s0 = 0 then (if inb v2 7 then g_X1_strengthAt_40 o v1 v2 v3 v4 s0 (gA σ 1 o 4 v2) σ else none) else (if inb v2 7 then g_X1_strengthAt_40 o v1 v2 v3 v4 s0 (gA σ 1 o 3 v2) σ else none))
set_option maxRecDepth 100000 in
set_option maxHeartbeats 4000000 in
theorem rk_X1_strengthAt_18 {l : Launch} {cx : CX} (hA : AD cx)  (o : Nat) (ho : o < am_cnt 1)  (Q : Int32 → AS → Prop) (v1 : Int32) (v2 : Int32) (v3 : Int32) (v4 : Int32) (s0 : Int32) (σ : AS) (w : wpO (g_X1_strengthAt_18 o v1 v2 v3 v4 s0 σ) Q) : RJ l cx 3 RX1 cX1_strengthAt 9 (some .int) 18 [(0, .inr (.inr (1, o, 0))), (1, .inl v1), (2, .inl v2), (3, .inl v3), (4, .inl v4)] [.inl s0] σ (QI Q) := by
  unfold g_X1_strengthAt_18 at w
  refine R_istore (lv' := [(5, .inl s0), (0, .inr (.inr (1, o, 0))), (1, .inl v1), (2, .inl v2), (3, .inl v3), (4, .inl v4)]) dX1_strengthAt_18 (by decide) rfl ?_
  refine R_iload dX1_strengthAt_20 0 rfl ?_
  refine R_if_eq (tgt := 34) dX1_strengthAt_22 (by decide) (fun c4 => ?_) (fun c4 => ?_)
  · have w := wp_t c4 w
    refine R_aload_n dX1_strengthAt_34 rfl 1 rfl ?_
    refine R_getfA (k := 4) acl1 ho (by decide) fl_RX1_18 dX1_strengthAt_35 rfl ?_
    refine R_iload_n dX1_strengthAt_38 rfl 3 rfl ?_
    obtain ⟨b5, w⟩ := wp_chk w
    refine R_iald rfl ho b5 dX1_strengthAt_39 ?_
    refine R_sub [1, 2, 3, 4, 5, 0] rfl ?_
    exact rk_X1_strengthAt_40 hA o ho _ v1 v2 v3 v4 s0 (gA σ 1 o 4 v2) σ w
  · have w := wp_f c4 w
    refine R_aload_n dX1_strengthAt_25 rfl 1 rfl ?_
    refine R_getfA (k := 3) acl1 ho (by decide) fl_RX1_15 dX1_strengthAt_26 rfl ?_
    refine R_iload_n dX1_strengthAt_29 rfl 3 rfl ?_
    obtain ⟨b40, w⟩ := wp_chk w
    refine R_iald rfl ho b40 dX1_strengthAt_30 ?_
    refine R_goto (tgt := 40) dX1_strengthAt_31 (by decide) ?_
    refine R_sub [1, 2, 3, 4, 5, 0] rfl ?_
    exact rk_X1_strengthAt_40 hA o ho _ v1 v2 v3 v4 s0 (gA σ 1 o 3 v2) σ w
def g_X1_strengthAt (o : Nat) (a0 : Int32) (a1 : Int32) (a2 : Int32) (σ : AS) : Option (Int32 × AS) := (if inb a0 8 then (lt (gA σ 1 o 8 a0) fun x2 => (if a0 = a1 then g_X1_strengthAt_18 o a0 a1 a2 x2 1 σ else g_X1_strengthAt_18 o a0 a1 a2 x2 0 σ)) else none)
set_option maxRecDepth 100000 in
set_option maxHeartbeats 4000000 in
theorem ct_X1_strengthAt {l : Launch} {cx : CX} (hA : AD cx) (o : Nat) (ho : o < am_cnt 1) (a0 : Int32) (a1 : Int32) (a2 : Int32) (σ : AS) (Q : Int32 → AS → Prop) (w : wpO (g_X1_strengthAt o a0 a1 a2 σ) Q) : AMet l cx 3 yX1_strengthAt cX1_strengthAt 9 (some .int) [.inr (.inr (1, o, 0)), .inl a0, .inl a1, .inl a2] σ (QI Q) := by
  unfold g_X1_strengthAt at w
  refine AMet.of (own := RX1) (by decide) rfl hA (Nat.le_of_ble_eq_true rfl) ?_
  show RJ l cx 3 RX1 cX1_strengthAt 9 (some .int) 0 [(0, .inr (.inr (1, o, 0))), (1, .inl a0), (2, .inl a1), (3, .inl a2)] [] σ _
  refine R_aload_n dX1_strengthAt_0 rfl 0 rfl ?_
  refine R_getfA (k := 8) acl1 ho (by decide) fl_RX1_30 dX1_strengthAt_1 rfl ?_
  refine R_iload_n dX1_strengthAt_4 rfl 1 rfl ?_
  obtain ⟨b1, w⟩ := wp_chk w
  refine R_iald rfl ho b1 dX1_strengthAt_5 ?_
  refine R_nameI w ?_; clear w; intro x2 w
  refine R_istore (lv' := [(4, .inl x2), (0, .inr (.inr (1, o, 0))), (1, .inl a0), (2, .inl a1), (3, .inl a2)]) dX1_strengthAt_6 (by decide) rfl ?_
  refine R_iload_n dX1_strengthAt_8 rfl 2 rfl ?_
  refine R_iload_n dX1_strengthAt_9 rfl 3 rfl ?_
  refine R_icmp_ne (tgt := 17) dX1_strengthAt_10 (by decide) (fun c3 => ?_) (fun c3 => ?_)
  · have w := wp_f c3 w
    refine R_iconst (v := 0) dX1_strengthAt_17 (by decide) ?_
    refine R_sub [1, 2, 3, 4, 0] rfl ?_
    exact rk_X1_strengthAt_18 hA o ho _ a0 a1 a2 x2 0 σ w
  · have w := wp_t c3 w
    refine R_iconst (v := 1) dX1_strengthAt_13 (by decide) ?_
    refine R_goto (tgt := 18) dX1_strengthAt_14 (by decide) ?_
    refine R_sub [1, 2, 3, 4, 0] rfl ?_
    exact rk_X1_strengthAt_18 hA o ho _ a0 a1 a2 x2 1 σ w
def g_X1_free (o : Nat) (a0 : Int32) (σ : AS) : Option (Int32 × AS) := (if inb a0 7 then some (((gA σ 1 o 2 a0) - (gA σ 1 o 3 a0)) - (gA σ 1 o 4 a0), σ) else none)
set_option maxRecDepth 100000 in
set_option maxHeartbeats 4000000 in
theorem ct_X1_free {l : Launch} {cx : CX} (hA : AD cx) (o : Nat) (ho : o < am_cnt 1) (a0 : Int32) (σ : AS) (Q : Int32 → AS → Prop) (w : wpO (g_X1_free o a0 σ) Q) : AMet l cx 0 yX1_free cX1_free 2 (some .int) [.inr (.inr (1, o, 0)), .inl a0] σ (QI Q) := by
  unfold g_X1_free at w
  refine AMet.of (own := RX1) (by decide) rfl hA (Nat.le_of_ble_eq_true rfl) ?_
  show RJ l cx 0 RX1 cX1_free 2 (some .int) 0 [(0, .inr (.inr (1, o, 0))), (1, .inl a0)] [] σ _
  refine R_aload_n dX1_free_0 rfl 0 rfl ?_
  refine R_getfA (k := 2) acl1 ho (by decide) fl_RX1_9 dX1_free_1 rfl ?_
  refine R_iload_n dX1_free_4 rfl 1 rfl ?_
  obtain ⟨b1, w⟩ := wp_chk w
  refine R_iald rfl ho b1 dX1_free_5 ?_
  refine R_aload_n dX1_free_6 rfl 0 rfl ?_
  refine R_getfA (k := 3) acl1 ho (by decide) fl_RX1_15 dX1_free_7 rfl ?_
  refine R_iload_n dX1_free_10 rfl 1 rfl ?_
  refine R_iald rfl ho b1 dX1_free_11 ?_
  refine R_isub dX1_free_12 ?_
  refine R_aload_n dX1_free_13 rfl 0 rfl ?_
  refine R_getfA (k := 4) acl1 ho (by decide) fl_RX1_18 dX1_free_14 rfl ?_
  refine R_iload_n dX1_free_17 rfl 1 rfl ?_
  refine R_iald rfl ho b1 dX1_free_18 ?_
  refine R_isub dX1_free_19 ?_
  exact R_ireturn dX1_free_20 rfl ⟨_, rfl, wp_some w⟩
def g_X1_takeFree (o : Nat) (k : Nat) (a1 : Int32) (σ : AS) : Option (Int32 × AS) := (bnd (g_X1_free o a1 σ) fun r1 σ2 => (if (0 : Int32) < r1 then (if inb a1 7 then (lt (sA σ2 1 o k a1 ((gA σ2 1 o k a1) + 1)) fun σ5 => (lt (sF σ5 1 o 10 1) fun σ6 => some (1, σ6))) else none) else some (0, σ2)))
set_option maxRecDepth 100000 in
set_option maxHeartbeats 4000000 in
theorem ct_X1_takeFree {l : Launch} {cx : CX} (hA : AD cx) (o : Nat) (ho : o < am_cnt 1) (k : Nat) (hk : am_k 1 k = (2, 7, 0)) (a1 : Int32) (σ : AS) (Q : Int32 → AS → Prop) (w : wpO (g_X1_takeFree o k a1 σ) Q) : AMet l cx 1 yX1_takeFree cX1_takeFree 3 (some .boolean) [.inr (.inr (1, o, 0)), .inr (.inr (1, o, k + 1)), .inl a1] σ (QI Q) := by
  unfold g_X1_takeFree at w
  refine AMet.of (own := RX1) (by decide) rfl hA (Nat.le_of_ble_eq_true rfl) ?_
  show RJ l cx 1 RX1 cX1_takeFree 3 (some .boolean) 0 [(0, .inr (.inr (1, o, 0))), (1, .inr (.inr (1, o, k + 1))), (2, .inl a1)] [] σ _
  refine R_aload_n dX1_takeFree_0 rfl 0 rfl ?_
  refine R_iload_n dX1_takeFree_1 rfl 2 rfl ?_
  refine R_callVI (As := [.inl a1]) acl1 rfl ho mi_X1_free ml_RX1_142 rfl (Nat.le_of_ble_eq_true rfl) (by decide) dX1_takeFree_2 (ct_X1_free hA o ho a1 σ _ (wp_bnd w)) (fun r1 σ2 w => ?_)
  refine R_if_gt (tgt := 10) dX1_takeFree_5 (by decide) (fun c3 => ?_) (fun c3 => ?_)
  · have w := wp_t c3 w
    refine R_aload_n dX1_takeFree_10 rfl 1 rfl ?_
    refine R_iload_n dX1_takeFree_11 rfl 2 rfl ?_
    refine R_dup2 dX1_takeFree_12 rfl rfl ?_
    obtain ⟨b4, w⟩ := wp_chk w
    refine R_iald hk ho b4 dX1_takeFree_13 ?_
    refine R_iconst (v := 1) dX1_takeFree_14 (by decide) ?_
    refine R_iadd dX1_takeFree_15 ?_
    refine R_iast hk ho b4 dX1_takeFree_16 ?_
    refine R_nameS w ?_; clear w; intro σ5 w
    refine R_aload_n dX1_takeFree_17 rfl 0 rfl ?_
    refine R_iconst (v := 1) dX1_takeFree_18 (by decide) ?_
    refine R_putf (k := 10) (ty := .boolean) acl1 ho (by decide) fl_RX1_36 rfl (tyX1_ok 10 (by decide)) (Or.inr ⟨rfl, by decide⟩) dX1_takeFree_19 rfl ?_
    refine R_nameS w ?_; clear w; intro σ6 w
    refine R_iconst (v := 1) dX1_takeFree_22 (by decide) ?_
    exact R_zreturn dX1_takeFree_23 rfl (by decide) ⟨_, rfl, wp_some w⟩
  · have w := wp_f c3 w
    refine R_iconst (v := 0) dX1_takeFree_8 (by decide) ?_
    exact R_zreturn dX1_takeFree_9 rfl (by decide) ⟨_, rfl, wp_some w⟩
def g_X1_wrest (o : Nat) (k0 : Nat) (k1 : Nat) (a2 : Int32) (a3 : Int32) (a4 : Int32) (σ : AS) : Option (Unit × AS) := (if inb a2 7 then (if gA σ 1 o k1 a2 = 0 then some ((), σ) else (if inb a3 8 then (bnd (g_X6_trait (gA σ 1 o 8 a3) 2 σ) fun r4 σ5 => (if r4 < a4 then (lt (sA σ5 1 o k1 a2 ((gA σ5 1 o k1 a2) - 1)) fun σ7 => (lt (sA σ7 1 o k0 a2 ((gA σ7 1 o k0 a2) + 1)) fun σ8 => (lt (sA σ8 1 o 9 a3 1) fun σ9 => (lt (sA σ9 1 o 5 a2 1) fun σ10 => (lt (sF σ10 1 o 12 ((gF σ10 1 o 12) + 1)) fun σ11 => (lt (sF σ11 1 o 10 1) fun σ12 => some ((), σ12))))))) else some ((), σ5))) else none)) else none)
set_option maxRecDepth 100000 in
set_option maxHeartbeats 4000000 in
theorem ct_X1_wrest {l : Launch} {cx : CX} (hA : AD cx) (o : Nat) (ho : o < am_cnt 1) (k0 : Nat) (hk0 : am_k 1 k0 = (2, 7, 0)) (k1 : Nat) (hk1 : am_k 1 k1 = (2, 7, 0)) (a2 : Int32) (a3 : Int32) (a4 : Int32) (σ : AS) (Q : Unit → AS → Prop) (w : wpO (g_X1_wrest o k0 k1 a2 a3 a4 σ) Q) : AMet l cx 2 yX1_wrest cX1_wrest 6 none [.inr (.inr (1, o, 0)), .inr (.inr (1, o, k0 + 1)), .inr (.inr (1, o, k1 + 1)), .inl a2, .inl a3, .inl a4] σ (QV Q) := by
  unfold g_X1_wrest at w
  refine AMet.of (own := RX1) (by decide) rfl hA (Nat.le_of_ble_eq_true rfl) ?_
  show RJ l cx 2 RX1 cX1_wrest 6 none 0 [(0, .inr (.inr (1, o, 0))), (1, .inr (.inr (1, o, k0 + 1))), (2, .inr (.inr (1, o, k1 + 1))), (3, .inl a2), (4, .inl a3), (5, .inl a4)] [] σ _
  refine R_aload_n dX1_wrest_0 rfl 2 rfl ?_
  refine R_iload_n dX1_wrest_1 rfl 3 rfl ?_
  obtain ⟨b1, w⟩ := wp_chk w
  refine R_iald hk1 ho b1 dX1_wrest_2 ?_
  refine R_if_eq (tgt := 26) dX1_wrest_3 (by decide) (fun c2 => ?_) (fun c2 => ?_)
  · have w := wp_t c2 w
    exact R_vreturn dX1_wrest_26 rfl ⟨rfl, wp_some w⟩
  · have w := wp_f c2 w
    refine R_iload dX1_wrest_6 5 rfl ?_
    refine R_aload_n dX1_wrest_8 rfl 0 rfl ?_
    refine R_getfO (k := 0) acl1 ho (by decide) fl_RX1_53 dX1_wrest_9 rfl ?_
    refine R_aload_n dX1_wrest_12 rfl 0 rfl ?_
    refine R_getfA (k := 8) acl1 ho (by decide) fl_RX1_30 dX1_wrest_13 rfl ?_
    refine R_iload dX1_wrest_16 4 rfl ?_
    obtain ⟨b3, w⟩ := wp_chk w
    refine R_iald rfl ho b3 dX1_wrest_18 ?_
    refine R_iconst (v := 2) dX1_wrest_19 (by decide) ?_
    refine R_callVI (As := [.inl (gA σ 1 o 8 a3), .inl 2]) acl6 rfl oz6_0 mi_X6_trait ml_RX1_107 rfl (Nat.le_of_ble_eq_true rfl) (by decide) dX1_wrest_20 (ct_X6_trait hA (gA σ 1 o 8 a3) 2 σ _ (wp_bnd w)) (fun r4 σ5 w => ?_)
    refine R_icmp_gt (tgt := 27) dX1_wrest_23 (by decide) (fun c6 => ?_) (fun c6 => ?_)
    · have w := wp_t c6 w
      refine R_aload_n dX1_wrest_27 rfl 2 rfl ?_
      refine R_iload_n dX1_wrest_28 rfl 3 rfl ?_
      refine R_dup2 dX1_wrest_29 rfl rfl ?_
      refine R_iald hk1 ho b1 dX1_wrest_30 ?_
      refine R_iconst (v := 1) dX1_wrest_31 (by decide) ?_
      refine R_isub dX1_wrest_32 ?_
      refine R_iast hk1 ho b1 dX1_wrest_33 ?_
      refine R_nameS w ?_; clear w; intro σ7 w
      refine R_aload_n dX1_wrest_34 rfl 1 rfl ?_
      refine R_iload_n dX1_wrest_35 rfl 3 rfl ?_
      refine R_dup2 dX1_wrest_36 rfl rfl ?_
      refine R_iald hk0 ho b1 dX1_wrest_37 ?_
      refine R_iconst (v := 1) dX1_wrest_38 (by decide) ?_
      refine R_iadd dX1_wrest_39 ?_
      refine R_iast hk0 ho b1 dX1_wrest_40 ?_
      refine R_nameS w ?_; clear w; intro σ8 w
      refine R_aload_n dX1_wrest_41 rfl 0 rfl ?_
      refine R_getfA (k := 9) acl1 ho (by decide) fl_RX1_33 dX1_wrest_42 rfl ?_
      refine R_iload dX1_wrest_45 4 rfl ?_
      refine R_iconst (v := 1) dX1_wrest_47 (by decide) ?_
      refine R_iast rfl ho b3 dX1_wrest_48 ?_
      refine R_nameS w ?_; clear w; intro σ9 w
      refine R_aload_n dX1_wrest_49 rfl 0 rfl ?_
      refine R_getfA (k := 5) acl1 ho (by decide) fl_RX1_21 dX1_wrest_50 rfl ?_
      refine R_iload_n dX1_wrest_53 rfl 3 rfl ?_
      refine R_iconst (v := 1) dX1_wrest_54 (by decide) ?_
      refine R_iast rfl ho b1 dX1_wrest_55 ?_
      refine R_nameS w ?_; clear w; intro σ10 w
      refine R_aload_n dX1_wrest_56 rfl 0 rfl ?_
      refine R_dup dX1_wrest_57 rfl ?_
      refine R_getfI (k := 12) acl1 ho (by decide) fl_RX1_44 dX1_wrest_58 rfl ?_
      refine R_iconst (v := 1) dX1_wrest_61 (by decide) ?_
      refine R_iadd dX1_wrest_62 ?_
      refine R_putf (k := 12) (ty := .int) acl1 ho (by decide) fl_RX1_44 rfl (tyX1_ok 12 (by decide)) (Or.inl rfl) dX1_wrest_63 rfl ?_
      refine R_nameS w ?_; clear w; intro σ11 w
      refine R_aload_n dX1_wrest_66 rfl 0 rfl ?_
      refine R_iconst (v := 1) dX1_wrest_67 (by decide) ?_
      refine R_putf (k := 10) (ty := .boolean) acl1 ho (by decide) fl_RX1_36 rfl (tyX1_ok 10 (by decide)) (Or.inr ⟨rfl, by decide⟩) dX1_wrest_68 rfl ?_
      refine R_nameS w ?_; clear w; intro σ12 w
      exact R_vreturn dX1_wrest_71 rfl ⟨rfl, wp_some w⟩
    · have w := wp_f c6 w
      exact R_vreturn dX1_wrest_26 rfl ⟨rfl, wp_some w⟩
def g_X1_contend_60  (o : Nat)  (v1 : Int32) (v2 : Int32) (v3 : Int32) (σ : AS) : Option (Unit × AS) := (if v2 < v3 then (bnd (g_X1_takeFree o 4 v1 σ) fun r11 σ12 => (if r11 = 0 then (bnd (g_X1_wrest o 4 3 v1 v1 (v3 - v2) σ12) fun _ σ14 => some ((), σ14)) else some ((), σ12))) else some ((), σ))
set_option maxRecDepth 100000 in
set_option maxHeartbeats 4000000 in
theorem rk_X1_contend_60 {l : Launch} {cx : CX} (hA : AD cx)  (o : Nat) (ho : o < am_cnt 1)  (Q : Unit → AS → Prop) (v1 : Int32) (v2 : Int32) (v3 : Int32) (σ : AS) (w : wpO (g_X1_contend_60 o v1 v2 v3 σ) Q) : RJ l cx 4 RX1 cX1_contend 4 none 60 [(0, .inr (.inr (1, o, 0))), (1, .inl v1), (2, .inl v2), (3, .inl v3)] [] σ (QV Q) := by
  unfold g_X1_contend_60 at w
  refine R_iload_n dX1_contend_60 rfl 3 rfl ?_
  refine R_iload_n dX1_contend_61 rfl 2 rfl ?_
  refine R_icmp_le (tgt := 94) dX1_contend_62 (by decide) (fun c10 => ?_) (fun c10 => ?_)
  · have w := wp_f c10 w
    exact R_vreturn dX1_contend_94 rfl ⟨rfl, wp_some w⟩
  · have w := wp_t c10 w
    refine R_aload_n dX1_contend_65 rfl 0 rfl ?_
    refine R_aload_n dX1_contend_66 rfl 0 rfl ?_
    refine R_getfA (k := 4) acl1 ho (by decide) fl_RX1_18 dX1_contend_67 rfl ?_
    refine R_iload_n dX1_contend_70 rfl 1 rfl ?_
    refine R_callVI (As := [.inr (.inr (1, o, 4 + 1)), .inl v1]) acl1 rfl ho mi_X1_takeFree ml_RX1_138 rfl (Nat.le_of_ble_eq_true rfl) (by decide) dX1_contend_71 (ct_X1_takeFree hA o ho 4 rfl v1 σ _ (wp_bnd w)) (fun r11 σ12 w => ?_)
    refine R_if_ne (tgt := 94) dX1_contend_74 (by decide) (fun c13 => ?_) (fun c13 => ?_)
    · have w := wp_f c13 w
      exact R_vreturn dX1_contend_94 rfl ⟨rfl, wp_some w⟩
    · have w := wp_t c13 w
      refine R_aload_n dX1_contend_77 rfl 0 rfl ?_
      refine R_aload_n dX1_contend_78 rfl 0 rfl ?_
      refine R_getfA (k := 4) acl1 ho (by decide) fl_RX1_18 dX1_contend_79 rfl ?_
      refine R_aload_n dX1_contend_82 rfl 0 rfl ?_
      refine R_getfA (k := 3) acl1 ho (by decide) fl_RX1_15 dX1_contend_83 rfl ?_
      refine R_iload_n dX1_contend_86 rfl 1 rfl ?_
      refine R_iload_n dX1_contend_87 rfl 1 rfl ?_
      refine R_iload_n dX1_contend_88 rfl 3 rfl ?_
      refine R_iload_n dX1_contend_89 rfl 2 rfl ?_
      refine R_isub dX1_contend_90 ?_
      refine R_callVV (As := [.inr (.inr (1, o, 4 + 1)), .inr (.inr (1, o, 3 + 1)), .inl v1, .inl v1, .inl (v3 - v2)]) acl1 rfl ho mi_X1_wrest ml_RX1_152 rfl (Nat.le_of_ble_eq_true rfl) (by decide) dX1_contend_91 (ct_X1_wrest hA o ho 4 rfl 3 rfl v1 v1 (v3 - v2) σ12 _ (wp_bnd w)) (fun σ14 w => ?_)
      exact R_vreturn dX1_contend_94 rfl ⟨rfl, wp_some w⟩
def g_X1_contend (o : Nat) (a0 : Int32) (σ : AS) : Option (Unit × AS) := (bnd (g_X1_nextCough o σ) fun r1 σ2 => (bnd (g_X1_strengthAt o a0 a0 r1 σ2) fun r3 σ4 => (bnd (g_X1_nextCough o σ4) fun r5 σ6 => (bnd (g_X1_strengthAt o (a0 + 1) a0 r5 σ6) fun r7 σ8 => (if r7 < r3 then (bnd (g_X1_takeFree o 3 a0 σ8) fun r15 σ16 => (if r15 = 0 then (bnd (g_X1_wrest o 3 4 a0 (a0 + 1) (r3 - r7) σ16) fun _ σ18 => g_X1_contend_60 o a0 r3 r7 σ18) else g_X1_contend_60 o a0 r3 r7 σ16)) else g_X1_contend_60 o a0 r3 r7 σ8)))))
set_option maxRecDepth 100000 in
set_option maxHeartbeats 4000000 in
theorem ct_X1_contend {l : Launch} {cx : CX} (hA : AD cx) (o : Nat) (ho : o < am_cnt 1) (a0 : Int32) (σ : AS) (Q : Unit → AS → Prop) (w : wpO (g_X1_contend o a0 σ) Q) : AMet l cx 4 yX1_contend cX1_contend 4 none [.inr (.inr (1, o, 0)), .inl a0] σ (QV Q) := by
  unfold g_X1_contend at w
  refine AMet.of (own := RX1) (by decide) rfl hA (Nat.le_of_ble_eq_true rfl) ?_
  show RJ l cx 4 RX1 cX1_contend 4 none 0 [(0, .inr (.inr (1, o, 0))), (1, .inl a0)] [] σ _
  refine R_aload_n dX1_contend_0 rfl 0 rfl ?_
  refine R_iload_n dX1_contend_1 rfl 1 rfl ?_
  refine R_iload_n dX1_contend_2 rfl 1 rfl ?_
  refine R_aload_n dX1_contend_3 rfl 0 rfl ?_
  refine R_callVI (As := []) acl1 rfl ho mi_X1_nextCough ml_RX1_145 rfl (Nat.le_of_ble_eq_true rfl) (by decide) dX1_contend_4 (ct_X1_nextCough hA o ho σ _ (wp_bnd w)) (fun r1 σ2 w => ?_)
  refine R_callVI (As := [.inl a0, .inl a0, .inl r1]) acl1 rfl ho mi_X1_strengthAt ml_RX1_148 rfl (Nat.le_of_ble_eq_true rfl) (by decide) dX1_contend_7 (ct_X1_strengthAt hA o ho a0 a0 r1 σ2 _ (wp_bnd w)) (fun r3 σ4 w => ?_)
  refine R_istore_n (lv' := [(2, .inl r3), (0, .inr (.inr (1, o, 0))), (1, .inl a0)]) dX1_contend_10 rfl (by decide) rfl ?_
  refine R_aload_n dX1_contend_11 rfl 1 rfl ?_
  refine R_iload_n dX1_contend_12 rfl 2 rfl ?_
  refine R_iconst (v := 1) dX1_contend_13 (by decide) ?_
  refine R_iadd dX1_contend_14 ?_
  refine R_iload_n dX1_contend_15 rfl 2 rfl ?_
  refine R_aload_n dX1_contend_16 rfl 1 rfl ?_
  refine R_callVI (As := []) acl1 rfl ho mi_X1_nextCough ml_RX1_145 rfl (Nat.le_of_ble_eq_true rfl) (by decide) dX1_contend_17 (ct_X1_nextCough hA o ho σ4 _ (wp_bnd w)) (fun r5 σ6 w => ?_)
  refine R_callVI (As := [.inl (a0 + 1), .inl a0, .inl r5]) acl1 rfl ho mi_X1_strengthAt ml_RX1_148 rfl (Nat.le_of_ble_eq_true rfl) (by decide) dX1_contend_20 (ct_X1_strengthAt hA o ho (a0 + 1) a0 r5 σ6 _ (wp_bnd w)) (fun r7 σ8 w => ?_)
  refine R_istore_n (lv' := [(3, .inl r7), (2, .inl r3), (0, .inr (.inr (1, o, 0))), (1, .inl a0)]) dX1_contend_23 rfl (by decide) rfl ?_
  refine R_iload_n dX1_contend_24 rfl 1 rfl ?_
  refine R_iload_n dX1_contend_25 rfl 0 rfl ?_
  refine R_icmp_le (tgt := 60) dX1_contend_26 (by decide) (fun c9 => ?_) (fun c9 => ?_)
  · have w := wp_f c9 w
    refine R_sub [2, 3, 1, 0] rfl ?_
    exact rk_X1_contend_60 hA o ho _ a0 r3 r7 σ8 w
  · have w := wp_t c9 w
    refine R_aload_n dX1_contend_29 rfl 2 rfl ?_
    refine R_aload_n dX1_contend_30 rfl 2 rfl ?_
    refine R_getfA (k := 3) acl1 ho (by decide) fl_RX1_15 dX1_contend_31 rfl ?_
    refine R_iload_n dX1_contend_34 rfl 3 rfl ?_
    refine R_callVI (As := [.inr (.inr (1, o, 3 + 1)), .inl a0]) acl1 rfl ho mi_X1_takeFree ml_RX1_138 rfl (Nat.le_of_ble_eq_true rfl) (by decide) dX1_contend_35 (ct_X1_takeFree hA o ho 3 rfl a0 σ8 _ (wp_bnd w)) (fun r15 σ16 w => ?_)
    refine R_if_ne (tgt := 60) dX1_contend_38 (by decide) (fun c17 => ?_) (fun c17 => ?_)
    · have w := wp_f c17 w
      refine R_sub [2, 3, 1, 0] rfl ?_
      exact rk_X1_contend_60 hA o ho _ a0 r3 r7 σ16 w
    · have w := wp_t c17 w
      refine R_aload_n dX1_contend_41 rfl 2 rfl ?_
      refine R_aload_n dX1_contend_42 rfl 2 rfl ?_
      refine R_getfA (k := 3) acl1 ho (by decide) fl_RX1_15 dX1_contend_43 rfl ?_
      refine R_aload_n dX1_contend_46 rfl 2 rfl ?_
      refine R_getfA (k := 4) acl1 ho (by decide) fl_RX1_18 dX1_contend_47 rfl ?_
      refine R_iload_n dX1_contend_50 rfl 3 rfl ?_
      refine R_iload_n dX1_contend_51 rfl 3 rfl ?_
      refine R_iconst (v := 1) dX1_contend_52 (by decide) ?_
      refine R_iadd dX1_contend_53 ?_
      refine R_iload_n dX1_contend_54 rfl 1 rfl ?_
      refine R_iload_n dX1_contend_55 rfl 0 rfl ?_
      refine R_isub dX1_contend_56 ?_
      refine R_callVV (As := [.inr (.inr (1, o, 3 + 1)), .inr (.inr (1, o, 4 + 1)), .inl a0, .inl (a0 + 1), .inl (r3 - r7)]) acl1 rfl ho mi_X1_wrest ml_RX1_152 rfl (Nat.le_of_ble_eq_true rfl) (by decide) dX1_contend_57 (ct_X1_wrest hA o ho 3 rfl 4 rfl a0 (a0 + 1) (r3 - r7) σ16 _ (wp_bnd w)) (fun σ18 w => ?_)
      refine R_sub [2, 3, 1, 0] rfl ?_
      exact rk_X1_contend_60 hA o ho _ a0 r3 r7 σ18 w
def g_X1_leave (o : Nat) (k : Nat) (a1 : Int32) (σ : AS) : Option (Unit × AS) := (if inb a1 7 then (if gA σ 1 o k a1 = 0 then some ((), σ) else (lt (sA σ 1 o k a1 0) fun σ3 => (lt (sF σ3 1 o 10 1) fun σ4 => some ((), σ4)))) else none)
set_option maxRecDepth 100000 in
set_option maxHeartbeats 4000000 in
theorem ct_X1_leave {l : Launch} {cx : CX} (hA : AD cx) (o : Nat) (ho : o < am_cnt 1) (k : Nat) (hk : am_k 1 k = (2, 7, 0)) (a1 : Int32) (σ : AS) (Q : Unit → AS → Prop) (w : wpO (g_X1_leave o k a1 σ) Q) : AMet l cx 0 yX1_leave cX1_leave 3 none [.inr (.inr (1, o, 0)), .inr (.inr (1, o, k + 1)), .inl a1] σ (QV Q) := by
  unfold g_X1_leave at w
  refine AMet.of (own := RX1) (by decide) rfl hA (Nat.le_of_ble_eq_true rfl) ?_
  show RJ l cx 0 RX1 cX1_leave 3 none 0 [(0, .inr (.inr (1, o, 0))), (1, .inr (.inr (1, o, k + 1))), (2, .inl a1)] [] σ _
  refine R_aload_n dX1_leave_0 rfl 1 rfl ?_
  refine R_iload_n dX1_leave_1 rfl 2 rfl ?_
  obtain ⟨b1, w⟩ := wp_chk w
  refine R_iald hk ho b1 dX1_leave_2 ?_
  refine R_if_ne (tgt := 7) dX1_leave_3 (by decide) (fun c2 => ?_) (fun c2 => ?_)
  · have w := wp_f c2 w
    refine R_aload_n dX1_leave_7 rfl 1 rfl ?_
    refine R_iload_n dX1_leave_8 rfl 2 rfl ?_
    refine R_iconst (v := 0) dX1_leave_9 (by decide) ?_
    refine R_iast hk ho b1 dX1_leave_10 ?_
    refine R_nameS w ?_; clear w; intro σ3 w
    refine R_aload_n dX1_leave_11 rfl 0 rfl ?_
    refine R_iconst (v := 1) dX1_leave_12 (by decide) ?_
    refine R_putf (k := 10) (ty := .boolean) acl1 ho (by decide) fl_RX1_36 rfl (tyX1_ok 10 (by decide)) (Or.inr ⟨rfl, by decide⟩) dX1_leave_13 rfl ?_
    refine R_nameS w ?_; clear w; intro σ4 w
    exact R_vreturn dX1_leave_16 rfl ⟨rfl, wp_some w⟩
  · have w := wp_t c2 w
    exact R_vreturn dX1_leave_6 rfl ⟨rfl, wp_some w⟩
def g_X6_isThere (a0 : Int32) (a1 : Int32) (σ : AS) : Option (Int32 × AS) := (bnd (g_X6_how a0 a1 σ) fun r1 σ2 => (if r1 = 0 then some (1, σ2) else (if r1 = 1 then some (1, σ2) else some (0, σ2))))
set_option maxRecDepth 100000 in
set_option maxHeartbeats 4000000 in
theorem ct_X6_isThere {l : Launch} {cx : CX} (hA : AD cx) (a0 : Int32) (a1 : Int32) (σ : AS) (Q : Int32 → AS → Prop) (w : wpO (g_X6_isThere a0 a1 σ) Q) : AMet l cx 2 yX6_isThere cX6_isThere 4 (some .boolean) [.inr (.inr (6, 0, 0)), .inl a0, .inl a1] σ (QI Q) := by
  unfold g_X6_isThere at w
  refine AMet.of (own := RX6) (by decide) rfl hA (Nat.le_of_ble_eq_true rfl) ?_
  show RJ l cx 2 RX6 cX6_isThere 4 (some .boolean) 0 [(0, .inr (.inr (6, 0, 0))), (1, .inl a0), (2, .inl a1)] [] σ _
  refine R_aload_n dX6_isThere_0 rfl 0 rfl ?_
  refine R_iload_n dX6_isThere_1 rfl 1 rfl ?_
  refine R_iload_n dX6_isThere_2 rfl 2 rfl ?_
  refine R_callVI (As := [.inl a0, .inl a1]) acl6 rfl oz6_0 mi_X6_how ml_RX6_30 rfl (Nat.le_of_ble_eq_true rfl) (by decide) dX6_isThere_3 (ct_X6_how hA a0 a1 σ _ (wp_bnd w)) (fun r1 σ2 w => ?_)
  refine R_istore_n (lv' := [(3, .inl r1), (0, .inr (.inr (6, 0, 0))), (1, .inl a0), (2, .inl a1)]) dX6_isThere_6 rfl (by decide) rfl ?_
  refine R_iload_n dX6_isThere_7 rfl 0 rfl ?_
  refine R_if_eq (tgt := 16) dX6_isThere_8 (by decide) (fun c3 => ?_) (fun c3 => ?_)
  · have w := wp_t c3 w
    refine R_iconst (v := 1) dX6_isThere_16 (by decide) ?_
    refine R_goto (tgt := 21) dX6_isThere_17 (by decide) ?_
    exact R_zreturn dX6_isThere_21 rfl (by decide) ⟨_, rfl, wp_some w⟩
  · have w := wp_f c3 w
    refine R_iload_n dX6_isThere_11 rfl 0 rfl ?_
    refine R_iconst (v := 1) dX6_isThere_12 (by decide) ?_
    refine R_icmp_ne (tgt := 20) dX6_isThere_13 (by decide) (fun c4 => ?_) (fun c4 => ?_)
    · have w := wp_f c4 w
      refine R_iconst (v := 0) dX6_isThere_20 (by decide) ?_
      exact R_zreturn dX6_isThere_21 rfl (by decide) ⟨_, rfl, wp_some w⟩
    · have w := wp_t c4 w
      refine R_iconst (v := 1) dX6_isThere_16 (by decide) ?_
      refine R_goto (tgt := 21) dX6_isThere_17 (by decide) ?_
      exact R_zreturn dX6_isThere_21 rfl (by decide) ⟨_, rfl, wp_some w⟩
def g_X1_meet_80  (o : Nat)  (v1 : Int32) (v2 : Int32) (v3 : Int32) (σ : AS) : Option (Unit × AS) := (if v2 = 0 then (if v3 = 0 then some ((), σ) else (bnd (g_X1_takeFree o 4 v1 σ) fun r12 σ13 => some ((), σ13))) else (bnd (g_X1_takeFree o 3 v1 σ) fun r14 σ15 => some ((), σ15)))
set_option maxRecDepth 100000 in
set_option maxHeartbeats 4000000 in
theorem rk_X1_meet_80 {l : Launch} {cx : CX} (hA : AD cx)  (o : Nat) (ho : o < am_cnt 1)  (Q : Unit → AS → Prop) (v1 : Int32) (v2 : Int32) (v3 : Int32) (σ : AS) (w : wpO (g_X1_meet_80 o v1 v2 v3 σ) Q) : RJ l cx 5 RX1 cX1_meet 4 none 80 [(0, .inr (.inr (1, o, 0))), (1, .inl v1), (2, .inl v2), (3, .inl v3)] [] σ (QV Q) := by
  unfold g_X1_meet_80 at w
  refine R_iload_n dX1_meet_80 rfl 2 rfl ?_
  refine R_if_eq (tgt := 97) dX1_meet_81 (by decide) (fun c10 => ?_) (fun c10 => ?_)
  · have w := wp_t c10 w
    refine R_iload_n dX1_meet_97 rfl 3 rfl ?_
    refine R_if_eq (tgt := 111) dX1_meet_98 (by decide) (fun c11 => ?_) (fun c11 => ?_)
    · have w := wp_t c11 w
      exact R_vreturn dX1_meet_111 rfl ⟨rfl, wp_some w⟩
    · have w := wp_f c11 w
      refine R_aload_n dX1_meet_101 rfl 0 rfl ?_
      refine R_aload_n dX1_meet_102 rfl 0 rfl ?_
      refine R_getfA (k := 4) acl1 ho (by decide) fl_RX1_18 dX1_meet_103 rfl ?_
      refine R_iload_n dX1_meet_106 rfl 1 rfl ?_
      refine R_callVI (As := [.inr (.inr (1, o, 4 + 1)), .inl v1]) acl1 rfl ho mi_X1_takeFree ml_RX1_138 rfl (Nat.le_of_ble_eq_true rfl) (by decide) dX1_meet_107 (ct_X1_takeFree hA o ho 4 rfl v1 σ _ (wp_bnd w)) (fun r12 σ13 w => ?_)
      refine R_pop dX1_meet_110 rfl ?_
      exact R_vreturn dX1_meet_111 rfl ⟨rfl, wp_some w⟩
  · have w := wp_f c10 w
    refine R_aload_n dX1_meet_84 rfl 0 rfl ?_
    refine R_aload_n dX1_meet_85 rfl 0 rfl ?_
    refine R_getfA (k := 3) acl1 ho (by decide) fl_RX1_15 dX1_meet_86 rfl ?_
    refine R_iload_n dX1_meet_89 rfl 1 rfl ?_
    refine R_callVI (As := [.inr (.inr (1, o, 3 + 1)), .inl v1]) acl1 rfl ho mi_X1_takeFree ml_RX1_138 rfl (Nat.le_of_ble_eq_true rfl) (by decide) dX1_meet_90 (ct_X1_takeFree hA o ho 3 rfl v1 σ _ (wp_bnd w)) (fun r14 σ15 w => ?_)
    refine R_pop dX1_meet_93 rfl ?_
    refine R_goto (tgt := 111) dX1_meet_94 (by decide) ?_
    exact R_vreturn dX1_meet_111 rfl ⟨rfl, wp_some w⟩
def g_X1_meet_64  (o : Nat)  (v1 : Int32) (v2 : Int32) (v3 : Int32) (σ : AS) : Option (Unit × AS) := (if v2 = 0 then g_X1_meet_80 o v1 v2 v3 σ else (if v3 = 0 then g_X1_meet_80 o v1 v2 v3 σ else (bnd (g_X1_contend o v1 σ) fun _ σ17 => some ((), σ17))))
set_option maxRecDepth 100000 in
set_option maxHeartbeats 4000000 in
theorem rk_X1_meet_64 {l : Launch} {cx : CX} (hA : AD cx)  (o : Nat) (ho : o < am_cnt 1)  (Q : Unit → AS → Prop) (v1 : Int32) (v2 : Int32) (v3 : Int32) (σ : AS) (w : wpO (g_X1_meet_64 o v1 v2 v3 σ) Q) : RJ l cx 5 RX1 cX1_meet 4 none 64 [(0, .inr (.inr (1, o, 0))), (1, .inl v1), (2, .inl v2), (3, .inl v3)] [] σ (QV Q) := by
  unfold g_X1_meet_64 at w
  refine R_iload_n dX1_meet_64 rfl 2 rfl ?_
  refine R_if_eq (tgt := 80) dX1_meet_65 (by decide) (fun c9 => ?_) (fun c9 => ?_)
  · have w := wp_t c9 w
    refine R_sub [0, 1, 2, 3] rfl ?_
    exact rk_X1_meet_80 hA o ho _ v1 v2 v3 σ w
  · have w := wp_f c9 w
    refine R_iload_n dX1_meet_68 rfl 3 rfl ?_
    refine R_if_eq (tgt := 80) dX1_meet_69 (by decide) (fun c16 => ?_) (fun c16 => ?_)
    · have w := wp_t c16 w
      refine R_sub [0, 1, 2, 3] rfl ?_
      exact rk_X1_meet_80 hA o ho _ v1 v2 v3 σ w
    · have w := wp_f c16 w
      refine R_aload_n dX1_meet_72 rfl 0 rfl ?_
      refine R_iload_n dX1_meet_73 rfl 1 rfl ?_
      refine R_callVV (As := [.inl v1]) acl1 rfl ho mi_X1_contend ml_RX1_135 rfl (Nat.le_of_ble_eq_true rfl) (by decide) dX1_meet_74 (ct_X1_contend hA o ho v1 σ _ (wp_bnd w)) (fun σ17 w => ?_)
      refine R_goto (tgt := 111) dX1_meet_77 (by decide) ?_
      exact R_vreturn dX1_meet_111 rfl ⟨rfl, wp_some w⟩
def g_X1_meet_51  (o : Nat)  (v1 : Int32) (v2 : Int32) (v3 : Int32) (σ : AS) : Option (Unit × AS) := (if v3 = 0 then (bnd (g_X1_leave o 4 v1 σ) fun _ σ18 => g_X1_meet_64 o v1 v2 v3 σ18) else g_X1_meet_64 o v1 v2 v3 σ)
set_option maxRecDepth 100000 in
set_option maxHeartbeats 4000000 in
theorem rk_X1_meet_51 {l : Launch} {cx : CX} (hA : AD cx)  (o : Nat) (ho : o < am_cnt 1)  (Q : Unit → AS → Prop) (v1 : Int32) (v2 : Int32) (v3 : Int32) (σ : AS) (w : wpO (g_X1_meet_51 o v1 v2 v3 σ) Q) : RJ l cx 5 RX1 cX1_meet 4 none 51 [(0, .inr (.inr (1, o, 0))), (1, .inl v1), (2, .inl v2), (3, .inl v3)] [] σ (QV Q) := by
  unfold g_X1_meet_51 at w
  refine R_iload_n dX1_meet_51 rfl 3 rfl ?_
  refine R_if_ne (tgt := 64) dX1_meet_52 (by decide) (fun c8 => ?_) (fun c8 => ?_)
  · have w := wp_f c8 w
    refine R_sub [0, 1, 2, 3] rfl ?_
    exact rk_X1_meet_64 hA o ho _ v1 v2 v3 σ w
  · have w := wp_t c8 w
    refine R_aload_n dX1_meet_55 rfl 0 rfl ?_
    refine R_aload_n dX1_meet_56 rfl 0 rfl ?_
    refine R_getfA (k := 4) acl1 ho (by decide) fl_RX1_18 dX1_meet_57 rfl ?_
    refine R_iload_n dX1_meet_60 rfl 1 rfl ?_
    refine R_callVV (As := [.inr (.inr (1, o, 4 + 1)), .inl v1]) acl1 rfl ho mi_X1_leave ml_RX1_132 rfl (Nat.le_of_ble_eq_true rfl) (by decide) dX1_meet_61 (ct_X1_leave hA o ho 4 rfl v1 σ _ (wp_bnd w)) (fun σ18 w => ?_)
    refine R_sub [0, 1, 2, 3] rfl ?_
    exact rk_X1_meet_64 hA o ho _ v1 v2 v3 σ18 w
def g_X1_meet (o : Nat) (a0 : Int32) (σ : AS) : Option (Unit × AS) := (if inb a0 8 then (bnd (g_X6_isThere (gA σ 1 o 8 a0) (gF σ 1 o 11) σ) fun r2 σ3 => (if inb (a0 + 1) 8 then (bnd (g_X6_isThere (gA σ3 1 o 8 (a0 + 1)) (gF σ3 1 o 11) σ3) fun r5 σ6 => (if r2 = 0 then (bnd (g_X1_leave o 3 a0 σ6) fun _ σ19 => g_X1_meet_51 o a0 r2 r5 σ19) else g_X1_meet_51 o a0 r2 r5 σ6)) else none)) else none)
set_option maxRecDepth 100000 in
set_option maxHeartbeats 4000000 in
theorem ct_X1_meet {l : Launch} {cx : CX} (hA : AD cx) (o : Nat) (ho : o < am_cnt 1) (a0 : Int32) (σ : AS) (Q : Unit → AS → Prop) (w : wpO (g_X1_meet o a0 σ) Q) : AMet l cx 5 yX1_meet cX1_meet 4 none [.inr (.inr (1, o, 0)), .inl a0] σ (QV Q) := by
  unfold g_X1_meet at w
  refine AMet.of (own := RX1) (by decide) rfl hA (Nat.le_of_ble_eq_true rfl) ?_
  show RJ l cx 5 RX1 cX1_meet 4 none 0 [(0, .inr (.inr (1, o, 0))), (1, .inl a0)] [] σ _
  refine R_aload_n dX1_meet_0 rfl 0 rfl ?_
  refine R_getfO (k := 0) acl1 ho (by decide) fl_RX1_53 dX1_meet_1 rfl ?_
  refine R_aload_n dX1_meet_4 rfl 0 rfl ?_
  refine R_getfA (k := 8) acl1 ho (by decide) fl_RX1_30 dX1_meet_5 rfl ?_
  refine R_iload_n dX1_meet_8 rfl 1 rfl ?_
  obtain ⟨b1, w⟩ := wp_chk w
  refine R_iald rfl ho b1 dX1_meet_9 ?_
  refine R_aload_n dX1_meet_10 rfl 0 rfl ?_
  refine R_getfI (k := 11) acl1 ho (by decide) fl_RX1_40 dX1_meet_11 rfl ?_
  refine R_callVI (As := [.inl (gA σ 1 o 8 a0), .inl (gF σ 1 o 11)]) acl6 rfl oz6_0 mi_X6_isThere ml_RX1_128 rfl (Nat.le_of_ble_eq_true rfl) (by decide) dX1_meet_14 (ct_X6_isThere hA (gA σ 1 o 8 a0) (gF σ 1 o 11) σ _ (wp_bnd w)) (fun r2 σ3 w => ?_)
  refine R_istore_n (lv' := [(2, .inl r2), (0, .inr (.inr (1, o, 0))), (1, .inl a0)]) dX1_meet_17 rfl (by decide) rfl ?_
  refine R_aload_n dX1_meet_18 rfl 1 rfl ?_
  refine R_getfO (k := 0) acl1 ho (by decide) fl_RX1_53 dX1_meet_19 rfl ?_
  refine R_aload_n dX1_meet_22 rfl 1 rfl ?_
  refine R_getfA (k := 8) acl1 ho (by decide) fl_RX1_30 dX1_meet_23 rfl ?_
  refine R_iload_n dX1_meet_26 rfl 2 rfl ?_
  refine R_iconst (v := 1) dX1_meet_27 (by decide) ?_
  refine R_iadd dX1_meet_28 ?_
  obtain ⟨b4, w⟩ := wp_chk w
  refine R_iald rfl ho b4 dX1_meet_29 ?_
  refine R_aload_n dX1_meet_30 rfl 1 rfl ?_
  refine R_getfI (k := 11) acl1 ho (by decide) fl_RX1_40 dX1_meet_31 rfl ?_
  refine R_callVI (As := [.inl (gA σ3 1 o 8 (a0 + 1)), .inl (gF σ3 1 o 11)]) acl6 rfl oz6_0 mi_X6_isThere ml_RX1_128 rfl (Nat.le_of_ble_eq_true rfl) (by decide) dX1_meet_34 (ct_X6_isThere hA (gA σ3 1 o 8 (a0 + 1)) (gF σ3 1 o 11) σ3 _ (wp_bnd w)) (fun r5 σ6 w => ?_)
  refine R_istore_n (lv' := [(3, .inl r5), (2, .inl r2), (0, .inr (.inr (1, o, 0))), (1, .inl a0)]) dX1_meet_37 rfl (by decide) rfl ?_
  refine R_iload_n dX1_meet_38 rfl 1 rfl ?_
  refine R_if_ne (tgt := 51) dX1_meet_39 (by decide) (fun c7 => ?_) (fun c7 => ?_)
  · have w := wp_f c7 w
    refine R_sub [2, 3, 1, 0] rfl ?_
    exact rk_X1_meet_51 hA o ho _ a0 r2 r5 σ6 w
  · have w := wp_t c7 w
    refine R_aload_n dX1_meet_42 rfl 2 rfl ?_
    refine R_aload_n dX1_meet_43 rfl 2 rfl ?_
    refine R_getfA (k := 3) acl1 ho (by decide) fl_RX1_15 dX1_meet_44 rfl ?_
    refine R_iload_n dX1_meet_47 rfl 3 rfl ?_
    refine R_callVV (As := [.inr (.inr (1, o, 3 + 1)), .inl a0]) acl1 rfl ho mi_X1_leave ml_RX1_132 rfl (Nat.le_of_ble_eq_true rfl) (by decide) dX1_meet_48 (ct_X1_leave hA o ho 3 rfl a0 σ6 _ (wp_bnd w)) (fun σ19 w => ?_)
    refine R_sub [2, 3, 1, 0] rfl ?_
    exact rk_X1_meet_51 hA o ho _ a0 r2 r5 σ19 w
def g_X6_rests (σ : AS) : Option (Int32 × AS) := (if (0 : Int32) < gF σ 6 0 2 then some ((gF σ 6 0 2) - 1, σ) else some (0, σ))
set_option maxRecDepth 100000 in
set_option maxHeartbeats 4000000 in
theorem ct_X6_rests {l : Launch} {cx : CX} (hA : AD cx) (σ : AS) (Q : Int32 → AS → Prop) (w : wpO (g_X6_rests σ) Q) : AMet l cx 0 yX6_rests cX6_rests 1 (some .int) [.inr (.inr (6, 0, 0))] σ (QI Q) := by
  unfold g_X6_rests at w
  refine AMet.of (own := RX6) (by decide) rfl hA (Nat.le_of_ble_eq_true rfl) ?_
  show RJ l cx 0 RX6 cX6_rests 1 (some .int) 0 [(0, .inr (.inr (6, 0, 0)))] [] σ _
  refine R_aload_n dX6_rests_0 rfl 0 rfl ?_
  refine R_getfI (k := 2) acl6 oz6_0 (by decide) fl_RX6_18 dX6_rests_1 rfl ?_
  refine R_if_le (tgt := 16) dX6_rests_4 (by decide) (fun c1 => ?_) (fun c1 => ?_)
  · have w := wp_f c1 w
    refine R_iconst (v := 0) dX6_rests_16 (by decide) ?_
    exact R_ireturn dX6_rests_17 rfl ⟨_, rfl, wp_some w⟩
  · have w := wp_t c1 w
    refine R_aload_n dX6_rests_7 rfl 0 rfl ?_
    refine R_getfI (k := 2) acl6 oz6_0 (by decide) fl_RX6_18 dX6_rests_8 rfl ?_
    refine R_iconst (v := 1) dX6_rests_11 (by decide) ?_
    refine R_isub dX6_rests_12 ?_
    refine R_goto (tgt := 17) dX6_rests_13 (by decide) ?_
    exact R_ireturn dX6_rests_17 rfl ⟨_, rfl, wp_some w⟩
def g_X1_passHours_63  (o : Nat)  (k2 : Int32 → Int32 → AS → Option (Unit × AS)) : Nat → Int32 → Int32 → Int32 → AS → Option (Unit × AS)
  | 0, _, _, _, _ => none
  | f0 + 1, v1, v2, v3, σ => (bnd (g_X6_number σ) fun r9 σ10 => (if v3 < r9 then (if inb v3 8 then (if inb (gA σ10 1 o 8 v3) 8 then (bnd (g_X1_comfortAt o v3 σ10) fun r17 σ18 => (lt (sA σ18 1 o 6 (gA σ10 1 o 8 v3) ((gA σ10 1 o 6 (gA σ10 1 o 8 v3)) + r17)) fun σ19 => (if inb (gA σ19 1 o 8 v3) 8 then (lt (sA σ19 1 o 7 (gA σ19 1 o 8 v3) ((gA σ19 1 o 7 (gA σ19 1 o 8 v3)) + (gA σ19 1 o 9 v3))) fun σ21 => (g_X1_passHours_63 o k2 f0) v1 v2 (v3 + 1) σ21) else none))) else none) else none) else (lt (sF σ10 1 o 11 ((gF σ10 1 o 11) + 1)) fun σ12 => (if gF σ12 1 o 10 = 0 then k2 v1 (v2 + 1) σ12 else (lt (sF σ12 1 o 14 (gF σ12 1 o 11)) fun σ14 => k2 v1 (v2 + 1) σ14)))))
set_option maxRecDepth 100000 in
set_option maxHeartbeats 4000000 in
theorem rk_X1_passHours_63 {l : Launch} {cx : CX} (hA : AD cx)  (o : Nat) (ho : o < am_cnt 1)  (Q : Unit → AS → Prop) (k2 : Int32 → Int32 → AS → Option (Unit × AS)) (hk2 : ∀ (v1 : Int32) (v2 : Int32) (σ : AS), wpO (k2 v1 v2 σ) Q → RJ l cx 6 RX1 cX1_passHours 4 none 2 [(0, .inr (.inr (1, o, 0))), (1, .inl v1), (2, .inl v2)] [] σ (QV Q)) : ∀ (f0 : Nat) (v1 : Int32) (v2 : Int32) (v3 : Int32) (σ : AS), wpO (g_X1_passHours_63 o k2 f0 v1 v2 v3 σ) Q → RJ l cx 6 RX1 cX1_passHours 4 none 63 [(0, .inr (.inr (1, o, 0))), (1, .inl v1), (2, .inl v2), (3, .inl v3)] [] σ (QV Q) := by
  intro f0
  induction f0 with
  | zero => intro v1 v2 v3 σ w; exact wp_no w
  | succ f0 ih =>
    intro v1 v2 v3 σ w
    rw [g_X1_passHours_63] at w
    refine R_iload_n dX1_passHours_63 rfl 3 rfl ?_
    refine R_aload_n dX1_passHours_64 rfl 0 rfl ?_
    refine R_getfO (k := 0) acl1 ho (by decide) fl_RX1_53 dX1_passHours_65 rfl ?_
    refine R_callVI (As := []) acl6 rfl oz6_0 mi_X6_number ml_RX1_89 rfl (Nat.le_of_ble_eq_true rfl) (by decide) dX1_passHours_68 (ct_X6_number hA σ _ (wp_bnd w)) (fun r9 σ10 w => ?_)
    refine R_icmp_ge (tgt := 119) dX1_passHours_71 (by decide) (fun c11 => ?_) (fun c11 => ?_)
    · have w := wp_f c11 w
      refine R_aload_n dX1_passHours_119 rfl 0 rfl ?_
      refine R_dup dX1_passHours_120 rfl ?_
      refine R_getfI (k := 11) acl1 ho (by decide) fl_RX1_40 dX1_passHours_121 rfl ?_
      refine R_iconst (v := 1) dX1_passHours_124 (by decide) ?_
      refine R_iadd dX1_passHours_125 ?_
      refine R_putf (k := 11) (ty := .int) acl1 ho (by decide) fl_RX1_40 rfl (tyX1_ok 11 (by decide)) (Or.inl rfl) dX1_passHours_126 rfl ?_
      refine R_nameS w ?_; clear w; intro σ12 w
      refine R_aload_n dX1_passHours_129 rfl 0 rfl ?_
      refine R_getfI (k := 10) acl1 ho (by decide) fl_RX1_36 dX1_passHours_130 rfl ?_
      refine R_if_eq (tgt := 144) dX1_passHours_133 (by decide) (fun c13 => ?_) (fun c13 => ?_)
      · have w := wp_t c13 w
        refine R_iinc (v := v2 + 1) (lv' := [(2, .inl (v2 + 1)), (0, .inr (.inr (1, o, 0))), (1, .inl v1), (3, .inl v3)]) dX1_passHours_144 2 rfl rfl (by decide) rfl ?_
        refine R_goto (tgt := 2) dX1_passHours_147 (by decide) ?_
        refine R_sub [1, 2, 0] rfl ?_
        exact hk2 v1 (v2 + 1) σ12 w
      · have w := wp_f c13 w
        refine R_aload_n dX1_passHours_136 rfl 0 rfl ?_
        refine R_aload_n dX1_passHours_137 rfl 0 rfl ?_
        refine R_getfI (k := 11) acl1 ho (by decide) fl_RX1_40 dX1_passHours_138 rfl ?_
        refine R_putf (k := 14) (ty := .int) acl1 ho (by decide) fl_RX1_50 rfl (tyX1_ok 14 (by decide)) (Or.inl rfl) dX1_passHours_141 rfl ?_
        refine R_nameS w ?_; clear w; intro σ14 w
        refine R_iinc (v := v2 + 1) (lv' := [(2, .inl (v2 + 1)), (0, .inr (.inr (1, o, 0))), (1, .inl v1), (3, .inl v3)]) dX1_passHours_144 2 rfl rfl (by decide) rfl ?_
        refine R_goto (tgt := 2) dX1_passHours_147 (by decide) ?_
        refine R_sub [1, 2, 0] rfl ?_
        exact hk2 v1 (v2 + 1) σ14 w
    · have w := wp_t c11 w
      refine R_aload_n dX1_passHours_74 rfl 0 rfl ?_
      refine R_getfA (k := 6) acl1 ho (by decide) fl_RX1_24 dX1_passHours_75 rfl ?_
      refine R_aload_n dX1_passHours_78 rfl 0 rfl ?_
      refine R_getfA (k := 8) acl1 ho (by decide) fl_RX1_30 dX1_passHours_79 rfl ?_
      refine R_iload_n dX1_passHours_82 rfl 3 rfl ?_
      obtain ⟨b15, w⟩ := wp_chk w
      refine R_iald rfl ho b15 dX1_passHours_83 ?_
      refine R_dup2 dX1_passHours_84 rfl rfl ?_
      obtain ⟨b16, w⟩ := wp_chk w
      refine R_iald rfl ho b16 dX1_passHours_85 ?_
      refine R_aload_n dX1_passHours_86 rfl 0 rfl ?_
      refine R_iload_n dX1_passHours_87 rfl 3 rfl ?_
      refine R_callVI (As := [.inl v3]) acl1 rfl ho mi_X1_comfortAt ml_RX1_104 rfl (Nat.le_of_ble_eq_true rfl) (by decide) dX1_passHours_88 (ct_X1_comfortAt hA o ho v3 σ10 _ (wp_bnd w)) (fun r17 σ18 w => ?_)
      refine R_iadd dX1_passHours_91 ?_
      refine R_iast rfl ho b16 dX1_passHours_92 ?_
      refine R_nameS w ?_; clear w; intro σ19 w
      refine R_aload_n dX1_passHours_93 rfl 0 rfl ?_
      refine R_getfA (k := 7) acl1 ho (by decide) fl_RX1_27 dX1_passHours_94 rfl ?_
      refine R_aload_n dX1_passHours_97 rfl 0 rfl ?_
      refine R_getfA (k := 8) acl1 ho (by decide) fl_RX1_30 dX1_passHours_98 rfl ?_
      refine R_iload_n dX1_passHours_101 rfl 3 rfl ?_
      refine R_iald rfl ho b15 dX1_passHours_102 ?_
      refine R_dup2 dX1_passHours_103 rfl rfl ?_
      obtain ⟨b20, w⟩ := wp_chk w
      refine R_iald rfl ho b20 dX1_passHours_104 ?_
      refine R_aload_n dX1_passHours_105 rfl 0 rfl ?_
      refine R_getfA (k := 9) acl1 ho (by decide) fl_RX1_33 dX1_passHours_106 rfl ?_
      refine R_iload_n dX1_passHours_109 rfl 3 rfl ?_
      refine R_iald rfl ho b15 dX1_passHours_110 ?_
      refine R_iadd dX1_passHours_111 ?_
      refine R_iast rfl ho b20 dX1_passHours_112 ?_
      refine R_nameS w ?_; clear w; intro σ21 w
      refine R_iinc (v := v3 + 1) (lv' := [(3, .inl (v3 + 1)), (0, .inr (.inr (1, o, 0))), (1, .inl v1), (2, .inl v2)]) dX1_passHours_113 3 rfl rfl (by decide) rfl ?_
      refine R_goto (tgt := 63) dX1_passHours_116 (by decide) ?_
      refine R_sub [1, 2, 3, 0] rfl ?_
      exact ih v1 v2 (v3 + 1) σ21 w
def g_X1_passHours_39  (o : Nat)  (k2 : Int32 → Int32 → AS → Option (Unit × AS)) : Nat → Int32 → Int32 → Int32 → AS → Option (Unit × AS)
  | 0, _, _, _, _ => none
  | f0 + 1, v1, v2, v3, σ => (bnd (g_X6_rests σ) fun r6 σ7 => (if v3 < r6 then (bnd (g_X1_meet o v3 σ7) fun _ σ22 => (g_X1_passHours_39 o k2 f0) v1 v2 (v3 + 1) σ22) else g_X1_passHours_63 o k2 400 v1 v2 0 σ7))
set_option maxRecDepth 100000 in
set_option maxHeartbeats 4000000 in
theorem rk_X1_passHours_39 {l : Launch} {cx : CX} (hA : AD cx)  (o : Nat) (ho : o < am_cnt 1)  (Q : Unit → AS → Prop) (k2 : Int32 → Int32 → AS → Option (Unit × AS)) (hk2 : ∀ (v1 : Int32) (v2 : Int32) (σ : AS), wpO (k2 v1 v2 σ) Q → RJ l cx 6 RX1 cX1_passHours 4 none 2 [(0, .inr (.inr (1, o, 0))), (1, .inl v1), (2, .inl v2)] [] σ (QV Q)) : ∀ (f0 : Nat) (v1 : Int32) (v2 : Int32) (v3 : Int32) (σ : AS), wpO (g_X1_passHours_39 o k2 f0 v1 v2 v3 σ) Q → RJ l cx 6 RX1 cX1_passHours 4 none 39 [(0, .inr (.inr (1, o, 0))), (1, .inl v1), (2, .inl v2), (3, .inl v3)] [] σ (QV Q) := by
  intro f0
  induction f0 with
  | zero => intro v1 v2 v3 σ w; exact wp_no w
  | succ f0 ih =>
    intro v1 v2 v3 σ w
    rw [g_X1_passHours_39] at w
    refine R_iload_n dX1_passHours_39 rfl 3 rfl ?_
    refine R_aload_n dX1_passHours_40 rfl 0 rfl ?_
    refine R_getfO (k := 0) acl1 ho (by decide) fl_RX1_53 dX1_passHours_41 rfl ?_
    refine R_callVI (As := []) acl6 rfl oz6_0 mi_X6_rests ml_RX1_97 rfl (Nat.le_of_ble_eq_true rfl) (by decide) dX1_passHours_44 (ct_X6_rests hA σ _ (wp_bnd w)) (fun r6 σ7 w => ?_)
    refine R_icmp_ge (tgt := 61) dX1_passHours_47 (by decide) (fun c8 => ?_) (fun c8 => ?_)
    · have w := wp_f c8 w
      refine R_iconst (v := 0) dX1_passHours_61 (by decide) ?_
      refine R_istore_n (lv' := [(3, .inl 0), (0, .inr (.inr (1, o, 0))), (1, .inl v1), (2, .inl v2)]) dX1_passHours_62 rfl (by decide) rfl ?_
      refine R_sub [1, 2, 3, 0] rfl ?_
      exact rk_X1_passHours_63 hA o ho _ k2 hk2 400 v1 v2 0 σ7 w
    · have w := wp_t c8 w
      refine R_aload_n dX1_passHours_50 rfl 0 rfl ?_
      refine R_iload_n dX1_passHours_51 rfl 3 rfl ?_
      refine R_callVV (As := [.inl v3]) acl1 rfl ho mi_X1_meet ml_RX1_100 rfl (Nat.le_of_ble_eq_true rfl) (by decide) dX1_passHours_52 (ct_X1_meet hA o ho v3 σ7 _ (wp_bnd w)) (fun σ22 w => ?_)
      refine R_iinc (v := v3 + 1) (lv' := [(3, .inl (v3 + 1)), (0, .inr (.inr (1, o, 0))), (1, .inl v1), (2, .inl v2)]) dX1_passHours_55 3 rfl rfl (by decide) rfl ?_
      refine R_goto (tgt := 39) dX1_passHours_58 (by decide) ?_
      refine R_sub [1, 2, 3, 0] rfl ?_
      exact ih v1 v2 (v3 + 1) σ22 w
def g_X1_passHours_2  (o : Nat)  : Nat → Int32 → Int32 → AS → Option (Unit × AS)
  | 0, _, _, _ => none
  | f0 + 1, v1, v2, σ => (if v2 < v1 then (if gF σ 1 o 11 < 24 then (lt (filA σ 1 o 5 7 0) fun σ3 => (lt (filA σ3 1 o 9 8 0) fun σ4 => (lt (sF σ4 1 o 10 0) fun σ5 => g_X1_passHours_39 o (g_X1_passHours_2 o f0) 400 v1 v2 0 σ5))) else some ((), σ)) else some ((), σ))
set_option maxRecDepth 100000 in
set_option maxHeartbeats 4000000 in
theorem rk_X1_passHours_2 {l : Launch} {cx : CX} (hA : AD cx)  (o : Nat) (ho : o < am_cnt 1)  (Q : Unit → AS → Prop) : ∀ (f0 : Nat) (v1 : Int32) (v2 : Int32) (σ : AS), wpO (g_X1_passHours_2 o f0 v1 v2 σ) Q → RJ l cx 6 RX1 cX1_passHours 4 none 2 [(0, .inr (.inr (1, o, 0))), (1, .inl v1), (2, .inl v2)] [] σ (QV Q) := by
  intro f0
  induction f0 with
  | zero => intro v1 v2 σ w; exact wp_no w
  | succ f0 ih =>
    intro v1 v2 σ w
    rw [g_X1_passHours_2] at w
    refine R_iload_n dX1_passHours_2 rfl 2 rfl ?_
    refine R_iload_n dX1_passHours_3 rfl 1 rfl ?_
    refine R_icmp_ge (tgt := 150) dX1_passHours_4 (by decide) (fun c1 => ?_) (fun c1 => ?_)
    · have w := wp_f c1 w
      exact R_vreturn dX1_passHours_150 rfl ⟨rfl, wp_some w⟩
    · have w := wp_t c1 w
      refine R_aload_n dX1_passHours_7 rfl 0 rfl ?_
      refine R_getfI (k := 11) acl1 ho (by decide) fl_RX1_40 dX1_passHours_8 rfl ?_
      refine R_bipush (v := 24) dX1_passHours_11 (by decide) ?_
      refine R_icmp_ge (tgt := 150) dX1_passHours_13 (by decide) (fun c2 => ?_) (fun c2 => ?_)
      · have w := wp_f c2 w
        exact R_vreturn dX1_passHours_150 rfl ⟨rfl, wp_some w⟩
      · have w := wp_t c2 w
        refine R_aload_n dX1_passHours_16 rfl 0 rfl ?_
        refine R_getfA (k := 5) acl1 ho (by decide) fl_RX1_21 dX1_passHours_17 rfl ?_
        refine R_iconst (v := 0) dX1_passHours_20 (by decide) ?_
        refine R_callSV (As := [.inr (.inr (1, o, 5 + 1)), .inl 0]) mi_J7_fill_53178 ml_RX1_61 rfl (Nat.le_of_ble_eq_true rfl) (by decide) dX1_passHours_21 (ct_filA hA rfl ho (by decide) w) (fun σ3 w => ?_)
        refine R_aload_n dX1_passHours_24 rfl 0 rfl ?_
        refine R_getfA (k := 9) acl1 ho (by decide) fl_RX1_33 dX1_passHours_25 rfl ?_
        refine R_iconst (v := 0) dX1_passHours_28 (by decide) ?_
        refine R_callSV (As := [.inr (.inr (1, o, 9 + 1)), .inl 0]) mi_J7_fill_53178 ml_RX1_61 rfl (Nat.le_of_ble_eq_true rfl) (by decide) dX1_passHours_29 (ct_filA hA rfl ho (by decide) w) (fun σ4 w => ?_)
        refine R_aload_n dX1_passHours_32 rfl 0 rfl ?_
        refine R_iconst (v := 0) dX1_passHours_33 (by decide) ?_
        refine R_putf (k := 10) (ty := .boolean) acl1 ho (by decide) fl_RX1_36 rfl (tyX1_ok 10 (by decide)) (Or.inr ⟨rfl, by decide⟩) dX1_passHours_34 rfl ?_
        refine R_nameS w ?_; clear w; intro σ5 w
        refine R_iconst (v := 0) dX1_passHours_37 (by decide) ?_
        refine R_istore_n (lv' := [(3, .inl 0), (0, .inr (.inr (1, o, 0))), (1, .inl v1), (2, .inl v2)]) dX1_passHours_38 rfl (by decide) rfl ?_
        refine R_sub [1, 2, 3, 0] rfl ?_
        exact rk_X1_passHours_39 hA o ho _ (g_X1_passHours_2 o f0) ih 400 v1 v2 0 σ5 w
def g_X1_passHours (o : Nat) (a0 : Int32) (σ : AS) : Option (Unit × AS) := g_X1_passHours_2 o 400 a0 0 σ
set_option maxRecDepth 100000 in
set_option maxHeartbeats 4000000 in
theorem ct_X1_passHours {l : Launch} {cx : CX} (hA : AD cx) (o : Nat) (ho : o < am_cnt 1) (a0 : Int32) (σ : AS) (Q : Unit → AS → Prop) (w : wpO (g_X1_passHours o a0 σ) Q) : AMet l cx 6 yX1_passHours cX1_passHours 4 none [.inr (.inr (1, o, 0)), .inl a0] σ (QV Q) := by
  unfold g_X1_passHours at w
  refine AMet.of (own := RX1) (by decide) rfl hA (Nat.le_of_ble_eq_true rfl) ?_
  show RJ l cx 6 RX1 cX1_passHours 4 none 0 [(0, .inr (.inr (1, o, 0))), (1, .inl a0)] [] σ _
  refine R_iconst (v := 0) dX1_passHours_0 (by decide) ?_
  refine R_istore_n (lv' := [(2, .inl 0), (0, .inr (.inr (1, o, 0))), (1, .inl a0)]) dX1_passHours_1 rfl (by decide) rfl ?_
  refine R_sub [1, 2, 0] rfl ?_
  exact rk_X1_passHours_2 hA o ho _ 400 a0 0 σ w
def g_X8_thinkOfChange (a0 : Int32) (a1 : Int32) (a2 : Int32) (σ : AS) : Option (Unit × AS) := (bnd (g_X1_begin 1 0 a0 σ) fun _ σ1 => (bnd (g_X1_changeSeats 1 a1 a2 σ1) fun _ σ2 => (bnd (g_X1_passHours 1 (24 - (gF σ2 1 0 11)) σ2) fun _ σ3 => some ((), σ3))))
set_option maxRecDepth 100000 in
set_option maxHeartbeats 4000000 in
theorem ct_X8_thinkOfChange {l : Launch} {cx : CX} (hA : AD cx) (a0 : Int32) (a1 : Int32) (a2 : Int32) (σ : AS) (Q : Unit → AS → Prop) (w : wpO (g_X8_thinkOfChange a0 a1 a2 σ) Q) : AMet l cx 7 yX8_thinkOfChange cX8_thinkOfChange 4 none [.inr (.inr (8, 0, 0)), .inl a0, .inl a1, .inl a2] σ (QV Q) := by
  unfold g_X8_thinkOfChange at w
  refine AMet.of (own := RX8) (by decide) rfl hA (Nat.le_of_ble_eq_true rfl) ?_
  show RJ l cx 7 RX8 cX8_thinkOfChange 4 none 0 [(0, .inr (.inr (8, 0, 0))), (1, .inl a0), (2, .inl a1), (3, .inl a2)] [] σ _
  refine R_aload_n dX8_thinkOfChange_0 rfl 0 rfl ?_
  refine R_getfO (k := 5) acl8 oz8_0 (by decide) fl_RX8_42 dX8_thinkOfChange_1 rfl ?_
  refine R_aload_n dX8_thinkOfChange_4 rfl 0 rfl ?_
  refine R_getfO (k := 4) acl8 oz8_0 (by decide) fl_RX8_38 dX8_thinkOfChange_5 rfl ?_
  refine R_iload_n dX8_thinkOfChange_8 rfl 1 rfl ?_
  refine R_callVV (As := [.inr (.inr (1, 0, 0)), .inl a0]) acl1 rfl oz1_1 mi_X1_begin ml_RX8_203 rfl (Nat.le_of_ble_eq_true rfl) (by decide) dX8_thinkOfChange_9 (ct_X1_begin hA 1 oz1_1 0 oz1_0 a0 σ _ (wp_bnd w)) (fun σ1 w => ?_)
  refine R_aload_n dX8_thinkOfChange_12 rfl 0 rfl ?_
  refine R_getfO (k := 5) acl8 oz8_0 (by decide) fl_RX8_42 dX8_thinkOfChange_13 rfl ?_
  refine R_iload_n dX8_thinkOfChange_16 rfl 2 rfl ?_
  refine R_iload_n dX8_thinkOfChange_17 rfl 3 rfl ?_
  refine R_callVV (As := [.inl a1, .inl a2]) acl1 rfl oz1_1 mi_X1_changeSeats ml_RX8_338 rfl (Nat.le_of_ble_eq_true rfl) (by decide) dX8_thinkOfChange_18 (ct_X1_changeSeats hA 1 oz1_1 a1 a2 σ1 _ (wp_bnd w)) (fun σ2 w => ?_)
  refine R_aload_n dX8_thinkOfChange_21 rfl 0 rfl ?_
  refine R_getfO (k := 5) acl8 oz8_0 (by decide) fl_RX8_42 dX8_thinkOfChange_22 rfl ?_
  refine R_bipush (v := 24) dX8_thinkOfChange_25 (by decide) ?_
  refine R_aload_n dX8_thinkOfChange_27 rfl 0 rfl ?_
  refine R_getfO (k := 4) acl8 oz8_0 (by decide) fl_RX8_38 dX8_thinkOfChange_28 rfl ?_
  refine R_getfI (k := 11) acl1 oz1_0 (by decide) fl_RX8_80 dX8_thinkOfChange_31 rfl ?_
  refine R_isub dX8_thinkOfChange_34 ?_
  refine R_callVV (As := [.inl (24 - (gF σ2 1 0 11))]) acl1 rfl oz1_1 mi_X1_passHours ml_RX8_175 rfl (Nat.le_of_ble_eq_true rfl) (by decide) dX8_thinkOfChange_35 (ct_X1_passHours hA 1 oz1_1 (24 - (gF σ2 1 0 11)) σ2 _ (wp_bnd w)) (fun σ3 w => ?_)
  exact R_vreturn dX8_thinkOfChange_38 rfl ⟨rfl, wp_some w⟩
def g_X8_change_39    (k21 : Int32 → Int32 → Int32 → Int32 → AS → Option (Int32 × AS)) : Nat → Int32 → Int32 → Int32 → Int32 → Int32 → AS → Option (Int32 × AS)
  | 0, _, _, _, _, _, _ => none
  | f0 + 1, v1, v2, v3, v4, v5, σ => (bnd (g_X6_number σ) fun r8 σ9 => (if v5 < r8 then (bnd (g_X8_thinkOfChange v1 v4 v5 σ9) fun _ σ11 => (bnd (g_X1_comfortOfAll 1 σ11) fun r12 σ13 => (if v3 < r12 then (bnd (g_X1_comfortOfAll 1 σ13) fun r15 σ16 => (lt ((10 * v4) + v5) fun x17 => (g_X8_change_39 k21 f0) v1 x17 r15 v4 (v5 + 1) σ16)) else (g_X8_change_39 k21 f0) v1 v2 v3 v4 (v5 + 1) σ13))) else k21 v1 v2 v3 (v4 + 1) σ9))
set_option maxRecDepth 100000 in
set_option maxHeartbeats 4000000 in
theorem rk_X8_change_39 {l : Launch} {cx : CX} (hA : AD cx)    (Q : Int32 → AS → Prop) (k21 : Int32 → Int32 → Int32 → Int32 → AS → Option (Int32 × AS)) (hk21 : ∀ (v1 : Int32) (v2 : Int32) (v3 : Int32) (v4 : Int32) (σ : AS), wpO (k21 v1 v2 v3 v4 σ) Q → RJ l cx 8 RX8 cX8_change 6 (some .int) 21 [(0, .inr (.inr (8, 0, 0))), (1, .inl v1), (2, .inl v2), (3, .inl v3), (4, .inl v4)] [] σ (QI Q)) : ∀ (f0 : Nat) (v1 : Int32) (v2 : Int32) (v3 : Int32) (v4 : Int32) (v5 : Int32) (σ : AS), wpO (g_X8_change_39 k21 f0 v1 v2 v3 v4 v5 σ) Q → RJ l cx 8 RX8 cX8_change 6 (some .int) 39 [(0, .inr (.inr (8, 0, 0))), (1, .inl v1), (2, .inl v2), (3, .inl v3), (4, .inl v4), (5, .inl v5)] [] σ (QI Q) := by
  intro f0
  induction f0 with
  | zero => intro v1 v2 v3 v4 v5 σ w; exact wp_no w
  | succ f0 ih =>
    intro v1 v2 v3 v4 v5 σ w
    rw [g_X8_change_39] at w
    refine R_iload dX8_change_39 5 rfl ?_
    refine R_aload_n dX8_change_41 rfl 0 rfl ?_
    refine R_getfO (k := 0) acl8 oz8_0 (by decide) fl_RX8_10 dX8_change_42 rfl ?_
    refine R_callVI (As := []) acl6 rfl oz6_0 mi_X6_number ml_RX8_213 rfl (Nat.le_of_ble_eq_true rfl) (by decide) dX8_change_45 (ct_X6_number hA σ _ (wp_bnd w)) (fun r8 σ9 w => ?_)
    refine R_icmp_ge (tgt := 94) dX8_change_48 (by decide) (fun c10 => ?_) (fun c10 => ?_)
    · have w := wp_f c10 w
      refine R_iinc (v := v4 + 1) (lv' := [(4, .inl (v4 + 1)), (0, .inr (.inr (8, 0, 0))), (1, .inl v1), (2, .inl v2), (3, .inl v3), (5, .inl v5)]) dX8_change_94 4 rfl rfl (by decide) rfl ?_
      refine R_goto (tgt := 21) dX8_change_97 (by decide) ?_
      refine R_sub [1, 2, 3, 4, 0] rfl ?_
      exact hk21 v1 v2 v3 (v4 + 1) σ9 w
    · have w := wp_t c10 w
      refine R_aload_n dX8_change_51 rfl 0 rfl ?_
      refine R_iload_n dX8_change_52 rfl 1 rfl ?_
      refine R_iload dX8_change_53 4 rfl ?_
      refine R_iload dX8_change_55 5 rfl ?_
      refine R_callVV (As := [.inl v1, .inl v4, .inl v5]) acl8 rfl oz8_0 mi_X8_thinkOfChange ml_RX8_210 rfl (Nat.le_of_ble_eq_true rfl) (by decide) dX8_change_57 (ct_X8_thinkOfChange hA v1 v4 v5 σ9 _ (wp_bnd w)) (fun σ11 w => ?_)
      refine R_aload_n dX8_change_60 rfl 0 rfl ?_
      refine R_getfO (k := 5) acl8 oz8_0 (by decide) fl_RX8_42 dX8_change_61 rfl ?_
      refine R_callVI (As := []) acl1 rfl oz1_1 mi_X1_comfortOfAll ml_RX8_217 rfl (Nat.le_of_ble_eq_true rfl) (by decide) dX8_change_64 (ct_X1_comfortOfAll hA 1 oz1_1 σ11 _ (wp_bnd w)) (fun r12 σ13 w => ?_)
      refine R_iload_n dX8_change_67 rfl 3 rfl ?_
      refine R_icmp_le (tgt := 88) dX8_change_68 (by decide) (fun c14 => ?_) (fun c14 => ?_)
      · have w := wp_f c14 w
        refine R_iinc (v := v5 + 1) (lv' := [(5, .inl (v5 + 1)), (0, .inr (.inr (8, 0, 0))), (1, .inl v1), (2, .inl v2), (3, .inl v3), (4, .inl v4)]) dX8_change_88 5 rfl rfl (by decide) rfl ?_
        refine R_goto (tgt := 39) dX8_change_91 (by decide) ?_
        refine R_sub [1, 2, 3, 4, 5, 0] rfl ?_
        exact ih v1 v2 v3 v4 (v5 + 1) σ13 w
      · have w := wp_t c14 w
        refine R_aload_n dX8_change_71 rfl 0 rfl ?_
        refine R_getfO (k := 5) acl8 oz8_0 (by decide) fl_RX8_42 dX8_change_72 rfl ?_
        refine R_callVI (As := []) acl1 rfl oz1_1 mi_X1_comfortOfAll ml_RX8_217 rfl (Nat.le_of_ble_eq_true rfl) (by decide) dX8_change_75 (ct_X1_comfortOfAll hA 1 oz1_1 σ13 _ (wp_bnd w)) (fun r15 σ16 w => ?_)
        refine R_istore_n (lv' := [(3, .inl r15), (0, .inr (.inr (8, 0, 0))), (1, .inl v1), (2, .inl v2), (4, .inl v4), (5, .inl v5)]) dX8_change_78 rfl (by decide) rfl ?_
        refine R_bipush (v := 10) dX8_change_79 (by decide) ?_
        refine R_iload dX8_change_81 4 rfl ?_
        refine R_imul dX8_change_83 ?_
        refine R_iload dX8_change_84 5 rfl ?_
        refine R_iadd dX8_change_86 ?_
        refine R_nameI w ?_; clear w; intro x17 w
        refine R_istore_n (lv' := [(2, .inl x17), (3, .inl r15), (0, .inr (.inr (8, 0, 0))), (1, .inl v1), (4, .inl v4), (5, .inl v5)]) dX8_change_87 rfl (by decide) rfl ?_
        refine R_iinc (v := v5 + 1) (lv' := [(5, .inl (v5 + 1)), (2, .inl x17), (3, .inl r15), (0, .inr (.inr (8, 0, 0))), (1, .inl v1), (4, .inl v4)]) dX8_change_88 5 rfl rfl (by decide) rfl ?_
        refine R_goto (tgt := 39) dX8_change_91 (by decide) ?_
        refine R_sub [3, 4, 1, 2, 5, 0] rfl ?_
        exact ih v1 x17 r15 v4 (v5 + 1) σ16 w
def g_X8_change_21    : Nat → Int32 → Int32 → Int32 → Int32 → AS → Option (Int32 × AS)
  | 0, _, _, _, _, _ => none
  | f0 + 1, v1, v2, v3, v4, σ => (bnd (g_X6_number σ) fun r4 σ5 => (if v4 < r4 then (lt (v4 + 1) fun x7 => g_X8_change_39 (g_X8_change_21 f0) 400 v1 v2 v3 v4 x7 σ5) else some (v2, σ5)))
set_option maxRecDepth 100000 in
set_option maxHeartbeats 4000000 in
theorem rk_X8_change_21 {l : Launch} {cx : CX} (hA : AD cx)    (Q : Int32 → AS → Prop) : ∀ (f0 : Nat) (v1 : Int32) (v2 : Int32) (v3 : Int32) (v4 : Int32) (σ : AS), wpO (g_X8_change_21 f0 v1 v2 v3 v4 σ) Q → RJ l cx 8 RX8 cX8_change 6 (some .int) 21 [(0, .inr (.inr (8, 0, 0))), (1, .inl v1), (2, .inl v2), (3, .inl v3), (4, .inl v4)] [] σ (QI Q) := by
  intro f0
  induction f0 with
  | zero => intro v1 v2 v3 v4 σ w; exact wp_no w
  | succ f0 ih =>
    intro v1 v2 v3 v4 σ w
    rw [g_X8_change_21] at w
    refine R_iload dX8_change_21 4 rfl ?_
    refine R_aload_n dX8_change_23 rfl 0 rfl ?_
    refine R_getfO (k := 0) acl8 oz8_0 (by decide) fl_RX8_10 dX8_change_24 rfl ?_
    refine R_callVI (As := []) acl6 rfl oz6_0 mi_X6_number ml_RX8_213 rfl (Nat.le_of_ble_eq_true rfl) (by decide) dX8_change_27 (ct_X6_number hA σ _ (wp_bnd w)) (fun r4 σ5 w => ?_)
    refine R_icmp_ge (tgt := 100) dX8_change_30 (by decide) (fun c6 => ?_) (fun c6 => ?_)
    · have w := wp_f c6 w
      refine R_iload_n dX8_change_100 rfl 2 rfl ?_
      exact R_ireturn dX8_change_101 rfl ⟨_, rfl, wp_some w⟩
    · have w := wp_t c6 w
      refine R_iload dX8_change_33 4 rfl ?_
      refine R_iconst (v := 1) dX8_change_35 (by decide) ?_
      refine R_iadd dX8_change_36 ?_
      refine R_nameI w ?_; clear w; intro x7 w
      refine R_istore (lv' := [(5, .inl x7), (0, .inr (.inr (8, 0, 0))), (1, .inl v1), (2, .inl v2), (3, .inl v3), (4, .inl v4)]) dX8_change_37 (by decide) rfl ?_
      refine R_sub [1, 2, 3, 4, 5, 0] rfl ?_
      exact rk_X8_change_39 hA _ (g_X8_change_21 f0) ih 400 v1 v2 v3 v4 x7 σ5 w
def g_X8_change (a0 : Int32) (σ : AS) : Option (Int32 × AS) := (bnd (g_X8_thinkOfChange a0 0 0 σ) fun _ σ1 => (bnd (g_X1_comfortOfAll 1 σ1) fun r2 σ3 => g_X8_change_21 400 a0 (-2) r2 0 σ3))
set_option maxRecDepth 100000 in
set_option maxHeartbeats 4000000 in
theorem ct_X8_change {l : Launch} {cx : CX} (hA : AD cx) (a0 : Int32) (σ : AS) (Q : Int32 → AS → Prop) (w : wpO (g_X8_change a0 σ) Q) : AMet l cx 8 yX8_change cX8_change 6 (some .int) [.inr (.inr (8, 0, 0)), .inl a0] σ (QI Q) := by
  unfold g_X8_change at w
  refine AMet.of (own := RX8) (by decide) rfl hA (Nat.le_of_ble_eq_true rfl) ?_
  show RJ l cx 8 RX8 cX8_change 6 (some .int) 0 [(0, .inr (.inr (8, 0, 0))), (1, .inl a0)] [] σ _
  refine R_bipush (v := (-2)) dX8_change_0 (by decide) ?_
  refine R_istore_n (lv' := [(2, .inl (-2)), (0, .inr (.inr (8, 0, 0))), (1, .inl a0)]) dX8_change_2 rfl (by decide) rfl ?_
  refine R_aload_n dX8_change_3 rfl 1 rfl ?_
  refine R_iload_n dX8_change_4 rfl 2 rfl ?_
  refine R_iconst (v := 0) dX8_change_5 (by decide) ?_
  refine R_iconst (v := 0) dX8_change_6 (by decide) ?_
  refine R_callVV (As := [.inl a0, .inl 0, .inl 0]) acl8 rfl oz8_0 mi_X8_thinkOfChange ml_RX8_210 rfl (Nat.le_of_ble_eq_true rfl) (by decide) dX8_change_7 (ct_X8_thinkOfChange hA a0 0 0 σ _ (wp_bnd w)) (fun σ1 w => ?_)
  refine R_aload_n dX8_change_10 rfl 1 rfl ?_
  refine R_getfO (k := 5) acl8 oz8_0 (by decide) fl_RX8_42 dX8_change_11 rfl ?_
  refine R_callVI (As := []) acl1 rfl oz1_1 mi_X1_comfortOfAll ml_RX8_217 rfl (Nat.le_of_ble_eq_true rfl) (by decide) dX8_change_14 (ct_X1_comfortOfAll hA 1 oz1_1 σ1 _ (wp_bnd w)) (fun r2 σ3 w => ?_)
  refine R_istore_n (lv' := [(3, .inl r2), (2, .inl (-2)), (0, .inr (.inr (8, 0, 0))), (1, .inl a0)]) dX8_change_17 rfl (by decide) rfl ?_
  refine R_iconst (v := 0) dX8_change_18 (by decide) ?_
  refine R_istore (lv' := [(4, .inl 0), (3, .inl r2), (2, .inl (-2)), (0, .inr (.inr (8, 0, 0))), (1, .inl a0)]) dX8_change_19 (by decide) rfl ?_
  refine R_sub [3, 4, 2, 1, 0] rfl ?_
  exact rk_X8_change_21 hA _ 400 a0 (-2) r2 0 σ3 w
