def g_X6_hasRest (a0 : Int32) (σ : AS) : Option (Int32 × AS) := (if a0 < 0 then some (0, σ) else (if a0 < (gF σ 6 0 2) - 1 then some (1, σ) else some (0, σ)))
set_option maxRecDepth 100000 in
set_option maxHeartbeats 4000000 in
theorem ct_X6_hasRest {l : Launch} {cx : CX} (hA : AD cx) (a0 : Int32) (σ : AS) (Q : Int32 → AS → Prop) (w : wpO (g_X6_hasRest a0 σ) Q) : AMet l cx 0 yX6_hasRest cX6_hasRest 2 (some .boolean) [.inr (.inr (6, 0, 0)), .inl a0] σ (QI Q) := by
  unfold g_X6_hasRest at w
  refine AMet.of (own := RX6) (by decide) rfl hA (Nat.le_of_ble_eq_true rfl) ?_
  show RJ l cx 0 RX6 cX6_hasRest 2 (some .boolean) 0 [(0, .inr (.inr (6, 0, 0))), (1, .inl a0)] [] σ _
  refine R_iload_n dX6_hasRest_0 rfl 1 rfl ?_
  refine R_if_lt (tgt := 18) dX6_hasRest_1 (by decide) (fun c1 => ?_) (fun c1 => ?_)
  · have w := wp_t c1 w
    refine R_iconst (v := 0) dX6_hasRest_18 (by decide) ?_
    exact R_zreturn dX6_hasRest_19 rfl (by decide) ⟨_, rfl, wp_some w⟩
  · have w := wp_f c1 w
    refine R_iload_n dX6_hasRest_4 rfl 1 rfl ?_
    refine R_aload_n dX6_hasRest_5 rfl 0 rfl ?_
    refine R_getfI (k := 2) acl6 oz6_0 (by decide) fl_RX6_18 dX6_hasRest_6 rfl ?_
    refine R_iconst (v := 1) dX6_hasRest_9 (by decide) ?_
    refine R_isub dX6_hasRest_10 ?_
    refine R_icmp_ge (tgt := 18) dX6_hasRest_11 (by decide) (fun c2 => ?_) (fun c2 => ?_)
    · have w := wp_f c2 w
      refine R_iconst (v := 0) dX6_hasRest_18 (by decide) ?_
      exact R_zreturn dX6_hasRest_19 rfl (by decide) ⟨_, rfl, wp_some w⟩
    · have w := wp_t c2 w
      refine R_iconst (v := 1) dX6_hasRest_14 (by decide) ?_
      refine R_goto (tgt := 19) dX6_hasRest_15 (by decide) ?_
      exact R_zreturn dX6_hasRest_19 rfl (by decide) ⟨_, rfl, wp_some w⟩
def g_X6_has (a0 : Int32) (σ : AS) : Option (Int32 × AS) := (if a0 < 0 then some (0, σ) else (if a0 < gF σ 6 0 2 then some (1, σ) else some (0, σ)))
set_option maxRecDepth 100000 in
set_option maxHeartbeats 4000000 in
theorem ct_X6_has {l : Launch} {cx : CX} (hA : AD cx) (a0 : Int32) (σ : AS) (Q : Int32 → AS → Prop) (w : wpO (g_X6_has a0 σ) Q) : AMet l cx 0 yX6_has cX6_has 2 (some .boolean) [.inr (.inr (6, 0, 0)), .inl a0] σ (QI Q) := by
  unfold g_X6_has at w
  refine AMet.of (own := RX6) (by decide) rfl hA (Nat.le_of_ble_eq_true rfl) ?_
  show RJ l cx 0 RX6 cX6_has 2 (some .boolean) 0 [(0, .inr (.inr (6, 0, 0))), (1, .inl a0)] [] σ _
  refine R_iload_n dX6_has_0 rfl 1 rfl ?_
  refine R_if_lt (tgt := 16) dX6_has_1 (by decide) (fun c1 => ?_) (fun c1 => ?_)
  · have w := wp_t c1 w
    refine R_iconst (v := 0) dX6_has_16 (by decide) ?_
    exact R_zreturn dX6_has_17 rfl (by decide) ⟨_, rfl, wp_some w⟩
  · have w := wp_f c1 w
    refine R_iload_n dX6_has_4 rfl 1 rfl ?_
    refine R_aload_n dX6_has_5 rfl 0 rfl ?_
    refine R_getfI (k := 2) acl6 oz6_0 (by decide) fl_RX6_18 dX6_has_6 rfl ?_
    refine R_icmp_ge (tgt := 16) dX6_has_9 (by decide) (fun c2 => ?_) (fun c2 => ?_)
    · have w := wp_f c2 w
      refine R_iconst (v := 0) dX6_has_16 (by decide) ?_
      exact R_zreturn dX6_has_17 rfl (by decide) ⟨_, rfl, wp_some w⟩
    · have w := wp_t c2 w
      refine R_iconst (v := 1) dX6_has_12 (by decide) ?_
      refine R_goto (tgt := 17) dX6_has_13 (by decide) ?_
      exact R_zreturn dX6_has_17 rfl (by decide) ⟨_, rfl, wp_some w⟩
def g_X6_trait (a0 : Int32) (a1 : Int32) (σ : AS) : Option (Int32 × AS) := (bnd (g_X6_has a0 σ) fun r1 σ2 => (if r1 = 0 then some (0, σ2) else (if a1 < 0 then some (0, σ2) else (if a1 < 5 then (if inb ((a0 * 5) + a1) 40 then some (gA σ2 6 0 0 ((a0 * 5) + a1), σ2) else none) else some (0, σ2)))))
set_option maxRecDepth 100000 in
set_option maxHeartbeats 4000000 in
theorem ct_X6_trait {l : Launch} {cx : CX} (hA : AD cx) (a0 : Int32) (a1 : Int32) (σ : AS) (Q : Int32 → AS → Prop) (w : wpO (g_X6_trait a0 a1 σ) Q) : AMet l cx 1 yX6_trait cX6_trait 3 (some .int) [.inr (.inr (6, 0, 0)), .inl a0, .inl a1] σ (QI Q) := by
  unfold g_X6_trait at w
  refine AMet.of (own := RX6) (by decide) rfl hA (Nat.le_of_ble_eq_true rfl) ?_
  show RJ l cx 1 RX6 cX6_trait 3 (some .int) 0 [(0, .inr (.inr (6, 0, 0))), (1, .inl a0), (2, .inl a1)] [] σ _
  refine R_aload_n dX6_trait_0 rfl 0 rfl ?_
  refine R_iload_n dX6_trait_1 rfl 1 rfl ?_
  refine R_callVI (As := [.inl a0]) acl6 rfl oz6_0 mi_X6_has ml_RX6_26 rfl (Nat.le_of_ble_eq_true rfl) (by decide) dX6_trait_2 (ct_X6_has hA a0 σ _ (wp_bnd w)) (fun r1 σ2 w => ?_)
  refine R_if_eq (tgt := 17) dX6_trait_5 (by decide) (fun c3 => ?_) (fun c3 => ?_)
  · have w := wp_t c3 w
    refine R_iconst (v := 0) dX6_trait_17 (by decide) ?_
    exact R_ireturn dX6_trait_18 rfl ⟨_, rfl, wp_some w⟩
  · have w := wp_f c3 w
    refine R_iload_n dX6_trait_8 rfl 2 rfl ?_
    refine R_if_lt (tgt := 17) dX6_trait_9 (by decide) (fun c4 => ?_) (fun c4 => ?_)
    · have w := wp_t c4 w
      refine R_iconst (v := 0) dX6_trait_17 (by decide) ?_
      exact R_ireturn dX6_trait_18 rfl ⟨_, rfl, wp_some w⟩
    · have w := wp_f c4 w
      refine R_iload_n dX6_trait_12 rfl 2 rfl ?_
      refine R_iconst (v := 5) dX6_trait_13 (by decide) ?_
      refine R_icmp_lt (tgt := 19) dX6_trait_14 (by decide) (fun c5 => ?_) (fun c5 => ?_)
      · have w := wp_t c5 w
        refine R_aload_n dX6_trait_19 rfl 0 rfl ?_
        refine R_getfA (k := 0) acl6 oz6_0 (by decide) fl_RX6_9 dX6_trait_20 rfl ?_
        refine R_iload_n dX6_trait_23 rfl 1 rfl ?_
        refine R_iconst (v := 5) dX6_trait_24 (by decide) ?_
        refine R_imul dX6_trait_25 ?_
        refine R_iload_n dX6_trait_26 rfl 2 rfl ?_
        refine R_iadd dX6_trait_27 ?_
        obtain ⟨b6, w⟩ := wp_chk w
        refine R_iald rfl oz6_0 b6 dX6_trait_28 ?_
        exact R_ireturn dX6_trait_29 rfl ⟨_, rfl, wp_some w⟩
      · have w := wp_f c5 w
        refine R_iconst (v := 0) dX6_trait_17 (by decide) ?_
        exact R_ireturn dX6_trait_18 rfl ⟨_, rfl, wp_some w⟩
def g_X1_begin_63  (o : Nat) (o1 : Nat)  : Nat → Int32 → Int32 → AS → Option (Unit × AS)
  | 0, _, _, _ => none
  | f0 + 1, v2, v3, σ => (if v3 < 8 then (if inb v3 8 then (lt (sA σ 1 o 8 v3 v3) fun σ12 => (g_X1_begin_63 o o1 f0) v2 (v3 + 1) σ12) else none) else (lt (sF σ 1 o 11 (gF σ 1 o1 11)) fun σ7 => (lt (sF σ7 1 o 12 0) fun σ8 => (lt (sF σ8 1 o 13 v2) fun σ9 => (lt (sF σ9 1 o 14 (gF σ9 1 o 11)) fun σ10 => some ((), σ10))))))
set_option maxRecDepth 100000 in
set_option maxHeartbeats 4000000 in
theorem rk_X1_begin_63 {l : Launch} {cx : CX} (hA : AD cx)  (o : Nat) (ho : o < am_cnt 1) (o1 : Nat) (ho1 : o1 < am_cnt 1)  (Q : Unit → AS → Prop) : ∀ (f0 : Nat) (v2 : Int32) (v3 : Int32) (σ : AS), wpO (g_X1_begin_63 o o1 f0 v2 v3 σ) Q → RJ l cx 2 RX1 cX1_begin 4 none 63 [(0, .inr (.inr (1, o, 0))), (1, .inr (.inr (1, o1, 0))), (2, .inl v2), (3, .inl v3)] [] σ (QV Q) := by
  intro f0
  induction f0 with
  | zero => intro v2 v3 σ w; exact wp_no w
  | succ f0 ih =>
    intro v2 v3 σ w
    rw [g_X1_begin_63] at w
    refine R_iload_n dX1_begin_63 rfl 3 rfl ?_
    refine R_bipush (v := 8) dX1_begin_64 (by decide) ?_
    refine R_icmp_ge (tgt := 82) dX1_begin_66 (by decide) (fun c6 => ?_) (fun c6 => ?_)
    · have w := wp_f c6 w
      refine R_aload_n dX1_begin_82 rfl 0 rfl ?_
      refine R_aload_n dX1_begin_83 rfl 1 rfl ?_
      refine R_getfI (k := 11) acl1 ho1 (by decide) fl_RX1_40 dX1_begin_84 rfl ?_
      refine R_putf (k := 11) (ty := .int) acl1 ho (by decide) fl_RX1_40 rfl (tyX1_ok 11 (by decide)) (Or.inl rfl) dX1_begin_87 rfl ?_
      refine R_nameS w ?_; clear w; intro σ7 w
      refine R_aload_n dX1_begin_90 rfl 0 rfl ?_
      refine R_iconst (v := 0) dX1_begin_91 (by decide) ?_
      refine R_putf (k := 12) (ty := .int) acl1 ho (by decide) fl_RX1_44 rfl (tyX1_ok 12 (by decide)) (Or.inl rfl) dX1_begin_92 rfl ?_
      refine R_nameS w ?_; clear w; intro σ8 w
      refine R_aload_n dX1_begin_95 rfl 0 rfl ?_
      refine R_iload_n dX1_begin_96 rfl 2 rfl ?_
      refine R_putf (k := 13) (ty := .int) acl1 ho (by decide) fl_RX1_47 rfl (tyX1_ok 13 (by decide)) (Or.inl rfl) dX1_begin_97 rfl ?_
      refine R_nameS w ?_; clear w; intro σ9 w
      refine R_aload_n dX1_begin_100 rfl 0 rfl ?_
      refine R_aload_n dX1_begin_101 rfl 0 rfl ?_
      refine R_getfI (k := 11) acl1 ho (by decide) fl_RX1_40 dX1_begin_102 rfl ?_
      refine R_putf (k := 14) (ty := .int) acl1 ho (by decide) fl_RX1_50 rfl (tyX1_ok 14 (by decide)) (Or.inl rfl) dX1_begin_105 rfl ?_
      refine R_nameS w ?_; clear w; intro σ10 w
      exact R_vreturn dX1_begin_108 rfl ⟨rfl, wp_some w⟩
    · have w := wp_t c6 w
      refine R_aload_n dX1_begin_69 rfl 0 rfl ?_
      refine R_getfA (k := 8) acl1 ho (by decide) fl_RX1_30 dX1_begin_70 rfl ?_
      refine R_iload_n dX1_begin_73 rfl 3 rfl ?_
      refine R_iload_n dX1_begin_74 rfl 3 rfl ?_
      obtain ⟨b11, w⟩ := wp_chk w
      refine R_iast rfl ho b11 dX1_begin_75 ?_
      refine R_nameS w ?_; clear w; intro σ12 w
      refine R_iinc (v := v3 + 1) (lv' := [(3, .inl (v3 + 1)), (0, .inr (.inr (1, o, 0))), (1, .inr (.inr (1, o1, 0))), (2, .inl v2)]) dX1_begin_76 3 rfl rfl (by decide) rfl ?_
      refine R_goto (tgt := 63) dX1_begin_79 (by decide) ?_
      refine R_sub [1, 2, 3, 0] rfl ?_
      exact ih v2 (v3 + 1) σ12 w
def g_X1_begin (o : Nat) (o1 : Nat) (a1 : Int32) (σ : AS) : Option (Unit × AS) := (lt (cpyA σ 1 o1 2 1 o 2 0 0 7) fun σ1 => (lt (cpyA σ1 1 o1 3 1 o 3 0 0 7) fun σ2 => (lt (cpyA σ2 1 o1 4 1 o 4 0 0 7) fun σ3 => (lt (filA σ3 1 o 6 8 0) fun σ4 => (lt (filA σ4 1 o 7 8 0) fun σ5 => g_X1_begin_63 o o1 400 a1 0 σ5)))))
set_option maxRecDepth 100000 in
set_option maxHeartbeats 4000000 in
theorem ct_X1_begin {l : Launch} {cx : CX} (hA : AD cx) (o : Nat) (ho : o < am_cnt 1) (o1 : Nat) (ho1 : o1 < am_cnt 1) (a1 : Int32) (σ : AS) (Q : Unit → AS → Prop) (w : wpO (g_X1_begin o o1 a1 σ) Q) : AMet l cx 2 yX1_begin cX1_begin 4 none [.inr (.inr (1, o, 0)), .inr (.inr (1, o1, 0)), .inl a1] σ (QV Q) := by
  unfold g_X1_begin at w
  refine AMet.of (own := RX1) (by decide) rfl hA (Nat.le_of_ble_eq_true rfl) ?_
  show RJ l cx 2 RX1 cX1_begin 4 none 0 [(0, .inr (.inr (1, o, 0))), (1, .inr (.inr (1, o1, 0))), (2, .inl a1)] [] σ _
  refine R_aload_n dX1_begin_0 rfl 1 rfl ?_
  refine R_getfA (k := 2) acl1 ho1 (by decide) fl_RX1_9 dX1_begin_1 rfl ?_
  refine R_iconst (v := 0) dX1_begin_4 (by decide) ?_
  refine R_aload_n dX1_begin_5 rfl 0 rfl ?_
  refine R_getfA (k := 2) acl1 ho (by decide) fl_RX1_9 dX1_begin_6 rfl ?_
  refine R_iconst (v := 0) dX1_begin_9 (by decide) ?_
  refine R_bipush (v := 7) dX1_begin_10 (by decide) ?_
  refine R_copyA rfl rfl ho1 ho (by decide) ml_RX1_67 (by decide) (Nat.le_of_ble_eq_true rfl) dX1_begin_12 ?_
  refine R_nameS w ?_; clear w; intro σ1 w
  refine R_aload_n dX1_begin_15 rfl 1 rfl ?_
  refine R_getfA (k := 3) acl1 ho1 (by decide) fl_RX1_15 dX1_begin_16 rfl ?_
  refine R_iconst (v := 0) dX1_begin_19 (by decide) ?_
  refine R_aload_n dX1_begin_20 rfl 0 rfl ?_
  refine R_getfA (k := 3) acl1 ho (by decide) fl_RX1_15 dX1_begin_21 rfl ?_
  refine R_iconst (v := 0) dX1_begin_24 (by decide) ?_
  refine R_bipush (v := 7) dX1_begin_25 (by decide) ?_
  refine R_copyA rfl rfl ho1 ho (by decide) ml_RX1_67 (by decide) (Nat.le_of_ble_eq_true rfl) dX1_begin_27 ?_
  refine R_nameS w ?_; clear w; intro σ2 w
  refine R_aload_n dX1_begin_30 rfl 1 rfl ?_
  refine R_getfA (k := 4) acl1 ho1 (by decide) fl_RX1_18 dX1_begin_31 rfl ?_
  refine R_iconst (v := 0) dX1_begin_34 (by decide) ?_
  refine R_aload_n dX1_begin_35 rfl 0 rfl ?_
  refine R_getfA (k := 4) acl1 ho (by decide) fl_RX1_18 dX1_begin_36 rfl ?_
  refine R_iconst (v := 0) dX1_begin_39 (by decide) ?_
  refine R_bipush (v := 7) dX1_begin_40 (by decide) ?_
  refine R_copyA rfl rfl ho1 ho (by decide) ml_RX1_67 (by decide) (Nat.le_of_ble_eq_true rfl) dX1_begin_42 ?_
  refine R_nameS w ?_; clear w; intro σ3 w
  refine R_aload_n dX1_begin_45 rfl 0 rfl ?_
  refine R_getfA (k := 6) acl1 ho (by decide) fl_RX1_24 dX1_begin_46 rfl ?_
  refine R_iconst (v := 0) dX1_begin_49 (by decide) ?_
  refine R_callSV (As := [.inr (.inr (1, o, 6 + 1)), .inl 0]) mi_J7_fill_53178 ml_RX1_61 rfl (Nat.le_of_ble_eq_true rfl) (by decide) dX1_begin_50 (ct_filA hA rfl ho (by decide) w) (fun σ4 w => ?_)
  refine R_aload_n dX1_begin_53 rfl 0 rfl ?_
  refine R_getfA (k := 7) acl1 ho (by decide) fl_RX1_27 dX1_begin_54 rfl ?_
  refine R_iconst (v := 0) dX1_begin_57 (by decide) ?_
  refine R_callSV (As := [.inr (.inr (1, o, 7 + 1)), .inl 0]) mi_J7_fill_53178 ml_RX1_61 rfl (Nat.le_of_ble_eq_true rfl) (by decide) dX1_begin_58 (ct_filA hA rfl ho (by decide) w) (fun σ5 w => ?_)
  refine R_iconst (v := 0) dX1_begin_61 (by decide) ?_
  refine R_istore_n (lv' := [(3, .inl 0), (0, .inr (.inr (1, o, 0))), (1, .inr (.inr (1, o1, 0))), (2, .inl a1)]) dX1_begin_62 rfl (by decide) rfl ?_
  refine R_sub [1, 2, 3, 0] rfl ?_
  exact rk_X1_begin_63 hA o ho o1 ho1 _ 400 a1 0 σ5 w
def g_X1_free (o : Nat) (a0 : Int32) (σ : AS) : Option (Int32 × AS) := (if inb a0 7 then some (((gA σ 1 o 2 a0) - (gA σ 1 o 3 a0)) - (gA σ 1 o 4 a0), σ) else none)
set_option maxRecDepth 100000 in
set_option maxHeartbeats 4000000 in
theorem ct_X1_free {l : Launch} {cx : CX} (hA : AD cx) (o : Nat) (ho : o < am_cnt 1) (a0 : Int32) (σ : AS) (Q : Int32 → AS → Prop) (w : wpO (g_X1_free o a0 σ) Q) : AMet l cx 0 yX1_free cX1_free 2 (some .int) [.inr (.inr (1, o, 0)), .inl a0] σ (QI Q) := by
  unfold g_X1_free at w
  refine AMet.of (own := RX1) (by decide) rfl hA (Nat.le_of_ble_eq_true rfl) ?_
  show RJ l cx 0 RX1 cX1_free 2 (some .int) 0 [(0, .inr (.inr (1, o, 0))), (1, .inl a0)] [] σ _
  refine R_aload_n dX1_free_0 rfl 0 rfl ?_
  refine R_getfA (k := 2) acl1 ho (by decide) fl_RX1_9 dX1_free_1 rfl ?_
  refine R_iload_n dX1_free_4 rfl 1 rfl ?_
  obtain ⟨b1, w⟩ := wp_chk w
  refine R_iald rfl ho b1 dX1_free_5 ?_
  refine R_aload_n dX1_free_6 rfl 0 rfl ?_
  refine R_getfA (k := 3) acl1 ho (by decide) fl_RX1_15 dX1_free_7 rfl ?_
  refine R_iload_n dX1_free_10 rfl 1 rfl ?_
  refine R_iald rfl ho b1 dX1_free_11 ?_
  refine R_isub dX1_free_12 ?_
  refine R_aload_n dX1_free_13 rfl 0 rfl ?_
  refine R_getfA (k := 4) acl1 ho (by decide) fl_RX1_18 dX1_free_14 rfl ?_
  refine R_iload_n dX1_free_17 rfl 1 rfl ?_
  refine R_iald rfl ho b1 dX1_free_18 ?_
  refine R_isub dX1_free_19 ?_
  exact R_ireturn dX1_free_20 rfl ⟨_, rfl, wp_some w⟩
def g_X1_takeFree (o : Nat) (k : Nat) (a1 : Int32) (σ : AS) : Option (Int32 × AS) := (bnd (g_X1_free o a1 σ) fun r1 σ2 => (if (0 : Int32) < r1 then (if inb a1 7 then (lt (sA σ2 1 o k a1 ((gA σ2 1 o k a1) + 1)) fun σ5 => (lt (sF σ5 1 o 10 1) fun σ6 => some (1, σ6))) else none) else some (0, σ2)))
set_option maxRecDepth 100000 in
set_option maxHeartbeats 4000000 in
theorem ct_X1_takeFree {l : Launch} {cx : CX} (hA : AD cx) (o : Nat) (ho : o < am_cnt 1) (k : Nat) (hk : am_k 1 k = (2, 7, 0)) (a1 : Int32) (σ : AS) (Q : Int32 → AS → Prop) (w : wpO (g_X1_takeFree o k a1 σ) Q) : AMet l cx 1 yX1_takeFree cX1_takeFree 3 (some .boolean) [.inr (.inr (1, o, 0)), .inr (.inr (1, o, k + 1)), .inl a1] σ (QI Q) := by
  unfold g_X1_takeFree at w
  refine AMet.of (own := RX1) (by decide) rfl hA (Nat.le_of_ble_eq_true rfl) ?_
  show RJ l cx 1 RX1 cX1_takeFree 3 (some .boolean) 0 [(0, .inr (.inr (1, o, 0))), (1, .inr (.inr (1, o, k + 1))), (2, .inl a1)] [] σ _
  refine R_aload_n dX1_takeFree_0 rfl 0 rfl ?_
  refine R_iload_n dX1_takeFree_1 rfl 2 rfl ?_
  refine R_callVI (As := [.inl a1]) acl1 rfl ho mi_X1_free ml_RX1_142 rfl (Nat.le_of_ble_eq_true rfl) (by decide) dX1_takeFree_2 (ct_X1_free hA o ho a1 σ _ (wp_bnd w)) (fun r1 σ2 w => ?_)
  refine R_if_gt (tgt := 10) dX1_takeFree_5 (by decide) (fun c3 => ?_) (fun c3 => ?_)
  · have w := wp_t c3 w
    refine R_aload_n dX1_takeFree_10 rfl 1 rfl ?_
    refine R_iload_n dX1_takeFree_11 rfl 2 rfl ?_
    refine R_dup2 dX1_takeFree_12 rfl rfl ?_
    obtain ⟨b4, w⟩ := wp_chk w
    refine R_iald hk ho b4 dX1_takeFree_13 ?_
    refine R_iconst (v := 1) dX1_takeFree_14 (by decide) ?_
    refine R_iadd dX1_takeFree_15 ?_
    refine R_iast hk ho b4 dX1_takeFree_16 ?_
    refine R_nameS w ?_; clear w; intro σ5 w
    refine R_aload_n dX1_takeFree_17 rfl 0 rfl ?_
    refine R_iconst (v := 1) dX1_takeFree_18 (by decide) ?_
    refine R_putf (k := 10) (ty := .boolean) acl1 ho (by decide) fl_RX1_36 rfl (tyX1_ok 10 (by decide)) (Or.inr ⟨rfl, by decide⟩) dX1_takeFree_19 rfl ?_
    refine R_nameS w ?_; clear w; intro σ6 w
    refine R_iconst (v := 1) dX1_takeFree_22 (by decide) ?_
    exact R_zreturn dX1_takeFree_23 rfl (by decide) ⟨_, rfl, wp_some w⟩
  · have w := wp_f c3 w
    refine R_iconst (v := 0) dX1_takeFree_8 (by decide) ?_
    exact R_zreturn dX1_takeFree_9 rfl (by decide) ⟨_, rfl, wp_some w⟩
def g_X6_rests (σ : AS) : Option (Int32 × AS) := (if (0 : Int32) < gF σ 6 0 2 then some ((gF σ 6 0 2) - 1, σ) else some (0, σ))
set_option maxRecDepth 100000 in
set_option maxHeartbeats 4000000 in
theorem ct_X6_rests {l : Launch} {cx : CX} (hA : AD cx) (σ : AS) (Q : Int32 → AS → Prop) (w : wpO (g_X6_rests σ) Q) : AMet l cx 0 yX6_rests cX6_rests 1 (some .int) [.inr (.inr (6, 0, 0))] σ (QI Q) := by
  unfold g_X6_rests at w
  refine AMet.of (own := RX6) (by decide) rfl hA (Nat.le_of_ble_eq_true rfl) ?_
  show RJ l cx 0 RX6 cX6_rests 1 (some .int) 0 [(0, .inr (.inr (6, 0, 0)))] [] σ _
  refine R_aload_n dX6_rests_0 rfl 0 rfl ?_
  refine R_getfI (k := 2) acl6 oz6_0 (by decide) fl_RX6_18 dX6_rests_1 rfl ?_
  refine R_if_le (tgt := 16) dX6_rests_4 (by decide) (fun c1 => ?_) (fun c1 => ?_)
  · have w := wp_f c1 w
    refine R_iconst (v := 0) dX6_rests_16 (by decide) ?_
    exact R_ireturn dX6_rests_17 rfl ⟨_, rfl, wp_some w⟩
  · have w := wp_t c1 w
    refine R_aload_n dX6_rests_7 rfl 0 rfl ?_
    refine R_getfI (k := 2) acl6 oz6_0 (by decide) fl_RX6_18 dX6_rests_8 rfl ?_
    refine R_iconst (v := 1) dX6_rests_11 (by decide) ?_
    refine R_isub dX6_rests_12 ?_
    refine R_goto (tgt := 17) dX6_rests_13 (by decide) ?_
    exact R_ireturn dX6_rests_17 rfl ⟨_, rfl, wp_some w⟩
def g_X6_become (a0 : Int32) (a1 : Int32) (a2 : Int32) (σ : AS) : Option (Unit × AS) := (bnd (g_X6_has a0 σ) fun r1 σ2 => (if r1 = 0 then some ((), σ2) else (if a1 < 0 then some ((), σ2) else (if a1 < 5 then (if inb ((a0 * 5) + a1) 40 then (lt (sA σ2 6 0 0 ((a0 * 5) + a1) a2) fun σ7 => some ((), σ7)) else none) else some ((), σ2)))))
set_option maxRecDepth 100000 in
set_option maxHeartbeats 4000000 in
theorem ct_X6_become {l : Launch} {cx : CX} (hA : AD cx) (a0 : Int32) (a1 : Int32) (a2 : Int32) (σ : AS) (Q : Unit → AS → Prop) (w : wpO (g_X6_become a0 a1 a2 σ) Q) : AMet l cx 1 yX6_become cX6_become 4 none [.inr (.inr (6, 0, 0)), .inl a0, .inl a1, .inl a2] σ (QV Q) := by
  unfold g_X6_become at w
  refine AMet.of (own := RX6) (by decide) rfl hA (Nat.le_of_ble_eq_true rfl) ?_
  show RJ l cx 1 RX6 cX6_become 4 none 0 [(0, .inr (.inr (6, 0, 0))), (1, .inl a0), (2, .inl a1), (3, .inl a2)] [] σ _
  refine R_aload_n dX6_become_0 rfl 0 rfl ?_
  refine R_iload_n dX6_become_1 rfl 1 rfl ?_
  refine R_callVI (As := [.inl a0]) acl6 rfl oz6_0 mi_X6_has ml_RX6_26 rfl (Nat.le_of_ble_eq_true rfl) (by decide) dX6_become_2 (ct_X6_has hA a0 σ _ (wp_bnd w)) (fun r1 σ2 w => ?_)
  refine R_if_eq (tgt := 17) dX6_become_5 (by decide) (fun c3 => ?_) (fun c3 => ?_)
  · have w := wp_t c3 w
    exact R_vreturn dX6_become_17 rfl ⟨rfl, wp_some w⟩
  · have w := wp_f c3 w
    refine R_iload_n dX6_become_8 rfl 2 rfl ?_
    refine R_if_lt (tgt := 17) dX6_become_9 (by decide) (fun c4 => ?_) (fun c4 => ?_)
    · have w := wp_t c4 w
      exact R_vreturn dX6_become_17 rfl ⟨rfl, wp_some w⟩
    · have w := wp_f c4 w
      refine R_iload_n dX6_become_12 rfl 2 rfl ?_
      refine R_iconst (v := 5) dX6_become_13 (by decide) ?_
      refine R_icmp_lt (tgt := 18) dX6_become_14 (by decide) (fun c5 => ?_) (fun c5 => ?_)
      · have w := wp_t c5 w
        refine R_aload_n dX6_become_18 rfl 0 rfl ?_
        refine R_getfA (k := 0) acl6 oz6_0 (by decide) fl_RX6_9 dX6_become_19 rfl ?_
        refine R_iload_n dX6_become_22 rfl 1 rfl ?_
        refine R_iconst (v := 5) dX6_become_23 (by decide) ?_
        refine R_imul dX6_become_24 ?_
        refine R_iload_n dX6_become_25 rfl 2 rfl ?_
        refine R_iadd dX6_become_26 ?_
        refine R_iload_n dX6_become_27 rfl 3 rfl ?_
        obtain ⟨b6, w⟩ := wp_chk w
        refine R_iast rfl oz6_0 b6 dX6_become_28 ?_
        refine R_nameS w ?_; clear w; intro σ7 w
        exact R_vreturn dX6_become_29 rfl ⟨rfl, wp_some w⟩
      · have w := wp_f c5 w
        exact R_vreturn dX6_become_17 rfl ⟨rfl, wp_some w⟩
def g_X6_add (a0 : Int32) (a1 : Int32) (a2 : Int32) (σ : AS) : Option (Int32 × AS) := (if gF σ 6 0 2 < 8 then (lt (sF σ 6 0 2 ((gF σ 6 0 2) + 1)) fun σ2 => (bnd (g_X6_become ((gF σ2 6 0 2) - 1) 0 a0 σ2) fun _ σ3 => (bnd (g_X6_become ((gF σ3 6 0 2) - 1) 1 a1 σ3) fun _ σ4 => (bnd (g_X6_become ((gF σ4 6 0 2) - 1) 2 a2 σ4) fun _ σ5 => some ((gF σ5 6 0 2) - 1, σ5))))) else some ((-3), σ))
set_option maxRecDepth 100000 in
set_option maxHeartbeats 4000000 in
theorem ct_X6_add {l : Launch} {cx : CX} (hA : AD cx) (a0 : Int32) (a1 : Int32) (a2 : Int32) (σ : AS) (Q : Int32 → AS → Prop) (w : wpO (g_X6_add a0 a1 a2 σ) Q) : AMet l cx 2 yX6_add cX6_add 4 (some .int) [.inr (.inr (6, 0, 0)), .inl a0, .inl a1, .inl a2] σ (QI Q) := by
  unfold g_X6_add at w
  refine AMet.of (own := RX6) (by decide) rfl hA (Nat.le_of_ble_eq_true rfl) ?_
  show RJ l cx 2 RX6 cX6_add 4 (some .int) 0 [(0, .inr (.inr (6, 0, 0))), (1, .inl a0), (2, .inl a1), (3, .inl a2)] [] σ _
  refine R_aload_n dX6_add_0 rfl 0 rfl ?_
  refine R_getfI (k := 2) acl6 oz6_0 (by decide) fl_RX6_18 dX6_add_1 rfl ?_
  refine R_bipush (v := 8) dX6_add_4 (by decide) ?_
  refine R_icmp_lt (tgt := 12) dX6_add_6 (by decide) (fun c1 => ?_) (fun c1 => ?_)
  · have w := wp_t c1 w
    refine R_aload_n dX6_add_12 rfl 0 rfl ?_
    refine R_dup dX6_add_13 rfl ?_
    refine R_getfI (k := 2) acl6 oz6_0 (by decide) fl_RX6_18 dX6_add_14 rfl ?_
    refine R_iconst (v := 1) dX6_add_17 (by decide) ?_
    refine R_iadd dX6_add_18 ?_
    refine R_putf (k := 2) (ty := .int) acl6 oz6_0 (by decide) fl_RX6_18 rfl (tyX6_ok 2 (by decide)) (Or.inl rfl) dX6_add_19 rfl ?_
    refine R_nameS w ?_; clear w; intro σ2 w
    refine R_aload_n dX6_add_22 rfl 0 rfl ?_
    refine R_aload_n dX6_add_23 rfl 0 rfl ?_
    refine R_getfI (k := 2) acl6 oz6_0 (by decide) fl_RX6_18 dX6_add_24 rfl ?_
    refine R_iconst (v := 1) dX6_add_27 (by decide) ?_
    refine R_isub dX6_add_28 ?_
    refine R_iconst (v := 0) dX6_add_29 (by decide) ?_
    refine R_iload_n dX6_add_30 rfl 1 rfl ?_
    refine R_callVV (As := [.inl ((gF σ2 6 0 2) - 1), .inl 0, .inl a0]) acl6 rfl oz6_0 mi_X6_become ml_RX6_22 rfl (Nat.le_of_ble_eq_true rfl) (by decide) dX6_add_31 (ct_X6_become hA ((gF σ2 6 0 2) - 1) 0 a0 σ2 _ (wp_bnd w)) (fun σ3 w => ?_)
    refine R_aload_n dX6_add_34 rfl 0 rfl ?_
    refine R_aload_n dX6_add_35 rfl 0 rfl ?_
    refine R_getfI (k := 2) acl6 oz6_0 (by decide) fl_RX6_18 dX6_add_36 rfl ?_
    refine R_iconst (v := 1) dX6_add_39 (by decide) ?_
    refine R_isub dX6_add_40 ?_
    refine R_iconst (v := 1) dX6_add_41 (by decide) ?_
    refine R_iload_n dX6_add_42 rfl 2 rfl ?_
    refine R_callVV (As := [.inl ((gF σ3 6 0 2) - 1), .inl 1, .inl a1]) acl6 rfl oz6_0 mi_X6_become ml_RX6_22 rfl (Nat.le_of_ble_eq_true rfl) (by decide) dX6_add_43 (ct_X6_become hA ((gF σ3 6 0 2) - 1) 1 a1 σ3 _ (wp_bnd w)) (fun σ4 w => ?_)
    refine R_aload_n dX6_add_46 rfl 0 rfl ?_
    refine R_aload_n dX6_add_47 rfl 0 rfl ?_
    refine R_getfI (k := 2) acl6 oz6_0 (by decide) fl_RX6_18 dX6_add_48 rfl ?_
    refine R_iconst (v := 1) dX6_add_51 (by decide) ?_
    refine R_isub dX6_add_52 ?_
    refine R_iconst (v := 2) dX6_add_53 (by decide) ?_
    refine R_iload_n dX6_add_54 rfl 3 rfl ?_
    refine R_callVV (As := [.inl ((gF σ4 6 0 2) - 1), .inl 2, .inl a2]) acl6 rfl oz6_0 mi_X6_become ml_RX6_22 rfl (Nat.le_of_ble_eq_true rfl) (by decide) dX6_add_55 (ct_X6_become hA ((gF σ4 6 0 2) - 1) 2 a2 σ4 _ (wp_bnd w)) (fun σ5 w => ?_)
    refine R_aload_n dX6_add_58 rfl 0 rfl ?_
    refine R_getfI (k := 2) acl6 oz6_0 (by decide) fl_RX6_18 dX6_add_59 rfl ?_
    refine R_iconst (v := 1) dX6_add_62 (by decide) ?_
    refine R_isub dX6_add_63 ?_
    exact R_ireturn dX6_add_64 rfl ⟨_, rfl, wp_some w⟩
  · have w := wp_f c1 w
    refine R_bipush (v := (-3)) dX6_add_9 (by decide) ?_
    exact R_ireturn dX6_add_11 rfl ⟨_, rfl, wp_some w⟩
def g_X0_forgetFirst (σ : AS) : Option (Unit × AS) := (lt (cpyA σ 0 0 0 0 0 0 1 0 39) fun σ1 => (lt (cpyA σ1 0 0 1 0 0 1 1 0 39) fun σ2 => (lt (cpyA σ2 0 0 2 0 0 2 1 0 39) fun σ3 => (lt (cpyA σ3 0 0 3 0 0 3 1 0 39) fun σ4 => (lt (sF σ4 0 0 4 39) fun σ5 => some ((), σ5))))))
set_option maxRecDepth 100000 in
set_option maxHeartbeats 4000000 in
theorem ct_X0_forgetFirst {l : Launch} {cx : CX} (hA : AD cx) (σ : AS) (Q : Unit → AS → Prop) (w : wpO (g_X0_forgetFirst σ) Q) : AMet l cx 2 yX0_forgetFirst cX0_forgetFirst 1 none [.inr (.inr (0, 0, 0))] σ (QV Q) := by
  unfold g_X0_forgetFirst at w
  refine AMet.of (own := RX0) (by decide) rfl hA (Nat.le_of_ble_eq_true rfl) ?_
  show RJ l cx 2 RX0 cX0_forgetFirst 1 none 0 [(0, .inr (.inr (0, 0, 0)))] [] σ _
  refine R_aload_n dX0_forgetFirst_0 rfl 0 rfl ?_
  refine R_getfA (k := 0) acl0 oz0_0 (by decide) fl_RX0_11 dX0_forgetFirst_1 rfl ?_
  refine R_iconst (v := 1) dX0_forgetFirst_4 (by decide) ?_
  refine R_aload_n dX0_forgetFirst_5 rfl 0 rfl ?_
  refine R_getfA (k := 0) acl0 oz0_0 (by decide) fl_RX0_11 dX0_forgetFirst_6 rfl ?_
  refine R_iconst (v := 0) dX0_forgetFirst_9 (by decide) ?_
  refine R_bipush (v := 39) dX0_forgetFirst_10 (by decide) ?_
  refine R_copyA rfl rfl oz0_0 oz0_0 (by decide) ml_RX0_40 (by decide) (Nat.le_of_ble_eq_true rfl) dX0_forgetFirst_12 ?_
  refine R_nameS w ?_; clear w; intro σ1 w
  refine R_aload_n dX0_forgetFirst_15 rfl 0 rfl ?_
  refine R_getfA (k := 1) acl0 oz0_0 (by decide) fl_RX0_15 dX0_forgetFirst_16 rfl ?_
  refine R_iconst (v := 1) dX0_forgetFirst_19 (by decide) ?_
  refine R_aload_n dX0_forgetFirst_20 rfl 0 rfl ?_
  refine R_getfA (k := 1) acl0 oz0_0 (by decide) fl_RX0_15 dX0_forgetFirst_21 rfl ?_
  refine R_iconst (v := 0) dX0_forgetFirst_24 (by decide) ?_
  refine R_bipush (v := 39) dX0_forgetFirst_25 (by decide) ?_
  refine R_copyA rfl rfl oz0_0 oz0_0 (by decide) ml_RX0_40 (by decide) (Nat.le_of_ble_eq_true rfl) dX0_forgetFirst_27 ?_
  refine R_nameS w ?_; clear w; intro σ2 w
  refine R_aload_n dX0_forgetFirst_30 rfl 0 rfl ?_
  refine R_getfA (k := 2) acl0 oz0_0 (by decide) fl_RX0_18 dX0_forgetFirst_31 rfl ?_
  refine R_iconst (v := 1) dX0_forgetFirst_34 (by decide) ?_
  refine R_aload_n dX0_forgetFirst_35 rfl 0 rfl ?_
  refine R_getfA (k := 2) acl0 oz0_0 (by decide) fl_RX0_18 dX0_forgetFirst_36 rfl ?_
  refine R_iconst (v := 0) dX0_forgetFirst_39 (by decide) ?_
  refine R_bipush (v := 39) dX0_forgetFirst_40 (by decide) ?_
  refine R_copyA rfl rfl oz0_0 oz0_0 (by decide) ml_RX0_40 (by decide) (Nat.le_of_ble_eq_true rfl) dX0_forgetFirst_42 ?_
  refine R_nameS w ?_; clear w; intro σ3 w
  refine R_aload_n dX0_forgetFirst_45 rfl 0 rfl ?_
  refine R_getfA (k := 3) acl0 oz0_0 (by decide) fl_RX0_21 dX0_forgetFirst_46 rfl ?_
  refine R_iconst (v := 1) dX0_forgetFirst_49 (by decide) ?_
  refine R_aload_n dX0_forgetFirst_50 rfl 0 rfl ?_
  refine R_getfA (k := 3) acl0 oz0_0 (by decide) fl_RX0_21 dX0_forgetFirst_51 rfl ?_
  refine R_iconst (v := 0) dX0_forgetFirst_54 (by decide) ?_
  refine R_bipush (v := 39) dX0_forgetFirst_55 (by decide) ?_
  refine R_copyA rfl rfl oz0_0 oz0_0 (by decide) ml_RX0_40 (by decide) (Nat.le_of_ble_eq_true rfl) dX0_forgetFirst_57 ?_
  refine R_nameS w ?_; clear w; intro σ4 w
  refine R_aload_n dX0_forgetFirst_60 rfl 0 rfl ?_
  refine R_bipush (v := 39) dX0_forgetFirst_61 (by decide) ?_
  refine R_putf (k := 4) (ty := .int) acl0 oz0_0 (by decide) fl_RX0_24 rfl (tyX0_ok 4 (by decide)) (Or.inl rfl) dX0_forgetFirst_63 rfl ?_
  refine R_nameS w ?_; clear w; intro σ5 w
  exact R_vreturn dX0_forgetFirst_66 rfl ⟨rfl, wp_some w⟩
def g_X9_within (a0 : Int64) (a1 : Int64) (a2 : Int64) (σ : AS) : Option (Int32 × AS) := (if lg_cmp a0 a1 < 0 then some (0, σ) else (if (0 : Int32) < lg_cmp a0 a2 then some (0, σ) else some (1, σ)))
set_option maxRecDepth 100000 in
set_option maxHeartbeats 4000000 in
theorem ct_X9_within {l : Launch} {cx : CX} (hA : AD cx) (a0 : Int64) (a1 : Int64) (a2 : Int64) (σ : AS) (Q : Int32 → AS → Prop) (w : wpO (g_X9_within a0 a1 a2 σ) Q) : AMet l cx 0 yX9_within cX9_within 6 (some .boolean) [.inr (.inl a0), .inr (.inl a1), .inr (.inl a2)] σ (QI Q) := by
  unfold g_X9_within at w
  refine AMet.of (own := RX9) (by decide) rfl hA (Nat.le_of_ble_eq_true rfl) ?_
  show RJ l cx 0 RX9 cX9_within 6 (some .boolean) 0 [(0, .inr (.inl a0)), (2, .inr (.inl a1)), (4, .inr (.inl a2))] [] σ _
  refine R_lload_n dX9_within_0 rfl 0 rfl ?_
  refine R_lload_n dX9_within_1 rfl 1 rfl ?_
  refine R_lcmp dX9_within_2 ?_
  refine R_if_lt (tgt := 17) dX9_within_3 (by decide) (fun c1 => ?_) (fun c1 => ?_)
  · have w := wp_t c1 w
    refine R_iconst (v := 0) dX9_within_17 (by decide) ?_
    exact R_zreturn dX9_within_18 rfl (by decide) ⟨_, rfl, wp_some w⟩
  · have w := wp_f c1 w
    refine R_lload_n dX9_within_6 rfl 0 rfl ?_
    refine R_lload dX9_within_7 2 rfl ?_
    refine R_lcmp dX9_within_9 ?_
    refine R_if_gt (tgt := 17) dX9_within_10 (by decide) (fun c2 => ?_) (fun c2 => ?_)
    · have w := wp_t c2 w
      refine R_iconst (v := 0) dX9_within_17 (by decide) ?_
      exact R_zreturn dX9_within_18 rfl (by decide) ⟨_, rfl, wp_some w⟩
    · have w := wp_f c2 w
      refine R_iconst (v := 1) dX9_within_13 (by decide) ?_
      refine R_goto (tgt := 18) dX9_within_14 (by decide) ?_
      exact R_zreturn dX9_within_18 rfl (by decide) ⟨_, rfl, wp_some w⟩
def g_X9_rests (σ : AS) : Option (Int32 × AS) := (if gF σ 9 0 6 < 2 then some (0, σ) else some ((gF σ 9 0 6) - 1, σ))
set_option maxRecDepth 100000 in
set_option maxHeartbeats 4000000 in
theorem ct_X9_rests {l : Launch} {cx : CX} (hA : AD cx) (σ : AS) (Q : Int32 → AS → Prop) (w : wpO (g_X9_rests σ) Q) : AMet l cx 0 yX9_rests cX9_rests 1 (some .int) [.inr (.inr (9, 0, 0))] σ (QI Q) := by
  unfold g_X9_rests at w
  refine AMet.of (own := RX9) (by decide) rfl hA (Nat.le_of_ble_eq_true rfl) ?_
  show RJ l cx 0 RX9 cX9_rests 1 (some .int) 0 [(0, .inr (.inr (9, 0, 0)))] [] σ _
  refine R_aload_n dX9_rests_0 rfl 0 rfl ?_
  refine R_getfI (k := 6) acl9 oz9_0 (by decide) fl_RX9_111 dX9_rests_1 rfl ?_
  refine R_iconst (v := 2) dX9_rests_4 (by decide) ?_
  refine R_icmp_ge (tgt := 12) dX9_rests_5 (by decide) (fun c1 => ?_) (fun c1 => ?_)
  · have w := wp_f c1 w
    refine R_aload_n dX9_rests_12 rfl 0 rfl ?_
    refine R_getfI (k := 6) acl9 oz9_0 (by decide) fl_RX9_111 dX9_rests_13 rfl ?_
    refine R_iconst (v := 1) dX9_rests_16 (by decide) ?_
    refine R_isub dX9_rests_17 ?_
    exact R_ireturn dX9_rests_18 rfl ⟨_, rfl, wp_some w⟩
  · have w := wp_t c1 w
    refine R_iconst (v := 0) dX9_rests_8 (by decide) ?_
    refine R_goto (tgt := 18) dX9_rests_9 (by decide) ?_
    exact R_ireturn dX9_rests_18 rfl ⟨_, rfl, wp_some w⟩
def g_X9_heldBy_5  (k : Nat)  : Nat → Int32 → Int32 → Int32 → AS → Option (Int32 × AS)
  | 0, _, _, _, _ => none
  | f0 + 1, v2, v3, v4, σ => (bnd (g_X9_rests σ) fun r1 σ2 => (if v4 < r1 then (if v4 = v2 then (if inb (2 * v4) 14 then (lt (v3 + (gA σ2 9 0 k (2 * v4))) fun x10 => (g_X9_heldBy_5 k f0) v2 x10 (v4 + 1) σ2) else none) else (if v4 = v2 - 1 then (if inb ((2 * v4) + 1) 14 then (lt (v3 + (gA σ2 9 0 k ((2 * v4) + 1))) fun x8 => (g_X9_heldBy_5 k f0) v2 x8 (v4 + 1) σ2) else none) else (lt (v3 + 0) fun x6 => (g_X9_heldBy_5 k f0) v2 x6 (v4 + 1) σ2))) else some (v3, σ2)))
set_option maxRecDepth 100000 in
set_option maxHeartbeats 4000000 in
theorem rk_X9_heldBy_5 {l : Launch} {cx : CX} (hA : AD cx)  (k : Nat) (hk : am_k 9 k = (2, 14, 0))  (Q : Int32 → AS → Prop) : ∀ (f0 : Nat) (v2 : Int32) (v3 : Int32) (v4 : Int32) (σ : AS), wpO (g_X9_heldBy_5 k f0 v2 v3 v4 σ) Q → RJ l cx 1 RX9 cX9_heldBy 5 (some .int) 5 [(0, .inr (.inr (9, 0, 0))), (1, .inr (.inr (9, 0, k + 1))), (2, .inl v2), (3, .inl v3), (4, .inl v4)] [] σ (QI Q) := by
  intro f0
  induction f0 with
  | zero => intro v2 v3 v4 σ w; exact wp_no w
  | succ f0 ih =>
    intro v2 v3 v4 σ w
    rw [g_X9_heldBy_5] at w
    refine R_iload dX9_heldBy_5 4 rfl ?_
    refine R_aload_n dX9_heldBy_7 rfl 0 rfl ?_
    refine R_callVI (As := []) acl9 rfl oz9_0 mi_X9_rests ml_RX9_118 rfl (Nat.le_of_ble_eq_true rfl) (by decide) dX9_heldBy_8 (ct_X9_rests hA σ _ (wp_bnd w)) (fun r1 σ2 w => ?_)
    refine R_icmp_ge (tgt := 58) dX9_heldBy_11 (by decide) (fun c3 => ?_) (fun c3 => ?_)
    · have w := wp_f c3 w
      refine R_iload_n dX9_heldBy_58 rfl 3 rfl ?_
      exact R_ireturn dX9_heldBy_59 rfl ⟨_, rfl, wp_some w⟩
    · have w := wp_t c3 w
      refine R_iload_n dX9_heldBy_14 rfl 3 rfl ?_
      refine R_iload dX9_heldBy_15 4 rfl ?_
      refine R_iload_n dX9_heldBy_17 rfl 2 rfl ?_
      refine R_icmp_ne (tgt := 30) dX9_heldBy_18 (by decide) (fun c4 => ?_) (fun c4 => ?_)
      · have w := wp_f c4 w
        refine R_iload dX9_heldBy_30 4 rfl ?_
        refine R_iload_n dX9_heldBy_32 rfl 2 rfl ?_
        refine R_iconst (v := 1) dX9_heldBy_33 (by decide) ?_
        refine R_isub dX9_heldBy_34 ?_
        refine R_icmp_ne (tgt := 49) dX9_heldBy_35 (by decide) (fun c5 => ?_) (fun c5 => ?_)
        · have w := wp_f c5 w
          refine R_iconst (v := 0) dX9_heldBy_49 (by decide) ?_
          refine R_iadd dX9_heldBy_50 ?_
          refine R_nameI w ?_; clear w; intro x6 w
          refine R_istore_n (lv' := [(3, .inl x6), (0, .inr (.inr (9, 0, 0))), (1, .inr (.inr (9, 0, k + 1))), (2, .inl v2), (4, .inl v4)]) dX9_heldBy_51 rfl (by decide) rfl ?_
          refine R_iinc (v := v4 + 1) (lv' := [(4, .inl (v4 + 1)), (3, .inl x6), (0, .inr (.inr (9, 0, 0))), (1, .inr (.inr (9, 0, k + 1))), (2, .inl v2)]) dX9_heldBy_52 4 rfl rfl (by decide) rfl ?_
          refine R_goto (tgt := 5) dX9_heldBy_55 (by decide) ?_
          refine R_sub [2, 3, 4, 1, 0] rfl ?_
          exact ih v2 x6 (v4 + 1) σ2 w
        · have w := wp_t c5 w
          refine R_aload_n dX9_heldBy_38 rfl 1 rfl ?_
          refine R_iconst (v := 2) dX9_heldBy_39 (by decide) ?_
          refine R_iload dX9_heldBy_40 4 rfl ?_
          refine R_imul dX9_heldBy_42 ?_
          refine R_iconst (v := 1) dX9_heldBy_43 (by decide) ?_
          refine R_iadd dX9_heldBy_44 ?_
          obtain ⟨b7, w⟩ := wp_chk w
          refine R_iald hk oz9_0 b7 dX9_heldBy_45 ?_
          refine R_goto (tgt := 50) dX9_heldBy_46 (by decide) ?_
          refine R_iadd dX9_heldBy_50 ?_
          refine R_nameI w ?_; clear w; intro x8 w
          refine R_istore_n (lv' := [(3, .inl x8), (0, .inr (.inr (9, 0, 0))), (1, .inr (.inr (9, 0, k + 1))), (2, .inl v2), (4, .inl v4)]) dX9_heldBy_51 rfl (by decide) rfl ?_
          refine R_iinc (v := v4 + 1) (lv' := [(4, .inl (v4 + 1)), (3, .inl x8), (0, .inr (.inr (9, 0, 0))), (1, .inr (.inr (9, 0, k + 1))), (2, .inl v2)]) dX9_heldBy_52 4 rfl rfl (by decide) rfl ?_
          refine R_goto (tgt := 5) dX9_heldBy_55 (by decide) ?_
          refine R_sub [2, 3, 4, 1, 0] rfl ?_
          exact ih v2 x8 (v4 + 1) σ2 w
      · have w := wp_t c4 w
        refine R_aload_n dX9_heldBy_21 rfl 1 rfl ?_
        refine R_iconst (v := 2) dX9_heldBy_22 (by decide) ?_
        refine R_iload dX9_heldBy_23 4 rfl ?_
        refine R_imul dX9_heldBy_25 ?_
        obtain ⟨b9, w⟩ := wp_chk w
        refine R_iald hk oz9_0 b9 dX9_heldBy_26 ?_
        refine R_goto (tgt := 50) dX9_heldBy_27 (by decide) ?_
        refine R_iadd dX9_heldBy_50 ?_
        refine R_nameI w ?_; clear w; intro x10 w
        refine R_istore_n (lv' := [(3, .inl x10), (0, .inr (.inr (9, 0, 0))), (1, .inr (.inr (9, 0, k + 1))), (2, .inl v2), (4, .inl v4)]) dX9_heldBy_51 rfl (by decide) rfl ?_
        refine R_iinc (v := v4 + 1) (lv' := [(4, .inl (v4 + 1)), (3, .inl x10), (0, .inr (.inr (9, 0, 0))), (1, .inr (.inr (9, 0, k + 1))), (2, .inl v2)]) dX9_heldBy_52 4 rfl rfl (by decide) rfl ?_
        refine R_goto (tgt := 5) dX9_heldBy_55 (by decide) ?_
        refine R_sub [2, 3, 4, 1, 0] rfl ?_
        exact ih v2 x10 (v4 + 1) σ2 w
def g_X9_heldBy (k : Nat) (a1 : Int32) (σ : AS) : Option (Int32 × AS) := g_X9_heldBy_5 k 400 a1 0 0 σ
set_option maxRecDepth 100000 in
set_option maxHeartbeats 4000000 in
theorem ct_X9_heldBy {l : Launch} {cx : CX} (hA : AD cx) (k : Nat) (hk : am_k 9 k = (2, 14, 0)) (a1 : Int32) (σ : AS) (Q : Int32 → AS → Prop) (w : wpO (g_X9_heldBy k a1 σ) Q) : AMet l cx 1 yX9_heldBy cX9_heldBy 5 (some .int) [.inr (.inr (9, 0, 0)), .inr (.inr (9, 0, k + 1)), .inl a1] σ (QI Q) := by
  unfold g_X9_heldBy at w
  refine AMet.of (own := RX9) (by decide) rfl hA (Nat.le_of_ble_eq_true rfl) ?_
  show RJ l cx 1 RX9 cX9_heldBy 5 (some .int) 0 [(0, .inr (.inr (9, 0, 0))), (1, .inr (.inr (9, 0, k + 1))), (2, .inl a1)] [] σ _
  refine R_iconst (v := 0) dX9_heldBy_0 (by decide) ?_
  refine R_istore_n (lv' := [(3, .inl 0), (0, .inr (.inr (9, 0, 0))), (1, .inr (.inr (9, 0, k + 1))), (2, .inl a1)]) dX9_heldBy_1 rfl (by decide) rfl ?_
  refine R_iconst (v := 0) dX9_heldBy_2 (by decide) ?_
  refine R_istore (lv' := [(4, .inl 0), (3, .inl 0), (0, .inr (.inr (9, 0, 0))), (1, .inr (.inr (9, 0, k + 1))), (2, .inl a1)]) dX9_heldBy_3 (by decide) rfl ?_
  refine R_sub [2, 3, 4, 1, 0] rfl ?_
  exact rk_X9_heldBy_5 hA k hk _ 400 a1 0 0 σ w
def g_X9_copies_2  (n : Nat) (k0 : Nat) (k1 : Nat)  : Nat → Int32 → AS → Option (Unit × AS)
  | 0, _, _ => none
  | f0 + 1, v2, σ => (if v2 < Int32.ofNat n then (if inb v2 n then (lt (sA σ 9 0 k1 v2 (gA σ 9 0 k0 v2)) fun σ3 => (g_X9_copies_2 n k0 k1 f0) (v2 + 1) σ3) else none) else some ((), σ))
set_option maxRecDepth 100000 in
set_option maxHeartbeats 4000000 in
theorem rk_X9_copies_2 {l : Launch} {cx : CX} (hA : AD cx)  (n : Nat) (k0 : Nat) (hk0 : am_k 9 k0 = (2, n, 0)) (k1 : Nat) (hk1 : am_k 9 k1 = (2, n, 0))  (Q : Unit → AS → Prop) : ∀ (f0 : Nat) (v2 : Int32) (σ : AS), wpO (g_X9_copies_2 n k0 k1 f0 v2 σ) Q → RJ l cx 0 RX9 cX9_copies 3 none 2 [(0, .inr (.inr (9, 0, k0 + 1))), (1, .inr (.inr (9, 0, k1 + 1))), (2, .inl v2)] [] σ (QV Q) := by
  intro f0
  induction f0 with
  | zero => intro v2 σ w; exact wp_no w
  | succ f0 ih =>
    intro v2 σ w
    rw [g_X9_copies_2] at w
    refine R_iload_n dX9_copies_2 rfl 2 rfl ?_
    refine R_aload_n dX9_copies_3 rfl 0 rfl ?_
    refine R_alenI hk0 oz9_0 dX9_copies_4 ?_
    refine R_icmp_ge (tgt := 20) dX9_copies_5 (by decide) (fun c1 => ?_) (fun c1 => ?_)
    · have w := wp_f c1 w
      exact R_vreturn dX9_copies_20 rfl ⟨rfl, wp_some w⟩
    · have w := wp_t c1 w
      refine R_aload_n dX9_copies_8 rfl 1 rfl ?_
      refine R_iload_n dX9_copies_9 rfl 2 rfl ?_
      refine R_aload_n dX9_copies_10 rfl 0 rfl ?_
      refine R_iload_n dX9_copies_11 rfl 2 rfl ?_
      obtain ⟨b2, w⟩ := wp_chk w
      refine R_iald hk0 oz9_0 b2 dX9_copies_12 ?_
      refine R_iast hk1 oz9_0 b2 dX9_copies_13 ?_
      refine R_nameS w ?_; clear w; intro σ3 w
      refine R_iinc (v := v2 + 1) (lv' := [(2, .inl (v2 + 1)), (0, .inr (.inr (9, 0, k0 + 1))), (1, .inr (.inr (9, 0, k1 + 1)))]) dX9_copies_14 2 rfl rfl (by decide) rfl ?_
      refine R_goto (tgt := 2) dX9_copies_17 (by decide) ?_
      refine R_sub [1, 2, 0] rfl ?_
      exact ih (v2 + 1) σ3 w
def g_X9_copies (n : Nat) (k0 : Nat) (k1 : Nat) (σ : AS) : Option (Unit × AS) := g_X9_copies_2 n k0 k1 400 0 σ
set_option maxRecDepth 100000 in
set_option maxHeartbeats 4000000 in
theorem ct_X9_copies {l : Launch} {cx : CX} (hA : AD cx) (n : Nat) (k0 : Nat) (hk0 : am_k 9 k0 = (2, n, 0)) (k1 : Nat) (hk1 : am_k 9 k1 = (2, n, 0)) (σ : AS) (Q : Unit → AS → Prop) (w : wpO (g_X9_copies n k0 k1 σ) Q) : AMet l cx 0 yX9_copies cX9_copies 3 none [.inr (.inr (9, 0, k0 + 1)), .inr (.inr (9, 0, k1 + 1))] σ (QV Q) := by
  unfold g_X9_copies at w
  refine AMet.of (own := RX9) (by decide) rfl hA (Nat.le_of_ble_eq_true rfl) ?_
  show RJ l cx 0 RX9 cX9_copies 3 none 0 [(0, .inr (.inr (9, 0, k0 + 1))), (1, .inr (.inr (9, 0, k1 + 1)))] [] σ _
  refine R_iconst (v := 0) dX9_copies_0 (by decide) ?_
  refine R_istore_n (lv' := [(2, .inl 0), (0, .inr (.inr (9, 0, k0 + 1))), (1, .inr (.inr (9, 0, k1 + 1)))]) dX9_copies_1 rfl (by decide) rfl ?_
  refine R_sub [1, 2, 0] rfl ?_
  exact rk_X9_copies_2 hA n k0 hk0 k1 hk1 _ 400 0 σ w
