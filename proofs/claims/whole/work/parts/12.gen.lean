def g_X8_mend_39    (v1 : Int32) (v2 : Int32) (v3 : Int32) (s0 : Int32) (s1 : Int32) (σ : AS) : Option (Int32 × AS) := (if s0 < s1 then some ((-1), σ) else (bnd (g_X6_trait v1 v2 σ) fun r9 σ10 => (if v3 = r9 then some (r9, σ10) else (bnd (g_X6_become v1 v2 v3 σ10) fun _ σ12 => (bnd (g_X0_add v1 v2 r9 v3 σ12) fun _ σ13 => some (r9, σ13))))))
set_option maxRecDepth 100000 in
set_option maxHeartbeats 4000000 in
theorem rk_X8_mend_39 {l : Launch} {cx : CX} (hA : AD cx)    (Q : Int32 → AS → Prop) (v1 : Int32) (v2 : Int32) (v3 : Int32) (s0 : Int32) (s1 : Int32) (σ : AS) (w : wpO (g_X8_mend_39 v1 v2 v3 s0 s1 σ) Q) : RJ l cx 4 RX8 cX8_mend 5 (some .int) 39 [(0, .inr (.inr (8, 0, 0))), (1, .inl v1), (2, .inl v2), (3, .inl v3)] [.inl s0, .inl s1] σ (QI Q) := by
  unfold g_X8_mend_39 at w
  refine R_icmp_le (tgt := 44) dX8_mend_39 (by decide) (fun c8 => ?_) (fun c8 => ?_)
  · have w := wp_f c8 w
    refine R_aload_n dX8_mend_44 rfl 0 rfl ?_
    refine R_getfO (k := 0) acl8 oz8_0 (by decide) fl_RX8_10 dX8_mend_45 rfl ?_
    refine R_iload_n dX8_mend_48 rfl 1 rfl ?_
    refine R_iload_n dX8_mend_49 rfl 2 rfl ?_
    refine R_callVI (As := [.inl v1, .inl v2]) acl6 rfl oz6_0 mi_X6_trait ml_RX8_114 rfl (Nat.le_of_ble_eq_true rfl) (by decide) dX8_mend_50 (ct_X6_trait hA v1 v2 σ _ (wp_bnd w)) (fun r9 σ10 w => ?_)
    refine R_istore (lv' := [(4, .inl r9), (0, .inr (.inr (8, 0, 0))), (1, .inl v1), (2, .inl v2), (3, .inl v3)]) dX8_mend_53 (by decide) rfl ?_
    refine R_iload_n dX8_mend_55 rfl 4 rfl ?_
    refine R_iload dX8_mend_56 0 rfl ?_
    refine R_icmp_eq (tgt := 83) dX8_mend_58 (by decide) (fun c11 => ?_) (fun c11 => ?_)
    · have w := wp_t c11 w
      refine R_iload dX8_mend_83 0 rfl ?_
      exact R_ireturn dX8_mend_85 rfl ⟨_, rfl, wp_some w⟩
    · have w := wp_f c11 w
      refine R_aload_n dX8_mend_61 rfl 1 rfl ?_
      refine R_getfO (k := 0) acl8 oz8_0 (by decide) fl_RX8_10 dX8_mend_62 rfl ?_
      refine R_iload_n dX8_mend_65 rfl 2 rfl ?_
      refine R_iload_n dX8_mend_66 rfl 3 rfl ?_
      refine R_iload_n dX8_mend_67 rfl 4 rfl ?_
      refine R_callVV (As := [.inl v1, .inl v2, .inl v3]) acl6 rfl oz6_0 mi_X6_become ml_RX8_118 rfl (Nat.le_of_ble_eq_true rfl) (by decide) dX8_mend_68 (ct_X6_become hA v1 v2 v3 σ10 _ (wp_bnd w)) (fun σ12 w => ?_)
      refine R_aload_n dX8_mend_71 rfl 1 rfl ?_
      refine R_getfO (k := 8) acl8 oz8_0 (by decide) fl_RX8_58 dX8_mend_72 rfl ?_
      refine R_iload_n dX8_mend_75 rfl 2 rfl ?_
      refine R_iload_n dX8_mend_76 rfl 3 rfl ?_
      refine R_iload dX8_mend_77 0 rfl ?_
      refine R_iload_n dX8_mend_79 rfl 4 rfl ?_
      refine R_callVV (As := [.inl v1, .inl v2, .inl r9, .inl v3]) acl0 rfl oz0_0 mi_X0_add ml_RX8_121 rfl (Nat.le_of_ble_eq_true rfl) (by decide) dX8_mend_80 (ct_X0_add hA v1 v2 r9 v3 σ12 _ (wp_bnd w)) (fun σ13 w => ?_)
      refine R_iload dX8_mend_83 0 rfl ?_
      exact R_ireturn dX8_mend_85 rfl ⟨_, rfl, wp_some w⟩
  · have w := wp_t c8 w
    refine R_iconst (v := (-1)) dX8_mend_42 (by decide) ?_
    exact R_ireturn dX8_mend_43 rfl ⟨_, rfl, wp_some w⟩
def g_X8_mend (a0 : Int32) (a1 : Int32) (a2 : Int32) (σ : AS) : Option (Int32 × AS) := (bnd (g_X6_has a0 σ) fun r1 σ2 => (if r1 = 0 then some ((-1), σ2) else (if a1 < 0 then some ((-1), σ2) else (if (4 : Int32) < a1 then some ((-1), σ2) else (if a2 < 0 then some ((-1), σ2) else (if a1 < 3 then g_X8_mend_39 a0 a1 a2 9 a2 σ2 else g_X8_mend_39 a0 a1 a2 99 a2 σ2))))))
set_option maxRecDepth 100000 in
set_option maxHeartbeats 4000000 in
theorem ct_X8_mend {l : Launch} {cx : CX} (hA : AD cx) (a0 : Int32) (a1 : Int32) (a2 : Int32) (σ : AS) (Q : Int32 → AS → Prop) (w : wpO (g_X8_mend a0 a1 a2 σ) Q) : AMet l cx 4 yX8_mend cX8_mend 5 (some .int) [.inr (.inr (8, 0, 0)), .inl a0, .inl a1, .inl a2] σ (QI Q) := by
  unfold g_X8_mend at w
  refine AMet.of (own := RX8) (by decide) rfl hA (Nat.le_of_ble_eq_true rfl) ?_
  show RJ l cx 4 RX8 cX8_mend 5 (some .int) 0 [(0, .inr (.inr (8, 0, 0))), (1, .inl a0), (2, .inl a1), (3, .inl a2)] [] σ _
  refine R_aload_n dX8_mend_0 rfl 0 rfl ?_
  refine R_getfO (k := 0) acl8 oz8_0 (by decide) fl_RX8_10 dX8_mend_1 rfl ?_
  refine R_iload_n dX8_mend_4 rfl 1 rfl ?_
  refine R_callVI (As := [.inl a0]) acl6 rfl oz6_0 mi_X6_has ml_RX8_107 rfl (Nat.le_of_ble_eq_true rfl) (by decide) dX8_mend_5 (ct_X6_has hA a0 σ _ (wp_bnd w)) (fun r1 σ2 w => ?_)
  refine R_if_eq (tgt := 20) dX8_mend_8 (by decide) (fun c3 => ?_) (fun c3 => ?_)
  · have w := wp_t c3 w
    refine R_iconst (v := (-1)) dX8_mend_20 (by decide) ?_
    exact R_ireturn dX8_mend_21 rfl ⟨_, rfl, wp_some w⟩
  · have w := wp_f c3 w
    refine R_iload_n dX8_mend_11 rfl 2 rfl ?_
    refine R_if_lt (tgt := 20) dX8_mend_12 (by decide) (fun c4 => ?_) (fun c4 => ?_)
    · have w := wp_t c4 w
      refine R_iconst (v := (-1)) dX8_mend_20 (by decide) ?_
      exact R_ireturn dX8_mend_21 rfl ⟨_, rfl, wp_some w⟩
    · have w := wp_f c4 w
      refine R_iload_n dX8_mend_15 rfl 2 rfl ?_
      refine R_iconst (v := 4) dX8_mend_16 (by decide) ?_
      refine R_icmp_le (tgt := 22) dX8_mend_17 (by decide) (fun c5 => ?_) (fun c5 => ?_)
      · have w := wp_f c5 w
        refine R_iload_n dX8_mend_22 rfl 3 rfl ?_
        refine R_if_lt (tgt := 42) dX8_mend_23 (by decide) (fun c6 => ?_) (fun c6 => ?_)
        · have w := wp_t c6 w
          refine R_iconst (v := (-1)) dX8_mend_42 (by decide) ?_
          exact R_ireturn dX8_mend_43 rfl ⟨_, rfl, wp_some w⟩
        · have w := wp_f c6 w
          refine R_iload_n dX8_mend_26 rfl 3 rfl ?_
          refine R_iload_n dX8_mend_27 rfl 2 rfl ?_
          refine R_iconst (v := 3) dX8_mend_28 (by decide) ?_
          refine R_icmp_ge (tgt := 37) dX8_mend_29 (by decide) (fun c7 => ?_) (fun c7 => ?_)
          · have w := wp_f c7 w
            refine R_bipush (v := 99) dX8_mend_37 (by decide) ?_
            refine R_sub [0, 1, 2, 3] rfl ?_
            exact rk_X8_mend_39 hA _ a0 a1 a2 99 a2 σ2 w
          · have w := wp_t c7 w
            refine R_bipush (v := 9) dX8_mend_32 (by decide) ?_
            refine R_goto (tgt := 39) dX8_mend_34 (by decide) ?_
            refine R_sub [0, 1, 2, 3] rfl ?_
            exact rk_X8_mend_39 hA _ a0 a1 a2 9 a2 σ2 w
      · have w := wp_t c5 w
        refine R_iconst (v := (-1)) dX8_mend_20 (by decide) ?_
        exact R_ireturn dX8_mend_21 rfl ⟨_, rfl, wp_some w⟩
def g_X1_inchesOf_4  (o : Nat)  : Nat → Int32 → Int32 → Int32 → AS → Option (Int32 × AS)
  | 0, _, _, _, _ => none
  | f0 + 1, v1, v2, v3, σ => (bnd (g_X6_number σ) fun r1 σ2 => (if v3 < r1 then (if inb v3 8 then (if gA σ2 1 o 8 v3 = v1 then (bnd (g_X1_inchesOfSeat o v3 σ2) fun r6 σ7 => (g_X1_inchesOf_4 o f0) v1 r6 (v3 + 1) σ7) else (g_X1_inchesOf_4 o f0) v1 v2 (v3 + 1) σ2) else none) else some (v2, σ2)))
set_option maxRecDepth 100000 in
set_option maxHeartbeats 4000000 in
theorem rk_X1_inchesOf_4 {l : Launch} {cx : CX} (hA : AD cx)  (o : Nat) (ho : o < am_cnt 1)  (Q : Int32 → AS → Prop) : ∀ (f0 : Nat) (v1 : Int32) (v2 : Int32) (v3 : Int32) (σ : AS), wpO (g_X1_inchesOf_4 o f0 v1 v2 v3 σ) Q → RJ l cx 2 RX1 cX1_inchesOf 4 (some .int) 4 [(0, .inr (.inr (1, o, 0))), (1, .inl v1), (2, .inl v2), (3, .inl v3)] [] σ (QI Q) := by
  intro f0
  induction f0 with
  | zero => intro v1 v2 v3 σ w; exact wp_no w
  | succ f0 ih =>
    intro v1 v2 v3 σ w
    rw [g_X1_inchesOf_4] at w
    refine R_iload_n dX1_inchesOf_4 rfl 3 rfl ?_
    refine R_aload_n dX1_inchesOf_5 rfl 0 rfl ?_
    refine R_getfO (k := 0) acl1 ho (by decide) fl_RX1_53 dX1_inchesOf_6 rfl ?_
    refine R_callVI (As := []) acl6 rfl oz6_0 mi_X6_number ml_RX1_89 rfl (Nat.le_of_ble_eq_true rfl) (by decide) dX1_inchesOf_9 (ct_X6_number hA σ _ (wp_bnd w)) (fun r1 σ2 w => ?_)
    refine R_icmp_ge (tgt := 37) dX1_inchesOf_12 (by decide) (fun c3 => ?_) (fun c3 => ?_)
    · have w := wp_f c3 w
      refine R_iload_n dX1_inchesOf_37 rfl 2 rfl ?_
      exact R_ireturn dX1_inchesOf_38 rfl ⟨_, rfl, wp_some w⟩
    · have w := wp_t c3 w
      refine R_aload_n dX1_inchesOf_15 rfl 0 rfl ?_
      refine R_getfA (k := 8) acl1 ho (by decide) fl_RX1_30 dX1_inchesOf_16 rfl ?_
      refine R_iload_n dX1_inchesOf_19 rfl 3 rfl ?_
      obtain ⟨b4, w⟩ := wp_chk w
      refine R_iald rfl ho b4 dX1_inchesOf_20 ?_
      refine R_iload_n dX1_inchesOf_21 rfl 1 rfl ?_
      refine R_icmp_ne (tgt := 31) dX1_inchesOf_22 (by decide) (fun c5 => ?_) (fun c5 => ?_)
      · have w := wp_f c5 w
        refine R_iinc (v := v3 + 1) (lv' := [(3, .inl (v3 + 1)), (0, .inr (.inr (1, o, 0))), (1, .inl v1), (2, .inl v2)]) dX1_inchesOf_31 3 rfl rfl (by decide) rfl ?_
        refine R_goto (tgt := 4) dX1_inchesOf_34 (by decide) ?_
        refine R_sub [1, 2, 3, 0] rfl ?_
        exact ih v1 v2 (v3 + 1) σ2 w
      · have w := wp_t c5 w
        refine R_aload_n dX1_inchesOf_25 rfl 0 rfl ?_
        refine R_iload_n dX1_inchesOf_26 rfl 3 rfl ?_
        refine R_callVI (As := [.inl v3]) acl1 rfl ho mi_X1_inchesOfSeat ml_RX1_93 rfl (Nat.le_of_ble_eq_true rfl) (by decide) dX1_inchesOf_27 (ct_X1_inchesOfSeat hA o ho v3 σ2 _ (wp_bnd w)) (fun r6 σ7 w => ?_)
        refine R_istore_n (lv' := [(2, .inl r6), (0, .inr (.inr (1, o, 0))), (1, .inl v1), (3, .inl v3)]) dX1_inchesOf_30 rfl (by decide) rfl ?_
        refine R_iinc (v := v3 + 1) (lv' := [(3, .inl (v3 + 1)), (2, .inl r6), (0, .inr (.inr (1, o, 0))), (1, .inl v1)]) dX1_inchesOf_31 3 rfl rfl (by decide) rfl ?_
        refine R_goto (tgt := 4) dX1_inchesOf_34 (by decide) ?_
        refine R_sub [2, 3, 1, 0] rfl ?_
        exact ih v1 r6 (v3 + 1) σ7 w
def g_X1_inchesOf (o : Nat) (a0 : Int32) (σ : AS) : Option (Int32 × AS) := g_X1_inchesOf_4 o 400 a0 0 0 σ
set_option maxRecDepth 100000 in
set_option maxHeartbeats 4000000 in
theorem ct_X1_inchesOf {l : Launch} {cx : CX} (hA : AD cx) (o : Nat) (ho : o < am_cnt 1) (a0 : Int32) (σ : AS) (Q : Int32 → AS → Prop) (w : wpO (g_X1_inchesOf o a0 σ) Q) : AMet l cx 2 yX1_inchesOf cX1_inchesOf 4 (some .int) [.inr (.inr (1, o, 0)), .inl a0] σ (QI Q) := by
  unfold g_X1_inchesOf at w
  refine AMet.of (own := RX1) (by decide) rfl hA (Nat.le_of_ble_eq_true rfl) ?_
  show RJ l cx 2 RX1 cX1_inchesOf 4 (some .int) 0 [(0, .inr (.inr (1, o, 0))), (1, .inl a0)] [] σ _
  refine R_iconst (v := 0) dX1_inchesOf_0 (by decide) ?_
  refine R_istore_n (lv' := [(2, .inl 0), (0, .inr (.inr (1, o, 0))), (1, .inl a0)]) dX1_inchesOf_1 rfl (by decide) rfl ?_
  refine R_iconst (v := 0) dX1_inchesOf_2 (by decide) ?_
  refine R_istore_n (lv' := [(3, .inl 0), (2, .inl 0), (0, .inr (.inr (1, o, 0))), (1, .inl a0)]) dX1_inchesOf_3 rfl (by decide) rfl ?_
  refine R_sub [2, 3, 1, 0] rfl ?_
  exact rk_X1_inchesOf_4 hA o ho _ 400 a0 0 0 σ w
def g_X8_of_58    (v1 : Int32) (v2 : Int32) (σ : AS) : Option (Int32 × AS) := (if v2 = 5 then (bnd (g_X1_inchesOf 0 v1 σ) fun r7 σ8 => some (r7, σ8)) else (if v2 = 6 then (if inb v1 8 then some (gA σ 1 0 6 v1, σ) else none) else (if v2 = 7 then (if inb v1 8 then some (gA σ 1 0 7 v1, σ) else none) else some ((-2000000000), σ))))
set_option maxRecDepth 100000 in
set_option maxHeartbeats 4000000 in
theorem rk_X8_of_58 {l : Launch} {cx : CX} (hA : AD cx)    (Q : Int32 → AS → Prop) (v1 : Int32) (v2 : Int32) (σ : AS) (w : wpO (g_X8_of_58 v1 v2 σ) Q) : RJ l cx 3 RX8 cX8_of 3 (some .int) 58 [(0, .inr (.inr (8, 0, 0))), (1, .inl v1), (2, .inl v2)] [] σ (QI Q) := by
  unfold g_X8_of_58 at w
  refine R_iload_n dX8_of_58 rfl 2 rfl ?_
  by_cases c6 : v2 = 5
  · have w := wp_t c6 w
    refine R_tswIn (v := 5) (tgt := 84) dX8_of_59 c6 (by decide) (by decide) rfl (by decide) ?_
    refine R_aload_n dX8_of_84 rfl 0 rfl ?_
    refine R_getfO (k := 4) acl8 oz8_0 (by decide) fl_RX8_38 dX8_of_85 rfl ?_
    refine R_iload_n dX8_of_88 rfl 1 rfl ?_
    refine R_callVI (As := [.inl v1]) acl1 rfl oz1_0 mi_X1_inchesOf ml_RX8_128 rfl (Nat.le_of_ble_eq_true rfl) (by decide) dX8_of_89 (ct_X1_inchesOf hA 0 oz1_0 v1 σ _ (wp_bnd w)) (fun r7 σ8 w => ?_)
    exact R_ireturn dX8_of_92 rfl ⟨_, rfl, wp_some w⟩
  have w := wp_f c6 w
  by_cases c9 : v2 = 6
  · have w := wp_t c9 w
    refine R_tswIn (v := 6) (tgt := 93) dX8_of_59 c9 (by decide) (by decide) rfl (by decide) ?_
    refine R_aload_n dX8_of_93 rfl 0 rfl ?_
    refine R_getfO (k := 4) acl8 oz8_0 (by decide) fl_RX8_38 dX8_of_94 rfl ?_
    refine R_getfA (k := 6) acl1 oz1_0 (by decide) fl_RX8_132 dX8_of_97 rfl ?_
    refine R_iload_n dX8_of_100 rfl 1 rfl ?_
    obtain ⟨b10, w⟩ := wp_chk w
    refine R_iald rfl oz1_0 b10 dX8_of_101 ?_
    exact R_ireturn dX8_of_102 rfl ⟨_, rfl, wp_some w⟩
  have w := wp_f c9 w
  by_cases c11 : v2 = 7
  · have w := wp_t c11 w
    refine R_tswIn (v := 7) (tgt := 103) dX8_of_59 c11 (by decide) (by decide) rfl (by decide) ?_
    refine R_aload_n dX8_of_103 rfl 0 rfl ?_
    refine R_getfO (k := 4) acl8 oz8_0 (by decide) fl_RX8_38 dX8_of_104 rfl ?_
    refine R_getfA (k := 7) acl1 oz1_0 (by decide) fl_RX8_135 dX8_of_107 rfl ?_
    refine R_iload_n dX8_of_110 rfl 1 rfl ?_
    obtain ⟨b12, w⟩ := wp_chk w
    refine R_iald rfl oz1_0 b12 dX8_of_111 ?_
    exact R_ireturn dX8_of_112 rfl ⟨_, rfl, wp_some w⟩
  have w := wp_f c11 w
  refine R_tswOut (tgt := 113) dX8_of_59 [5, 6, 7] (List.forall_mem_cons.mpr ⟨c6, (List.forall_mem_cons.mpr ⟨c9, (List.forall_mem_cons.mpr ⟨c11, (fun _ z => absurd z List.not_mem_nil)⟩)⟩)⟩) (by decide) (by decide) ?_
  refine R_ldc dX8_of_113 ck_RX8_124 ?_
  exact R_ireturn dX8_of_115 rfl ⟨_, rfl, wp_some w⟩
def g_X8_of_33    (v1 : Int32) (v2 : Int32) (σ : AS) : Option (Int32 × AS) := (if v2 < 100 then g_X8_of_58 v1 v2 σ else (if v2 < 124 then (bnd (g_X6_how v1 (v2 - 100) σ) fun r14 σ15 => some (r14, σ15)) else g_X8_of_58 v1 v2 σ))
set_option maxRecDepth 100000 in
set_option maxHeartbeats 4000000 in
theorem rk_X8_of_33 {l : Launch} {cx : CX} (hA : AD cx)    (Q : Int32 → AS → Prop) (v1 : Int32) (v2 : Int32) (σ : AS) (w : wpO (g_X8_of_33 v1 v2 σ) Q) : RJ l cx 3 RX8 cX8_of 3 (some .int) 33 [(0, .inr (.inr (8, 0, 0))), (1, .inl v1), (2, .inl v2)] [] σ (QI Q) := by
  unfold g_X8_of_33 at w
  refine R_iload_n dX8_of_33 rfl 2 rfl ?_
  refine R_bipush (v := 100) dX8_of_34 (by decide) ?_
  refine R_icmp_lt (tgt := 58) dX8_of_36 (by decide) (fun c5 => ?_) (fun c5 => ?_)
  · have w := wp_t c5 w
    refine R_sub [0, 1, 2] rfl ?_
    exact rk_X8_of_58 hA _ v1 v2 σ w
  · have w := wp_f c5 w
    refine R_iload_n dX8_of_39 rfl 2 rfl ?_
    refine R_bipush (v := 124) dX8_of_40 (by decide) ?_
    refine R_icmp_ge (tgt := 58) dX8_of_42 (by decide) (fun c13 => ?_) (fun c13 => ?_)
    · have w := wp_f c13 w
      refine R_sub [0, 1, 2] rfl ?_
      exact rk_X8_of_58 hA _ v1 v2 σ w
    · have w := wp_t c13 w
      refine R_aload_n dX8_of_45 rfl 0 rfl ?_
      refine R_getfO (k := 0) acl8 oz8_0 (by decide) fl_RX8_10 dX8_of_46 rfl ?_
      refine R_iload_n dX8_of_49 rfl 1 rfl ?_
      refine R_iload_n dX8_of_50 rfl 2 rfl ?_
      refine R_bipush (v := 100) dX8_of_51 (by decide) ?_
      refine R_isub dX8_of_53 ?_
      refine R_callVI (As := [.inl v1, .inl (v2 - 100)]) acl6 rfl oz6_0 mi_X6_how ml_RX8_125 rfl (Nat.le_of_ble_eq_true rfl) (by decide) dX8_of_54 (ct_X6_how hA v1 (v2 - 100) σ _ (wp_bnd w)) (fun r14 σ15 w => ?_)
      exact R_ireturn dX8_of_57 rfl ⟨_, rfl, wp_some w⟩
def g_X8_of (a0 : Int32) (a1 : Int32) (σ : AS) : Option (Int32 × AS) := (bnd (g_X6_has a0 σ) fun r1 σ2 => (if r1 = 0 then some ((-2000000000), σ2) else (if a1 < 0 then g_X8_of_33 a0 a1 σ2 else (if (4 : Int32) < a1 then g_X8_of_33 a0 a1 σ2 else (bnd (g_X6_trait a0 a1 σ2) fun r17 σ18 => some (r17, σ18))))))
set_option maxRecDepth 100000 in
set_option maxHeartbeats 4000000 in
theorem ct_X8_of {l : Launch} {cx : CX} (hA : AD cx) (a0 : Int32) (a1 : Int32) (σ : AS) (Q : Int32 → AS → Prop) (w : wpO (g_X8_of a0 a1 σ) Q) : AMet l cx 3 yX8_of cX8_of 3 (some .int) [.inr (.inr (8, 0, 0)), .inl a0, .inl a1] σ (QI Q) := by
  unfold g_X8_of at w
  refine AMet.of (own := RX8) (by decide) rfl hA (Nat.le_of_ble_eq_true rfl) ?_
  show RJ l cx 3 RX8 cX8_of 3 (some .int) 0 [(0, .inr (.inr (8, 0, 0))), (1, .inl a0), (2, .inl a1)] [] σ _
  refine R_aload_n dX8_of_0 rfl 0 rfl ?_
  refine R_getfO (k := 0) acl8 oz8_0 (by decide) fl_RX8_10 dX8_of_1 rfl ?_
  refine R_iload_n dX8_of_4 rfl 1 rfl ?_
  refine R_callVI (As := [.inl a0]) acl6 rfl oz6_0 mi_X6_has ml_RX8_107 rfl (Nat.le_of_ble_eq_true rfl) (by decide) dX8_of_5 (ct_X6_has hA a0 σ _ (wp_bnd w)) (fun r1 σ2 w => ?_)
  refine R_if_ne (tgt := 14) dX8_of_8 (by decide) (fun c3 => ?_) (fun c3 => ?_)
  · have w := wp_f c3 w
    refine R_iload_n dX8_of_14 rfl 2 rfl ?_
    refine R_if_lt (tgt := 33) dX8_of_15 (by decide) (fun c4 => ?_) (fun c4 => ?_)
    · have w := wp_t c4 w
      refine R_sub [0, 1, 2] rfl ?_
      exact rk_X8_of_33 hA _ a0 a1 σ2 w
    · have w := wp_f c4 w
      refine R_iload_n dX8_of_18 rfl 2 rfl ?_
      refine R_iconst (v := 4) dX8_of_19 (by decide) ?_
      refine R_icmp_gt (tgt := 33) dX8_of_20 (by decide) (fun c16 => ?_) (fun c16 => ?_)
      · have w := wp_t c16 w
        refine R_sub [0, 1, 2] rfl ?_
        exact rk_X8_of_33 hA _ a0 a1 σ2 w
      · have w := wp_f c16 w
        refine R_aload_n dX8_of_23 rfl 0 rfl ?_
        refine R_getfO (k := 0) acl8 oz8_0 (by decide) fl_RX8_10 dX8_of_24 rfl ?_
        refine R_iload_n dX8_of_27 rfl 1 rfl ?_
        refine R_iload_n dX8_of_28 rfl 2 rfl ?_
        refine R_callVI (As := [.inl a0, .inl a1]) acl6 rfl oz6_0 mi_X6_trait ml_RX8_114 rfl (Nat.le_of_ble_eq_true rfl) (by decide) dX8_of_29 (ct_X6_trait hA a0 a1 σ2 _ (wp_bnd w)) (fun r17 σ18 w => ?_)
        exact R_ireturn dX8_of_32 rfl ⟨_, rfl, wp_some w⟩
  · have w := wp_t c3 w
    refine R_ldc dX8_of_11 ck_RX8_124 ?_
    exact R_ireturn dX8_of_13 rfl ⟨_, rfl, wp_some w⟩
def g_X5_lowestBits (o : Nat) (a0 : Int64) (σ : AS) : Option (Int64 × AS) := (lt (gF σ 5 o 2) fun x1 => (if x1 = 0 then some ((i2b a0.toInt32).toInt64, σ) else (if x1 = 1 then some ((i2s a0.toInt32).toInt64, σ) else (if x1 = 2 then some (a0.toInt32.toInt64, σ) else (if x1 = 3 then some (a0, σ) else (if x1 = 4 then (if lg_cmp a0 0 = 0 then some (0, σ) else some (1, σ)) else some (a0, σ)))))))
set_option maxRecDepth 100000 in
set_option maxHeartbeats 4000000 in
theorem ct_X5_lowestBits {l : Launch} {cx : CX} (hA : AD cx) (o : Nat) (ho : o < am_cnt 5) (a0 : Int64) (σ : AS) (Q : Int64 → AS → Prop) (w : wpO (g_X5_lowestBits o a0 σ) Q) : AMet l cx 0 yX5_lowestBits cX5_lowestBits 3 (some .long) [.inr (.inr (5, o, 0)), .inr (.inl a0)] σ (QJ Q) := by
  unfold g_X5_lowestBits at w
  refine AMet.of (own := RX5) (by decide) rfl hA (Nat.le_of_ble_eq_true rfl) ?_
  show RJ l cx 0 RX5 cX5_lowestBits 3 (some .long) 0 [(0, .inr (.inr (5, o, 0))), (1, .inr (.inl a0))] [] σ _
  refine R_aload_n dX5_lowestBits_0 rfl 0 rfl ?_
  refine R_getfI (k := 2) acl5 ho (by decide) fl_RX5_19 dX5_lowestBits_1 rfl ?_
  refine R_nameI w ?_; clear w; intro x1 w
  by_cases c2 : x1 = 0
  · have w := wp_t c2 w
    refine R_tswIn (v := 0) (tgt := 40) dX5_lowestBits_4 c2 (by decide) (by decide) rfl (by decide) ?_
    refine R_lload_n dX5_lowestBits_40 rfl 1 rfl ?_
    refine R_l2i dX5_lowestBits_41 ?_
    refine R_i2b dX5_lowestBits_42 ?_
    refine R_i2l dX5_lowestBits_43 ?_
    exact R_lreturn dX5_lowestBits_44 rfl ⟨_, rfl, wp_some w⟩
  have w := wp_f c2 w
  by_cases c3 : x1 = 1
  · have w := wp_t c3 w
    refine R_tswIn (v := 1) (tgt := 45) dX5_lowestBits_4 c3 (by decide) (by decide) rfl (by decide) ?_
    refine R_lload_n dX5_lowestBits_45 rfl 1 rfl ?_
    refine R_l2i dX5_lowestBits_46 ?_
    refine R_i2s dX5_lowestBits_47 ?_
    refine R_i2l dX5_lowestBits_48 ?_
    exact R_lreturn dX5_lowestBits_49 rfl ⟨_, rfl, wp_some w⟩
  have w := wp_f c3 w
  by_cases c4 : x1 = 2
  · have w := wp_t c4 w
    refine R_tswIn (v := 2) (tgt := 50) dX5_lowestBits_4 c4 (by decide) (by decide) rfl (by decide) ?_
    refine R_lload_n dX5_lowestBits_50 rfl 1 rfl ?_
    refine R_l2i dX5_lowestBits_51 ?_
    refine R_i2l dX5_lowestBits_52 ?_
    exact R_lreturn dX5_lowestBits_53 rfl ⟨_, rfl, wp_some w⟩
  have w := wp_f c4 w
  by_cases c5 : x1 = 3
  · have w := wp_t c5 w
    refine R_tswIn (v := 3) (tgt := 66) dX5_lowestBits_4 c5 (by decide) (by decide) rfl (by decide) ?_
    refine R_lload_n dX5_lowestBits_66 rfl 1 rfl ?_
    exact R_lreturn dX5_lowestBits_67 rfl ⟨_, rfl, wp_some w⟩
  have w := wp_f c5 w
  by_cases c6 : x1 = 4
  · have w := wp_t c6 w
    refine R_tswIn (v := 4) (tgt := 54) dX5_lowestBits_4 c6 (by decide) (by decide) rfl (by decide) ?_
    refine R_lload_n dX5_lowestBits_54 rfl 1 rfl ?_
    refine R_lconst (v := 0) dX5_lowestBits_55 (by decide) ?_
    refine R_lcmp dX5_lowestBits_56 ?_
    refine R_if_eq (tgt := 64) dX5_lowestBits_57 (by decide) (fun c7 => ?_) (fun c7 => ?_)
    · have w := wp_t c7 w
      refine R_lconst (v := 0) dX5_lowestBits_64 (by decide) ?_
      exact R_lreturn dX5_lowestBits_65 rfl ⟨_, rfl, wp_some w⟩
    · have w := wp_f c7 w
      refine R_lconst (v := 1) dX5_lowestBits_60 (by decide) ?_
      refine R_goto (tgt := 65) dX5_lowestBits_61 (by decide) ?_
      exact R_lreturn dX5_lowestBits_65 rfl ⟨_, rfl, wp_some w⟩
  have w := wp_f c6 w
  refine R_tswOut (tgt := 66) dX5_lowestBits_4 [0, 1, 2, 3, 4] (List.forall_mem_cons.mpr ⟨c2, (List.forall_mem_cons.mpr ⟨c3, (List.forall_mem_cons.mpr ⟨c4, (List.forall_mem_cons.mpr ⟨c5, (List.forall_mem_cons.mpr ⟨c6, (fun _ z => absurd z List.not_mem_nil)⟩)⟩)⟩)⟩)⟩) (by decide) (by decide) ?_
  refine R_lload_n dX5_lowestBits_66 rfl 1 rfl ?_
  exact R_lreturn dX5_lowestBits_67 rfl ⟨_, rfl, wp_some w⟩
def g_X5_lay (o : Nat) (a0 : Int32) (a1 : Int64) (σ : AS) : Option (Unit × AS) := (bnd (g_X5_hasPlace o a0 σ) fun r1 σ2 => (if r1 = 0 then some ((), σ2) else (bnd (g_X5_lowestBits o a1 σ2) fun r4 σ5 => (if inb a0 60 then (lt (sL σ5 5 o 0 a0 r4) fun σ7 => some ((), σ7)) else none))))
set_option maxRecDepth 100000 in
set_option maxHeartbeats 4000000 in
theorem ct_X5_lay {l : Launch} {cx : CX} (hA : AD cx) (o : Nat) (ho : o < am_cnt 5) (a0 : Int32) (a1 : Int64) (σ : AS) (Q : Unit → AS → Prop) (w : wpO (g_X5_lay o a0 a1 σ) Q) : AMet l cx 1 yX5_lay cX5_lay 4 none [.inr (.inr (5, o, 0)), .inl a0, .inr (.inl a1)] σ (QV Q) := by
  unfold g_X5_lay at w
  refine AMet.of (own := RX5) (by decide) rfl hA (Nat.le_of_ble_eq_true rfl) ?_
  show RJ l cx 1 RX5 cX5_lay 4 none 0 [(0, .inr (.inr (5, o, 0))), (1, .inl a0), (2, .inr (.inl a1))] [] σ _
  refine R_aload_n dX5_lay_0 rfl 0 rfl ?_
  refine R_iload_n dX5_lay_1 rfl 1 rfl ?_
  refine R_callVI (As := [.inl a0]) acl5 rfl ho mi_X5_hasPlace ml_RX5_35 rfl (Nat.le_of_ble_eq_true rfl) (by decide) dX5_lay_2 (ct_X5_hasPlace hA o ho a0 σ _ (wp_bnd w)) (fun r1 σ2 w => ?_)
  refine R_if_eq (tgt := 19) dX5_lay_5 (by decide) (fun c3 => ?_) (fun c3 => ?_)
  · have w := wp_t c3 w
    exact R_vreturn dX5_lay_19 rfl ⟨rfl, wp_some w⟩
  · have w := wp_f c3 w
    refine R_aload_n dX5_lay_8 rfl 0 rfl ?_
    refine R_getfA (k := 0) acl5 ho (by decide) fl_RX5_11 dX5_lay_9 rfl ?_
    refine R_iload_n dX5_lay_12 rfl 1 rfl ?_
    refine R_aload_n dX5_lay_13 rfl 0 rfl ?_
    refine R_lload_n dX5_lay_14 rfl 2 rfl ?_
    refine R_callVJ (As := [.inr (.inl a1)]) acl5 rfl ho mi_X5_lowestBits ml_RX5_39 rfl (Nat.le_of_ble_eq_true rfl) (by decide) dX5_lay_15 (ct_X5_lowestBits hA o ho a1 σ2 _ (wp_bnd w)) (fun r4 σ5 w => ?_)
    obtain ⟨b6, w⟩ := wp_chk w
    refine R_last rfl ho b6 dX5_lay_18 ?_
    refine R_nameS w ?_; clear w; intro σ7 w
    exact R_vreturn dX5_lay_19 rfl ⟨rfl, wp_some w⟩
def g_X8_put (a0 : Int32) (a1 : Int32) (a2 : Int64) (σ : AS) : Option (Int32 × AS) := (bnd (g_X8_refusalAt a0 a1 σ) fun r1 σ2 => (if r1 = 0 then (if inb a0 6 then (bnd (g_X5_lay a0.toNatClampNeg a1 a2 σ2) fun _ σ5 => some (1, σ5)) else none) else some (r1, σ2)))
set_option maxRecDepth 100000 in
set_option maxHeartbeats 4000000 in
theorem ct_X8_put {l : Launch} {cx : CX} (hA : AD cx) (a0 : Int32) (a1 : Int32) (a2 : Int64) (σ : AS) (Q : Int32 → AS → Prop) (w : wpO (g_X8_put a0 a1 a2 σ) Q) : AMet l cx 2 yX8_put cX8_put 6 (some .int) [.inr (.inr (8, 0, 0)), .inl a0, .inl a1, .inr (.inl a2)] σ (QI Q) := by
  unfold g_X8_put at w
  refine AMet.of (own := RX8) (by decide) rfl hA (Nat.le_of_ble_eq_true rfl) ?_
  show RJ l cx 2 RX8 cX8_put 6 (some .int) 0 [(0, .inr (.inr (8, 0, 0))), (1, .inl a0), (2, .inl a1), (3, .inr (.inl a2))] [] σ _
  refine R_aload_n dX8_put_0 rfl 0 rfl ?_
  refine R_iload_n dX8_put_1 rfl 1 rfl ?_
  refine R_iload_n dX8_put_2 rfl 2 rfl ?_
  refine R_callVI (As := [.inl a0, .inl a1]) acl8 rfl oz8_0 mi_X8_refusalAt ml_RX8_269 rfl (Nat.le_of_ble_eq_true rfl) (by decide) dX8_put_3 (ct_X8_refusalAt hA a0 a1 σ _ (wp_bnd w)) (fun r1 σ2 w => ?_)
  refine R_istore (lv' := [(5, .inl r1), (0, .inr (.inr (8, 0, 0))), (1, .inl a0), (2, .inl a1), (3, .inr (.inl a2))]) dX8_put_6 (by decide) rfl ?_
  refine R_iload dX8_put_8 0 rfl ?_
  refine R_if_eq (tgt := 16) dX8_put_10 (by decide) (fun c3 => ?_) (fun c3 => ?_)
  · have w := wp_t c3 w
    refine R_aload_n dX8_put_16 rfl 1 rfl ?_
    refine R_getfA (k := 10) acl8 oz8_0 (by decide) fl_RX8_71 dX8_put_17 rfl ?_
    refine R_iload_n dX8_put_20 rfl 2 rfl ?_
    obtain ⟨b4, w⟩ := wp_chk w
    refine R_aald rfl oz8_0 b4 dX8_put_21 ?_
    refine R_iload_n dX8_put_22 rfl 3 rfl ?_
    refine R_lload_n dX8_put_23 rfl 4 rfl ?_
    refine R_callVV (As := [.inl a1, .inr (.inl a2)]) acl5 rfl b4.2 mi_X5_lay ml_RX8_272 rfl (Nat.le_of_ble_eq_true rfl) (by decide) dX8_put_24 (ct_X5_lay hA a0.toNatClampNeg b4.2 a1 a2 σ2 _ (wp_bnd w)) (fun σ5 w => ?_)
    refine R_iconst (v := 1) dX8_put_27 (by decide) ?_
    exact R_ireturn dX8_put_28 rfl ⟨_, rfl, wp_some w⟩
  · have w := wp_f c3 w
    refine R_iload dX8_put_13 0 rfl ?_
    exact R_ireturn dX8_put_15 rfl ⟨_, rfl, wp_some w⟩
def g_X8_quiet_58    (s0 : Int32) (σ : AS) : Option (Int32 × AS) := (if s0 = 0 then some (gF σ 1 1 14, σ) else some ((-2), σ))
set_option maxRecDepth 100000 in
set_option maxHeartbeats 4000000 in
theorem rk_X8_quiet_58 {l : Launch} {cx : CX} (hA : AD cx)    (Q : Int32 → AS → Prop) (s0 : Int32) (σ : AS) (w : wpO (g_X8_quiet_58 s0 σ) Q) : RJ l cx 7 RX8 cX8_quiet 3 (some .int) 58 [(0, .inr (.inr (8, 0, 0)))] [.inl s0] σ (QI Q) := by
  unfold g_X8_quiet_58 at w
  refine R_istore_n (lv' := [(2, .inl s0), (0, .inr (.inr (8, 0, 0)))]) dX8_quiet_58 rfl (by decide) rfl ?_
  refine R_iload_n dX8_quiet_59 rfl 0 rfl ?_
  refine R_if_eq (tgt := 68) dX8_quiet_60 (by decide) (fun c4 => ?_) (fun c4 => ?_)
  · have w := wp_t c4 w
    refine R_aload_n dX8_quiet_68 rfl 1 rfl ?_
    refine R_getfO (k := 5) acl8 oz8_0 (by decide) fl_RX8_42 dX8_quiet_69 rfl ?_
    refine R_getfI (k := 14) acl1 oz1_1 (by decide) fl_RX8_207 dX8_quiet_72 rfl ?_
    exact R_ireturn dX8_quiet_75 rfl ⟨_, rfl, wp_some w⟩
  · have w := wp_f c4 w
    refine R_bipush (v := (-2)) dX8_quiet_63 (by decide) ?_
    refine R_goto (tgt := 75) dX8_quiet_65 (by decide) ?_
    exact R_ireturn dX8_quiet_75 rfl ⟨_, rfl, wp_some w⟩
def g_X8_quiet_57     (σ : AS) : Option (Int32 × AS) := g_X8_quiet_58 0 σ
set_option maxRecDepth 100000 in
set_option maxHeartbeats 4000000 in
theorem rk_X8_quiet_57 {l : Launch} {cx : CX} (hA : AD cx)    (Q : Int32 → AS → Prop)  (σ : AS) (w : wpO (g_X8_quiet_57  σ) Q) : RJ l cx 7 RX8 cX8_quiet 3 (some .int) 57 [(0, .inr (.inr (8, 0, 0)))] [] σ (QI Q) := by
  unfold g_X8_quiet_57 at w
  refine R_iconst (v := 0) dX8_quiet_57 (by decide) ?_
  refine R_sub [0] rfl ?_
  exact rk_X8_quiet_58 hA _ 0 σ w
def g_X8_quiet (a0 : Int32) (σ : AS) : Option (Int32 × AS) := (bnd (g_X1_begin 1 0 a0 σ) fun _ σ1 => (bnd (g_X1_passHours 1 (24 - (gF σ1 1 0 11)) σ1) fun _ σ2 => (if gF σ2 1 0 11 < 24 then (if gF σ2 1 1 14 = 24 then g_X8_quiet_58 1 σ2 else g_X8_quiet_57 σ2) else g_X8_quiet_57 σ2)))
set_option maxRecDepth 100000 in
set_option maxHeartbeats 4000000 in
theorem ct_X8_quiet {l : Launch} {cx : CX} (hA : AD cx) (a0 : Int32) (σ : AS) (Q : Int32 → AS → Prop) (w : wpO (g_X8_quiet a0 σ) Q) : AMet l cx 7 yX8_quiet cX8_quiet 3 (some .int) [.inr (.inr (8, 0, 0)), .inl a0] σ (QI Q) := by
  unfold g_X8_quiet at w
  refine AMet.of (own := RX8) (by decide) rfl hA (Nat.le_of_ble_eq_true rfl) ?_
  show RJ l cx 7 RX8 cX8_quiet 3 (some .int) 0 [(0, .inr (.inr (8, 0, 0))), (1, .inl a0)] [] σ _
  refine R_aload_n dX8_quiet_0 rfl 0 rfl ?_
  refine R_getfO (k := 5) acl8 oz8_0 (by decide) fl_RX8_42 dX8_quiet_1 rfl ?_
  refine R_aload_n dX8_quiet_4 rfl 0 rfl ?_
  refine R_getfO (k := 4) acl8 oz8_0 (by decide) fl_RX8_38 dX8_quiet_5 rfl ?_
  refine R_iload_n dX8_quiet_8 rfl 1 rfl ?_
  refine R_callVV (As := [.inr (.inr (1, 0, 0)), .inl a0]) acl1 rfl oz1_1 mi_X1_begin ml_RX8_203 rfl (Nat.le_of_ble_eq_true rfl) (by decide) dX8_quiet_9 (ct_X1_begin hA 1 oz1_1 0 oz1_0 a0 σ _ (wp_bnd w)) (fun σ1 w => ?_)
  refine R_aload_n dX8_quiet_12 rfl 0 rfl ?_
  refine R_getfO (k := 5) acl8 oz8_0 (by decide) fl_RX8_42 dX8_quiet_13 rfl ?_
  refine R_bipush (v := 24) dX8_quiet_16 (by decide) ?_
  refine R_aload_n dX8_quiet_18 rfl 0 rfl ?_
  refine R_getfO (k := 4) acl8 oz8_0 (by decide) fl_RX8_38 dX8_quiet_19 rfl ?_
  refine R_getfI (k := 11) acl1 oz1_0 (by decide) fl_RX8_80 dX8_quiet_22 rfl ?_
  refine R_isub dX8_quiet_25 ?_
  refine R_callVV (As := [.inl (24 - (gF σ1 1 0 11))]) acl1 rfl oz1_1 mi_X1_passHours ml_RX8_175 rfl (Nat.le_of_ble_eq_true rfl) (by decide) dX8_quiet_26 (ct_X1_passHours hA 1 oz1_1 (24 - (gF σ1 1 0 11)) σ1 _ (wp_bnd w)) (fun σ2 w => ?_)
  refine R_aload_n dX8_quiet_29 rfl 0 rfl ?_
  refine R_getfO (k := 4) acl8 oz8_0 (by decide) fl_RX8_38 dX8_quiet_30 rfl ?_
  refine R_getfI (k := 11) acl1 oz1_0 (by decide) fl_RX8_80 dX8_quiet_33 rfl ?_
  refine R_bipush (v := 24) dX8_quiet_36 (by decide) ?_
  refine R_icmp_ge (tgt := 57) dX8_quiet_38 (by decide) (fun c3 => ?_) (fun c3 => ?_)
  · have w := wp_f c3 w
    refine R_sub [0] rfl ?_
    exact rk_X8_quiet_57 hA _ σ2 w
  · have w := wp_t c3 w
    refine R_aload_n dX8_quiet_41 rfl 0 rfl ?_
    refine R_getfO (k := 5) acl8 oz8_0 (by decide) fl_RX8_42 dX8_quiet_42 rfl ?_
    refine R_getfI (k := 14) acl1 oz1_1 (by decide) fl_RX8_207 dX8_quiet_45 rfl ?_
    refine R_bipush (v := 24) dX8_quiet_48 (by decide) ?_
    refine R_icmp_ne (tgt := 57) dX8_quiet_50 (by decide) (fun c5 => ?_) (fun c5 => ?_)
    · have w := wp_f c5 w
      refine R_sub [0] rfl ?_
      exact rk_X8_quiet_57 hA _ σ2 w
    · have w := wp_t c5 w
      refine R_iconst (v := 1) dX8_quiet_53 (by decide) ?_
      refine R_goto (tgt := 58) dX8_quiet_54 (by decide) ?_
      refine R_sub [0] rfl ?_
      exact rk_X8_quiet_58 hA _ 1 σ2 w
def g_X0_makeAgain (σ : AS) : Option (Int32 × AS) := (if gF σ 0 0 4 < gF σ 0 0 5 then (if inb (gF σ 0 0 4) 40 then (bnd (g_X6_become (gA σ 0 0 0 (gF σ 0 0 4)) (gA σ 0 0 1 (gF σ 0 0 4)) (gA σ 0 0 3 (gF σ 0 0 4)) σ) fun _ σ3 => (lt (sF σ3 0 0 4 ((gF σ3 0 0 4) + 1)) fun σ4 => some ((gF σ4 0 0 5) - (gF σ4 0 0 4), σ4))) else none) else some ((-5), σ))
set_option maxRecDepth 100000 in
set_option maxHeartbeats 4000000 in
theorem ct_X0_makeAgain {l : Launch} {cx : CX} (hA : AD cx) (σ : AS) (Q : Int32 → AS → Prop) (w : wpO (g_X0_makeAgain σ) Q) : AMet l cx 2 yX0_makeAgain cX0_makeAgain 2 (some .int) [.inr (.inr (0, 0, 0)), .inr (.inr (6, 0, 0))] σ (QI Q) := by
  unfold g_X0_makeAgain at w
  refine AMet.of (own := RX0) (by decide) rfl hA (Nat.le_of_ble_eq_true rfl) ?_
  show RJ l cx 2 RX0 cX0_makeAgain 2 (some .int) 0 [(0, .inr (.inr (0, 0, 0))), (1, .inr (.inr (6, 0, 0)))] [] σ _
  refine R_aload_n dX0_makeAgain_0 rfl 0 rfl ?_
  refine R_getfI (k := 4) acl0 oz0_0 (by decide) fl_RX0_24 dX0_makeAgain_1 rfl ?_
  refine R_aload_n dX0_makeAgain_4 rfl 0 rfl ?_
  refine R_getfI (k := 5) acl0 oz0_0 (by decide) fl_RX0_28 dX0_makeAgain_5 rfl ?_
  refine R_icmp_lt (tgt := 14) dX0_makeAgain_8 (by decide) (fun c1 => ?_) (fun c1 => ?_)
  · have w := wp_t c1 w
    refine R_aload_n dX0_makeAgain_14 rfl 1 rfl ?_
    refine R_aload_n dX0_makeAgain_15 rfl 0 rfl ?_
    refine R_getfA (k := 0) acl0 oz0_0 (by decide) fl_RX0_11 dX0_makeAgain_16 rfl ?_
    refine R_aload_n dX0_makeAgain_19 rfl 0 rfl ?_
    refine R_getfI (k := 4) acl0 oz0_0 (by decide) fl_RX0_24 dX0_makeAgain_20 rfl ?_
    obtain ⟨b2, w⟩ := wp_chk w
    refine R_iald rfl oz0_0 b2 dX0_makeAgain_23 ?_
    refine R_aload_n dX0_makeAgain_24 rfl 0 rfl ?_
    refine R_getfA (k := 1) acl0 oz0_0 (by decide) fl_RX0_15 dX0_makeAgain_25 rfl ?_
    refine R_aload_n dX0_makeAgain_28 rfl 0 rfl ?_
    refine R_getfI (k := 4) acl0 oz0_0 (by decide) fl_RX0_24 dX0_makeAgain_29 rfl ?_
    refine R_iald rfl oz0_0 b2 dX0_makeAgain_32 ?_
    refine R_aload_n dX0_makeAgain_33 rfl 0 rfl ?_
    refine R_getfA (k := 3) acl0 oz0_0 (by decide) fl_RX0_21 dX0_makeAgain_34 rfl ?_
    refine R_aload_n dX0_makeAgain_37 rfl 0 rfl ?_
    refine R_getfI (k := 4) acl0 oz0_0 (by decide) fl_RX0_24 dX0_makeAgain_38 rfl ?_
    refine R_iald rfl oz0_0 b2 dX0_makeAgain_41 ?_
    refine R_callVV (As := [.inl (gA σ 0 0 0 (gF σ 0 0 4)), .inl (gA σ 0 0 1 (gF σ 0 0 4)), .inl (gA σ 0 0 3 (gF σ 0 0 4))]) acl6 rfl oz6_0 mi_X6_become ml_RX0_34 rfl (Nat.le_of_ble_eq_true rfl) (by decide) dX0_makeAgain_42 (ct_X6_become hA (gA σ 0 0 0 (gF σ 0 0 4)) (gA σ 0 0 1 (gF σ 0 0 4)) (gA σ 0 0 3 (gF σ 0 0 4)) σ _ (wp_bnd w)) (fun σ3 w => ?_)
    refine R_aload_n dX0_makeAgain_45 rfl 0 rfl ?_
    refine R_dup dX0_makeAgain_46 rfl ?_
    refine R_getfI (k := 4) acl0 oz0_0 (by decide) fl_RX0_24 dX0_makeAgain_47 rfl ?_
    refine R_iconst (v := 1) dX0_makeAgain_50 (by decide) ?_
    refine R_iadd dX0_makeAgain_51 ?_
    refine R_putf (k := 4) (ty := .int) acl0 oz0_0 (by decide) fl_RX0_24 rfl (tyX0_ok 4 (by decide)) (Or.inl rfl) dX0_makeAgain_52 rfl ?_
    refine R_nameS w ?_; clear w; intro σ4 w
    refine R_aload_n dX0_makeAgain_55 rfl 0 rfl ?_
    refine R_getfI (k := 5) acl0 oz0_0 (by decide) fl_RX0_28 dX0_makeAgain_56 rfl ?_
    refine R_aload_n dX0_makeAgain_59 rfl 0 rfl ?_
    refine R_getfI (k := 4) acl0 oz0_0 (by decide) fl_RX0_24 dX0_makeAgain_60 rfl ?_
    refine R_isub dX0_makeAgain_63 ?_
    exact R_ireturn dX0_makeAgain_64 rfl ⟨_, rfl, wp_some w⟩
  · have w := wp_f c1 w
    refine R_bipush (v := (-5)) dX0_makeAgain_11 (by decide) ?_
    exact R_ireturn dX0_makeAgain_13 rfl ⟨_, rfl, wp_some w⟩
def g_X8_redo (σ : AS) : Option (Int32 × AS) := (bnd (g_X0_makeAgain σ) fun r1 σ2 => some (r1, σ2))
set_option maxRecDepth 100000 in
set_option maxHeartbeats 4000000 in
theorem ct_X8_redo {l : Launch} {cx : CX} (hA : AD cx) (σ : AS) (Q : Int32 → AS → Prop) (w : wpO (g_X8_redo σ) Q) : AMet l cx 3 yX8_redo cX8_redo 1 (some .int) [.inr (.inr (8, 0, 0))] σ (QI Q) := by
  unfold g_X8_redo at w
  refine AMet.of (own := RX8) (by decide) rfl hA (Nat.le_of_ble_eq_true rfl) ?_
  show RJ l cx 3 RX8 cX8_redo 1 (some .int) 0 [(0, .inr (.inr (8, 0, 0)))] [] σ _
  refine R_aload_n dX8_redo_0 rfl 0 rfl ?_
  refine R_getfO (k := 8) acl8 oz8_0 (by decide) fl_RX8_58 dX8_redo_1 rfl ?_
  refine R_aload_n dX8_redo_4 rfl 0 rfl ?_
  refine R_getfO (k := 0) acl8 oz8_0 (by decide) fl_RX8_10 dX8_redo_5 rfl ?_
  refine R_callVI (As := [.inr (.inr (6, 0, 0))]) acl0 rfl oz0_0 mi_X0_makeAgain ml_RX8_248 rfl (Nat.le_of_ble_eq_true rfl) (by decide) dX8_redo_8 (ct_X0_makeAgain hA σ _ (wp_bnd w)) (fun r1 σ2 w => ?_)
  exact R_ireturn dX8_redo_11 rfl ⟨_, rfl, wp_some w⟩
def g_X8_rest (a0 : Int32) (a1 : Int32) (σ : AS) : Option (Int32 × AS) := (if a0 < 0 then some ((-1), σ) else (if a0 < 7 then (if a1 = 4 then (if inb a0 7 then some (gA σ 1 0 2 a0, σ) else none) else (bnd (g_X6_hasRest a0 σ) fun r4 σ5 => (if r4 = 0 then some ((-1), σ5) else (if a1 = 0 then (if inb a0 7 then some (gA σ5 1 0 2 a0, σ5) else none) else (if a1 = 1 then (if inb a0 7 then some (gA σ5 1 0 3 a0, σ5) else none) else (if a1 = 2 then (if inb a0 7 then some (gA σ5 1 0 4 a0, σ5) else none) else (if a1 = 3 then (bnd (g_X1_free 0 a0 σ5) fun r14 σ15 => some (r14, σ15)) else some ((-1), σ5)))))))) else some ((-1), σ)))
set_option maxRecDepth 100000 in
set_option maxHeartbeats 4000000 in
theorem ct_X8_rest {l : Launch} {cx : CX} (hA : AD cx) (a0 : Int32) (a1 : Int32) (σ : AS) (Q : Int32 → AS → Prop) (w : wpO (g_X8_rest a0 a1 σ) Q) : AMet l cx 1 yX8_rest cX8_rest 3 (some .int) [.inr (.inr (8, 0, 0)), .inl a0, .inl a1] σ (QI Q) := by
  unfold g_X8_rest at w
  refine AMet.of (own := RX8) (by decide) rfl hA (Nat.le_of_ble_eq_true rfl) ?_
  show RJ l cx 1 RX8 cX8_rest 3 (some .int) 0 [(0, .inr (.inr (8, 0, 0))), (1, .inl a0), (2, .inl a1)] [] σ _
  refine R_iload_n dX8_rest_0 rfl 1 rfl ?_
  refine R_if_lt (tgt := 10) dX8_rest_1 (by decide) (fun c1 => ?_) (fun c1 => ?_)
  · have w := wp_t c1 w
    refine R_iconst (v := (-1)) dX8_rest_10 (by decide) ?_
    exact R_ireturn dX8_rest_11 rfl ⟨_, rfl, wp_some w⟩
  · have w := wp_f c1 w
    refine R_iload_n dX8_rest_4 rfl 1 rfl ?_
    refine R_bipush (v := 7) dX8_rest_5 (by decide) ?_
    refine R_icmp_lt (tgt := 12) dX8_rest_7 (by decide) (fun c2 => ?_) (fun c2 => ?_)
    · have w := wp_t c2 w
      refine R_iload_n dX8_rest_12 rfl 2 rfl ?_
      refine R_iconst (v := 4) dX8_rest_13 (by decide) ?_
      refine R_icmp_ne (tgt := 27) dX8_rest_14 (by decide) (fun c3 => ?_) (fun c3 => ?_)
      · have w := wp_f c3 w
        refine R_aload_n dX8_rest_27 rfl 0 rfl ?_
        refine R_getfO (k := 0) acl8 oz8_0 (by decide) fl_RX8_10 dX8_rest_28 rfl ?_
        refine R_iload_n dX8_rest_31 rfl 1 rfl ?_
        refine R_callVI (As := [.inl a0]) acl6 rfl oz6_0 mi_X6_hasRest ml_RX8_150 rfl (Nat.le_of_ble_eq_true rfl) (by decide) dX8_rest_32 (ct_X6_hasRest hA a0 σ _ (wp_bnd w)) (fun r4 σ5 w => ?_)
        refine R_if_ne (tgt := 40) dX8_rest_35 (by decide) (fun c6 => ?_) (fun c6 => ?_)
        · have w := wp_f c6 w
          refine R_iload_n dX8_rest_40 rfl 2 rfl ?_
          by_cases c7 : a1 = 0
          · have w := wp_t c7 w
            refine R_tswIn (v := 0) (tgt := 72) dX8_rest_41 c7 (by decide) (by decide) rfl (by decide) ?_
            refine R_aload_n dX8_rest_72 rfl 0 rfl ?_
            refine R_getfO (k := 4) acl8 oz8_0 (by decide) fl_RX8_38 dX8_rest_73 rfl ?_
            refine R_getfA (k := 2) acl1 oz1_0 (by decide) fl_RX8_99 dX8_rest_76 rfl ?_
            refine R_iload_n dX8_rest_79 rfl 1 rfl ?_
            obtain ⟨b8, w⟩ := wp_chk w
            refine R_iald rfl oz1_0 b8 dX8_rest_80 ?_
            exact R_ireturn dX8_rest_81 rfl ⟨_, rfl, wp_some w⟩
          have w := wp_f c7 w
          by_cases c9 : a1 = 1
          · have w := wp_t c9 w
            refine R_tswIn (v := 1) (tgt := 82) dX8_rest_41 c9 (by decide) (by decide) rfl (by decide) ?_
            refine R_aload_n dX8_rest_82 rfl 0 rfl ?_
            refine R_getfO (k := 4) acl8 oz8_0 (by decide) fl_RX8_38 dX8_rest_83 rfl ?_
            refine R_getfA (k := 3) acl1 oz1_0 (by decide) fl_RX8_153 dX8_rest_86 rfl ?_
            refine R_iload_n dX8_rest_89 rfl 1 rfl ?_
            obtain ⟨b10, w⟩ := wp_chk w
            refine R_iald rfl oz1_0 b10 dX8_rest_90 ?_
            exact R_ireturn dX8_rest_91 rfl ⟨_, rfl, wp_some w⟩
          have w := wp_f c9 w
          by_cases c11 : a1 = 2
          · have w := wp_t c11 w
            refine R_tswIn (v := 2) (tgt := 92) dX8_rest_41 c11 (by decide) (by decide) rfl (by decide) ?_
            refine R_aload_n dX8_rest_92 rfl 0 rfl ?_
            refine R_getfO (k := 4) acl8 oz8_0 (by decide) fl_RX8_38 dX8_rest_93 rfl ?_
            refine R_getfA (k := 4) acl1 oz1_0 (by decide) fl_RX8_156 dX8_rest_96 rfl ?_
            refine R_iload_n dX8_rest_99 rfl 1 rfl ?_
            obtain ⟨b12, w⟩ := wp_chk w
            refine R_iald rfl oz1_0 b12 dX8_rest_100 ?_
            exact R_ireturn dX8_rest_101 rfl ⟨_, rfl, wp_some w⟩
          have w := wp_f c11 w
          by_cases c13 : a1 = 3
          · have w := wp_t c13 w
            refine R_tswIn (v := 3) (tgt := 102) dX8_rest_41 c13 (by decide) (by decide) rfl (by decide) ?_
            refine R_aload_n dX8_rest_102 rfl 0 rfl ?_
            refine R_getfO (k := 4) acl8 oz8_0 (by decide) fl_RX8_38 dX8_rest_103 rfl ?_
            refine R_iload_n dX8_rest_106 rfl 1 rfl ?_
            refine R_callVI (As := [.inl a0]) acl1 rfl oz1_0 mi_X1_free ml_RX8_159 rfl (Nat.le_of_ble_eq_true rfl) (by decide) dX8_rest_107 (ct_X1_free hA 0 oz1_0 a0 σ5 _ (wp_bnd w)) (fun r14 σ15 w => ?_)
            exact R_ireturn dX8_rest_110 rfl ⟨_, rfl, wp_some w⟩
          have w := wp_f c13 w
          refine R_tswOut (tgt := 111) dX8_rest_41 [0, 1, 2, 3] (List.forall_mem_cons.mpr ⟨c7, (List.forall_mem_cons.mpr ⟨c9, (List.forall_mem_cons.mpr ⟨c11, (List.forall_mem_cons.mpr ⟨c13, (fun _ z => absurd z List.not_mem_nil)⟩)⟩)⟩)⟩) (by decide) (by decide) ?_
          refine R_iconst (v := (-1)) dX8_rest_111 (by decide) ?_
          exact R_ireturn dX8_rest_112 rfl ⟨_, rfl, wp_some w⟩
        · have w := wp_t c6 w
          refine R_iconst (v := (-1)) dX8_rest_38 (by decide) ?_
          exact R_ireturn dX8_rest_39 rfl ⟨_, rfl, wp_some w⟩
      · have w := wp_t c3 w
        refine R_aload_n dX8_rest_17 rfl 0 rfl ?_
        refine R_getfO (k := 4) acl8 oz8_0 (by decide) fl_RX8_38 dX8_rest_18 rfl ?_
        refine R_getfA (k := 2) acl1 oz1_0 (by decide) fl_RX8_99 dX8_rest_21 rfl ?_
        refine R_iload_n dX8_rest_24 rfl 1 rfl ?_
        obtain ⟨b16, w⟩ := wp_chk w
        refine R_iald rfl oz1_0 b16 dX8_rest_25 ?_
        exact R_ireturn dX8_rest_26 rfl ⟨_, rfl, wp_some w⟩
    · have w := wp_f c2 w
      refine R_iconst (v := (-1)) dX8_rest_10 (by decide) ?_
      exact R_ireturn dX8_rest_11 rfl ⟨_, rfl, wp_some w⟩
def g_X5_layRow (o : Nat) (a0 : Int32) (a1 : Int32) (σ : AS) : Option (Unit × AS) := (lt (filL σ 5 o 0 60 0) fun σ1 => (bnd (g_X5_become o a0 a1 (-1) σ1) fun _ σ2 => some ((), σ2)))
set_option maxRecDepth 100000 in
set_option maxHeartbeats 4000000 in
theorem ct_X5_layRow {l : Launch} {cx : CX} (hA : AD cx) (o : Nat) (ho : o < am_cnt 5) (a0 : Int32) (a1 : Int32) (σ : AS) (Q : Unit → AS → Prop) (w : wpO (g_X5_layRow o a0 a1 σ) Q) : AMet l cx 2 yX5_layRow cX5_layRow 3 none [.inr (.inr (5, o, 0)), .inl a0, .inl a1] σ (QV Q) := by
  unfold g_X5_layRow at w
  refine AMet.of (own := RX5) (by decide) rfl hA (Nat.le_of_ble_eq_true rfl) ?_
  show RJ l cx 2 RX5 cX5_layRow 3 none 0 [(0, .inr (.inr (5, o, 0))), (1, .inl a0), (2, .inl a1)] [] σ _
  refine R_aload_n dX5_layRow_0 rfl 0 rfl ?_
  refine R_getfA (k := 0) acl5 ho (by decide) fl_RX5_11 dX5_layRow_1 rfl ?_
  refine R_lconst (v := 0) dX5_layRow_4 (by decide) ?_
  refine R_callSV (As := [.inr (.inr (5, o, 0 + 1)), .inr (.inl 0)]) mi_J7_fill_d0a16 ml_RX5_29 rfl (Nat.le_of_ble_eq_true rfl) (by decide) dX5_layRow_5 (ct_filL hA rfl ho (by decide) w) (fun σ1 w => ?_)
  refine R_aload_n dX5_layRow_8 rfl 0 rfl ?_
  refine R_iload_n dX5_layRow_9 rfl 1 rfl ?_
  refine R_iload_n dX5_layRow_10 rfl 2 rfl ?_
  refine R_iconst (v := (-1)) dX5_layRow_11 (by decide) ?_
  refine R_callVV (As := [.inl a0, .inl a1, .inl (-1)]) acl5 rfl ho mi_X5_become ml_RX5_25 rfl (Nat.le_of_ble_eq_true rfl) (by decide) dX5_layRow_12 (ct_X5_become hA o ho a0 a1 (-1) σ1 _ (wp_bnd w)) (fun σ2 w => ?_)
  exact R_vreturn dX5_layRow_15 rfl ⟨rfl, wp_some w⟩
def g_X8_row (a0 : Int32) (a1 : Int32) (a2 : Int32) (σ : AS) : Option (Int32 × AS) := (bnd (g_X8_isShelf a0 σ) fun r1 σ2 => (if r1 = 0 then some ((-1), σ2) else (if a1 < 0 then some ((-1), σ2) else (if (4 : Int32) < a1 then some ((-1), σ2) else (if (60 : Int32) < a2 then some ((-1), σ2) else (if a2 < 0 then some ((-14), σ2) else (if inb a0 6 then (bnd (g_X5_layRow a0.toNatClampNeg a1 a2 σ2) fun _ σ9 => some (1, σ9)) else none)))))))
set_option maxRecDepth 100000 in
set_option maxHeartbeats 4000000 in
theorem ct_X8_row {l : Launch} {cx : CX} (hA : AD cx) (a0 : Int32) (a1 : Int32) (a2 : Int32) (σ : AS) (Q : Int32 → AS → Prop) (w : wpO (g_X8_row a0 a1 a2 σ) Q) : AMet l cx 3 yX8_row cX8_row 4 (some .int) [.inr (.inr (8, 0, 0)), .inl a0, .inl a1, .inl a2] σ (QI Q) := by
  unfold g_X8_row at w
  refine AMet.of (own := RX8) (by decide) rfl hA (Nat.le_of_ble_eq_true rfl) ?_
  show RJ l cx 3 RX8 cX8_row 4 (some .int) 0 [(0, .inr (.inr (8, 0, 0))), (1, .inl a0), (2, .inl a1), (3, .inl a2)] [] σ _
  refine R_iload_n dX8_row_0 rfl 1 rfl ?_
  refine R_callSI (As := [.inl a0]) mi_X8_isShelf ml_RX8_88 rfl (Nat.le_of_ble_eq_true rfl) (by decide) dX8_row_1 (ct_X8_isShelf hA a0 σ _ (wp_bnd w)) (fun r1 σ2 w => ?_)
  refine R_if_eq (tgt := 22) dX8_row_4 (by decide) (fun c3 => ?_) (fun c3 => ?_)
  · have w := wp_t c3 w
    refine R_iconst (v := (-1)) dX8_row_22 (by decide) ?_
    exact R_ireturn dX8_row_23 rfl ⟨_, rfl, wp_some w⟩
  · have w := wp_f c3 w
    refine R_iload_n dX8_row_7 rfl 2 rfl ?_
    refine R_if_lt (tgt := 22) dX8_row_8 (by decide) (fun c4 => ?_) (fun c4 => ?_)
    · have w := wp_t c4 w
      refine R_iconst (v := (-1)) dX8_row_22 (by decide) ?_
      exact R_ireturn dX8_row_23 rfl ⟨_, rfl, wp_some w⟩
    · have w := wp_f c4 w
      refine R_iload_n dX8_row_11 rfl 2 rfl ?_
      refine R_iconst (v := 4) dX8_row_12 (by decide) ?_
      refine R_icmp_gt (tgt := 22) dX8_row_13 (by decide) (fun c5 => ?_) (fun c5 => ?_)
      · have w := wp_t c5 w
        refine R_iconst (v := (-1)) dX8_row_22 (by decide) ?_
        exact R_ireturn dX8_row_23 rfl ⟨_, rfl, wp_some w⟩
      · have w := wp_f c5 w
        refine R_iload_n dX8_row_16 rfl 3 rfl ?_
        refine R_bipush (v := 60) dX8_row_17 (by decide) ?_
        refine R_icmp_le (tgt := 24) dX8_row_19 (by decide) (fun c6 => ?_) (fun c6 => ?_)
        · have w := wp_f c6 w
          refine R_iload_n dX8_row_24 rfl 3 rfl ?_
          refine R_if_ge (tgt := 31) dX8_row_25 (by decide) (fun c7 => ?_) (fun c7 => ?_)
          · have w := wp_f c7 w
            refine R_aload_n dX8_row_31 rfl 0 rfl ?_
            refine R_getfA (k := 10) acl8 oz8_0 (by decide) fl_RX8_71 dX8_row_32 rfl ?_
            refine R_iload_n dX8_row_35 rfl 1 rfl ?_
            obtain ⟨b8, w⟩ := wp_chk w
            refine R_aald rfl oz8_0 b8 dX8_row_36 ?_
            refine R_iload_n dX8_row_37 rfl 2 rfl ?_
            refine R_iload_n dX8_row_38 rfl 3 rfl ?_
            refine R_callVV (As := [.inl a1, .inl a2]) acl5 rfl b8.2 mi_X5_layRow ml_RX8_266 rfl (Nat.le_of_ble_eq_true rfl) (by decide) dX8_row_39 (ct_X5_layRow hA a0.toNatClampNeg b8.2 a1 a2 σ2 _ (wp_bnd w)) (fun σ9 w => ?_)
            refine R_iconst (v := 1) dX8_row_42 (by decide) ?_
            exact R_ireturn dX8_row_43 rfl ⟨_, rfl, wp_some w⟩
          · have w := wp_t c7 w
            refine R_bipush (v := (-14)) dX8_row_28 (by decide) ?_
            exact R_ireturn dX8_row_30 rfl ⟨_, rfl, wp_some w⟩
        · have w := wp_t c6 w
          refine R_iconst (v := (-1)) dX8_row_22 (by decide) ?_
          exact R_ireturn dX8_row_23 rfl ⟨_, rfl, wp_some w⟩
def g_X8_seat_36    : Nat → Int32 → Int32 → Int32 → Int32 → Int32 → AS → Option (Int32 × AS)
  | 0, _, _, _, _, _, _ => none
  | f0 + 1, v1, v2, v3, v4, v5, σ => (bnd (g_X6_number σ) fun r7 σ8 => (if v5 < r7 then (bnd (g_X8_thinkOfChange v1 v2 v5 σ8) fun _ σ10 => (if inb v2 8 then (if v4 < gA σ10 1 1 6 v2 then (lt (gA σ10 1 1 6 v2) fun x13 => (g_X8_seat_36 f0) v1 v2 v5 x13 (v5 + 1) σ10) else (g_X8_seat_36 f0) v1 v2 v3 v4 (v5 + 1) σ10) else none)) else some (v3, σ8)))
set_option maxRecDepth 100000 in
set_option maxHeartbeats 4000000 in
theorem rk_X8_seat_36 {l : Launch} {cx : CX} (hA : AD cx)    (Q : Int32 → AS → Prop) : ∀ (f0 : Nat) (v1 : Int32) (v2 : Int32) (v3 : Int32) (v4 : Int32) (v5 : Int32) (σ : AS), wpO (g_X8_seat_36 f0 v1 v2 v3 v4 v5 σ) Q → RJ l cx 8 RX8 cX8_seat 6 (some .int) 36 [(0, .inr (.inr (8, 0, 0))), (1, .inl v1), (2, .inl v2), (3, .inl v3), (4, .inl v4), (5, .inl v5)] [] σ (QI Q) := by
  intro f0
  induction f0 with
  | zero => intro v1 v2 v3 v4 v5 σ w; exact wp_no w
  | succ f0 ih =>
    intro v1 v2 v3 v4 v5 σ w
    rw [g_X8_seat_36] at w
    refine R_iload dX8_seat_36 5 rfl ?_
    refine R_aload_n dX8_seat_38 rfl 0 rfl ?_
    refine R_getfO (k := 0) acl8 oz8_0 (by decide) fl_RX8_10 dX8_seat_39 rfl ?_
    refine R_callVI (As := []) acl6 rfl oz6_0 mi_X6_number ml_RX8_213 rfl (Nat.le_of_ble_eq_true rfl) (by decide) dX8_seat_42 (ct_X6_number hA σ _ (wp_bnd w)) (fun r7 σ8 w => ?_)
    refine R_icmp_ge (tgt := 90) dX8_seat_45 (by decide) (fun c9 => ?_) (fun c9 => ?_)
    · have w := wp_f c9 w
      refine R_iload_n dX8_seat_90 rfl 3 rfl ?_
      exact R_ireturn dX8_seat_91 rfl ⟨_, rfl, wp_some w⟩
    · have w := wp_t c9 w
      refine R_aload_n dX8_seat_48 rfl 0 rfl ?_
      refine R_iload_n dX8_seat_49 rfl 1 rfl ?_
      refine R_iload_n dX8_seat_50 rfl 2 rfl ?_
      refine R_iload dX8_seat_51 5 rfl ?_
      refine R_callVV (As := [.inl v1, .inl v2, .inl v5]) acl8 rfl oz8_0 mi_X8_thinkOfChange ml_RX8_210 rfl (Nat.le_of_ble_eq_true rfl) (by decide) dX8_seat_53 (ct_X8_thinkOfChange hA v1 v2 v5 σ8 _ (wp_bnd w)) (fun σ10 w => ?_)
      refine R_aload_n dX8_seat_56 rfl 0 rfl ?_
      refine R_getfO (k := 5) acl8 oz8_0 (by decide) fl_RX8_42 dX8_seat_57 rfl ?_
      refine R_getfA (k := 6) acl1 oz1_1 (by decide) fl_RX8_132 dX8_seat_60 rfl ?_
      refine R_iload_n dX8_seat_63 rfl 2 rfl ?_
      obtain ⟨b11, w⟩ := wp_chk w
      refine R_iald rfl oz1_1 b11 dX8_seat_64 ?_
      refine R_iload dX8_seat_65 4 rfl ?_
      refine R_icmp_le (tgt := 84) dX8_seat_67 (by decide) (fun c12 => ?_) (fun c12 => ?_)
      · have w := wp_f c12 w
        refine R_iinc (v := v5 + 1) (lv' := [(5, .inl (v5 + 1)), (0, .inr (.inr (8, 0, 0))), (1, .inl v1), (2, .inl v2), (3, .inl v3), (4, .inl v4)]) dX8_seat_84 5 rfl rfl (by decide) rfl ?_
        refine R_goto (tgt := 36) dX8_seat_87 (by decide) ?_
        refine R_sub [1, 2, 3, 4, 5, 0] rfl ?_
        exact ih v1 v2 v3 v4 (v5 + 1) σ10 w
      · have w := wp_t c12 w
        refine R_aload_n dX8_seat_70 rfl 0 rfl ?_
        refine R_getfO (k := 5) acl8 oz8_0 (by decide) fl_RX8_42 dX8_seat_71 rfl ?_
        refine R_getfA (k := 6) acl1 oz1_1 (by decide) fl_RX8_132 dX8_seat_74 rfl ?_
        refine R_iload_n dX8_seat_77 rfl 2 rfl ?_
        refine R_iald rfl oz1_1 b11 dX8_seat_78 ?_
        refine R_nameI w ?_; clear w; intro x13 w
        refine R_istore (lv' := [(4, .inl x13), (0, .inr (.inr (8, 0, 0))), (1, .inl v1), (2, .inl v2), (3, .inl v3), (5, .inl v5)]) dX8_seat_79 (by decide) rfl ?_
        refine R_iload dX8_seat_81 5 rfl ?_
        refine R_istore_n (lv' := [(3, .inl v5), (4, .inl x13), (0, .inr (.inr (8, 0, 0))), (1, .inl v1), (2, .inl v2), (5, .inl v5)]) dX8_seat_83 rfl (by decide) rfl ?_
        refine R_iinc (v := v5 + 1) (lv' := [(5, .inl (v5 + 1)), (3, .inl v5), (4, .inl x13), (0, .inr (.inr (8, 0, 0))), (1, .inl v1), (2, .inl v2)]) dX8_seat_84 5 rfl rfl (by decide) rfl ?_
        refine R_goto (tgt := 36) dX8_seat_87 (by decide) ?_
        refine R_sub [3, 4, 5, 1, 2, 0] rfl ?_
        exact ih v1 v2 v5 x13 (v5 + 1) σ10 w
def g_X8_seat (a0 : Int32) (a1 : Int32) (σ : AS) : Option (Int32 × AS) := (bnd (g_X6_has a1 σ) fun r1 σ2 => (if r1 = 0 then some ((-1), σ2) else (bnd (g_X8_thinkOfChange a0 a1 a1 σ2) fun _ σ4 => (if inb a1 8 then (lt (gA σ4 1 1 6 a1) fun x6 => g_X8_seat_36 400 a0 a1 a1 x6 0 σ4) else none))))
set_option maxRecDepth 100000 in
set_option maxHeartbeats 4000000 in
theorem ct_X8_seat {l : Launch} {cx : CX} (hA : AD cx) (a0 : Int32) (a1 : Int32) (σ : AS) (Q : Int32 → AS → Prop) (w : wpO (g_X8_seat a0 a1 σ) Q) : AMet l cx 8 yX8_seat cX8_seat 6 (some .int) [.inr (.inr (8, 0, 0)), .inl a0, .inl a1] σ (QI Q) := by
  unfold g_X8_seat at w
  refine AMet.of (own := RX8) (by decide) rfl hA (Nat.le_of_ble_eq_true rfl) ?_
  show RJ l cx 8 RX8 cX8_seat 6 (some .int) 0 [(0, .inr (.inr (8, 0, 0))), (1, .inl a0), (2, .inl a1)] [] σ _
  refine R_aload_n dX8_seat_0 rfl 0 rfl ?_
  refine R_getfO (k := 0) acl8 oz8_0 (by decide) fl_RX8_10 dX8_seat_1 rfl ?_
  refine R_iload_n dX8_seat_4 rfl 2 rfl ?_
  refine R_callVI (As := [.inl a1]) acl6 rfl oz6_0 mi_X6_has ml_RX8_107 rfl (Nat.le_of_ble_eq_true rfl) (by decide) dX8_seat_5 (ct_X6_has hA a1 σ _ (wp_bnd w)) (fun r1 σ2 w => ?_)
  refine R_if_ne (tgt := 13) dX8_seat_8 (by decide) (fun c3 => ?_) (fun c3 => ?_)
  · have w := wp_f c3 w
    refine R_iload_n dX8_seat_13 rfl 2 rfl ?_
    refine R_istore_n (lv' := [(3, .inl a1), (0, .inr (.inr (8, 0, 0))), (1, .inl a0), (2, .inl a1)]) dX8_seat_14 rfl (by decide) rfl ?_
    refine R_aload_n dX8_seat_15 rfl 1 rfl ?_
    refine R_iload_n dX8_seat_16 rfl 2 rfl ?_
    refine R_iload_n dX8_seat_17 rfl 3 rfl ?_
    refine R_iload_n dX8_seat_18 rfl 3 rfl ?_
    refine R_callVV (As := [.inl a0, .inl a1, .inl a1]) acl8 rfl oz8_0 mi_X8_thinkOfChange ml_RX8_210 rfl (Nat.le_of_ble_eq_true rfl) (by decide) dX8_seat_19 (ct_X8_thinkOfChange hA a0 a1 a1 σ2 _ (wp_bnd w)) (fun σ4 w => ?_)
    refine R_aload_n dX8_seat_22 rfl 1 rfl ?_
    refine R_getfO (k := 5) acl8 oz8_0 (by decide) fl_RX8_42 dX8_seat_23 rfl ?_
    refine R_getfA (k := 6) acl1 oz1_1 (by decide) fl_RX8_132 dX8_seat_26 rfl ?_
    refine R_iload_n dX8_seat_29 rfl 3 rfl ?_
    obtain ⟨b5, w⟩ := wp_chk w
    refine R_iald rfl oz1_1 b5 dX8_seat_30 ?_
    refine R_nameI w ?_; clear w; intro x6 w
    refine R_istore (lv' := [(4, .inl x6), (3, .inl a1), (0, .inr (.inr (8, 0, 0))), (1, .inl a0), (2, .inl a1)]) dX8_seat_31 (by decide) rfl ?_
    refine R_iconst (v := 0) dX8_seat_33 (by decide) ?_
    refine R_istore (lv' := [(5, .inl 0), (4, .inl x6), (3, .inl a1), (0, .inr (.inr (8, 0, 0))), (1, .inl a0), (2, .inl a1)]) dX8_seat_34 (by decide) rfl ?_
    refine R_sub [3, 4, 5, 2, 1, 0] rfl ?_
    exact rk_X8_seat_36 hA _ 400 a0 a1 a1 x6 0 σ4 w
  · have w := wp_t c3 w
    refine R_iconst (v := (-1)) dX8_seat_11 (by decide) ?_
    exact R_ireturn dX8_seat_12 rfl ⟨_, rfl, wp_some w⟩
def g_X8_sell (a0 : Int32) (σ : AS) : Option (Int32 × AS) := (bnd (g_X6_hasRest a0 σ) fun r1 σ2 => (if r1 = 0 then some ((-1), σ2) else (bnd (g_X8_soldByLeft a0 σ2) fun r4 σ5 => (if inb a0 7 then (lt (sA σ5 1 0 3 a0 ((gA σ5 1 0 3 a0) - r4)) fun σ7 => (lt (sA σ7 1 0 4 a0 ((gA σ7 1 0 4 a0) + r4)) fun σ8 => some (abi r4, σ8))) else none))))
set_option maxRecDepth 100000 in
set_option maxHeartbeats 4000000 in
theorem ct_X8_sell {l : Launch} {cx : CX} (hA : AD cx) (a0 : Int32) (σ : AS) (Q : Int32 → AS → Prop) (w : wpO (g_X8_sell a0 σ) Q) : AMet l cx 4 yX8_sell cX8_sell 3 (some .int) [.inr (.inr (8, 0, 0)), .inl a0] σ (QI Q) := by
  unfold g_X8_sell at w
  refine AMet.of (own := RX8) (by decide) rfl hA (Nat.le_of_ble_eq_true rfl) ?_
  show RJ l cx 4 RX8 cX8_sell 3 (some .int) 0 [(0, .inr (.inr (8, 0, 0))), (1, .inl a0)] [] σ _
  refine R_aload_n dX8_sell_0 rfl 0 rfl ?_
  refine R_getfO (k := 0) acl8 oz8_0 (by decide) fl_RX8_10 dX8_sell_1 rfl ?_
  refine R_iload_n dX8_sell_4 rfl 1 rfl ?_
  refine R_callVI (As := [.inl a0]) acl6 rfl oz6_0 mi_X6_hasRest ml_RX8_150 rfl (Nat.le_of_ble_eq_true rfl) (by decide) dX8_sell_5 (ct_X6_hasRest hA a0 σ _ (wp_bnd w)) (fun r1 σ2 w => ?_)
  refine R_if_ne (tgt := 13) dX8_sell_8 (by decide) (fun c3 => ?_) (fun c3 => ?_)
  · have w := wp_f c3 w
    refine R_aload_n dX8_sell_13 rfl 0 rfl ?_
    refine R_iload_n dX8_sell_14 rfl 1 rfl ?_
    refine R_callVI (As := [.inl a0]) acl8 rfl oz8_0 mi_X8_soldByLeft ml_RX8_233 rfl (Nat.le_of_ble_eq_true rfl) (by decide) dX8_sell_15 (ct_X8_soldByLeft hA a0 σ2 _ (wp_bnd w)) (fun r4 σ5 w => ?_)
    refine R_istore_n (lv' := [(2, .inl r4), (0, .inr (.inr (8, 0, 0))), (1, .inl a0)]) dX8_sell_18 rfl (by decide) rfl ?_
    refine R_aload_n dX8_sell_19 rfl 1 rfl ?_
    refine R_getfO (k := 4) acl8 oz8_0 (by decide) fl_RX8_38 dX8_sell_20 rfl ?_
    refine R_getfA (k := 3) acl1 oz1_0 (by decide) fl_RX8_153 dX8_sell_23 rfl ?_
    refine R_iload_n dX8_sell_26 rfl 2 rfl ?_
    refine R_dup2 dX8_sell_27 rfl rfl ?_
    obtain ⟨b6, w⟩ := wp_chk w
    refine R_iald rfl oz1_0 b6 dX8_sell_28 ?_
    refine R_iload_n dX8_sell_29 rfl 0 rfl ?_
    refine R_isub dX8_sell_30 ?_
    refine R_iast rfl oz1_0 b6 dX8_sell_31 ?_
    refine R_nameS w ?_; clear w; intro σ7 w
    refine R_aload_n dX8_sell_32 rfl 1 rfl ?_
    refine R_getfO (k := 4) acl8 oz8_0 (by decide) fl_RX8_38 dX8_sell_33 rfl ?_
    refine R_getfA (k := 4) acl1 oz1_0 (by decide) fl_RX8_156 dX8_sell_36 rfl ?_
    refine R_iload_n dX8_sell_39 rfl 2 rfl ?_
    refine R_dup2 dX8_sell_40 rfl rfl ?_
    refine R_iald rfl oz1_0 b6 dX8_sell_41 ?_
    refine R_iload_n dX8_sell_42 rfl 0 rfl ?_
    refine R_iadd dX8_sell_43 ?_
    refine R_iast rfl oz1_0 b6 dX8_sell_44 ?_
    refine R_nameS w ?_; clear w; intro σ8 w
    refine R_iload_n dX8_sell_45 rfl 0 rfl ?_
    refine R_mabs ml_RX8_236 (by decide) (Nat.le_of_ble_eq_true rfl) dX8_sell_46 ?_
    exact R_ireturn dX8_sell_49 rfl ⟨_, rfl, wp_some w⟩
  · have w := wp_t c3 w
    refine R_iconst (v := (-1)) dX8_sell_11 (by decide) ?_
    exact R_ireturn dX8_sell_12 rfl ⟨_, rfl, wp_some w⟩
def g_X8_shift (a0 : Int32) (a1 : Int32) (a2 : Int32) (a3 : Int32) (a4 : Int32) (σ : AS) : Option (Int32 × AS) := (bnd (g_X8_isShelf a0 σ) fun r1 σ2 => (if r1 = 0 then some ((-1), σ2) else (bnd (g_X8_isShelf a2 σ2) fun r4 σ5 => (if r4 = 0 then some ((-1), σ5) else (if inb a0 6 then (if inb a2 6 then (if gF σ5 5 a0.toNatClampNeg 2 = (-2) then some ((-11), σ5) else (if gF σ5 5 a2.toNatClampNeg 2 = (-2) then some ((-11), σ5) else (bnd (g_X5_isRow a0.toNatClampNeg σ5) fun r11 σ12 => (if r11 = 0 then some ((-12), σ12) else (if gF σ12 5 a0.toNatClampNeg 2 = gF σ12 5 a2.toNatClampNeg 2 then (bnd (g_X5_hasPlaces a0.toNatClampNeg a1 a4 σ12) fun r15 σ16 => (if r15 = 0 then some ((-13), σ16) else (bnd (g_X5_hasPlaces a2.toNatClampNeg a3 a4 σ16) fun r18 σ19 => (if r18 = 0 then some ((-13), σ19) else (if cpy_ok a1 a3 a4 60 60 then (lt (cpyL σ19 5 a0.toNatClampNeg 0 5 a2.toNatClampNeg 0 a1 a3 a4) fun σ22 => some (a4, σ22)) else none))))) else some ((-12), σ12)))))) else none) else none)))))
set_option maxRecDepth 100000 in
set_option maxHeartbeats 4000000 in
theorem ct_X8_shift {l : Launch} {cx : CX} (hA : AD cx) (a0 : Int32) (a1 : Int32) (a2 : Int32) (a3 : Int32) (a4 : Int32) (σ : AS) (Q : Int32 → AS → Prop) (w : wpO (g_X8_shift a0 a1 a2 a3 a4 σ) Q) : AMet l cx 2 yX8_shift cX8_shift 8 (some .int) [.inr (.inr (8, 0, 0)), .inl a0, .inl a1, .inl a2, .inl a3, .inl a4] σ (QI Q) := by
  unfold g_X8_shift at w
  refine AMet.of (own := RX8) (by decide) rfl hA (Nat.le_of_ble_eq_true rfl) ?_
  show RJ l cx 2 RX8 cX8_shift 8 (some .int) 0 [(0, .inr (.inr (8, 0, 0))), (1, .inl a0), (2, .inl a1), (3, .inl a2), (4, .inl a3), (5, .inl a4)] [] σ _
  refine R_iload_n dX8_shift_0 rfl 1 rfl ?_
  refine R_callSI (As := [.inl a0]) mi_X8_isShelf ml_RX8_88 rfl (Nat.le_of_ble_eq_true rfl) (by decide) dX8_shift_1 (ct_X8_isShelf hA a0 σ _ (wp_bnd w)) (fun r1 σ2 w => ?_)
  refine R_if_eq (tgt := 14) dX8_shift_4 (by decide) (fun c3 => ?_) (fun c3 => ?_)
  · have w := wp_t c3 w
    refine R_iconst (v := (-1)) dX8_shift_14 (by decide) ?_
    exact R_ireturn dX8_shift_15 rfl ⟨_, rfl, wp_some w⟩
  · have w := wp_f c3 w
    refine R_iload_n dX8_shift_7 rfl 3 rfl ?_
    refine R_callSI (As := [.inl a2]) mi_X8_isShelf ml_RX8_88 rfl (Nat.le_of_ble_eq_true rfl) (by decide) dX8_shift_8 (ct_X8_isShelf hA a2 σ2 _ (wp_bnd w)) (fun r4 σ5 w => ?_)
    refine R_if_ne (tgt := 16) dX8_shift_11 (by decide) (fun c6 => ?_) (fun c6 => ?_)
    · have w := wp_f c6 w
      refine R_aload_n dX8_shift_16 rfl 0 rfl ?_
      refine R_getfA (k := 10) acl8 oz8_0 (by decide) fl_RX8_71 dX8_shift_17 rfl ?_
      refine R_iload_n dX8_shift_20 rfl 1 rfl ?_
      obtain ⟨b7, w⟩ := wp_chk w
      refine R_aald rfl oz8_0 b7 dX8_shift_21 ?_
      refine R_astore (lv' := [(6, .inr (.inr (5, a0.toNatClampNeg, 0))), (0, .inr (.inr (8, 0, 0))), (1, .inl a0), (2, .inl a1), (3, .inl a2), (4, .inl a3), (5, .inl a4)]) dX8_shift_22 (by decide) rfl ?_
      refine R_aload_n dX8_shift_24 rfl 1 rfl ?_
      refine R_getfA (k := 10) acl8 oz8_0 (by decide) fl_RX8_71 dX8_shift_25 rfl ?_
      refine R_iload_n dX8_shift_28 rfl 4 rfl ?_
      obtain ⟨b8, w⟩ := wp_chk w
      refine R_aald rfl oz8_0 b8 dX8_shift_29 ?_
      refine R_astore (lv' := [(7, .inr (.inr (5, a2.toNatClampNeg, 0))), (6, .inr (.inr (5, a0.toNatClampNeg, 0))), (0, .inr (.inr (8, 0, 0))), (1, .inl a0), (2, .inl a1), (3, .inl a2), (4, .inl a3), (5, .inl a4)]) dX8_shift_30 (by decide) rfl ?_
      refine R_aload dX8_shift_32 1 rfl ?_
      refine R_getfI (k := 2) acl5 b7.2 (by decide) fl_RX8_92 dX8_shift_34 rfl ?_
      refine R_bipush (v := (-2)) dX8_shift_37 (by decide) ?_
      refine R_icmp_eq (tgt := 52) dX8_shift_39 (by decide) (fun c9 => ?_) (fun c9 => ?_)
      · have w := wp_t c9 w
        refine R_bipush (v := (-11)) dX8_shift_52 (by decide) ?_
        exact R_ireturn dX8_shift_54 rfl ⟨_, rfl, wp_some w⟩
      · have w := wp_f c9 w
        refine R_aload dX8_shift_42 0 rfl ?_
        refine R_getfI (k := 2) acl5 b8.2 (by decide) fl_RX8_92 dX8_shift_44 rfl ?_
        refine R_bipush (v := (-2)) dX8_shift_47 (by decide) ?_
        refine R_icmp_ne (tgt := 55) dX8_shift_49 (by decide) (fun c10 => ?_) (fun c10 => ?_)
        · have w := wp_f c10 w
          refine R_aload dX8_shift_55 1 rfl ?_
          refine R_callVI (As := []) acl5 rfl b7.2 mi_X5_isRow ml_RX8_284 rfl (Nat.le_of_ble_eq_true rfl) (by decide) dX8_shift_57 (ct_X5_isRow hA a0.toNatClampNeg b7.2 σ5 _ (wp_bnd w)) (fun r11 σ12 w => ?_)
          refine R_if_eq (tgt := 76) dX8_shift_60 (by decide) (fun c13 => ?_) (fun c13 => ?_)
          · have w := wp_t c13 w
            refine R_bipush (v := (-12)) dX8_shift_76 (by decide) ?_
            exact R_ireturn dX8_shift_78 rfl ⟨_, rfl, wp_some w⟩
          · have w := wp_f c13 w
            refine R_aload dX8_shift_63 1 rfl ?_
            refine R_getfI (k := 2) acl5 b7.2 (by decide) fl_RX8_92 dX8_shift_65 rfl ?_
            refine R_aload dX8_shift_68 0 rfl ?_
            refine R_getfI (k := 2) acl5 b8.2 (by decide) fl_RX8_92 dX8_shift_70 rfl ?_
            refine R_icmp_eq (tgt := 79) dX8_shift_73 (by decide) (fun c14 => ?_) (fun c14 => ?_)
            · have w := wp_t c14 w
              refine R_aload dX8_shift_79 1 rfl ?_
              refine R_iload_n dX8_shift_81 rfl 4 rfl ?_
              refine R_iload dX8_shift_82 7 rfl ?_
              refine R_callVI (As := [.inl a1, .inl a4]) acl5 rfl b7.2 mi_X5_hasPlaces ml_RX8_287 rfl (Nat.le_of_ble_eq_true rfl) (by decide) dX8_shift_84 (ct_X5_hasPlaces hA a0.toNatClampNeg b7.2 a1 a4 σ12 _ (wp_bnd w)) (fun r15 σ16 w => ?_)
              refine R_if_eq (tgt := 102) dX8_shift_87 (by decide) (fun c17 => ?_) (fun c17 => ?_)
              · have w := wp_t c17 w
                refine R_bipush (v := (-13)) dX8_shift_102 (by decide) ?_
                exact R_ireturn dX8_shift_104 rfl ⟨_, rfl, wp_some w⟩
              · have w := wp_f c17 w
                refine R_aload dX8_shift_90 0 rfl ?_
                refine R_iload dX8_shift_92 6 rfl ?_
                refine R_iload dX8_shift_94 7 rfl ?_
                refine R_callVI (As := [.inl a3, .inl a4]) acl5 rfl b8.2 mi_X5_hasPlaces ml_RX8_287 rfl (Nat.le_of_ble_eq_true rfl) (by decide) dX8_shift_96 (ct_X5_hasPlaces hA a2.toNatClampNeg b8.2 a3 a4 σ16 _ (wp_bnd w)) (fun r18 σ19 w => ?_)
                refine R_if_ne (tgt := 105) dX8_shift_99 (by decide) (fun c20 => ?_) (fun c20 => ?_)
                · have w := wp_f c20 w
                  refine R_aload dX8_shift_105 1 rfl ?_
                  refine R_getfA (k := 0) acl5 b7.2 (by decide) fl_RX8_290 dX8_shift_107 rfl ?_
                  refine R_iload_n dX8_shift_110 rfl 4 rfl ?_
                  refine R_aload dX8_shift_111 0 rfl ?_
                  refine R_getfA (k := 0) acl5 b8.2 (by decide) fl_RX8_290 dX8_shift_113 rfl ?_
                  refine R_iload dX8_shift_116 6 rfl ?_
                  refine R_iload dX8_shift_118 7 rfl ?_
                  obtain ⟨b21, w⟩ := wp_chk w
                  refine R_copyL rfl rfl b7.2 b8.2 b21 ml_RX8_294 (by decide) (Nat.le_of_ble_eq_true rfl) dX8_shift_120 ?_
                  refine R_nameS w ?_; clear w; intro σ22 w
                  refine R_iload dX8_shift_123 7 rfl ?_
                  exact R_ireturn dX8_shift_125 rfl ⟨_, rfl, wp_some w⟩
                · have w := wp_t c20 w
                  refine R_bipush (v := (-13)) dX8_shift_102 (by decide) ?_
                  exact R_ireturn dX8_shift_104 rfl ⟨_, rfl, wp_some w⟩
            · have w := wp_f c14 w
              refine R_bipush (v := (-12)) dX8_shift_76 (by decide) ?_
              exact R_ireturn dX8_shift_78 rfl ⟨_, rfl, wp_some w⟩
        · have w := wp_t c10 w
          refine R_bipush (v := (-11)) dX8_shift_52 (by decide) ?_
          exact R_ireturn dX8_shift_54 rfl ⟨_, rfl, wp_some w⟩
    · have w := wp_t c6 w
      refine R_iconst (v := (-1)) dX8_shift_14 (by decide) ?_
      exact R_ireturn dX8_shift_15 rfl ⟨_, rfl, wp_some w⟩
def g_X8_sitter (a0 : Int32) (σ : AS) : Option (Int32 × AS) := (if a0 < 0 then some ((-1), σ) else (if (999 : Int32) < a0 then some ((-1), σ) else (if gF σ 1 0 11 = 0 then (bnd (g_X6_add (a0 / 100) (rmi (a0 / 10) 10) (rmi a0 10) σ) fun r4 σ5 => some (r4, σ5)) else some ((-5), σ))))
set_option maxRecDepth 100000 in
set_option maxHeartbeats 4000000 in
theorem ct_X8_sitter {l : Launch} {cx : CX} (hA : AD cx) (a0 : Int32) (σ : AS) (Q : Int32 → AS → Prop) (w : wpO (g_X8_sitter a0 σ) Q) : AMet l cx 3 yX8_sitter cX8_sitter 2 (some .int) [.inr (.inr (8, 0, 0)), .inl a0] σ (QI Q) := by
  unfold g_X8_sitter at w
  refine AMet.of (own := RX8) (by decide) rfl hA (Nat.le_of_ble_eq_true rfl) ?_
  show RJ l cx 3 RX8 cX8_sitter 2 (some .int) 0 [(0, .inr (.inr (8, 0, 0))), (1, .inl a0)] [] σ _
  refine R_iload_n dX8_sitter_0 rfl 1 rfl ?_
  refine R_if_lt (tgt := 11) dX8_sitter_1 (by decide) (fun c1 => ?_) (fun c1 => ?_)
  · have w := wp_t c1 w
    refine R_iconst (v := (-1)) dX8_sitter_11 (by decide) ?_
    exact R_ireturn dX8_sitter_12 rfl ⟨_, rfl, wp_some w⟩
  · have w := wp_f c1 w
    refine R_iload_n dX8_sitter_4 rfl 1 rfl ?_
    refine R_sipush (v := 999) dX8_sitter_5 (by decide) ?_
    refine R_icmp_le (tgt := 13) dX8_sitter_8 (by decide) (fun c2 => ?_) (fun c2 => ?_)
    · have w := wp_f c2 w
      refine R_aload_n dX8_sitter_13 rfl 0 rfl ?_
      refine R_getfO (k := 4) acl8 oz8_0 (by decide) fl_RX8_38 dX8_sitter_14 rfl ?_
      refine R_getfI (k := 11) acl1 oz1_0 (by decide) fl_RX8_80 dX8_sitter_17 rfl ?_
      refine R_if_eq (tgt := 26) dX8_sitter_20 (by decide) (fun c3 => ?_) (fun c3 => ?_)
      · have w := wp_t c3 w
        refine R_aload_n dX8_sitter_26 rfl 0 rfl ?_
        refine R_getfO (k := 0) acl8 oz8_0 (by decide) fl_RX8_10 dX8_sitter_27 rfl ?_
        refine R_iload_n dX8_sitter_30 rfl 1 rfl ?_
        refine R_bipush (v := 100) dX8_sitter_31 (by decide) ?_
        refine R_idiv dX8_sitter_33 (by decide) ?_
        refine R_iload_n dX8_sitter_34 rfl 1 rfl ?_
        refine R_bipush (v := 10) dX8_sitter_35 (by decide) ?_
        refine R_idiv dX8_sitter_37 (by decide) ?_
        refine R_bipush (v := 10) dX8_sitter_38 (by decide) ?_
        refine R_irem dX8_sitter_40 (by decide) ?_
        refine R_iload_n dX8_sitter_41 rfl 1 rfl ?_
        refine R_bipush (v := 10) dX8_sitter_42 (by decide) ?_
        refine R_irem dX8_sitter_44 (by decide) ?_
        refine R_callVI (As := [.inl (a0 / 100), .inl (rmi (a0 / 10) 10), .inl (rmi a0 10)]) acl6 rfl oz6_0 mi_X6_add ml_RX8_84 rfl (Nat.le_of_ble_eq_true rfl) (by decide) dX8_sitter_45 (ct_X6_add hA (a0 / 100) (rmi (a0 / 10) 10) (rmi a0 10) σ _ (wp_bnd w)) (fun r4 σ5 w => ?_)
        exact R_ireturn dX8_sitter_48 rfl ⟨_, rfl, wp_some w⟩
      · have w := wp_f c3 w
        refine R_bipush (v := (-5)) dX8_sitter_23 (by decide) ?_
        exact R_ireturn dX8_sitter_25 rfl ⟨_, rfl, wp_some w⟩
    · have w := wp_t c2 w
      refine R_iconst (v := (-1)) dX8_sitter_11 (by decide) ?_
      exact R_ireturn dX8_sitter_12 rfl ⟨_, rfl, wp_some w⟩
def g_X8_sitters_65   (p4 : Nat) : Nat → Int32 → Int32 → Int32 → AS → Option (Int32 × AS)
  | 0, _, _, _, _ => none
  | f0 + 1, v2, v3, v5, σ => (if v5 < v3 then (bnd (g_X8_comesFrom p4 (v2 + (3 * v5)) σ) fun r10 σ11 => (if r10 = 0 then some (v5, σ11) else (g_X8_sitters_65 p4 f0) v2 v3 (v5 + 1) σ11)) else some (v5, σ))
set_option maxRecDepth 100000 in
set_option maxHeartbeats 4000000 in
theorem rk_X8_sitters_65 {l : Launch} {cx : CX} (hA : AD cx)   (p4 : Nat) (hp4 : p4 < am_cnt 5) (Q : Int32 → AS → Prop) : ∀ (f0 : Nat) (v2 : Int32) (v3 : Int32) (v5 : Int32) (σ : AS), wpO (g_X8_sitters_65 p4 f0 v2 v3 v5 σ) Q → RJ l cx 4 RX8 cX8_sitters 6 (some .int) 65 [(0, .inr (.inr (8, 0, 0))), (2, .inl v2), (3, .inl v3), (4, .inr (.inr (5, p4, 0))), (5, .inl v5)] [] σ (QI Q) := by
  intro f0
  induction f0 with
  | zero => intro v2 v3 v5 σ w; exact wp_no w
  | succ f0 ih =>
    intro v2 v3 v5 σ w
    rw [g_X8_sitters_65] at w
    refine R_iload dX8_sitters_65 4 rfl ?_
    refine R_iload_n dX8_sitters_67 rfl 2 rfl ?_
    refine R_icmp_ge (tgt := 92) dX8_sitters_68 (by decide) (fun c9 => ?_) (fun c9 => ?_)
    · have w := wp_f c9 w
      refine R_iload dX8_sitters_92 4 rfl ?_
      exact R_ireturn dX8_sitters_94 rfl ⟨_, rfl, wp_some w⟩
    · have w := wp_t c9 w
      refine R_aload_n dX8_sitters_71 rfl 0 rfl ?_
      refine R_aload dX8_sitters_72 3 rfl ?_
      refine R_iload_n dX8_sitters_74 rfl 1 rfl ?_
      refine R_iconst (v := 3) dX8_sitters_75 (by decide) ?_
      refine R_iload dX8_sitters_76 4 rfl ?_
      refine R_imul dX8_sitters_78 ?_
      refine R_iadd dX8_sitters_79 ?_
      refine R_callVI (As := [.inr (.inr (5, p4, 0)), .inl (v2 + (3 * v5))]) acl8 rfl oz8_0 mi_X8_comesFrom ml_RX8_95 rfl (Nat.le_of_ble_eq_true rfl) (by decide) dX8_sitters_80 (ct_X8_comesFrom hA p4 hp4 (v2 + (3 * v5)) σ _ (wp_bnd w)) (fun r10 σ11 w => ?_)
      refine R_if_eq (tgt := 92) dX8_sitters_83 (by decide) (fun c12 => ?_) (fun c12 => ?_)
      · have w := wp_t c12 w
        refine R_iload dX8_sitters_92 4 rfl ?_
        exact R_ireturn dX8_sitters_94 rfl ⟨_, rfl, wp_some w⟩
      · have w := wp_f c12 w
        refine R_iinc (v := v5 + 1) (lv' := [(5, .inl (v5 + 1)), (0, .inr (.inr (8, 0, 0))), (2, .inl v2), (3, .inl v3), (4, .inr (.inr (5, p4, 0)))]) dX8_sitters_86 4 rfl rfl (by decide) rfl ?_
        refine R_goto (tgt := 65) dX8_sitters_89 (by decide) ?_
        refine R_sub [1, 2, 3, 4, 0] rfl ?_
        exact ih v2 v3 (v5 + 1) σ11 w
def g_X8_sitters_49   (p4 : Nat) (v2 : Int32) (v3 : Int32) (σ : AS) : Option (Int32 × AS) := (if gF σ 1 0 11 = 0 then g_X8_sitters_65 p4 400 v2 v3 0 σ else some ((-5), σ))
set_option maxRecDepth 100000 in
set_option maxHeartbeats 4000000 in
theorem rk_X8_sitters_49 {l : Launch} {cx : CX} (hA : AD cx)   (p4 : Nat) (hp4 : p4 < am_cnt 5) (Q : Int32 → AS → Prop) (v2 : Int32) (v3 : Int32) (σ : AS) (w : wpO (g_X8_sitters_49 p4 v2 v3 σ) Q) : RJ l cx 4 RX8 cX8_sitters 6 (some .int) 49 [(0, .inr (.inr (8, 0, 0))), (2, .inl v2), (3, .inl v3), (4, .inr (.inr (5, p4, 0)))] [] σ (QI Q) := by
  unfold g_X8_sitters_49 at w
  refine R_aload_n dX8_sitters_49 rfl 0 rfl ?_
  refine R_getfO (k := 4) acl8 oz8_0 (by decide) fl_RX8_38 dX8_sitters_50 rfl ?_
  refine R_getfI (k := 11) acl1 oz1_0 (by decide) fl_RX8_80 dX8_sitters_53 rfl ?_
  refine R_if_eq (tgt := 62) dX8_sitters_56 (by decide) (fun c8 => ?_) (fun c8 => ?_)
  · have w := wp_t c8 w
    refine R_iconst (v := 0) dX8_sitters_62 (by decide) ?_
    refine R_istore (lv' := [(5, .inl 0), (0, .inr (.inr (8, 0, 0))), (2, .inl v2), (3, .inl v3), (4, .inr (.inr (5, p4, 0)))]) dX8_sitters_63 (by decide) rfl ?_
    refine R_sub [1, 2, 3, 4, 0] rfl ?_
    exact rk_X8_sitters_65 hA p4 hp4 _ 400 v2 v3 0 σ w
  · have w := wp_f c8 w
    refine R_bipush (v := (-5)) dX8_sitters_59 (by decide) ?_
    exact R_ireturn dX8_sitters_61 rfl ⟨_, rfl, wp_some w⟩
def g_X8_sitters (a0 : Int32) (a1 : Int32) (a2 : Int32) (σ : AS) : Option (Int32 × AS) := (bnd (g_X8_isShelf a0 σ) fun r1 σ2 => (if r1 = 0 then some ((-1), σ2) else (if a2 < 1 then some ((-1), σ2) else (if (8 : Int32) < a2 then some ((-1), σ2) else (if inb a0 6 then (if gF σ2 5 a0.toNatClampNeg 2 = (-2) then g_X8_sitters_49 a0.toNatClampNeg a1 a2 σ2 else (if gF σ2 5 a0.toNatClampNeg 2 = 0 then g_X8_sitters_49 a0.toNatClampNeg a1 a2 σ2 else some ((-12), σ2))) else none)))))
set_option maxRecDepth 100000 in
set_option maxHeartbeats 4000000 in
theorem ct_X8_sitters {l : Launch} {cx : CX} (hA : AD cx) (a0 : Int32) (a1 : Int32) (a2 : Int32) (σ : AS) (Q : Int32 → AS → Prop) (w : wpO (g_X8_sitters a0 a1 a2 σ) Q) : AMet l cx 4 yX8_sitters cX8_sitters 6 (some .int) [.inr (.inr (8, 0, 0)), .inl a0, .inl a1, .inl a2] σ (QI Q) := by
  unfold g_X8_sitters at w
  refine AMet.of (own := RX8) (by decide) rfl hA (Nat.le_of_ble_eq_true rfl) ?_
  show RJ l cx 4 RX8 cX8_sitters 6 (some .int) 0 [(0, .inr (.inr (8, 0, 0))), (1, .inl a0), (2, .inl a1), (3, .inl a2)] [] σ _
  refine R_iload_n dX8_sitters_0 rfl 1 rfl ?_
  refine R_callSI (As := [.inl a0]) mi_X8_isShelf ml_RX8_88 rfl (Nat.le_of_ble_eq_true rfl) (by decide) dX8_sitters_1 (ct_X8_isShelf hA a0 σ _ (wp_bnd w)) (fun r1 σ2 w => ?_)
  refine R_if_eq (tgt := 18) dX8_sitters_4 (by decide) (fun c3 => ?_) (fun c3 => ?_)
  · have w := wp_t c3 w
    refine R_iconst (v := (-1)) dX8_sitters_18 (by decide) ?_
    exact R_ireturn dX8_sitters_19 rfl ⟨_, rfl, wp_some w⟩
  · have w := wp_f c3 w
    refine R_iload_n dX8_sitters_7 rfl 3 rfl ?_
    refine R_iconst (v := 1) dX8_sitters_8 (by decide) ?_
    refine R_icmp_lt (tgt := 18) dX8_sitters_9 (by decide) (fun c4 => ?_) (fun c4 => ?_)
    · have w := wp_t c4 w
      refine R_iconst (v := (-1)) dX8_sitters_18 (by decide) ?_
      exact R_ireturn dX8_sitters_19 rfl ⟨_, rfl, wp_some w⟩
    · have w := wp_f c4 w
      refine R_iload_n dX8_sitters_12 rfl 3 rfl ?_
      refine R_bipush (v := 8) dX8_sitters_13 (by decide) ?_
      refine R_icmp_le (tgt := 20) dX8_sitters_15 (by decide) (fun c5 => ?_) (fun c5 => ?_)
      · have w := wp_f c5 w
        refine R_aload_n dX8_sitters_20 rfl 0 rfl ?_
        refine R_getfA (k := 10) acl8 oz8_0 (by decide) fl_RX8_71 dX8_sitters_21 rfl ?_
        refine R_iload_n dX8_sitters_24 rfl 1 rfl ?_
        obtain ⟨b6, w⟩ := wp_chk w
        refine R_aald rfl oz8_0 b6 dX8_sitters_25 ?_
        refine R_astore (lv' := [(4, .inr (.inr (5, a0.toNatClampNeg, 0))), (0, .inr (.inr (8, 0, 0))), (1, .inl a0), (2, .inl a1), (3, .inl a2)]) dX8_sitters_26 (by decide) rfl ?_
        refine R_aload dX8_sitters_28 0 rfl ?_
        refine R_getfI (k := 2) acl5 b6.2 (by decide) fl_RX8_92 dX8_sitters_30 rfl ?_
        refine R_bipush (v := (-2)) dX8_sitters_33 (by decide) ?_
        refine R_icmp_eq (tgt := 49) dX8_sitters_35 (by decide) (fun c7 => ?_) (fun c7 => ?_)
        · have w := wp_t c7 w
          refine R_sub [1, 3, 4, 0] rfl ?_
          exact rk_X8_sitters_49 hA a0.toNatClampNeg b6.2 _ a1 a2 σ2 w
        · have w := wp_f c7 w
          refine R_aload dX8_sitters_38 0 rfl ?_
          refine R_getfI (k := 2) acl5 b6.2 (by decide) fl_RX8_92 dX8_sitters_40 rfl ?_
          refine R_if_eq (tgt := 49) dX8_sitters_43 (by decide) (fun c13 => ?_) (fun c13 => ?_)
          · have w := wp_t c13 w
            refine R_sub [1, 3, 4, 0] rfl ?_
            exact rk_X8_sitters_49 hA a0.toNatClampNeg b6.2 _ a1 a2 σ2 w
          · have w := wp_f c13 w
            refine R_bipush (v := (-12)) dX8_sitters_46 (by decide) ?_
            exact R_ireturn dX8_sitters_48 rfl ⟨_, rfl, wp_some w⟩
      · have w := wp_t c5 w
        refine R_iconst (v := (-1)) dX8_sitters_18 (by decide) ?_
        exact R_ireturn dX8_sitters_19 rfl ⟨_, rfl, wp_some w⟩
def g_X8_strength_38    (v1 : Int32) (v2 : Int32) (v3 : Int32) (σ : AS) : Option (Int32 × AS) := (if v3 < 0 then some ((-1), σ) else (if (99 : Int32) < v3 then some ((-1), σ) else (if gF σ 1 0 11 < 24 then (bnd (g_X6_isThere v1 (gF σ 1 0 11) σ) fun r11 σ12 => (if r11 = 0 then some ((-1), σ12) else (bnd (g_X1_strengthAt 0 v1 v2 v3 σ12) fun r14 σ15 => some (r14, σ15)))) else some ((-1), σ))))
set_option maxRecDepth 100000 in
set_option maxHeartbeats 4000000 in
theorem rk_X8_strength_38 {l : Launch} {cx : CX} (hA : AD cx)    (Q : Int32 → AS → Prop) (v1 : Int32) (v2 : Int32) (v3 : Int32) (σ : AS) (w : wpO (g_X8_strength_38 v1 v2 v3 σ) Q) : RJ l cx 4 RX8 cX8_strength 4 (some .int) 38 [(0, .inr (.inr (8, 0, 0))), (1, .inl v1), (2, .inl v2), (3, .inl v3)] [] σ (QI Q) := by
  unfold g_X8_strength_38 at w
  refine R_iload_n dX8_strength_38 rfl 3 rfl ?_
  refine R_if_lt (tgt := 60) dX8_strength_39 (by decide) (fun c8 => ?_) (fun c8 => ?_)
  · have w := wp_t c8 w
    refine R_iconst (v := (-1)) dX8_strength_60 (by decide) ?_
    exact R_ireturn dX8_strength_61 rfl ⟨_, rfl, wp_some w⟩
  · have w := wp_f c8 w
    refine R_iload_n dX8_strength_42 rfl 3 rfl ?_
    refine R_bipush (v := 99) dX8_strength_43 (by decide) ?_
    refine R_icmp_gt (tgt := 60) dX8_strength_45 (by decide) (fun c9 => ?_) (fun c9 => ?_)
    · have w := wp_t c9 w
      refine R_iconst (v := (-1)) dX8_strength_60 (by decide) ?_
      exact R_ireturn dX8_strength_61 rfl ⟨_, rfl, wp_some w⟩
    · have w := wp_f c9 w
      refine R_aload_n dX8_strength_48 rfl 0 rfl ?_
      refine R_getfO (k := 4) acl8 oz8_0 (by decide) fl_RX8_38 dX8_strength_49 rfl ?_
      refine R_getfI (k := 11) acl1 oz1_0 (by decide) fl_RX8_80 dX8_strength_52 rfl ?_
      refine R_bipush (v := 24) dX8_strength_55 (by decide) ?_
      refine R_icmp_lt (tgt := 62) dX8_strength_57 (by decide) (fun c10 => ?_) (fun c10 => ?_)
      · have w := wp_t c10 w
        refine R_aload_n dX8_strength_62 rfl 0 rfl ?_
        refine R_getfO (k := 0) acl8 oz8_0 (by decide) fl_RX8_10 dX8_strength_63 rfl ?_
        refine R_iload_n dX8_strength_66 rfl 1 rfl ?_
        refine R_aload_n dX8_strength_67 rfl 0 rfl ?_
        refine R_getfO (k := 4) acl8 oz8_0 (by decide) fl_RX8_38 dX8_strength_68 rfl ?_
        refine R_getfI (k := 11) acl1 oz1_0 (by decide) fl_RX8_80 dX8_strength_71 rfl ?_
        refine R_callVI (As := [.inl v1, .inl (gF σ 1 0 11)]) acl6 rfl oz6_0 mi_X6_isThere ml_RX8_162 rfl (Nat.le_of_ble_eq_true rfl) (by decide) dX8_strength_74 (ct_X6_isThere hA v1 (gF σ 1 0 11) σ _ (wp_bnd w)) (fun r11 σ12 w => ?_)
        refine R_if_ne (tgt := 82) dX8_strength_77 (by decide) (fun c13 => ?_) (fun c13 => ?_)
        · have w := wp_f c13 w
          refine R_aload_n dX8_strength_82 rfl 0 rfl ?_
          refine R_getfO (k := 4) acl8 oz8_0 (by decide) fl_RX8_38 dX8_strength_83 rfl ?_
          refine R_iload_n dX8_strength_86 rfl 1 rfl ?_
          refine R_iload_n dX8_strength_87 rfl 2 rfl ?_
          refine R_iload_n dX8_strength_88 rfl 3 rfl ?_
          refine R_callVI (As := [.inl v1, .inl v2, .inl v3]) acl1 rfl oz1_0 mi_X1_strengthAt ml_RX8_166 rfl (Nat.le_of_ble_eq_true rfl) (by decide) dX8_strength_89 (ct_X1_strengthAt hA 0 oz1_0 v1 v2 v3 σ12 _ (wp_bnd w)) (fun r14 σ15 w => ?_)
          exact R_ireturn dX8_strength_92 rfl ⟨_, rfl, wp_some w⟩
        · have w := wp_t c13 w
          refine R_iconst (v := (-1)) dX8_strength_80 (by decide) ?_
          exact R_ireturn dX8_strength_81 rfl ⟨_, rfl, wp_some w⟩
      · have w := wp_f c10 w
        refine R_iconst (v := (-1)) dX8_strength_60 (by decide) ?_
        exact R_ireturn dX8_strength_61 rfl ⟨_, rfl, wp_some w⟩
def g_X8_strength (a0 : Int32) (a1 : Int32) (a2 : Int32) (σ : AS) : Option (Int32 × AS) := (bnd (g_X6_has a0 σ) fun r1 σ2 => (if r1 = 0 then some ((-1), σ2) else (bnd (g_X6_hasRest a1 σ2) fun r4 σ5 => (if r4 = 0 then some ((-1), σ5) else (if a1 = a0 then g_X8_strength_38 a0 a1 a2 σ5 else (if a1 = a0 - 1 then g_X8_strength_38 a0 a1 a2 σ5 else some ((-1), σ5)))))))
set_option maxRecDepth 100000 in
set_option maxHeartbeats 4000000 in
theorem ct_X8_strength {l : Launch} {cx : CX} (hA : AD cx) (a0 : Int32) (a1 : Int32) (a2 : Int32) (σ : AS) (Q : Int32 → AS → Prop) (w : wpO (g_X8_strength a0 a1 a2 σ) Q) : AMet l cx 4 yX8_strength cX8_strength 4 (some .int) [.inr (.inr (8, 0, 0)), .inl a0, .inl a1, .inl a2] σ (QI Q) := by
  unfold g_X8_strength at w
  refine AMet.of (own := RX8) (by decide) rfl hA (Nat.le_of_ble_eq_true rfl) ?_
  show RJ l cx 4 RX8 cX8_strength 4 (some .int) 0 [(0, .inr (.inr (8, 0, 0))), (1, .inl a0), (2, .inl a1), (3, .inl a2)] [] σ _
  refine R_aload_n dX8_strength_0 rfl 0 rfl ?_
  refine R_getfO (k := 0) acl8 oz8_0 (by decide) fl_RX8_10 dX8_strength_1 rfl ?_
  refine R_iload_n dX8_strength_4 rfl 1 rfl ?_
  refine R_callVI (As := [.inl a0]) acl6 rfl oz6_0 mi_X6_has ml_RX8_107 rfl (Nat.le_of_ble_eq_true rfl) (by decide) dX8_strength_5 (ct_X6_has hA a0 σ _ (wp_bnd w)) (fun r1 σ2 w => ?_)
  refine R_if_eq (tgt := 22) dX8_strength_8 (by decide) (fun c3 => ?_) (fun c3 => ?_)
  · have w := wp_t c3 w
    refine R_iconst (v := (-1)) dX8_strength_22 (by decide) ?_
    exact R_ireturn dX8_strength_23 rfl ⟨_, rfl, wp_some w⟩
  · have w := wp_f c3 w
    refine R_aload_n dX8_strength_11 rfl 0 rfl ?_
    refine R_getfO (k := 0) acl8 oz8_0 (by decide) fl_RX8_10 dX8_strength_12 rfl ?_
    refine R_iload_n dX8_strength_15 rfl 2 rfl ?_
    refine R_callVI (As := [.inl a1]) acl6 rfl oz6_0 mi_X6_hasRest ml_RX8_150 rfl (Nat.le_of_ble_eq_true rfl) (by decide) dX8_strength_16 (ct_X6_hasRest hA a1 σ2 _ (wp_bnd w)) (fun r4 σ5 w => ?_)
    refine R_if_ne (tgt := 24) dX8_strength_19 (by decide) (fun c6 => ?_) (fun c6 => ?_)
    · have w := wp_f c6 w
      refine R_iload_n dX8_strength_24 rfl 2 rfl ?_
      refine R_iload_n dX8_strength_25 rfl 1 rfl ?_
      refine R_icmp_eq (tgt := 38) dX8_strength_26 (by decide) (fun c7 => ?_) (fun c7 => ?_)
      · have w := wp_t c7 w
        refine R_sub [0, 1, 2, 3] rfl ?_
        exact rk_X8_strength_38 hA _ a0 a1 a2 σ5 w
      · have w := wp_f c7 w
        refine R_iload_n dX8_strength_29 rfl 2 rfl ?_
        refine R_iload_n dX8_strength_30 rfl 1 rfl ?_
        refine R_iconst (v := 1) dX8_strength_31 (by decide) ?_
        refine R_isub dX8_strength_32 ?_
        refine R_icmp_eq (tgt := 38) dX8_strength_33 (by decide) (fun c16 => ?_) (fun c16 => ?_)
        · have w := wp_t c16 w
          refine R_sub [0, 1, 2, 3] rfl ?_
          exact rk_X8_strength_38 hA _ a0 a1 a2 σ5 w
        · have w := wp_f c16 w
          refine R_iconst (v := (-1)) dX8_strength_36 (by decide) ?_
          exact R_ireturn dX8_strength_37 rfl ⟨_, rfl, wp_some w⟩
    · have w := wp_t c6 w
      refine R_iconst (v := (-1)) dX8_strength_22 (by decide) ?_
      exact R_ireturn dX8_strength_23 rfl ⟨_, rfl, wp_some w⟩
def g_X2_isUnder_40    (v2 : Int32) (v3 : Int32) (σ : AS) : Option (Int32 × AS) := (if v3 = v2 then some (1, σ) else some (0, σ))
set_option maxRecDepth 100000 in
set_option maxHeartbeats 4000000 in
theorem rk_X2_isUnder_40 {l : Launch} {cx : CX} (hA : AD cx)    (Q : Int32 → AS → Prop) (v2 : Int32) (v3 : Int32) (σ : AS) (w : wpO (g_X2_isUnder_40 v2 v3 σ) Q) : RJ l cx 2 RX2 cX2_isUnder 5 (some .boolean) 40 [(2, .inl v2), (3, .inl v3)] [] σ (QI Q) := by
  unfold g_X2_isUnder_40 at w
  refine R_iload_n dX2_isUnder_40 rfl 1 rfl ?_
  refine R_iload_n dX2_isUnder_41 rfl 0 rfl ?_
  refine R_icmp_ne (tgt := 49) dX2_isUnder_42 (by decide) (fun c4 => ?_) (fun c4 => ?_)
  · have w := wp_f c4 w
    refine R_iconst (v := 0) dX2_isUnder_49 (by decide) ?_
    exact R_zreturn dX2_isUnder_50 rfl (by decide) ⟨_, rfl, wp_some w⟩
  · have w := wp_t c4 w
    refine R_iconst (v := 1) dX2_isUnder_45 (by decide) ?_
    refine R_goto (tgt := 50) dX2_isUnder_46 (by decide) ?_
    exact R_zreturn dX2_isUnder_50 rfl (by decide) ⟨_, rfl, wp_some w⟩
def g_X2_isUnder_9    : Nat → Int32 → Int32 → Int32 → AS → Option (Int32 × AS)
  | 0, _, _, _, _ => none
  | f0 + 1, v2, v3, v4, σ => (if v4 < 8 then (bnd (g_X2_isKind v3 σ) fun r5 σ6 => (if r5 = 0 then g_X2_isUnder_40 v2 v3 σ6 else (if v3 = v2 then g_X2_isUnder_40 v2 v3 σ6 else (if inb v3 8 then (lt (am_st 0 v3.toNatClampNeg) fun x10 => (g_X2_isUnder_9 f0) v2 x10 (v4 + 1) σ6) else none)))) else g_X2_isUnder_40 v2 v3 σ)
set_option maxRecDepth 100000 in
set_option maxHeartbeats 4000000 in
theorem rk_X2_isUnder_9 {l : Launch} {cx : CX} (hA : AD cx)    (Q : Int32 → AS → Prop) : ∀ (f0 : Nat) (v2 : Int32) (v3 : Int32) (v4 : Int32) (σ : AS), wpO (g_X2_isUnder_9 f0 v2 v3 v4 σ) Q → RJ l cx 2 RX2 cX2_isUnder 5 (some .boolean) 9 [(2, .inl v2), (3, .inl v3), (4, .inl v4)] [] σ (QI Q) := by
  intro f0
  induction f0 with
  | zero => intro v2 v3 v4 σ w; exact wp_no w
  | succ f0 ih =>
    intro v2 v3 v4 σ w
    rw [g_X2_isUnder_9] at w
    refine R_iload dX2_isUnder_9 2 rfl ?_
    refine R_bipush (v := 8) dX2_isUnder_11 (by decide) ?_
    refine R_icmp_ge (tgt := 40) dX2_isUnder_13 (by decide) (fun c3 => ?_) (fun c3 => ?_)
    · have w := wp_f c3 w
      refine R_sub [0, 1] rfl ?_
      exact rk_X2_isUnder_40 hA _ v2 v3 σ w
    · have w := wp_t c3 w
      refine R_iload_n dX2_isUnder_16 rfl 1 rfl ?_
      refine R_callSI (As := [.inl v3]) mi_X2_isKind ml_RX2_36 rfl (Nat.le_of_ble_eq_true rfl) (by decide) dX2_isUnder_17 (ct_X2_isKind hA v3 σ _ (wp_bnd w)) (fun r5 σ6 w => ?_)
      refine R_if_eq (tgt := 40) dX2_isUnder_20 (by decide) (fun c7 => ?_) (fun c7 => ?_)
      · have w := wp_t c7 w
        refine R_sub [0, 1] rfl ?_
        exact rk_X2_isUnder_40 hA _ v2 v3 σ6 w
      · have w := wp_f c7 w
        refine R_iload_n dX2_isUnder_23 rfl 1 rfl ?_
        refine R_iload_n dX2_isUnder_24 rfl 0 rfl ?_
        refine R_icmp_eq (tgt := 40) dX2_isUnder_25 (by decide) (fun c8 => ?_) (fun c8 => ?_)
        · have w := wp_t c8 w
          refine R_sub [0, 1] rfl ?_
          exact rk_X2_isUnder_40 hA _ v2 v3 σ6 w
        · have w := wp_f c8 w
          refine R_gets0 fl_RX2_39 dX2_isUnder_28 ?_
          refine R_iload_n dX2_isUnder_31 rfl 1 rfl ?_
          obtain ⟨b9, w⟩ := wp_chk w
          refine R_sald (k := 0) (by decide) rfl b9 dX2_isUnder_32 ?_
          refine R_nameI w ?_; clear w; intro x10 w
          refine R_istore_n (lv' := [(3, .inl x10), (2, .inl v2), (4, .inl v4)]) dX2_isUnder_33 rfl (by decide) rfl ?_
          refine R_iinc (v := v4 + 1) (lv' := [(4, .inl (v4 + 1)), (3, .inl x10), (2, .inl v2)]) dX2_isUnder_34 2 rfl rfl (by decide) rfl ?_
          refine R_goto (tgt := 9) dX2_isUnder_37 (by decide) ?_
          refine R_sub [2, 1, 0] rfl ?_
          exact ih v2 x10 (v4 + 1) σ6 w
def g_X2_isUnder (a0 : Int32) (a1 : Int32) (σ : AS) : Option (Int32 × AS) := (bnd (g_X2_kindOf a0 σ) fun r1 σ2 => g_X2_isUnder_9 400 a1 r1 0 σ2)
set_option maxRecDepth 100000 in
set_option maxHeartbeats 4000000 in
theorem ct_X2_isUnder {l : Launch} {cx : CX} (hA : AD cx) (a0 : Int32) (a1 : Int32) (σ : AS) (Q : Int32 → AS → Prop) (w : wpO (g_X2_isUnder a0 a1 σ) Q) : AMet l cx 2 yX2_isUnder cX2_isUnder 5 (some .boolean) [.inr (.inr (2, 0, 0)), .inl a0, .inl a1] σ (QI Q) := by
  unfold g_X2_isUnder at w
  refine AMet.of (own := RX2) (by decide) rfl hA (Nat.le_of_ble_eq_true rfl) ?_
  show RJ l cx 2 RX2 cX2_isUnder 5 (some .boolean) 0 [(0, .inr (.inr (2, 0, 0))), (1, .inl a0), (2, .inl a1)] [] σ _
  refine R_aload_n dX2_isUnder_0 rfl 0 rfl ?_
  refine R_iload_n dX2_isUnder_1 rfl 1 rfl ?_
  refine R_callVI (As := [.inl a0]) acl2 rfl oz2_0 mi_X2_kindOf ml_RX2_32 rfl (Nat.le_of_ble_eq_true rfl) (by decide) dX2_isUnder_2 (ct_X2_kindOf hA a0 σ _ (wp_bnd w)) (fun r1 σ2 w => ?_)
  refine R_istore_n (lv' := [(3, .inl r1), (0, .inr (.inr (2, 0, 0))), (1, .inl a0), (2, .inl a1)]) dX2_isUnder_5 rfl (by decide) rfl ?_
  refine R_iconst (v := 0) dX2_isUnder_6 (by decide) ?_
  refine R_istore (lv' := [(4, .inl 0), (3, .inl r1), (0, .inr (.inr (2, 0, 0))), (1, .inl a0), (2, .inl a1)]) dX2_isUnder_7 (by decide) rfl ?_
  refine R_sub [4, 1, 0] rfl ?_
  exact rk_X2_isUnder_9 hA _ 400 a1 r1 0 σ2 w
def g_X8_taken (a0 : Int32) (a1 : Int32) (σ : AS) : Option (Int32 × AS) := (bnd (g_X8_isShelf a0 σ) fun r1 σ2 => (if r1 = 0 then some ((-1), σ2) else (bnd (g_X2_isKind a1 σ2) fun r4 σ5 => (if r4 = 0 then some ((-1), σ5) else (if inb a0 6 then (if gF σ5 5 a0.toNatClampNeg 2 = (-2) then some ((-11), σ5) else (bnd (g_X5_isRow a0.toNatClampNeg σ5) fun r9 σ10 => (if r9 = 0 then (bnd (g_X2_isUnder (gF σ10 5 a0.toNatClampNeg 3) a1 σ10) fun r12 σ13 => (if r12 = 0 then some ((-12), σ13) else (bnd (g_X2_kindOf (gF σ13 5 a0.toNatClampNeg 3) σ13) fun r15 σ16 => some (r15, σ16)))) else some ((-12), σ10)))) else none)))))
set_option maxRecDepth 100000 in
set_option maxHeartbeats 4000000 in
theorem ct_X8_taken {l : Launch} {cx : CX} (hA : AD cx) (a0 : Int32) (a1 : Int32) (σ : AS) (Q : Int32 → AS → Prop) (w : wpO (g_X8_taken a0 a1 σ) Q) : AMet l cx 3 yX8_taken cX8_taken 4 (some .int) [.inr (.inr (8, 0, 0)), .inl a0, .inl a1] σ (QI Q) := by
  unfold g_X8_taken at w
  refine AMet.of (own := RX8) (by decide) rfl hA (Nat.le_of_ble_eq_true rfl) ?_
  show RJ l cx 3 RX8 cX8_taken 4 (some .int) 0 [(0, .inr (.inr (8, 0, 0))), (1, .inl a0), (2, .inl a1)] [] σ _
  refine R_iload_n dX8_taken_0 rfl 1 rfl ?_
  refine R_callSI (As := [.inl a0]) mi_X8_isShelf ml_RX8_88 rfl (Nat.le_of_ble_eq_true rfl) (by decide) dX8_taken_1 (ct_X8_isShelf hA a0 σ _ (wp_bnd w)) (fun r1 σ2 w => ?_)
  refine R_if_eq (tgt := 14) dX8_taken_4 (by decide) (fun c3 => ?_) (fun c3 => ?_)
  · have w := wp_t c3 w
    refine R_iconst (v := (-1)) dX8_taken_14 (by decide) ?_
    exact R_ireturn dX8_taken_15 rfl ⟨_, rfl, wp_some w⟩
  · have w := wp_f c3 w
    refine R_iload_n dX8_taken_7 rfl 2 rfl ?_
    refine R_callSI (As := [.inl a1]) mi_X2_isKind ml_RX8_251 rfl (Nat.le_of_ble_eq_true rfl) (by decide) dX8_taken_8 (ct_X2_isKind hA a1 σ2 _ (wp_bnd w)) (fun r4 σ5 w => ?_)
    refine R_if_ne (tgt := 16) dX8_taken_11 (by decide) (fun c6 => ?_) (fun c6 => ?_)
    · have w := wp_f c6 w
      refine R_aload_n dX8_taken_16 rfl 0 rfl ?_
      refine R_getfA (k := 10) acl8 oz8_0 (by decide) fl_RX8_71 dX8_taken_17 rfl ?_
      refine R_iload_n dX8_taken_20 rfl 1 rfl ?_
      obtain ⟨b7, w⟩ := wp_chk w
      refine R_aald rfl oz8_0 b7 dX8_taken_21 ?_
      refine R_astore_n (lv' := [(3, .inr (.inr (5, a0.toNatClampNeg, 0))), (0, .inr (.inr (8, 0, 0))), (1, .inl a0), (2, .inl a1)]) dX8_taken_22 rfl (by decide) rfl ?_
      refine R_aload_n dX8_taken_23 rfl 0 rfl ?_
      refine R_getfI (k := 2) acl5 b7.2 (by decide) fl_RX8_92 dX8_taken_24 rfl ?_
      refine R_bipush (v := (-2)) dX8_taken_27 (by decide) ?_
      refine R_icmp_ne (tgt := 35) dX8_taken_29 (by decide) (fun c8 => ?_) (fun c8 => ?_)
      · have w := wp_f c8 w
        refine R_aload_n dX8_taken_35 rfl 0 rfl ?_
        refine R_callVI (As := []) acl5 rfl b7.2 mi_X5_isRow ml_RX8_284 rfl (Nat.le_of_ble_eq_true rfl) (by decide) dX8_taken_36 (ct_X5_isRow hA a0.toNatClampNeg b7.2 σ5 _ (wp_bnd w)) (fun r9 σ10 w => ?_)
        refine R_if_ne (tgt := 57) dX8_taken_39 (by decide) (fun c11 => ?_) (fun c11 => ?_)
        · have w := wp_f c11 w
          refine R_bipush (v := (-12)) dX8_taken_57 (by decide) ?_
          exact R_ireturn dX8_taken_59 rfl ⟨_, rfl, wp_some w⟩
        · have w := wp_t c11 w
          refine R_aload_n dX8_taken_42 rfl 1 rfl ?_
          refine R_getfO (k := 9) acl8 oz8_0 (by decide) fl_RX8_65 dX8_taken_43 rfl ?_
          refine R_aload_n dX8_taken_46 rfl 0 rfl ?_
          refine R_getfI (k := 3) acl5 b7.2 (by decide) fl_RX8_300 dX8_taken_47 rfl ?_
          refine R_iload_n dX8_taken_50 rfl 3 rfl ?_
          refine R_callVI (As := [.inl (gF σ10 5 a0.toNatClampNeg 3), .inl a1]) acl2 rfl oz2_0 mi_X2_isUnder ml_RX8_303 rfl (Nat.le_of_ble_eq_true rfl) (by decide) dX8_taken_51 (ct_X2_isUnder hA (gF σ10 5 a0.toNatClampNeg 3) a1 σ10 _ (wp_bnd w)) (fun r12 σ13 w => ?_)
          refine R_if_ne (tgt := 60) dX8_taken_54 (by decide) (fun c14 => ?_) (fun c14 => ?_)
          · have w := wp_f c14 w
            refine R_aload_n dX8_taken_60 rfl 1 rfl ?_
            refine R_getfO (k := 9) acl8 oz8_0 (by decide) fl_RX8_65 dX8_taken_61 rfl ?_
            refine R_aload_n dX8_taken_64 rfl 0 rfl ?_
            refine R_getfI (k := 3) acl5 b7.2 (by decide) fl_RX8_300 dX8_taken_65 rfl ?_
            refine R_callVI (As := [.inl (gF σ13 5 a0.toNatClampNeg 3)]) acl2 rfl oz2_0 mi_X2_kindOf ml_RX8_306 rfl (Nat.le_of_ble_eq_true rfl) (by decide) dX8_taken_68 (ct_X2_kindOf hA (gF σ13 5 a0.toNatClampNeg 3) σ13 _ (wp_bnd w)) (fun r15 σ16 w => ?_)
            exact R_ireturn dX8_taken_71 rfl ⟨_, rfl, wp_some w⟩
          · have w := wp_t c14 w
            refine R_bipush (v := (-12)) dX8_taken_57 (by decide) ?_
            exact R_ireturn dX8_taken_59 rfl ⟨_, rfl, wp_some w⟩
      · have w := wp_t c8 w
        refine R_bipush (v := (-11)) dX8_taken_32 (by decide) ?_
        exact R_ireturn dX8_taken_34 rfl ⟨_, rfl, wp_some w⟩
    · have w := wp_t c6 w
      refine R_iconst (v := (-1)) dX8_taken_14 (by decide) ?_
      exact R_ireturn dX8_taken_15 rfl ⟨_, rfl, wp_some w⟩
def g_X8_then_69    (v1 : Int32) (v2 : Int32) (v3 : Int32) (v4 : Int32) (v5 : Int32) (σ : AS) : Option (Int32 × AS) := (if 24 - (gF σ 1 0 11) < v2 then some ((-5), σ) else (bnd (g_X1_begin 1 0 v1 σ) fun _ σ9 => (bnd (g_X1_passHours 1 v2 σ9) fun _ σ10 => (if v5 = 0 then (if v4 = 0 then (bnd (g_X1_inchesOf 1 v3 σ10) fun r14 σ15 => some (r14, σ15)) else (if inb v3 8 then some (gA σ10 1 1 6 v3, σ10) else none)) else some (gF σ10 1 1 12, σ10)))))
set_option maxRecDepth 100000 in
set_option maxHeartbeats 4000000 in
theorem rk_X8_then_69 {l : Launch} {cx : CX} (hA : AD cx)    (Q : Int32 → AS → Prop) (v1 : Int32) (v2 : Int32) (v3 : Int32) (v4 : Int32) (v5 : Int32) (σ : AS) (w : wpO (g_X8_then_69 v1 v2 v3 v4 v5 σ) Q) : RJ l cx 7 RX8 cX8_then 7 (some .int) 69 [(0, .inr (.inr (8, 0, 0))), (1, .inl v1), (2, .inl v2), (3, .inl v3), (4, .inl v4), (5, .inl v5)] [] σ (QI Q) := by
  unfold g_X8_then_69 at w
  refine R_iload_n dX8_then_69 rfl 2 rfl ?_
  refine R_bipush (v := 24) dX8_then_70 (by decide) ?_
  refine R_aload_n dX8_then_72 rfl 0 rfl ?_
  refine R_getfO (k := 4) acl8 oz8_0 (by decide) fl_RX8_38 dX8_then_73 rfl ?_
  refine R_getfI (k := 11) acl1 oz1_0 (by decide) fl_RX8_80 dX8_then_76 rfl ?_
  refine R_isub dX8_then_79 ?_
  refine R_icmp_le (tgt := 86) dX8_then_80 (by decide) (fun c8 => ?_) (fun c8 => ?_)
  · have w := wp_f c8 w
    refine R_aload_n dX8_then_86 rfl 0 rfl ?_
    refine R_getfO (k := 5) acl8 oz8_0 (by decide) fl_RX8_42 dX8_then_87 rfl ?_
    refine R_aload_n dX8_then_90 rfl 0 rfl ?_
    refine R_getfO (k := 4) acl8 oz8_0 (by decide) fl_RX8_38 dX8_then_91 rfl ?_
    refine R_iload_n dX8_then_94 rfl 1 rfl ?_
    refine R_callVV (As := [.inr (.inr (1, 0, 0)), .inl v1]) acl1 rfl oz1_1 mi_X1_begin ml_RX8_203 rfl (Nat.le_of_ble_eq_true rfl) (by decide) dX8_then_95 (ct_X1_begin hA 1 oz1_1 0 oz1_0 v1 σ _ (wp_bnd w)) (fun σ9 w => ?_)
    refine R_aload_n dX8_then_98 rfl 0 rfl ?_
    refine R_getfO (k := 5) acl8 oz8_0 (by decide) fl_RX8_42 dX8_then_99 rfl ?_
    refine R_iload_n dX8_then_102 rfl 2 rfl ?_
    refine R_callVV (As := [.inl v2]) acl1 rfl oz1_1 mi_X1_passHours ml_RX8_175 rfl (Nat.le_of_ble_eq_true rfl) (by decide) dX8_then_103 (ct_X1_passHours hA 1 oz1_1 v2 σ9 _ (wp_bnd w)) (fun σ10 w => ?_)
    refine R_iload dX8_then_106 5 rfl ?_
    refine R_if_eq (tgt := 119) dX8_then_108 (by decide) (fun c11 => ?_) (fun c11 => ?_)
    · have w := wp_t c11 w
      refine R_iload dX8_then_119 4 rfl ?_
      refine R_if_ne (tgt := 135) dX8_then_121 (by decide) (fun c12 => ?_) (fun c12 => ?_)
      · have w := wp_f c12 w
        refine R_aload_n dX8_then_135 rfl 0 rfl ?_
        refine R_getfO (k := 5) acl8 oz8_0 (by decide) fl_RX8_42 dX8_then_136 rfl ?_
        refine R_getfA (k := 6) acl1 oz1_1 (by decide) fl_RX8_132 dX8_then_139 rfl ?_
        refine R_iload_n dX8_then_142 rfl 3 rfl ?_
        obtain ⟨b13, w⟩ := wp_chk w
        refine R_iald rfl oz1_1 b13 dX8_then_143 ?_
        exact R_ireturn dX8_then_144 rfl ⟨_, rfl, wp_some w⟩
      · have w := wp_t c12 w
        refine R_aload_n dX8_then_124 rfl 0 rfl ?_
        refine R_getfO (k := 5) acl8 oz8_0 (by decide) fl_RX8_42 dX8_then_125 rfl ?_
        refine R_iload_n dX8_then_128 rfl 3 rfl ?_
        refine R_callVI (As := [.inl v3]) acl1 rfl oz1_1 mi_X1_inchesOf ml_RX8_128 rfl (Nat.le_of_ble_eq_true rfl) (by decide) dX8_then_129 (ct_X1_inchesOf hA 1 oz1_1 v3 σ10 _ (wp_bnd w)) (fun r14 σ15 w => ?_)
        refine R_goto (tgt := 144) dX8_then_132 (by decide) ?_
        exact R_ireturn dX8_then_144 rfl ⟨_, rfl, wp_some w⟩
    · have w := wp_f c11 w
      refine R_aload_n dX8_then_111 rfl 0 rfl ?_
      refine R_getfO (k := 5) acl8 oz8_0 (by decide) fl_RX8_42 dX8_then_112 rfl ?_
      refine R_getfI (k := 12) acl1 oz1_1 (by decide) fl_RX8_169 dX8_then_115 rfl ?_
      exact R_ireturn dX8_then_118 rfl ⟨_, rfl, wp_some w⟩
  · have w := wp_t c8 w
    refine R_bipush (v := (-5)) dX8_then_83 (by decide) ?_
    exact R_ireturn dX8_then_85 rfl ⟨_, rfl, wp_some w⟩
def g_X8_then_44    (v1 : Int32) (v2 : Int32) (v3 : Int32) (v4 : Int32) (v5 : Int32) (s0 : Int32) (σ : AS) : Option (Int32 × AS) := (if v2 < 0 then some ((-2000000000), σ) else (if (24 : Int32) < v2 then some ((-2000000000), σ) else (if v5 = 0 then (if s0 = 0 then some ((-2000000000), σ) else g_X8_then_69 v1 v2 v3 v4 v5 σ) else g_X8_then_69 v1 v2 v3 v4 v5 σ)))
set_option maxRecDepth 100000 in
set_option maxHeartbeats 4000000 in
theorem rk_X8_then_44 {l : Launch} {cx : CX} (hA : AD cx)    (Q : Int32 → AS → Prop) (v1 : Int32) (v2 : Int32) (v3 : Int32) (v4 : Int32) (v5 : Int32) (s0 : Int32) (σ : AS) (w : wpO (g_X8_then_44 v1 v2 v3 v4 v5 s0 σ) Q) : RJ l cx 7 RX8 cX8_then 7 (some .int) 44 [(0, .inr (.inr (8, 0, 0))), (1, .inl v1), (2, .inl v2), (3, .inl v3), (4, .inl v4), (5, .inl v5)] [.inl s0] σ (QI Q) := by
  unfold g_X8_then_44 at w
  refine R_istore (lv' := [(6, .inl s0), (0, .inr (.inr (8, 0, 0))), (1, .inl v1), (2, .inl v2), (3, .inl v3), (4, .inl v4), (5, .inl v5)]) dX8_then_44 (by decide) rfl ?_
  refine R_iload_n dX8_then_46 rfl 3 rfl ?_
  refine R_if_lt (tgt := 66) dX8_then_47 (by decide) (fun c5 => ?_) (fun c5 => ?_)
  · have w := wp_t c5 w
    refine R_ldc dX8_then_66 ck_RX8_124 ?_
    exact R_ireturn dX8_then_68 rfl ⟨_, rfl, wp_some w⟩
  · have w := wp_f c5 w
    refine R_iload_n dX8_then_50 rfl 3 rfl ?_
    refine R_bipush (v := 24) dX8_then_51 (by decide) ?_
    refine R_icmp_gt (tgt := 66) dX8_then_53 (by decide) (fun c6 => ?_) (fun c6 => ?_)
    · have w := wp_t c6 w
      refine R_ldc dX8_then_66 ck_RX8_124 ?_
      exact R_ireturn dX8_then_68 rfl ⟨_, rfl, wp_some w⟩
    · have w := wp_f c6 w
      refine R_iload dX8_then_56 6 rfl ?_
      refine R_if_ne (tgt := 69) dX8_then_58 (by decide) (fun c7 => ?_) (fun c7 => ?_)
      · have w := wp_f c7 w
        refine R_sub [1, 2, 3, 4, 5, 6] rfl ?_
        exact rk_X8_then_69 hA _ v1 v2 v3 v4 v5 σ w
      · have w := wp_t c7 w
        refine R_iload dX8_then_61 0 rfl ?_
        refine R_if_ne (tgt := 69) dX8_then_63 (by decide) (fun c16 => ?_) (fun c16 => ?_)
        · have w := wp_f c16 w
          refine R_sub [1, 2, 3, 4, 5, 6] rfl ?_
          exact rk_X8_then_69 hA _ v1 v2 v3 v4 v5 σ w
        · have w := wp_t c16 w
          refine R_ldc dX8_then_66 ck_RX8_124 ?_
          exact R_ireturn dX8_then_68 rfl ⟨_, rfl, wp_some w⟩
def g_X8_then_43    (v1 : Int32) (v2 : Int32) (v3 : Int32) (v4 : Int32) (v5 : Int32) (σ : AS) : Option (Int32 × AS) := g_X8_then_44 v1 v2 v3 v4 v5 0 σ
set_option maxRecDepth 100000 in
set_option maxHeartbeats 4000000 in
theorem rk_X8_then_43 {l : Launch} {cx : CX} (hA : AD cx)    (Q : Int32 → AS → Prop) (v1 : Int32) (v2 : Int32) (v3 : Int32) (v4 : Int32) (v5 : Int32) (σ : AS) (w : wpO (g_X8_then_43 v1 v2 v3 v4 v5 σ) Q) : RJ l cx 7 RX8 cX8_then 7 (some .int) 43 [(0, .inr (.inr (8, 0, 0))), (1, .inl v1), (2, .inl v2), (3, .inl v3), (4, .inl v4), (5, .inl v5)] [] σ (QI Q) := by
  unfold g_X8_then_43 at w
  refine R_iconst (v := 0) dX8_then_43 (by decide) ?_
  refine R_sub [0, 1, 2, 3, 4, 5] rfl ?_
  exact rk_X8_then_44 hA _ v1 v2 v3 v4 v5 0 σ w
def g_X8_then_39    (v1 : Int32) (v2 : Int32) (v3 : Int32) (v4 : Int32) (v5 : Int32) (σ : AS) : Option (Int32 × AS) := g_X8_then_44 v1 v2 v3 v4 v5 1 σ
set_option maxRecDepth 100000 in
set_option maxHeartbeats 4000000 in
theorem rk_X8_then_39 {l : Launch} {cx : CX} (hA : AD cx)    (Q : Int32 → AS → Prop) (v1 : Int32) (v2 : Int32) (v3 : Int32) (v4 : Int32) (v5 : Int32) (σ : AS) (w : wpO (g_X8_then_39 v1 v2 v3 v4 v5 σ) Q) : RJ l cx 7 RX8 cX8_then 7 (some .int) 39 [(0, .inr (.inr (8, 0, 0))), (1, .inl v1), (2, .inl v2), (3, .inl v3), (4, .inl v4), (5, .inl v5)] [] σ (QI Q) := by
  unfold g_X8_then_39 at w
  refine R_iconst (v := 1) dX8_then_39 (by decide) ?_
  refine R_goto (tgt := 44) dX8_then_40 (by decide) ?_
  refine R_sub [0, 1, 2, 3, 4, 5] rfl ?_
  exact rk_X8_then_44 hA _ v1 v2 v3 v4 v5 1 σ w
def g_X8_then_15    (v1 : Int32) (v2 : Int32) (v3 : Int32) (v4 : Int32) (s0 : Int32) (σ : AS) : Option (Int32 × AS) := (bnd (g_X6_has v3 σ) fun r2 σ3 => (if r2 = 0 then g_X8_then_43 v1 v2 v3 v4 s0 σ3 else (if v4 = 0 then g_X8_then_39 v1 v2 v3 v4 s0 σ3 else (if v4 = 1 then g_X8_then_39 v1 v2 v3 v4 s0 σ3 else g_X8_then_43 v1 v2 v3 v4 s0 σ3))))
set_option maxRecDepth 100000 in
set_option maxHeartbeats 4000000 in
theorem rk_X8_then_15 {l : Launch} {cx : CX} (hA : AD cx)    (Q : Int32 → AS → Prop) (v1 : Int32) (v2 : Int32) (v3 : Int32) (v4 : Int32) (s0 : Int32) (σ : AS) (w : wpO (g_X8_then_15 v1 v2 v3 v4 s0 σ) Q) : RJ l cx 7 RX8 cX8_then 7 (some .int) 15 [(0, .inr (.inr (8, 0, 0))), (1, .inl v1), (2, .inl v2), (3, .inl v3), (4, .inl v4)] [.inl s0] σ (QI Q) := by
  unfold g_X8_then_15 at w
  refine R_istore (lv' := [(5, .inl s0), (0, .inr (.inr (8, 0, 0))), (1, .inl v1), (2, .inl v2), (3, .inl v3), (4, .inl v4)]) dX8_then_15 (by decide) rfl ?_
  refine R_aload_n dX8_then_17 rfl 1 rfl ?_
  refine R_getfO (k := 0) acl8 oz8_0 (by decide) fl_RX8_10 dX8_then_18 rfl ?_
  refine R_iload_n dX8_then_21 rfl 4 rfl ?_
  refine R_callVI (As := [.inl v3]) acl6 rfl oz6_0 mi_X6_has ml_RX8_107 rfl (Nat.le_of_ble_eq_true rfl) (by decide) dX8_then_22 (ct_X6_has hA v3 σ _ (wp_bnd w)) (fun r2 σ3 w => ?_)
  refine R_if_eq (tgt := 43) dX8_then_25 (by decide) (fun c4 => ?_) (fun c4 => ?_)
  · have w := wp_t c4 w
    refine R_sub [1, 2, 3, 4, 5, 0] rfl ?_
    exact rk_X8_then_43 hA _ v1 v2 v3 v4 s0 σ3 w
  · have w := wp_f c4 w
    refine R_iload dX8_then_28 5 rfl ?_
    refine R_if_eq (tgt := 39) dX8_then_30 (by decide) (fun c17 => ?_) (fun c17 => ?_)
    · have w := wp_t c17 w
      refine R_sub [1, 2, 3, 4, 5, 0] rfl ?_
      exact rk_X8_then_39 hA _ v1 v2 v3 v4 s0 σ3 w
    · have w := wp_f c17 w
      refine R_iload dX8_then_33 5 rfl ?_
      refine R_iconst (v := 1) dX8_then_35 (by decide) ?_
      refine R_icmp_ne (tgt := 43) dX8_then_36 (by decide) (fun c18 => ?_) (fun c18 => ?_)
      · have w := wp_f c18 w
        refine R_sub [1, 2, 3, 4, 5, 0] rfl ?_
        exact rk_X8_then_43 hA _ v1 v2 v3 v4 s0 σ3 w
      · have w := wp_t c18 w
        refine R_sub [1, 2, 3, 4, 5, 0] rfl ?_
        exact rk_X8_then_39 hA _ v1 v2 v3 v4 s0 σ3 w
def g_X8_then_14    (v1 : Int32) (v2 : Int32) (v3 : Int32) (v4 : Int32) (σ : AS) : Option (Int32 × AS) := g_X8_then_15 v1 v2 v3 v4 0 σ
set_option maxRecDepth 100000 in
set_option maxHeartbeats 4000000 in
theorem rk_X8_then_14 {l : Launch} {cx : CX} (hA : AD cx)    (Q : Int32 → AS → Prop) (v1 : Int32) (v2 : Int32) (v3 : Int32) (v4 : Int32) (σ : AS) (w : wpO (g_X8_then_14 v1 v2 v3 v4 σ) Q) : RJ l cx 7 RX8 cX8_then 7 (some .int) 14 [(0, .inr (.inr (8, 0, 0))), (1, .inl v1), (2, .inl v2), (3, .inl v3), (4, .inl v4)] [] σ (QI Q) := by
  unfold g_X8_then_14 at w
  refine R_iconst (v := 0) dX8_then_14 (by decide) ?_
  refine R_sub [0, 1, 2, 3, 4] rfl ?_
  exact rk_X8_then_15 hA _ v1 v2 v3 v4 0 σ w
def g_X8_then (a0 : Int32) (a1 : Int32) (a2 : Int32) (a3 : Int32) (σ : AS) : Option (Int32 × AS) := (if a2 = (-1) then (if a3 = 0 then g_X8_then_15 a0 a1 a2 a3 1 σ else g_X8_then_14 a0 a1 a2 a3 σ) else g_X8_then_14 a0 a1 a2 a3 σ)
set_option maxRecDepth 100000 in
set_option maxHeartbeats 4000000 in
theorem ct_X8_then {l : Launch} {cx : CX} (hA : AD cx) (a0 : Int32) (a1 : Int32) (a2 : Int32) (a3 : Int32) (σ : AS) (Q : Int32 → AS → Prop) (w : wpO (g_X8_then a0 a1 a2 a3 σ) Q) : AMet l cx 7 yX8_then cX8_then 7 (some .int) [.inr (.inr (8, 0, 0)), .inl a0, .inl a1, .inl a2, .inl a3] σ (QI Q) := by
  unfold g_X8_then at w
  refine AMet.of (own := RX8) (by decide) rfl hA (Nat.le_of_ble_eq_true rfl) ?_
  show RJ l cx 7 RX8 cX8_then 7 (some .int) 0 [(0, .inr (.inr (8, 0, 0))), (1, .inl a0), (2, .inl a1), (3, .inl a2), (4, .inl a3)] [] σ _
  refine R_iload_n dX8_then_0 rfl 3 rfl ?_
  refine R_iconst (v := (-1)) dX8_then_1 (by decide) ?_
  refine R_icmp_ne (tgt := 14) dX8_then_2 (by decide) (fun c1 => ?_) (fun c1 => ?_)
  · have w := wp_f c1 w
    refine R_sub [0, 1, 2, 3, 4] rfl ?_
    exact rk_X8_then_14 hA _ a0 a1 a2 a3 σ w
  · have w := wp_t c1 w
    refine R_iload dX8_then_5 4 rfl ?_
    refine R_if_ne (tgt := 14) dX8_then_7 (by decide) (fun c19 => ?_) (fun c19 => ?_)
    · have w := wp_f c19 w
      refine R_sub [0, 1, 2, 3, 4] rfl ?_
      exact rk_X8_then_14 hA _ a0 a1 a2 a3 σ w
    · have w := wp_t c19 w
      refine R_iconst (v := 1) dX8_then_10 (by decide) ?_
      refine R_goto (tgt := 15) dX8_then_11 (by decide) ?_
      refine R_sub [0, 1, 2, 3, 4] rfl ?_
      exact rk_X8_then_15 hA _ a0 a1 a2 a3 1 σ w
def g_X2_ranAs (a0 : Int32) (σ : AS) : Option (Int32 × AS) := (if a0 < 0 then some ((-1), σ) else (if a0 < 24 then (if a0 < gF σ 2 0 3 then (if inb a0 24 then some (gA σ 2 0 1 a0, σ) else none) else some ((-1), σ)) else some ((-1), σ)))
set_option maxRecDepth 100000 in
set_option maxHeartbeats 4000000 in
theorem ct_X2_ranAs {l : Launch} {cx : CX} (hA : AD cx) (a0 : Int32) (σ : AS) (Q : Int32 → AS → Prop) (w : wpO (g_X2_ranAs a0 σ) Q) : AMet l cx 0 yX2_ranAs cX2_ranAs 2 (some .int) [.inr (.inr (2, 0, 0)), .inl a0] σ (QI Q) := by
  unfold g_X2_ranAs at w
  refine AMet.of (own := RX2) (by decide) rfl hA (Nat.le_of_ble_eq_true rfl) ?_
  show RJ l cx 0 RX2 cX2_ranAs 2 (some .int) 0 [(0, .inr (.inr (2, 0, 0))), (1, .inl a0)] [] σ _
  refine R_iload_n dX2_ranAs_0 rfl 1 rfl ?_
  refine R_if_lt (tgt := 18) dX2_ranAs_1 (by decide) (fun c1 => ?_) (fun c1 => ?_)
  · have w := wp_t c1 w
    refine R_iconst (v := (-1)) dX2_ranAs_18 (by decide) ?_
    exact R_ireturn dX2_ranAs_19 rfl ⟨_, rfl, wp_some w⟩
  · have w := wp_f c1 w
    refine R_iload_n dX2_ranAs_4 rfl 1 rfl ?_
    refine R_bipush (v := 24) dX2_ranAs_5 (by decide) ?_
    refine R_icmp_ge (tgt := 18) dX2_ranAs_7 (by decide) (fun c2 => ?_) (fun c2 => ?_)
    · have w := wp_f c2 w
      refine R_iconst (v := (-1)) dX2_ranAs_18 (by decide) ?_
      exact R_ireturn dX2_ranAs_19 rfl ⟨_, rfl, wp_some w⟩
    · have w := wp_t c2 w
      refine R_iload_n dX2_ranAs_10 rfl 1 rfl ?_
      refine R_aload_n dX2_ranAs_11 rfl 0 rfl ?_
      refine R_getfI (k := 3) acl2 oz2_0 (by decide) fl_RX2_22 dX2_ranAs_12 rfl ?_
      refine R_icmp_lt (tgt := 20) dX2_ranAs_15 (by decide) (fun c3 => ?_) (fun c3 => ?_)
      · have w := wp_t c3 w
        refine R_aload_n dX2_ranAs_20 rfl 0 rfl ?_
        refine R_getfA (k := 1) acl2 oz2_0 (by decide) fl_RX2_15 dX2_ranAs_21 rfl ?_
        refine R_iload_n dX2_ranAs_24 rfl 1 rfl ?_
        obtain ⟨b4, w⟩ := wp_chk w
        refine R_iald rfl oz2_0 b4 dX2_ranAs_25 ?_
        exact R_ireturn dX2_ranAs_26 rfl ⟨_, rfl, wp_some w⟩
      · have w := wp_f c3 w
        refine R_iconst (v := (-1)) dX2_ranAs_18 (by decide) ?_
        exact R_ireturn dX2_ranAs_19 rfl ⟨_, rfl, wp_some w⟩
def g_X8_trace (a0 : Int32) (σ : AS) : Option (Int32 × AS) := (bnd (g_X2_ranAs a0 σ) fun r1 σ2 => some (r1, σ2))
set_option maxRecDepth 100000 in
set_option maxHeartbeats 4000000 in
theorem ct_X8_trace {l : Launch} {cx : CX} (hA : AD cx) (a0 : Int32) (σ : AS) (Q : Int32 → AS → Prop) (w : wpO (g_X8_trace a0 σ) Q) : AMet l cx 1 yX8_trace cX8_trace 2 (some .int) [.inr (.inr (8, 0, 0)), .inl a0] σ (QI Q) := by
  unfold g_X8_trace at w
  refine AMet.of (own := RX8) (by decide) rfl hA (Nat.le_of_ble_eq_true rfl) ?_
  show RJ l cx 1 RX8 cX8_trace 2 (some .int) 0 [(0, .inr (.inr (8, 0, 0))), (1, .inl a0)] [] σ _
  refine R_aload_n dX8_trace_0 rfl 0 rfl ?_
  refine R_getfO (k := 9) acl8 oz8_0 (by decide) fl_RX8_65 dX8_trace_1 rfl ?_
  refine R_iload_n dX8_trace_4 rfl 1 rfl ?_
  refine R_callVI (As := [.inl a0]) acl2 rfl oz2_0 mi_X2_ranAs ml_RX8_258 rfl (Nat.le_of_ble_eq_true rfl) (by decide) dX8_trace_5 (ct_X2_ranAs hA a0 σ _ (wp_bnd w)) (fun r1 σ2 w => ?_)
  exact R_ireturn dX8_trace_8 rfl ⟨_, rfl, wp_some w⟩
def g_X0_takeBack (σ : AS) : Option (Int32 × AS) := (if (0 : Int32) < gF σ 0 0 4 then (lt (sF σ 0 0 4 ((gF σ 0 0 4) - 1)) fun σ2 => (if inb (gF σ2 0 0 4) 40 then (bnd (g_X6_become (gA σ2 0 0 0 (gF σ2 0 0 4)) (gA σ2 0 0 1 (gF σ2 0 0 4)) (gA σ2 0 0 2 (gF σ2 0 0 4)) σ2) fun _ σ4 => some (gF σ4 0 0 4, σ4)) else none)) else some ((-5), σ))
set_option maxRecDepth 100000 in
set_option maxHeartbeats 4000000 in
theorem ct_X0_takeBack {l : Launch} {cx : CX} (hA : AD cx) (σ : AS) (Q : Int32 → AS → Prop) (w : wpO (g_X0_takeBack σ) Q) : AMet l cx 2 yX0_takeBack cX0_takeBack 2 (some .int) [.inr (.inr (0, 0, 0)), .inr (.inr (6, 0, 0))] σ (QI Q) := by
  unfold g_X0_takeBack at w
  refine AMet.of (own := RX0) (by decide) rfl hA (Nat.le_of_ble_eq_true rfl) ?_
  show RJ l cx 2 RX0 cX0_takeBack 2 (some .int) 0 [(0, .inr (.inr (0, 0, 0))), (1, .inr (.inr (6, 0, 0)))] [] σ _
  refine R_aload_n dX0_takeBack_0 rfl 0 rfl ?_
  refine R_getfI (k := 4) acl0 oz0_0 (by decide) fl_RX0_24 dX0_takeBack_1 rfl ?_
  refine R_if_gt (tgt := 10) dX0_takeBack_4 (by decide) (fun c1 => ?_) (fun c1 => ?_)
  · have w := wp_t c1 w
    refine R_aload_n dX0_takeBack_10 rfl 0 rfl ?_
    refine R_dup dX0_takeBack_11 rfl ?_
    refine R_getfI (k := 4) acl0 oz0_0 (by decide) fl_RX0_24 dX0_takeBack_12 rfl ?_
    refine R_iconst (v := 1) dX0_takeBack_15 (by decide) ?_
    refine R_isub dX0_takeBack_16 ?_
    refine R_putf (k := 4) (ty := .int) acl0 oz0_0 (by decide) fl_RX0_24 rfl (tyX0_ok 4 (by decide)) (Or.inl rfl) dX0_takeBack_17 rfl ?_
    refine R_nameS w ?_; clear w; intro σ2 w
    refine R_aload_n dX0_takeBack_20 rfl 1 rfl ?_
    refine R_aload_n dX0_takeBack_21 rfl 0 rfl ?_
    refine R_getfA (k := 0) acl0 oz0_0 (by decide) fl_RX0_11 dX0_takeBack_22 rfl ?_
    refine R_aload_n dX0_takeBack_25 rfl 0 rfl ?_
    refine R_getfI (k := 4) acl0 oz0_0 (by decide) fl_RX0_24 dX0_takeBack_26 rfl ?_
    obtain ⟨b3, w⟩ := wp_chk w
    refine R_iald rfl oz0_0 b3 dX0_takeBack_29 ?_
    refine R_aload_n dX0_takeBack_30 rfl 0 rfl ?_
    refine R_getfA (k := 1) acl0 oz0_0 (by decide) fl_RX0_15 dX0_takeBack_31 rfl ?_
    refine R_aload_n dX0_takeBack_34 rfl 0 rfl ?_
    refine R_getfI (k := 4) acl0 oz0_0 (by decide) fl_RX0_24 dX0_takeBack_35 rfl ?_
    refine R_iald rfl oz0_0 b3 dX0_takeBack_38 ?_
    refine R_aload_n dX0_takeBack_39 rfl 0 rfl ?_
    refine R_getfA (k := 2) acl0 oz0_0 (by decide) fl_RX0_18 dX0_takeBack_40 rfl ?_
    refine R_aload_n dX0_takeBack_43 rfl 0 rfl ?_
    refine R_getfI (k := 4) acl0 oz0_0 (by decide) fl_RX0_24 dX0_takeBack_44 rfl ?_
    refine R_iald rfl oz0_0 b3 dX0_takeBack_47 ?_
    refine R_callVV (As := [.inl (gA σ2 0 0 0 (gF σ2 0 0 4)), .inl (gA σ2 0 0 1 (gF σ2 0 0 4)), .inl (gA σ2 0 0 2 (gF σ2 0 0 4))]) acl6 rfl oz6_0 mi_X6_become ml_RX0_34 rfl (Nat.le_of_ble_eq_true rfl) (by decide) dX0_takeBack_48 (ct_X6_become hA (gA σ2 0 0 0 (gF σ2 0 0 4)) (gA σ2 0 0 1 (gF σ2 0 0 4)) (gA σ2 0 0 2 (gF σ2 0 0 4)) σ2 _ (wp_bnd w)) (fun σ4 w => ?_)
    refine R_aload_n dX0_takeBack_51 rfl 0 rfl ?_
    refine R_getfI (k := 4) acl0 oz0_0 (by decide) fl_RX0_24 dX0_takeBack_52 rfl ?_
    exact R_ireturn dX0_takeBack_55 rfl ⟨_, rfl, wp_some w⟩
  · have w := wp_f c1 w
    refine R_bipush (v := (-5)) dX0_takeBack_7 (by decide) ?_
    exact R_ireturn dX0_takeBack_9 rfl ⟨_, rfl, wp_some w⟩
def g_X8_undo (σ : AS) : Option (Int32 × AS) := (bnd (g_X0_takeBack σ) fun r1 σ2 => some (r1, σ2))
set_option maxRecDepth 100000 in
set_option maxHeartbeats 4000000 in
theorem ct_X8_undo {l : Launch} {cx : CX} (hA : AD cx) (σ : AS) (Q : Int32 → AS → Prop) (w : wpO (g_X8_undo σ) Q) : AMet l cx 3 yX8_undo cX8_undo 1 (some .int) [.inr (.inr (8, 0, 0))] σ (QI Q) := by
  unfold g_X8_undo at w
  refine AMet.of (own := RX8) (by decide) rfl hA (Nat.le_of_ble_eq_true rfl) ?_
  show RJ l cx 3 RX8 cX8_undo 1 (some .int) 0 [(0, .inr (.inr (8, 0, 0)))] [] σ _
  refine R_aload_n dX8_undo_0 rfl 0 rfl ?_
  refine R_getfO (k := 8) acl8 oz8_0 (by decide) fl_RX8_58 dX8_undo_1 rfl ?_
  refine R_aload_n dX8_undo_4 rfl 0 rfl ?_
  refine R_getfO (k := 0) acl8 oz8_0 (by decide) fl_RX8_10 dX8_undo_5 rfl ?_
  refine R_callVI (As := [.inr (.inr (6, 0, 0))]) acl0 rfl oz0_0 mi_X0_takeBack ml_RX8_244 rfl (Nat.le_of_ble_eq_true rfl) (by decide) dX8_undo_8 (ct_X0_takeBack hA σ _ (wp_bnd w)) (fun r1 σ2 w => ?_)
  exact R_ireturn dX8_undo_11 rfl ⟨_, rfl, wp_some w⟩
def g_X8_wide (a0 : Int32) (a1 : Int32) (σ : AS) : Option (Int32 × AS) := (if a0 < 0 then some ((-1), σ) else (if a0 < 7 then (if a1 < 0 then some ((-1), σ) else (if (9 : Int32) < a1 then some ((-1), σ) else (if inb a0 7 then (lt (gA σ 1 0 2 a0) fun x6 => (bnd (g_X1_fit 0 a0 a1 σ) fun _ σ7 => some (x6, σ7))) else none))) else some ((-1), σ)))
set_option maxRecDepth 100000 in
set_option maxHeartbeats 4000000 in
theorem ct_X8_wide {l : Launch} {cx : CX} (hA : AD cx) (a0 : Int32) (a1 : Int32) (σ : AS) (Q : Int32 → AS → Prop) (w : wpO (g_X8_wide a0 a1 σ) Q) : AMet l cx 3 yX8_wide cX8_wide 4 (some .int) [.inr (.inr (8, 0, 0)), .inl a0, .inl a1] σ (QI Q) := by
  unfold g_X8_wide at w
  refine AMet.of (own := RX8) (by decide) rfl hA (Nat.le_of_ble_eq_true rfl) ?_
  show RJ l cx 3 RX8 cX8_wide 4 (some .int) 0 [(0, .inr (.inr (8, 0, 0))), (1, .inl a0), (2, .inl a1)] [] σ _
  refine R_iload_n dX8_wide_0 rfl 1 rfl ?_
  refine R_if_lt (tgt := 20) dX8_wide_1 (by decide) (fun c1 => ?_) (fun c1 => ?_)
  · have w := wp_t c1 w
    refine R_iconst (v := (-1)) dX8_wide_20 (by decide) ?_
    exact R_ireturn dX8_wide_21 rfl ⟨_, rfl, wp_some w⟩
  · have w := wp_f c1 w
    refine R_iload_n dX8_wide_4 rfl 1 rfl ?_
    refine R_bipush (v := 7) dX8_wide_5 (by decide) ?_
    refine R_icmp_ge (tgt := 20) dX8_wide_7 (by decide) (fun c2 => ?_) (fun c2 => ?_)
    · have w := wp_f c2 w
      refine R_iconst (v := (-1)) dX8_wide_20 (by decide) ?_
      exact R_ireturn dX8_wide_21 rfl ⟨_, rfl, wp_some w⟩
    · have w := wp_t c2 w
      refine R_iload_n dX8_wide_10 rfl 2 rfl ?_
      refine R_if_lt (tgt := 20) dX8_wide_11 (by decide) (fun c3 => ?_) (fun c3 => ?_)
      · have w := wp_t c3 w
        refine R_iconst (v := (-1)) dX8_wide_20 (by decide) ?_
        exact R_ireturn dX8_wide_21 rfl ⟨_, rfl, wp_some w⟩
      · have w := wp_f c3 w
        refine R_iload_n dX8_wide_14 rfl 2 rfl ?_
        refine R_bipush (v := 9) dX8_wide_15 (by decide) ?_
        refine R_icmp_le (tgt := 22) dX8_wide_17 (by decide) (fun c4 => ?_) (fun c4 => ?_)
        · have w := wp_f c4 w
          refine R_aload_n dX8_wide_22 rfl 0 rfl ?_
          refine R_getfO (k := 4) acl8 oz8_0 (by decide) fl_RX8_38 dX8_wide_23 rfl ?_
          refine R_getfA (k := 2) acl1 oz1_0 (by decide) fl_RX8_99 dX8_wide_26 rfl ?_
          refine R_iload_n dX8_wide_29 rfl 1 rfl ?_
          obtain ⟨b5, w⟩ := wp_chk w
          refine R_iald rfl oz1_0 b5 dX8_wide_30 ?_
          refine R_nameI w ?_; clear w; intro x6 w
          refine R_istore_n (lv' := [(3, .inl x6), (0, .inr (.inr (8, 0, 0))), (1, .inl a0), (2, .inl a1)]) dX8_wide_31 rfl (by decide) rfl ?_
          refine R_aload_n dX8_wide_32 rfl 1 rfl ?_
          refine R_getfO (k := 4) acl8 oz8_0 (by decide) fl_RX8_38 dX8_wide_33 rfl ?_
          refine R_iload_n dX8_wide_36 rfl 2 rfl ?_
          refine R_iload_n dX8_wide_37 rfl 3 rfl ?_
          refine R_callVV (As := [.inl a0, .inl a1]) acl1 rfl oz1_0 mi_X1_fit ml_RX8_103 rfl (Nat.le_of_ble_eq_true rfl) (by decide) dX8_wide_38 (ct_X1_fit hA 0 oz1_0 a0 a1 σ _ (wp_bnd w)) (fun σ7 w => ?_)
          refine R_iload_n dX8_wide_41 rfl 0 rfl ?_
          exact R_ireturn dX8_wide_42 rfl ⟨_, rfl, wp_some w⟩
        · have w := wp_t c4 w
          refine R_iconst (v := (-1)) dX8_wide_20 (by decide) ?_
          exact R_ireturn dX8_wide_21 rfl ⟨_, rfl, wp_some w⟩
def g_X8_wider_15    : Nat → Int32 → Int32 → Int32 → AS → Option (Int32 × AS)
  | 0, _, _, _, _ => none
  | f0 + 1, v1, v2, v3, σ => (if (9 : Int32) < v3 then some ((-2), σ) else (bnd (g_X8_isPeaceful v1 v2 v3 σ) fun r5 σ6 => (if r5 = 0 then (g_X8_wider_15 f0) v1 v2 (v3 + 1) σ6 else some (v3, σ6))))
set_option maxRecDepth 100000 in
set_option maxHeartbeats 4000000 in
theorem rk_X8_wider_15 {l : Launch} {cx : CX} (hA : AD cx)    (Q : Int32 → AS → Prop) : ∀ (f0 : Nat) (v1 : Int32) (v2 : Int32) (v3 : Int32) (σ : AS), wpO (g_X8_wider_15 f0 v1 v2 v3 σ) Q → RJ l cx 8 RX8 cX8_wider 4 (some .int) 15 [(0, .inr (.inr (8, 0, 0))), (1, .inl v1), (2, .inl v2), (3, .inl v3)] [] σ (QI Q) := by
  intro f0
  induction f0 with
  | zero => intro v1 v2 v3 σ w; exact wp_no w
  | succ f0 ih =>
    intro v1 v2 v3 σ w
    rw [g_X8_wider_15] at w
    refine R_iload_n dX8_wider_15 rfl 3 rfl ?_
    refine R_bipush (v := 9) dX8_wider_16 (by decide) ?_
    refine R_icmp_gt (tgt := 39) dX8_wider_18 (by decide) (fun c4 => ?_) (fun c4 => ?_)
    · have w := wp_t c4 w
      refine R_bipush (v := (-2)) dX8_wider_39 (by decide) ?_
      exact R_ireturn dX8_wider_41 rfl ⟨_, rfl, wp_some w⟩
    · have w := wp_f c4 w
      refine R_aload_n dX8_wider_21 rfl 0 rfl ?_
      refine R_iload_n dX8_wider_22 rfl 1 rfl ?_
      refine R_iload_n dX8_wider_23 rfl 2 rfl ?_
      refine R_iload_n dX8_wider_24 rfl 3 rfl ?_
      refine R_callVI (As := [.inl v1, .inl v2, .inl v3]) acl8 rfl oz8_0 mi_X8_isPeaceful ml_RX8_220 rfl (Nat.le_of_ble_eq_true rfl) (by decide) dX8_wider_25 (ct_X8_isPeaceful hA v1 v2 v3 σ _ (wp_bnd w)) (fun r5 σ6 w => ?_)
      refine R_if_eq (tgt := 33) dX8_wider_28 (by decide) (fun c7 => ?_) (fun c7 => ?_)
      · have w := wp_t c7 w
        refine R_iinc (v := v3 + 1) (lv' := [(3, .inl (v3 + 1)), (0, .inr (.inr (8, 0, 0))), (1, .inl v1), (2, .inl v2)]) dX8_wider_33 3 rfl rfl (by decide) rfl ?_
        refine R_goto (tgt := 15) dX8_wider_36 (by decide) ?_
        refine R_sub [1, 2, 3, 0] rfl ?_
        exact ih v1 v2 (v3 + 1) σ6 w
      · have w := wp_f c7 w
        refine R_iload_n dX8_wider_31 rfl 3 rfl ?_
        exact R_ireturn dX8_wider_32 rfl ⟨_, rfl, wp_some w⟩
def g_X8_wider (a0 : Int32) (a1 : Int32) (σ : AS) : Option (Int32 × AS) := (bnd (g_X6_hasRest a1 σ) fun r1 σ2 => (if r1 = 0 then some ((-1), σ2) else g_X8_wider_15 400 a0 a1 0 σ2))
set_option maxRecDepth 100000 in
set_option maxHeartbeats 4000000 in
theorem ct_X8_wider {l : Launch} {cx : CX} (hA : AD cx) (a0 : Int32) (a1 : Int32) (σ : AS) (Q : Int32 → AS → Prop) (w : wpO (g_X8_wider a0 a1 σ) Q) : AMet l cx 8 yX8_wider cX8_wider 4 (some .int) [.inr (.inr (8, 0, 0)), .inl a0, .inl a1] σ (QI Q) := by
  unfold g_X8_wider at w
  refine AMet.of (own := RX8) (by decide) rfl hA (Nat.le_of_ble_eq_true rfl) ?_
  show RJ l cx 8 RX8 cX8_wider 4 (some .int) 0 [(0, .inr (.inr (8, 0, 0))), (1, .inl a0), (2, .inl a1)] [] σ _
  refine R_aload_n dX8_wider_0 rfl 0 rfl ?_
  refine R_getfO (k := 0) acl8 oz8_0 (by decide) fl_RX8_10 dX8_wider_1 rfl ?_
  refine R_iload_n dX8_wider_4 rfl 2 rfl ?_
  refine R_callVI (As := [.inl a1]) acl6 rfl oz6_0 mi_X6_hasRest ml_RX8_150 rfl (Nat.le_of_ble_eq_true rfl) (by decide) dX8_wider_5 (ct_X6_hasRest hA a1 σ _ (wp_bnd w)) (fun r1 σ2 w => ?_)
  refine R_if_ne (tgt := 13) dX8_wider_8 (by decide) (fun c3 => ?_) (fun c3 => ?_)
  · have w := wp_f c3 w
    refine R_iconst (v := 0) dX8_wider_13 (by decide) ?_
    refine R_istore_n (lv' := [(3, .inl 0), (0, .inr (.inr (8, 0, 0))), (1, .inl a0), (2, .inl a1)]) dX8_wider_14 rfl (by decide) rfl ?_
    refine R_sub [1, 2, 3, 0] rfl ?_
    exact rk_X8_wider_15 hA _ 400 a0 a1 0 σ2 w
  · have w := wp_t c3 w
    refine R_iconst (v := (-1)) dX8_wider_11 (by decide) ?_
    exact R_ireturn dX8_wider_12 rfl ⟨_, rfl, wp_some w⟩
def g_X9_above (a0 : Int32) (σ : AS) : Option (Int32 × AS) := (if a0 = 3 then some (2, σ) else (if a0 = 4 then some (1, σ) else (if a0 = 5 then some (3, σ) else (if a0 = 7 then some (4, σ) else some (0, σ)))))
set_option maxRecDepth 100000 in
set_option maxHeartbeats 4000000 in
theorem ct_X9_above {l : Launch} {cx : CX} (hA : AD cx) (a0 : Int32) (σ : AS) (Q : Int32 → AS → Prop) (w : wpO (g_X9_above a0 σ) Q) : AMet l cx 0 yX9_above cX9_above 1 (some .int) [.inl a0] σ (QI Q) := by
  unfold g_X9_above at w
  refine AMet.of (own := RX9) (by decide) rfl hA (Nat.le_of_ble_eq_true rfl) ?_
  show RJ l cx 0 RX9 cX9_above 1 (some .int) 0 [(0, .inl a0)] [] σ _
  refine R_iload_n dX9_above_0 rfl 0 rfl ?_
  refine R_iconst (v := 3) dX9_above_1 (by decide) ?_
  refine R_icmp_ne (tgt := 9) dX9_above_2 (by decide) (fun c1 => ?_) (fun c1 => ?_)
  · have w := wp_f c1 w
    refine R_iload_n dX9_above_9 rfl 0 rfl ?_
    refine R_iconst (v := 4) dX9_above_10 (by decide) ?_
    refine R_icmp_ne (tgt := 18) dX9_above_11 (by decide) (fun c2 => ?_) (fun c2 => ?_)
    · have w := wp_f c2 w
      refine R_iload_n dX9_above_18 rfl 0 rfl ?_
      refine R_iconst (v := 5) dX9_above_19 (by decide) ?_
      refine R_icmp_ne (tgt := 27) dX9_above_20 (by decide) (fun c3 => ?_) (fun c3 => ?_)
      · have w := wp_f c3 w
        refine R_iload_n dX9_above_27 rfl 0 rfl ?_
        refine R_bipush (v := 7) dX9_above_28 (by decide) ?_
        refine R_icmp_ne (tgt := 37) dX9_above_30 (by decide) (fun c4 => ?_) (fun c4 => ?_)
        · have w := wp_f c4 w
          refine R_iconst (v := 0) dX9_above_37 (by decide) ?_
          exact R_ireturn dX9_above_38 rfl ⟨_, rfl, wp_some w⟩
        · have w := wp_t c4 w
          refine R_iconst (v := 4) dX9_above_33 (by decide) ?_
          refine R_goto (tgt := 38) dX9_above_34 (by decide) ?_
          exact R_ireturn dX9_above_38 rfl ⟨_, rfl, wp_some w⟩
      · have w := wp_t c3 w
        refine R_iconst (v := 3) dX9_above_23 (by decide) ?_
        refine R_goto (tgt := 38) dX9_above_24 (by decide) ?_
        exact R_ireturn dX9_above_38 rfl ⟨_, rfl, wp_some w⟩
    · have w := wp_t c2 w
      refine R_iconst (v := 1) dX9_above_14 (by decide) ?_
      refine R_goto (tgt := 38) dX9_above_15 (by decide) ?_
      exact R_ireturn dX9_above_38 rfl ⟨_, rfl, wp_some w⟩
  · have w := wp_t c1 w
    refine R_iconst (v := 2) dX9_above_5 (by decide) ?_
    refine R_goto (tgt := 38) dX9_above_6 (by decide) ?_
    exact R_ireturn dX9_above_38 rfl ⟨_, rfl, wp_some w⟩
def g_X9_begins_19     (σ : AS) : Option (Unit × AS) := (lt (sF σ 9 0 47 ((gF σ 9 0 47) + 1)) fun σ2 => some ((), σ2))
set_option maxRecDepth 100000 in
set_option maxHeartbeats 4000000 in
theorem rk_X9_begins_19 {l : Launch} {cx : CX} (hA : AD cx)    (Q : Unit → AS → Prop)  (σ : AS) (w : wpO (g_X9_begins_19  σ) Q) : RJ l cx 0 RX9 cX9_begins 2 none 19 [(0, .inr (.inr (9, 0, 0)))] [] σ (QV Q) := by
  unfold g_X9_begins_19 at w
  refine R_aload_n dX9_begins_19 rfl 0 rfl ?_
  refine R_dup dX9_begins_20 rfl ?_
  refine R_getfI (k := 47) acl9 oz9_0 (by decide) fl_RX9_332 dX9_begins_21 rfl ?_
  refine R_iconst (v := 1) dX9_begins_24 (by decide) ?_
  refine R_iadd dX9_begins_25 ?_
  refine R_putf (k := 47) (ty := .int) acl9 oz9_0 (by decide) fl_RX9_332 rfl (tyX9_ok 47 (by decide)) (Or.inl rfl) dX9_begins_26 rfl ?_
  refine R_nameS w ?_; clear w; intro σ2 w
  exact R_vreturn dX9_begins_29 rfl ⟨rfl, wp_some w⟩
def g_X9_begins (a0 : Int32) (σ : AS) : Option (Unit × AS) := (if gF σ 9 0 47 < 24 then (if inb (gF σ 9 0 47) 24 then (lt (sA σ 9 0 46 (gF σ 9 0 47) a0) fun σ4 => g_X9_begins_19 σ4) else none) else g_X9_begins_19 σ)
set_option maxRecDepth 100000 in
set_option maxHeartbeats 4000000 in
theorem ct_X9_begins {l : Launch} {cx : CX} (hA : AD cx) (a0 : Int32) (σ : AS) (Q : Unit → AS → Prop) (w : wpO (g_X9_begins a0 σ) Q) : AMet l cx 0 yX9_begins cX9_begins 2 none [.inr (.inr (9, 0, 0)), .inl a0] σ (QV Q) := by
  unfold g_X9_begins at w
  refine AMet.of (own := RX9) (by decide) rfl hA (Nat.le_of_ble_eq_true rfl) ?_
  show RJ l cx 0 RX9 cX9_begins 2 none 0 [(0, .inr (.inr (9, 0, 0))), (1, .inl a0)] [] σ _
  refine R_aload_n dX9_begins_0 rfl 0 rfl ?_
  refine R_getfI (k := 47) acl9 oz9_0 (by decide) fl_RX9_332 dX9_begins_1 rfl ?_
  refine R_bipush (v := 24) dX9_begins_4 (by decide) ?_
  refine R_icmp_ge (tgt := 19) dX9_begins_6 (by decide) (fun c1 => ?_) (fun c1 => ?_)
  · have w := wp_f c1 w
    refine R_sub [0] rfl ?_
    exact rk_X9_begins_19 hA _ σ w
  · have w := wp_t c1 w
    refine R_aload_n dX9_begins_9 rfl 0 rfl ?_
    refine R_getfA (k := 46) acl9 oz9_0 (by decide) fl_RX9_85 dX9_begins_10 rfl ?_
    refine R_aload_n dX9_begins_13 rfl 0 rfl ?_
    refine R_getfI (k := 47) acl9 oz9_0 (by decide) fl_RX9_332 dX9_begins_14 rfl ?_
    refine R_iload_n dX9_begins_17 rfl 1 rfl ?_
    obtain ⟨b3, w⟩ := wp_chk w
    refine R_iast rfl oz9_0 b3 dX9_begins_18 ?_
    refine R_nameS w ?_; clear w; intro σ4 w
    refine R_sub [0] rfl ?_
    exact rk_X9_begins_19 hA _ σ4 w
abbrev GT3 : Type := (Int32 → Int32 → AS → Option (Int32 × AS)) × (Int32 → Int32 → AS → Option (Int32 × AS)) × (Int32 → Int32 → AS → Option (Int32 × AS)) × (Int32 → Int32 → AS → Option (Int32 × AS))
abbrev GC3 (l : Launch) (cx : CX) (f : Nat) (rc : GT3) : Prop := (∀ (a0 : Int32) (a1 : Int32) (σ : AS) (Q : Int32 → AS → Prop), wpO (rc.1 a0 a1 σ) Q → AMet l cx (f + 1) yX9_holdsAs cX9_holdsAs 3 (some .int) [.inr (.inr (9, 0, 0)), .inl a0, .inl a1] σ (QI Q)) ∧ (∀ (a0 : Int32) (a1 : Int32) (σ : AS) (Q : Int32 → AS → Prop), wpO (rc.2.1 a0 a1 σ) Q → AMet l cx (f + 1) yX9_pushesAs cX9_pushesAs 4 (some .int) [.inr (.inr (9, 0, 0)), .inl a0, .inl a1] σ (QI Q)) ∧ (∀ (a0 : Int32) (a1 : Int32) (σ : AS) (Q : Int32 → AS → Prop), wpO (rc.2.2.1 a0 a1 σ) Q → AMet l cx (f + 1) yX9_yieldsAs cX9_yieldsAs 4 (some .int) [.inr (.inr (9, 0, 0)), .inl a0, .inl a1] σ (QI Q)) ∧ (∀ (a0 : Int32) (a1 : Int32) (σ : AS) (Q : Int32 → AS → Prop), wpO (rc.2.2.2 a0 a1 σ) Q → AMet l cx (f + 1) yX9_tradesAs cX9_tradesAs 4 (some .int) [.inr (.inr (9, 0, 0)), .inl a0, .inl a1] σ (QI Q))
def g_X9_holdsAs_16 (rc : GT3)   (v2 : Int32) (σ : AS) : Option (Int32 × AS) := (bnd (g_X9_begins 20 σ) fun _ σ2 => (bnd (rc.1 0 v2 σ2) fun r3 σ4 => some (r3 + 3, σ4)))
set_option maxRecDepth 100000 in
set_option maxHeartbeats 4000000 in
theorem rk_X9_holdsAs_16 {l : Launch} {cx : CX} (hA : AD cx) {f : Nat} (rc : GT3) (hrc : GC3 l cx f rc)   (Q : Int32 → AS → Prop) (v2 : Int32) (σ : AS) (w : wpO (g_X9_holdsAs_16 rc v2 σ) Q) : RJ l cx (f + 1 + 1) RX9 cX9_holdsAs 3 (some .int) 16 [(0, .inr (.inr (9, 0, 0))), (2, .inl v2)] [] σ (QI Q) := by
  unfold g_X9_holdsAs_16 at w
  refine R_aload_n dX9_holdsAs_16 rfl 0 rfl ?_
  refine R_bipush (v := 20) dX9_holdsAs_17 (by decide) ?_
  refine R_callVV (As := [.inl 20]) acl9 rfl oz9_0 mi_X9_begins ml_RX9_335 rfl (Nat.le_of_ble_eq_true rfl) (am_hle 1) dX9_holdsAs_19 (ct_X9_begins hA 20 σ _ (wp_bnd w)) (fun σ2 w => ?_)
  refine R_aload_n dX9_holdsAs_22 rfl 0 rfl ?_
  refine R_iconst (v := 0) dX9_holdsAs_23 (by decide) ?_
  refine R_iload_n dX9_holdsAs_24 rfl 1 rfl ?_
  refine R_callVI (As := [.inl 0, .inl v2]) acl9 rfl oz9_0 mi_X9_holdsAs ml_RX9_338 rfl (Nat.le_of_ble_eq_true rfl) (Nat.le_refl _) dX9_holdsAs_25 (hrc.1 0 v2 σ2 _ (wp_bnd w)) (fun r3 σ4 w => ?_)
  refine R_iconst (v := 3) dX9_holdsAs_28 (by decide) ?_
  refine R_iadd dX9_holdsAs_29 ?_
  exact R_ireturn dX9_holdsAs_30 rfl ⟨_, rfl, wp_some w⟩
def gb_X9_holdsAs (rc : GT3) (a0 : Int32) (a1 : Int32) (σ : AS) : Option (Int32 × AS) := (if a0 = 1 then g_X9_holdsAs_16 rc a1 σ else (if a0 = 4 then g_X9_holdsAs_16 rc a1 σ else (if a0 = 7 then g_X9_holdsAs_16 rc a1 σ else (if a0 = 6 then (bnd (g_X9_begins 70 σ) fun _ σ9 => (bnd (rc.1 0 a1 σ9) fun r10 σ11 => some (r10 * 2, σ11))) else (bnd (g_X9_begins 1 σ) fun _ σ8 => some (a1 + (gF σ8 9 0 49), σ8))))))
set_option maxRecDepth 100000 in
set_option maxHeartbeats 4000000 in
theorem cb_X9_holdsAs {l : Launch} {cx : CX} (hA : AD cx) {f : Nat} (rc : GT3) (hrc : GC3 l cx f rc) (a0 : Int32) (a1 : Int32) (σ : AS) (Q : Int32 → AS → Prop) (w : wpO (gb_X9_holdsAs rc a0 a1 σ) Q) : AMet l cx (f + 1 + 1) yX9_holdsAs cX9_holdsAs 3 (some .int) [.inr (.inr (9, 0, 0)), .inl a0, .inl a1] σ (QI Q) := by
  unfold gb_X9_holdsAs at w
  refine AMet.of (own := RX9) (by decide) rfl hA (Nat.le_of_ble_eq_true rfl) ?_
  show RJ l cx (f + 1 + 1) RX9 cX9_holdsAs 3 (some .int) 0 [(0, .inr (.inr (9, 0, 0))), (1, .inl a0), (2, .inl a1)] [] σ _
  refine R_iload_n dX9_holdsAs_0 rfl 1 rfl ?_
  refine R_iconst (v := 1) dX9_holdsAs_1 (by decide) ?_
  refine R_icmp_eq (tgt := 16) dX9_holdsAs_2 (by decide) (fun c1 => ?_) (fun c1 => ?_)
  · have w := wp_t c1 w
    refine R_sub [0, 2] rfl ?_
    exact rk_X9_holdsAs_16 hA rc hrc _ a1 σ w
  · have w := wp_f c1 w
    refine R_iload_n dX9_holdsAs_5 rfl 1 rfl ?_
    refine R_iconst (v := 4) dX9_holdsAs_6 (by decide) ?_
    refine R_icmp_eq (tgt := 16) dX9_holdsAs_7 (by decide) (fun c5 => ?_) (fun c5 => ?_)
    · have w := wp_t c5 w
      refine R_sub [0, 2] rfl ?_
      exact rk_X9_holdsAs_16 hA rc hrc _ a1 σ w
    · have w := wp_f c5 w
      refine R_iload_n dX9_holdsAs_10 rfl 1 rfl ?_
      refine R_bipush (v := 7) dX9_holdsAs_11 (by decide) ?_
      refine R_icmp_ne (tgt := 31) dX9_holdsAs_13 (by decide) (fun c6 => ?_) (fun c6 => ?_)
      · have w := wp_f c6 w
        refine R_iload_n dX9_holdsAs_31 rfl 1 rfl ?_
        refine R_bipush (v := 6) dX9_holdsAs_32 (by decide) ?_
        refine R_icmp_ne (tgt := 52) dX9_holdsAs_34 (by decide) (fun c7 => ?_) (fun c7 => ?_)
        · have w := wp_f c7 w
          refine R_aload_n dX9_holdsAs_52 rfl 0 rfl ?_
          refine R_iconst (v := 1) dX9_holdsAs_53 (by decide) ?_
          refine R_callVV (As := [.inl 1]) acl9 rfl oz9_0 mi_X9_begins ml_RX9_335 rfl (Nat.le_of_ble_eq_true rfl) (am_hle 1) dX9_holdsAs_54 (ct_X9_begins hA 1 σ _ (wp_bnd w)) (fun σ8 w => ?_)
          refine R_iload_n dX9_holdsAs_57 rfl 2 rfl ?_
          refine R_aload_n dX9_holdsAs_58 rfl 0 rfl ?_
          refine R_getfI (k := 49) acl9 oz9_0 (by decide) fl_RX9_341 dX9_holdsAs_59 rfl ?_
          refine R_iadd dX9_holdsAs_62 ?_
          exact R_ireturn dX9_holdsAs_63 rfl ⟨_, rfl, wp_some w⟩
        · have w := wp_t c7 w
          refine R_aload_n dX9_holdsAs_37 rfl 0 rfl ?_
          refine R_bipush (v := 70) dX9_holdsAs_38 (by decide) ?_
          refine R_callVV (As := [.inl 70]) acl9 rfl oz9_0 mi_X9_begins ml_RX9_335 rfl (Nat.le_of_ble_eq_true rfl) (am_hle 1) dX9_holdsAs_40 (ct_X9_begins hA 70 σ _ (wp_bnd w)) (fun σ9 w => ?_)
          refine R_aload_n dX9_holdsAs_43 rfl 0 rfl ?_
          refine R_iconst (v := 0) dX9_holdsAs_44 (by decide) ?_
          refine R_iload_n dX9_holdsAs_45 rfl 2 rfl ?_
          refine R_callVI (As := [.inl 0, .inl a1]) acl9 rfl oz9_0 mi_X9_holdsAs ml_RX9_338 rfl (Nat.le_of_ble_eq_true rfl) (Nat.le_refl _) dX9_holdsAs_46 (hrc.1 0 a1 σ9 _ (wp_bnd w)) (fun r10 σ11 w => ?_)
          refine R_iconst (v := 2) dX9_holdsAs_49 (by decide) ?_
          refine R_imul dX9_holdsAs_50 ?_
          exact R_ireturn dX9_holdsAs_51 rfl ⟨_, rfl, wp_some w⟩
      · have w := wp_t c6 w
        refine R_sub [0, 2] rfl ?_
        exact rk_X9_holdsAs_16 hA rc hrc _ a1 σ w
def g_X9_pushesAs_10 (rc : GT3)   (v2 : Int32) (σ : AS) : Option (Int32 × AS) := (bnd (g_X9_begins 41 σ) fun _ σ2 => (bnd (rc.2.1 2 (v2 + 1) σ2) fun r3 σ4 => some (r3, σ4)))
set_option maxRecDepth 100000 in
set_option maxHeartbeats 4000000 in
theorem rk_X9_pushesAs_10 {l : Launch} {cx : CX} (hA : AD cx) {f : Nat} (rc : GT3) (hrc : GC3 l cx f rc)   (Q : Int32 → AS → Prop) (v2 : Int32) (σ : AS) (w : wpO (g_X9_pushesAs_10 rc v2 σ) Q) : RJ l cx (f + 1 + 1) RX9 cX9_pushesAs 4 (some .int) 10 [(0, .inr (.inr (9, 0, 0))), (2, .inl v2)] [] σ (QI Q) := by
  unfold g_X9_pushesAs_10 at w
  refine R_aload_n dX9_pushesAs_10 rfl 0 rfl ?_
  refine R_bipush (v := 41) dX9_pushesAs_11 (by decide) ?_
  refine R_callVV (As := [.inl 41]) acl9 rfl oz9_0 mi_X9_begins ml_RX9_335 rfl (Nat.le_of_ble_eq_true rfl) (am_hle 1) dX9_pushesAs_13 (ct_X9_begins hA 41 σ _ (wp_bnd w)) (fun σ2 w => ?_)
  refine R_aload_n dX9_pushesAs_16 rfl 0 rfl ?_
  refine R_iconst (v := 2) dX9_pushesAs_17 (by decide) ?_
  refine R_iload_n dX9_pushesAs_18 rfl 1 rfl ?_
  refine R_iconst (v := 1) dX9_pushesAs_19 (by decide) ?_
  refine R_iadd dX9_pushesAs_20 ?_
  refine R_callVI (As := [.inl 2, .inl (v2 + 1)]) acl9 rfl oz9_0 mi_X9_pushesAs ml_RX9_344 rfl (Nat.le_of_ble_eq_true rfl) (Nat.le_refl _) dX9_pushesAs_21 (hrc.2.1 2 (v2 + 1) σ2 _ (wp_bnd w)) (fun r3 σ4 w => ?_)
  exact R_ireturn dX9_pushesAs_24 rfl ⟨_, rfl, wp_some w⟩
def gb_X9_pushesAs (rc : GT3) (a0 : Int32) (a1 : Int32) (σ : AS) : Option (Int32 × AS) := (if a0 = 3 then g_X9_pushesAs_10 rc a1 σ else (if a0 = 5 then g_X9_pushesAs_10 rc a1 σ else (if a0 = 2 then (bnd (g_X9_begins 30 σ) fun _ σ16 => (bnd (rc.2.1 0 a1 σ16) fun r17 σ18 => some (-r17, σ18))) else (if a0 = 7 then (bnd (g_X9_begins 80 σ) fun _ σ11 => (bnd (rc.2.1 4 a1 σ11) fun r12 σ13 => (bnd (rc.2.2.1 (gF σ13 9 0 48) 2 σ13) fun r14 σ15 => some (r12 + r14, σ15)))) else (bnd (g_X9_begins 10 σ) fun _ σ8 => (bnd (rc.1 (gF σ8 9 0 48) a1 σ8) fun r9 σ10 => some (r9 * 2, σ10)))))))
set_option maxRecDepth 100000 in
set_option maxHeartbeats 4000000 in
theorem cb_X9_pushesAs {l : Launch} {cx : CX} (hA : AD cx) {f : Nat} (rc : GT3) (hrc : GC3 l cx f rc) (a0 : Int32) (a1 : Int32) (σ : AS) (Q : Int32 → AS → Prop) (w : wpO (gb_X9_pushesAs rc a0 a1 σ) Q) : AMet l cx (f + 1 + 1) yX9_pushesAs cX9_pushesAs 4 (some .int) [.inr (.inr (9, 0, 0)), .inl a0, .inl a1] σ (QI Q) := by
  unfold gb_X9_pushesAs at w
  refine AMet.of (own := RX9) (by decide) rfl hA (Nat.le_of_ble_eq_true rfl) ?_
  show RJ l cx (f + 1 + 1) RX9 cX9_pushesAs 4 (some .int) 0 [(0, .inr (.inr (9, 0, 0))), (1, .inl a0), (2, .inl a1)] [] σ _
  refine R_iload_n dX9_pushesAs_0 rfl 1 rfl ?_
  refine R_iconst (v := 3) dX9_pushesAs_1 (by decide) ?_
  refine R_icmp_eq (tgt := 10) dX9_pushesAs_2 (by decide) (fun c1 => ?_) (fun c1 => ?_)
  · have w := wp_t c1 w
    refine R_sub [0, 2] rfl ?_
    exact rk_X9_pushesAs_10 hA rc hrc _ a1 σ w
  · have w := wp_f c1 w
    refine R_iload_n dX9_pushesAs_5 rfl 1 rfl ?_
    refine R_iconst (v := 5) dX9_pushesAs_6 (by decide) ?_
    refine R_icmp_ne (tgt := 25) dX9_pushesAs_7 (by decide) (fun c5 => ?_) (fun c5 => ?_)
    · have w := wp_f c5 w
      refine R_iload_n dX9_pushesAs_25 rfl 1 rfl ?_
      refine R_iconst (v := 2) dX9_pushesAs_26 (by decide) ?_
      refine R_icmp_ne (tgt := 44) dX9_pushesAs_27 (by decide) (fun c6 => ?_) (fun c6 => ?_)
      · have w := wp_f c6 w
        refine R_iload_n dX9_pushesAs_44 rfl 1 rfl ?_
        refine R_bipush (v := 7) dX9_pushesAs_45 (by decide) ?_
        refine R_icmp_ne (tgt := 75) dX9_pushesAs_47 (by decide) (fun c7 => ?_) (fun c7 => ?_)
        · have w := wp_f c7 w
          refine R_aload_n dX9_pushesAs_75 rfl 0 rfl ?_
          refine R_bipush (v := 10) dX9_pushesAs_76 (by decide) ?_
          refine R_callVV (As := [.inl 10]) acl9 rfl oz9_0 mi_X9_begins ml_RX9_335 rfl (Nat.le_of_ble_eq_true rfl) (am_hle 1) dX9_pushesAs_78 (ct_X9_begins hA 10 σ _ (wp_bnd w)) (fun σ8 w => ?_)
          refine R_aload_n dX9_pushesAs_81 rfl 0 rfl ?_
          refine R_aload_n dX9_pushesAs_82 rfl 0 rfl ?_
          refine R_getfI (k := 48) acl9 oz9_0 (by decide) fl_RX9_347 dX9_pushesAs_83 rfl ?_
          refine R_iload_n dX9_pushesAs_86 rfl 2 rfl ?_
          refine R_callVI (As := [.inl (gF σ8 9 0 48), .inl a1]) acl9 rfl oz9_0 mi_X9_holdsAs ml_RX9_338 rfl (Nat.le_of_ble_eq_true rfl) (Nat.le_refl _) dX9_pushesAs_87 (hrc.1 (gF σ8 9 0 48) a1 σ8 _ (wp_bnd w)) (fun r9 σ10 w => ?_)
          refine R_iconst (v := 2) dX9_pushesAs_90 (by decide) ?_
          refine R_imul dX9_pushesAs_91 ?_
          exact R_ireturn dX9_pushesAs_92 rfl ⟨_, rfl, wp_some w⟩
        · have w := wp_t c7 w
          refine R_aload_n dX9_pushesAs_50 rfl 0 rfl ?_
          refine R_bipush (v := 80) dX9_pushesAs_51 (by decide) ?_
          refine R_callVV (As := [.inl 80]) acl9 rfl oz9_0 mi_X9_begins ml_RX9_335 rfl (Nat.le_of_ble_eq_true rfl) (am_hle 1) dX9_pushesAs_53 (ct_X9_begins hA 80 σ _ (wp_bnd w)) (fun σ11 w => ?_)
          refine R_aload_n dX9_pushesAs_56 rfl 0 rfl ?_
          refine R_iconst (v := 4) dX9_pushesAs_57 (by decide) ?_
          refine R_iload_n dX9_pushesAs_58 rfl 2 rfl ?_
          refine R_callVI (As := [.inl 4, .inl a1]) acl9 rfl oz9_0 mi_X9_pushesAs ml_RX9_344 rfl (Nat.le_of_ble_eq_true rfl) (Nat.le_refl _) dX9_pushesAs_59 (hrc.2.1 4 a1 σ11 _ (wp_bnd w)) (fun r12 σ13 w => ?_)
          refine R_istore_n (lv' := [(3, .inl r12), (0, .inr (.inr (9, 0, 0))), (1, .inl a0), (2, .inl a1)]) dX9_pushesAs_62 rfl (by decide) rfl ?_
          refine R_iload_n dX9_pushesAs_63 rfl 0 rfl ?_
          refine R_aload_n dX9_pushesAs_64 rfl 1 rfl ?_
          refine R_aload_n dX9_pushesAs_65 rfl 1 rfl ?_
          refine R_getfI (k := 48) acl9 oz9_0 (by decide) fl_RX9_347 dX9_pushesAs_66 rfl ?_
          refine R_iconst (v := 2) dX9_pushesAs_69 (by decide) ?_
          refine R_callVI (As := [.inl (gF σ13 9 0 48), .inl 2]) acl9 rfl oz9_0 mi_X9_yieldsAs ml_RX9_350 rfl (Nat.le_of_ble_eq_true rfl) (Nat.le_refl _) dX9_pushesAs_70 (hrc.2.2.1 (gF σ13 9 0 48) 2 σ13 _ (wp_bnd w)) (fun r14 σ15 w => ?_)
          refine R_iadd dX9_pushesAs_73 ?_
          exact R_ireturn dX9_pushesAs_74 rfl ⟨_, rfl, wp_some w⟩
      · have w := wp_t c6 w
        refine R_aload_n dX9_pushesAs_30 rfl 0 rfl ?_
        refine R_bipush (v := 30) dX9_pushesAs_31 (by decide) ?_
        refine R_callVV (As := [.inl 30]) acl9 rfl oz9_0 mi_X9_begins ml_RX9_335 rfl (Nat.le_of_ble_eq_true rfl) (am_hle 1) dX9_pushesAs_33 (ct_X9_begins hA 30 σ _ (wp_bnd w)) (fun σ16 w => ?_)
        refine R_aload_n dX9_pushesAs_36 rfl 0 rfl ?_
        refine R_iconst (v := 0) dX9_pushesAs_37 (by decide) ?_
        refine R_iload_n dX9_pushesAs_38 rfl 2 rfl ?_
        refine R_callVI (As := [.inl 0, .inl a1]) acl9 rfl oz9_0 mi_X9_pushesAs ml_RX9_344 rfl (Nat.le_of_ble_eq_true rfl) (Nat.le_refl _) dX9_pushesAs_39 (hrc.2.1 0 a1 σ16 _ (wp_bnd w)) (fun r17 σ18 w => ?_)
        refine R_ineg dX9_pushesAs_42 ?_
        exact R_ireturn dX9_pushesAs_43 rfl ⟨_, rfl, wp_some w⟩
    · have w := wp_t c5 w
      refine R_sub [0, 2] rfl ?_
      exact rk_X9_pushesAs_10 hA rc hrc _ a1 σ w
def g_X9_yieldsAs_10 (rc : GT3)   (v2 : Int32) (σ : AS) : Option (Int32 × AS) := (bnd (g_X9_begins 40 σ) fun _ σ2 => (bnd (rc.2.2.1 2 v2 σ2) fun r3 σ4 => some (r3 * 3, σ4)))
set_option maxRecDepth 100000 in
set_option maxHeartbeats 4000000 in
theorem rk_X9_yieldsAs_10 {l : Launch} {cx : CX} (hA : AD cx) {f : Nat} (rc : GT3) (hrc : GC3 l cx f rc)   (Q : Int32 → AS → Prop) (v2 : Int32) (σ : AS) (w : wpO (g_X9_yieldsAs_10 rc v2 σ) Q) : RJ l cx (f + 1 + 1) RX9 cX9_yieldsAs 4 (some .int) 10 [(0, .inr (.inr (9, 0, 0))), (2, .inl v2)] [] σ (QI Q) := by
  unfold g_X9_yieldsAs_10 at w
  refine R_aload_n dX9_yieldsAs_10 rfl 0 rfl ?_
  refine R_bipush (v := 40) dX9_yieldsAs_11 (by decide) ?_
  refine R_callVV (As := [.inl 40]) acl9 rfl oz9_0 mi_X9_begins ml_RX9_335 rfl (Nat.le_of_ble_eq_true rfl) (am_hle 1) dX9_yieldsAs_13 (ct_X9_begins hA 40 σ _ (wp_bnd w)) (fun σ2 w => ?_)
  refine R_aload_n dX9_yieldsAs_16 rfl 0 rfl ?_
  refine R_iconst (v := 2) dX9_yieldsAs_17 (by decide) ?_
  refine R_iload_n dX9_yieldsAs_18 rfl 1 rfl ?_
  refine R_callVI (As := [.inl 2, .inl v2]) acl9 rfl oz9_0 mi_X9_yieldsAs ml_RX9_350 rfl (Nat.le_of_ble_eq_true rfl) (Nat.le_refl _) dX9_yieldsAs_19 (hrc.2.2.1 2 v2 σ2 _ (wp_bnd w)) (fun r3 σ4 w => ?_)
  refine R_iconst (v := 3) dX9_yieldsAs_22 (by decide) ?_
  refine R_imul dX9_yieldsAs_23 ?_
  exact R_ireturn dX9_yieldsAs_24 rfl ⟨_, rfl, wp_some w⟩
def g_X9_yieldsAs_36 (rc : GT3)   (v2 : Int32) (σ : AS) : Option (Int32 × AS) := (bnd (g_X9_begins 50 σ) fun _ σ7 => (bnd (rc.2.2.1 1 v2 σ7) fun r8 σ9 => (bnd (rc.1 (gF σ9 9 0 48) 2 σ9) fun r10 σ11 => some (r8 - r10, σ11))))
set_option maxRecDepth 100000 in
set_option maxHeartbeats 4000000 in
theorem rk_X9_yieldsAs_36 {l : Launch} {cx : CX} (hA : AD cx) {f : Nat} (rc : GT3) (hrc : GC3 l cx f rc)   (Q : Int32 → AS → Prop) (v2 : Int32) (σ : AS) (w : wpO (g_X9_yieldsAs_36 rc v2 σ) Q) : RJ l cx (f + 1 + 1) RX9 cX9_yieldsAs 4 (some .int) 36 [(0, .inr (.inr (9, 0, 0))), (2, .inl v2)] [] σ (QI Q) := by
  unfold g_X9_yieldsAs_36 at w
  refine R_aload_n dX9_yieldsAs_36 rfl 0 rfl ?_
  refine R_bipush (v := 50) dX9_yieldsAs_37 (by decide) ?_
  refine R_callVV (As := [.inl 50]) acl9 rfl oz9_0 mi_X9_begins ml_RX9_335 rfl (Nat.le_of_ble_eq_true rfl) (am_hle 1) dX9_yieldsAs_39 (ct_X9_begins hA 50 σ _ (wp_bnd w)) (fun σ7 w => ?_)
  refine R_aload_n dX9_yieldsAs_42 rfl 0 rfl ?_
  refine R_iconst (v := 1) dX9_yieldsAs_43 (by decide) ?_
  refine R_iload_n dX9_yieldsAs_44 rfl 1 rfl ?_
  refine R_callVI (As := [.inl 1, .inl v2]) acl9 rfl oz9_0 mi_X9_yieldsAs ml_RX9_350 rfl (Nat.le_of_ble_eq_true rfl) (Nat.le_refl _) dX9_yieldsAs_45 (hrc.2.2.1 1 v2 σ7 _ (wp_bnd w)) (fun r8 σ9 w => ?_)
  refine R_istore_n (lv' := [(3, .inl r8), (0, .inr (.inr (9, 0, 0))), (2, .inl v2)]) dX9_yieldsAs_48 rfl (by decide) rfl ?_
  refine R_iload_n dX9_yieldsAs_49 rfl 0 rfl ?_
  refine R_aload_n dX9_yieldsAs_50 rfl 1 rfl ?_
  refine R_aload_n dX9_yieldsAs_51 rfl 1 rfl ?_
  refine R_getfI (k := 48) acl9 oz9_0 (by decide) fl_RX9_347 dX9_yieldsAs_52 rfl ?_
  refine R_iconst (v := 2) dX9_yieldsAs_55 (by decide) ?_
  refine R_callVI (As := [.inl (gF σ9 9 0 48), .inl 2]) acl9 rfl oz9_0 mi_X9_holdsAs ml_RX9_338 rfl (Nat.le_of_ble_eq_true rfl) (Nat.le_refl _) dX9_yieldsAs_56 (hrc.1 (gF σ9 9 0 48) 2 σ9 _ (wp_bnd w)) (fun r10 σ11 w => ?_)
  refine R_isub dX9_yieldsAs_59 ?_
  exact R_ireturn dX9_yieldsAs_60 rfl ⟨_, rfl, wp_some w⟩
def gb_X9_yieldsAs (rc : GT3) (a0 : Int32) (a1 : Int32) (σ : AS) : Option (Int32 × AS) := (if a0 = 3 then g_X9_yieldsAs_10 rc a1 σ else (if a0 = 5 then g_X9_yieldsAs_10 rc a1 σ else (if a0 = 4 then g_X9_yieldsAs_36 rc a1 σ else (if a0 = 7 then g_X9_yieldsAs_36 rc a1 σ else (bnd (g_X9_begins 11 σ) fun _ σ13 => some (a1 ^^^ (gF σ13 9 0 49), σ13))))))
set_option maxRecDepth 100000 in
set_option maxHeartbeats 4000000 in
theorem cb_X9_yieldsAs {l : Launch} {cx : CX} (hA : AD cx) {f : Nat} (rc : GT3) (hrc : GC3 l cx f rc) (a0 : Int32) (a1 : Int32) (σ : AS) (Q : Int32 → AS → Prop) (w : wpO (gb_X9_yieldsAs rc a0 a1 σ) Q) : AMet l cx (f + 1 + 1) yX9_yieldsAs cX9_yieldsAs 4 (some .int) [.inr (.inr (9, 0, 0)), .inl a0, .inl a1] σ (QI Q) := by
  unfold gb_X9_yieldsAs at w
  refine AMet.of (own := RX9) (by decide) rfl hA (Nat.le_of_ble_eq_true rfl) ?_
  show RJ l cx (f + 1 + 1) RX9 cX9_yieldsAs 4 (some .int) 0 [(0, .inr (.inr (9, 0, 0))), (1, .inl a0), (2, .inl a1)] [] σ _
  refine R_iload_n dX9_yieldsAs_0 rfl 1 rfl ?_
  refine R_iconst (v := 3) dX9_yieldsAs_1 (by decide) ?_
  refine R_icmp_eq (tgt := 10) dX9_yieldsAs_2 (by decide) (fun c1 => ?_) (fun c1 => ?_)
  · have w := wp_t c1 w
    refine R_sub [0, 2] rfl ?_
    exact rk_X9_yieldsAs_10 hA rc hrc _ a1 σ w
  · have w := wp_f c1 w
    refine R_iload_n dX9_yieldsAs_5 rfl 1 rfl ?_
    refine R_iconst (v := 5) dX9_yieldsAs_6 (by decide) ?_
    refine R_icmp_ne (tgt := 25) dX9_yieldsAs_7 (by decide) (fun c5 => ?_) (fun c5 => ?_)
    · have w := wp_f c5 w
      refine R_iload_n dX9_yieldsAs_25 rfl 1 rfl ?_
      refine R_iconst (v := 4) dX9_yieldsAs_26 (by decide) ?_
      refine R_icmp_eq (tgt := 36) dX9_yieldsAs_27 (by decide) (fun c6 => ?_) (fun c6 => ?_)
      · have w := wp_t c6 w
        refine R_sub [0, 2] rfl ?_
        exact rk_X9_yieldsAs_36 hA rc hrc _ a1 σ w
      · have w := wp_f c6 w
        refine R_iload_n dX9_yieldsAs_30 rfl 1 rfl ?_
        refine R_bipush (v := 7) dX9_yieldsAs_31 (by decide) ?_
        refine R_icmp_ne (tgt := 61) dX9_yieldsAs_33 (by decide) (fun c12 => ?_) (fun c12 => ?_)
        · have w := wp_f c12 w
          refine R_aload_n dX9_yieldsAs_61 rfl 0 rfl ?_
          refine R_bipush (v := 11) dX9_yieldsAs_62 (by decide) ?_
          refine R_callVV (As := [.inl 11]) acl9 rfl oz9_0 mi_X9_begins ml_RX9_335 rfl (Nat.le_of_ble_eq_true rfl) (am_hle 1) dX9_yieldsAs_64 (ct_X9_begins hA 11 σ _ (wp_bnd w)) (fun σ13 w => ?_)
          refine R_iload_n dX9_yieldsAs_67 rfl 2 rfl ?_
          refine R_aload_n dX9_yieldsAs_68 rfl 0 rfl ?_
          refine R_getfI (k := 49) acl9 oz9_0 (by decide) fl_RX9_341 dX9_yieldsAs_69 rfl ?_
          refine R_ixor dX9_yieldsAs_72 ?_
          exact R_ireturn dX9_yieldsAs_73 rfl ⟨_, rfl, wp_some w⟩
        · have w := wp_t c12 w
          refine R_sub [0, 2] rfl ?_
          exact rk_X9_yieldsAs_36 hA rc hrc _ a1 σ w
    · have w := wp_t c5 w
      refine R_sub [0, 2] rfl ?_
      exact rk_X9_yieldsAs_10 hA rc hrc _ a1 σ w
def gb_X9_tradesAs (rc : GT3) (a0 : Int32) (a1 : Int32) (σ : AS) : Option (Int32 × AS) := (if a0 = 5 then (bnd (g_X9_begins 60 σ) fun _ σ11 => (bnd (rc.2.2.2 3 a1 σ11) fun r12 σ13 => some (r12 ^^^ 5, σ13))) else (if a0 = 7 then (bnd (g_X9_begins 81 σ) fun _ σ8 => (bnd (rc.2.2.2 4 a1 σ8) fun r9 σ10 => some (r9 - 1, σ10))) else (bnd (g_X9_begins 2 σ) fun _ σ3 => (bnd (rc.2.1 (gF σ3 9 0 48) a1 σ3) fun r4 σ5 => (bnd (rc.2.2.1 (gF σ5 9 0 48) 1 σ5) fun r6 σ7 => some (r4 - r6, σ7))))))
set_option maxRecDepth 100000 in
set_option maxHeartbeats 4000000 in
theorem cb_X9_tradesAs {l : Launch} {cx : CX} (hA : AD cx) {f : Nat} (rc : GT3) (hrc : GC3 l cx f rc) (a0 : Int32) (a1 : Int32) (σ : AS) (Q : Int32 → AS → Prop) (w : wpO (gb_X9_tradesAs rc a0 a1 σ) Q) : AMet l cx (f + 1 + 1) yX9_tradesAs cX9_tradesAs 4 (some .int) [.inr (.inr (9, 0, 0)), .inl a0, .inl a1] σ (QI Q) := by
  unfold gb_X9_tradesAs at w
  refine AMet.of (own := RX9) (by decide) rfl hA (Nat.le_of_ble_eq_true rfl) ?_
  show RJ l cx (f + 1 + 1) RX9 cX9_tradesAs 4 (some .int) 0 [(0, .inr (.inr (9, 0, 0))), (1, .inl a0), (2, .inl a1)] [] σ _
  refine R_iload_n dX9_tradesAs_0 rfl 1 rfl ?_
  refine R_iconst (v := 5) dX9_tradesAs_1 (by decide) ?_
  refine R_icmp_ne (tgt := 20) dX9_tradesAs_2 (by decide) (fun c1 => ?_) (fun c1 => ?_)
  · have w := wp_f c1 w
    refine R_iload_n dX9_tradesAs_20 rfl 1 rfl ?_
    refine R_bipush (v := 7) dX9_tradesAs_21 (by decide) ?_
    refine R_icmp_ne (tgt := 41) dX9_tradesAs_23 (by decide) (fun c2 => ?_) (fun c2 => ?_)
    · have w := wp_f c2 w
      refine R_aload_n dX9_tradesAs_41 rfl 0 rfl ?_
      refine R_iconst (v := 2) dX9_tradesAs_42 (by decide) ?_
      refine R_callVV (As := [.inl 2]) acl9 rfl oz9_0 mi_X9_begins ml_RX9_335 rfl (Nat.le_of_ble_eq_true rfl) (am_hle 1) dX9_tradesAs_43 (ct_X9_begins hA 2 σ _ (wp_bnd w)) (fun σ3 w => ?_)
      refine R_aload_n dX9_tradesAs_46 rfl 0 rfl ?_
      refine R_aload_n dX9_tradesAs_47 rfl 0 rfl ?_
      refine R_getfI (k := 48) acl9 oz9_0 (by decide) fl_RX9_347 dX9_tradesAs_48 rfl ?_
      refine R_iload_n dX9_tradesAs_51 rfl 2 rfl ?_
      refine R_callVI (As := [.inl (gF σ3 9 0 48), .inl a1]) acl9 rfl oz9_0 mi_X9_pushesAs ml_RX9_344 rfl (Nat.le_of_ble_eq_true rfl) (Nat.le_refl _) dX9_tradesAs_52 (hrc.2.1 (gF σ3 9 0 48) a1 σ3 _ (wp_bnd w)) (fun r4 σ5 w => ?_)
      refine R_istore_n (lv' := [(3, .inl r4), (0, .inr (.inr (9, 0, 0))), (1, .inl a0), (2, .inl a1)]) dX9_tradesAs_55 rfl (by decide) rfl ?_
      refine R_iload_n dX9_tradesAs_56 rfl 0 rfl ?_
      refine R_aload_n dX9_tradesAs_57 rfl 1 rfl ?_
      refine R_aload_n dX9_tradesAs_58 rfl 1 rfl ?_
      refine R_getfI (k := 48) acl9 oz9_0 (by decide) fl_RX9_347 dX9_tradesAs_59 rfl ?_
      refine R_iconst (v := 1) dX9_tradesAs_62 (by decide) ?_
      refine R_callVI (As := [.inl (gF σ5 9 0 48), .inl 1]) acl9 rfl oz9_0 mi_X9_yieldsAs ml_RX9_350 rfl (Nat.le_of_ble_eq_true rfl) (Nat.le_refl _) dX9_tradesAs_63 (hrc.2.2.1 (gF σ5 9 0 48) 1 σ5 _ (wp_bnd w)) (fun r6 σ7 w => ?_)
      refine R_isub dX9_tradesAs_66 ?_
      exact R_ireturn dX9_tradesAs_67 rfl ⟨_, rfl, wp_some w⟩
    · have w := wp_t c2 w
      refine R_aload_n dX9_tradesAs_26 rfl 0 rfl ?_
      refine R_bipush (v := 81) dX9_tradesAs_27 (by decide) ?_
      refine R_callVV (As := [.inl 81]) acl9 rfl oz9_0 mi_X9_begins ml_RX9_335 rfl (Nat.le_of_ble_eq_true rfl) (am_hle 1) dX9_tradesAs_29 (ct_X9_begins hA 81 σ _ (wp_bnd w)) (fun σ8 w => ?_)
      refine R_aload_n dX9_tradesAs_32 rfl 0 rfl ?_
      refine R_iconst (v := 4) dX9_tradesAs_33 (by decide) ?_
      refine R_iload_n dX9_tradesAs_34 rfl 2 rfl ?_
      refine R_callVI (As := [.inl 4, .inl a1]) acl9 rfl oz9_0 mi_X9_tradesAs ml_RX9_353 rfl (Nat.le_of_ble_eq_true rfl) (Nat.le_refl _) dX9_tradesAs_35 (hrc.2.2.2 4 a1 σ8 _ (wp_bnd w)) (fun r9 σ10 w => ?_)
      refine R_iconst (v := 1) dX9_tradesAs_38 (by decide) ?_
      refine R_isub dX9_tradesAs_39 ?_
      exact R_ireturn dX9_tradesAs_40 rfl ⟨_, rfl, wp_some w⟩
  · have w := wp_t c1 w
    refine R_aload_n dX9_tradesAs_5 rfl 0 rfl ?_
    refine R_bipush (v := 60) dX9_tradesAs_6 (by decide) ?_
    refine R_callVV (As := [.inl 60]) acl9 rfl oz9_0 mi_X9_begins ml_RX9_335 rfl (Nat.le_of_ble_eq_true rfl) (am_hle 1) dX9_tradesAs_8 (ct_X9_begins hA 60 σ _ (wp_bnd w)) (fun σ11 w => ?_)
    refine R_aload_n dX9_tradesAs_11 rfl 0 rfl ?_
    refine R_iconst (v := 3) dX9_tradesAs_12 (by decide) ?_
    refine R_iload_n dX9_tradesAs_13 rfl 2 rfl ?_
    refine R_callVI (As := [.inl 3, .inl a1]) acl9 rfl oz9_0 mi_X9_tradesAs ml_RX9_353 rfl (Nat.le_of_ble_eq_true rfl) (Nat.le_refl _) dX9_tradesAs_14 (hrc.2.2.2 3 a1 σ11 _ (wp_bnd w)) (fun r12 σ13 w => ?_)
    refine R_iconst (v := 5) dX9_tradesAs_17 (by decide) ?_
    refine R_ixor dX9_tradesAs_18 ?_
    exact R_ireturn dX9_tradesAs_19 rfl ⟨_, rfl, wp_some w⟩
def gr3 : Nat → GT3
  | 0 => ((fun _ _ _ => none), (fun _ _ _ => none), (fun _ _ _ => none), (fun _ _ _ => none))
  | f + 1 => (gb_X9_holdsAs (gr3 f), gb_X9_pushesAs (gr3 f), gb_X9_yieldsAs (gr3 f), gb_X9_tradesAs (gr3 f))
set_option maxRecDepth 100000 in
set_option maxHeartbeats 4000000 in
theorem gc3 {l : Launch} {cx : CX} (hA : AD cx) : ∀ f, GC3 l cx f (gr3 f)
  | 0 => ⟨(fun a0 a1 σ Q w => wp_no w), (fun a0 a1 σ Q w => wp_no w), (fun a0 a1 σ Q w => wp_no w), (fun a0 a1 σ Q w => wp_no w)⟩
  | f + 1 => by
    have ih := gc3 (l := l) hA f
    have e : ∀ b : Nat, f + 1 + b = f + 1 + b := fun _ => rfl
    exact ⟨(fun a0 a1 σ Q w => cb_X9_holdsAs hA (gr3 f) ih a0 a1 σ Q w), (fun a0 a1 σ Q w => cb_X9_pushesAs hA (gr3 f) ih a0 a1 σ Q w), (fun a0 a1 σ Q w => cb_X9_yieldsAs hA (gr3 f) ih a0 a1 σ Q w), (fun a0 a1 σ Q w => cb_X9_tradesAs hA (gr3 f) ih a0 a1 σ Q w)⟩
def g_X9_holdsAs (a0 : Int32) (a1 : Int32) (σ : AS) : Option (Int32 × AS) := (gr3 100).1 a0 a1 σ
set_option maxRecDepth 100000 in
set_option maxHeartbeats 4000000 in
theorem ct_X9_holdsAs {l : Launch} {cx : CX} (hA : AD cx) (a0 : Int32) (a1 : Int32) (σ : AS) (Q : Int32 → AS → Prop) (w : wpO (g_X9_holdsAs a0 a1 σ) Q) : AMet l cx 101 yX9_holdsAs cX9_holdsAs 3 (some .int) [.inr (.inr (9, 0, 0)), .inl a0, .inl a1] σ (QI Q) := (gc3 hA 100).1 a0 a1 σ Q w
def g_X9_pushesAs (a0 : Int32) (a1 : Int32) (σ : AS) : Option (Int32 × AS) := (gr3 100).2.1 a0 a1 σ
set_option maxRecDepth 100000 in
set_option maxHeartbeats 4000000 in
theorem ct_X9_pushesAs {l : Launch} {cx : CX} (hA : AD cx) (a0 : Int32) (a1 : Int32) (σ : AS) (Q : Int32 → AS → Prop) (w : wpO (g_X9_pushesAs a0 a1 σ) Q) : AMet l cx 101 yX9_pushesAs cX9_pushesAs 4 (some .int) [.inr (.inr (9, 0, 0)), .inl a0, .inl a1] σ (QI Q) := (gc3 hA 100).2.1 a0 a1 σ Q w
def g_X9_yieldsAs (a0 : Int32) (a1 : Int32) (σ : AS) : Option (Int32 × AS) := (gr3 100).2.2.1 a0 a1 σ
set_option maxRecDepth 100000 in
set_option maxHeartbeats 4000000 in
theorem ct_X9_yieldsAs {l : Launch} {cx : CX} (hA : AD cx) (a0 : Int32) (a1 : Int32) (σ : AS) (Q : Int32 → AS → Prop) (w : wpO (g_X9_yieldsAs a0 a1 σ) Q) : AMet l cx 101 yX9_yieldsAs cX9_yieldsAs 4 (some .int) [.inr (.inr (9, 0, 0)), .inl a0, .inl a1] σ (QI Q) := (gc3 hA 100).2.2.1 a0 a1 σ Q w
def g_X9_tradesAs (a0 : Int32) (a1 : Int32) (σ : AS) : Option (Int32 × AS) := (gr3 100).2.2.2 a0 a1 σ
set_option maxRecDepth 100000 in
set_option maxHeartbeats 4000000 in
theorem ct_X9_tradesAs {l : Launch} {cx : CX} (hA : AD cx) (a0 : Int32) (a1 : Int32) (σ : AS) (Q : Int32 → AS → Prop) (w : wpO (g_X9_tradesAs a0 a1 σ) Q) : AMet l cx 101 yX9_tradesAs cX9_tradesAs 4 (some .int) [.inr (.inr (9, 0, 0)), .inl a0, .inl a1] σ (QI Q) := (gc3 hA 100).2.2.2 a0 a1 σ Q w
def g_X9_within (a0 : Int64) (a1 : Int64) (a2 : Int64) (σ : AS) : Option (Int32 × AS) := (if lg_cmp a0 a1 < 0 then some (0, σ) else (if (0 : Int32) < lg_cmp a0 a2 then some (0, σ) else some (1, σ)))
set_option maxRecDepth 100000 in
set_option maxHeartbeats 4000000 in
theorem ct_X9_within {l : Launch} {cx : CX} (hA : AD cx) (a0 : Int64) (a1 : Int64) (a2 : Int64) (σ : AS) (Q : Int32 → AS → Prop) (w : wpO (g_X9_within a0 a1 a2 σ) Q) : AMet l cx 0 yX9_within cX9_within 6 (some .boolean) [.inr (.inl a0), .inr (.inl a1), .inr (.inl a2)] σ (QI Q) := by
  unfold g_X9_within at w
  refine AMet.of (own := RX9) (by decide) rfl hA (Nat.le_of_ble_eq_true rfl) ?_
  show RJ l cx 0 RX9 cX9_within 6 (some .boolean) 0 [(0, .inr (.inl a0)), (2, .inr (.inl a1)), (4, .inr (.inl a2))] [] σ _
  refine R_lload_n dX9_within_0 rfl 0 rfl ?_
  refine R_lload_n dX9_within_1 rfl 1 rfl ?_
  refine R_lcmp dX9_within_2 ?_
  refine R_if_lt (tgt := 17) dX9_within_3 (by decide) (fun c1 => ?_) (fun c1 => ?_)
  · have w := wp_t c1 w
    refine R_iconst (v := 0) dX9_within_17 (by decide) ?_
    exact R_zreturn dX9_within_18 rfl (by decide) ⟨_, rfl, wp_some w⟩
  · have w := wp_f c1 w
    refine R_lload_n dX9_within_6 rfl 0 rfl ?_
    refine R_lload dX9_within_7 2 rfl ?_
    refine R_lcmp dX9_within_9 ?_
    refine R_if_gt (tgt := 17) dX9_within_10 (by decide) (fun c2 => ?_) (fun c2 => ?_)
    · have w := wp_t c2 w
      refine R_iconst (v := 0) dX9_within_17 (by decide) ?_
      exact R_zreturn dX9_within_18 rfl (by decide) ⟨_, rfl, wp_some w⟩
    · have w := wp_f c2 w
      refine R_iconst (v := 1) dX9_within_13 (by decide) ?_
      refine R_goto (tgt := 18) dX9_within_14 (by decide) ?_
      exact R_zreturn dX9_within_18 rfl (by decide) ⟨_, rfl, wp_some w⟩
def g_X9_isBody (a0 : Int32) (σ : AS) : Option (Int32 × AS) := (bnd (g_X9_within a0.toInt64 0 (((gF σ 9 0 44) - 1).toInt64) σ) fun r1 σ2 => (if r1 = 0 ∨ r1 = 1 then some (r1, σ2) else none))
set_option maxRecDepth 100000 in
set_option maxHeartbeats 4000000 in
theorem ct_X9_isBody {l : Launch} {cx : CX} (hA : AD cx) (a0 : Int32) (σ : AS) (Q : Int32 → AS → Prop) (w : wpO (g_X9_isBody a0 σ) Q) : AMet l cx 1 yX9_isBody cX9_isBody 2 (some .boolean) [.inr (.inr (9, 0, 0)), .inl a0] σ (QI Q) := by
  unfold g_X9_isBody at w
  refine AMet.of (own := RX9) (by decide) rfl hA (Nat.le_of_ble_eq_true rfl) ?_
  show RJ l cx 1 RX9 cX9_isBody 2 (some .boolean) 0 [(0, .inr (.inr (9, 0, 0))), (1, .inl a0)] [] σ _
  refine R_iload_n dX9_isBody_0 rfl 1 rfl ?_
  refine R_i2l dX9_isBody_1 ?_
  refine R_lconst (v := 0) dX9_isBody_2 (by decide) ?_
  refine R_aload_n dX9_isBody_3 rfl 0 rfl ?_
  refine R_getfI (k := 44) acl9 oz9_0 (by decide) fl_RX9_327 dX9_isBody_4 rfl ?_
  refine R_iconst (v := 1) dX9_isBody_7 (by decide) ?_
  refine R_isub dX9_isBody_8 ?_
  refine R_i2l dX9_isBody_9 ?_
  refine R_callSI (As := [.inr (.inl a0.toInt64), .inr (.inl 0), .inr (.inl (((gF σ 9 0 44) - 1).toInt64))]) mi_X9_within ml_RX9_114 rfl (Nat.le_of_ble_eq_true rfl) (by decide) dX9_isBody_10 (ct_X9_within hA a0.toInt64 0 (((gF σ 9 0 44) - 1).toInt64) σ _ (wp_bnd w)) (fun r1 σ2 w => ?_)
  obtain ⟨b3, w⟩ := wp_chk w
  exact R_zreturn dX9_isBody_13 rfl b3 ⟨_, rfl, wp_some w⟩
def g_X9_act (a0 : Int32) (a1 : Int32) (a2 : Int32) (σ : AS) : Option (Int32 × AS) := (lt (sF σ 9 0 47 0) fun σ1 => (bnd (g_X9_isBody a0 σ1) fun r2 σ3 => (if r2 = 0 then some (0, σ3) else (if inb a0 50 then (lt (sF σ3 9 0 48 (gA σ3 9 0 45 a0)) fun σ6 => (lt (sF σ6 9 0 49 a0) fun σ7 => (if a1 = 0 then (bnd (g_X9_holdsAs (gF σ7 9 0 48) a2 σ7) fun r9 σ10 => some (r9, σ10)) else (if a1 = 1 then (bnd (g_X9_pushesAs (gF σ7 9 0 48) a2 σ7) fun r12 σ13 => some (r12, σ13)) else (if a1 = 2 then (bnd (g_X9_yieldsAs (gF σ7 9 0 48) a2 σ7) fun r15 σ16 => some (r15, σ16)) else (if a1 = 3 then (bnd (g_X9_tradesAs (gF σ7 9 0 48) a2 σ7) fun r18 σ19 => some (r18, σ19)) else some (0, σ7))))))) else none))))
set_option maxRecDepth 100000 in
set_option maxHeartbeats 4000000 in
theorem ct_X9_act {l : Launch} {cx : CX} (hA : AD cx) (a0 : Int32) (a1 : Int32) (a2 : Int32) (σ : AS) (Q : Int32 → AS → Prop) (w : wpO (g_X9_act a0 a1 a2 σ) Q) : AMet l cx 102 yX9_act cX9_act 4 (some .int) [.inr (.inr (9, 0, 0)), .inl a0, .inl a1, .inl a2] σ (QI Q) := by
  unfold g_X9_act at w
  refine AMet.of (own := RX9) (by decide) rfl hA (Nat.le_of_ble_eq_true rfl) ?_
  show RJ l cx 102 RX9 cX9_act 4 (some .int) 0 [(0, .inr (.inr (9, 0, 0))), (1, .inl a0), (2, .inl a1), (3, .inl a2)] [] σ _
  refine R_aload_n dX9_act_0 rfl 0 rfl ?_
  refine R_iconst (v := 0) dX9_act_1 (by decide) ?_
  refine R_putf (k := 47) (ty := .int) acl9 oz9_0 (by decide) fl_RX9_332 rfl (tyX9_ok 47 (by decide)) (Or.inl rfl) dX9_act_2 rfl ?_
  refine R_nameS w ?_; clear w; intro σ1 w
  refine R_aload_n dX9_act_5 rfl 0 rfl ?_
  refine R_iload_n dX9_act_6 rfl 1 rfl ?_
  refine R_callVI (As := [.inl a0]) acl9 rfl oz9_0 mi_X9_isBody ml_RX9_356 rfl (Nat.le_of_ble_eq_true rfl) (by decide) dX9_act_7 (ct_X9_isBody hA a0 σ1 _ (wp_bnd w)) (fun r2 σ3 w => ?_)
  refine R_if_ne (tgt := 15) dX9_act_10 (by decide) (fun c4 => ?_) (fun c4 => ?_)
  · have w := wp_f c4 w
    refine R_aload_n dX9_act_15 rfl 0 rfl ?_
    refine R_aload_n dX9_act_16 rfl 0 rfl ?_
    refine R_getfA (k := 45) acl9 oz9_0 (by decide) fl_RX9_82 dX9_act_17 rfl ?_
    refine R_iload_n dX9_act_20 rfl 1 rfl ?_
    obtain ⟨b5, w⟩ := wp_chk w
    refine R_iald rfl oz9_0 b5 dX9_act_21 ?_
    refine R_putf (k := 48) (ty := .int) acl9 oz9_0 (by decide) fl_RX9_347 rfl (tyX9_ok 48 (by decide)) (Or.inl rfl) dX9_act_22 rfl ?_
    refine R_nameS w ?_; clear w; intro σ6 w
    refine R_aload_n dX9_act_25 rfl 0 rfl ?_
    refine R_iload_n dX9_act_26 rfl 1 rfl ?_
    refine R_putf (k := 49) (ty := .int) acl9 oz9_0 (by decide) fl_RX9_341 rfl (tyX9_ok 49 (by decide)) (Or.inl rfl) dX9_act_27 rfl ?_
    refine R_nameS w ?_; clear w; intro σ7 w
    refine R_iload_n dX9_act_30 rfl 2 rfl ?_
    by_cases c8 : a1 = 0
    · have w := wp_t c8 w
      refine R_tswIn (v := 0) (tgt := 60) dX9_act_31 c8 (by decide) (by decide) rfl (by decide) ?_
      refine R_aload_n dX9_act_60 rfl 0 rfl ?_
      refine R_aload_n dX9_act_61 rfl 0 rfl ?_
      refine R_getfI (k := 48) acl9 oz9_0 (by decide) fl_RX9_347 dX9_act_62 rfl ?_
      refine R_iload_n dX9_act_65 rfl 3 rfl ?_
      refine R_callVI (As := [.inl (gF σ7 9 0 48), .inl a2]) acl9 rfl oz9_0 mi_X9_holdsAs ml_RX9_338 rfl (Nat.le_of_ble_eq_true rfl) (by decide) dX9_act_66 (ct_X9_holdsAs hA (gF σ7 9 0 48) a2 σ7 _ (wp_bnd w)) (fun r9 σ10 w => ?_)
      exact R_ireturn dX9_act_69 rfl ⟨_, rfl, wp_some w⟩
    have w := wp_f c8 w
    by_cases c11 : a1 = 1
    · have w := wp_t c11 w
      refine R_tswIn (v := 1) (tgt := 70) dX9_act_31 c11 (by decide) (by decide) rfl (by decide) ?_
      refine R_aload_n dX9_act_70 rfl 0 rfl ?_
      refine R_aload_n dX9_act_71 rfl 0 rfl ?_
      refine R_getfI (k := 48) acl9 oz9_0 (by decide) fl_RX9_347 dX9_act_72 rfl ?_
      refine R_iload_n dX9_act_75 rfl 3 rfl ?_
      refine R_callVI (As := [.inl (gF σ7 9 0 48), .inl a2]) acl9 rfl oz9_0 mi_X9_pushesAs ml_RX9_344 rfl (Nat.le_of_ble_eq_true rfl) (by decide) dX9_act_76 (ct_X9_pushesAs hA (gF σ7 9 0 48) a2 σ7 _ (wp_bnd w)) (fun r12 σ13 w => ?_)
      exact R_ireturn dX9_act_79 rfl ⟨_, rfl, wp_some w⟩
    have w := wp_f c11 w
    by_cases c14 : a1 = 2
    · have w := wp_t c14 w
      refine R_tswIn (v := 2) (tgt := 80) dX9_act_31 c14 (by decide) (by decide) rfl (by decide) ?_
      refine R_aload_n dX9_act_80 rfl 0 rfl ?_
      refine R_aload_n dX9_act_81 rfl 0 rfl ?_
      refine R_getfI (k := 48) acl9 oz9_0 (by decide) fl_RX9_347 dX9_act_82 rfl ?_
      refine R_iload_n dX9_act_85 rfl 3 rfl ?_
      refine R_callVI (As := [.inl (gF σ7 9 0 48), .inl a2]) acl9 rfl oz9_0 mi_X9_yieldsAs ml_RX9_350 rfl (Nat.le_of_ble_eq_true rfl) (by decide) dX9_act_86 (ct_X9_yieldsAs hA (gF σ7 9 0 48) a2 σ7 _ (wp_bnd w)) (fun r15 σ16 w => ?_)
      exact R_ireturn dX9_act_89 rfl ⟨_, rfl, wp_some w⟩
    have w := wp_f c14 w
    by_cases c17 : a1 = 3
    · have w := wp_t c17 w
      refine R_tswIn (v := 3) (tgt := 90) dX9_act_31 c17 (by decide) (by decide) rfl (by decide) ?_
      refine R_aload_n dX9_act_90 rfl 0 rfl ?_
      refine R_aload_n dX9_act_91 rfl 0 rfl ?_
      refine R_getfI (k := 48) acl9 oz9_0 (by decide) fl_RX9_347 dX9_act_92 rfl ?_
      refine R_iload_n dX9_act_95 rfl 3 rfl ?_
      refine R_callVI (As := [.inl (gF σ7 9 0 48), .inl a2]) acl9 rfl oz9_0 mi_X9_tradesAs ml_RX9_353 rfl (Nat.le_of_ble_eq_true rfl) (by decide) dX9_act_96 (ct_X9_tradesAs hA (gF σ7 9 0 48) a2 σ7 _ (wp_bnd w)) (fun r18 σ19 w => ?_)
      exact R_ireturn dX9_act_99 rfl ⟨_, rfl, wp_some w⟩
    have w := wp_f c17 w
    refine R_tswOut (tgt := 100) dX9_act_31 [0, 1, 2, 3] (List.forall_mem_cons.mpr ⟨c8, (List.forall_mem_cons.mpr ⟨c11, (List.forall_mem_cons.mpr ⟨c14, (List.forall_mem_cons.mpr ⟨c17, (fun _ z => absurd z List.not_mem_nil)⟩)⟩)⟩)⟩) (by decide) (by decide) ?_
    refine R_iconst (v := 0) dX9_act_100 (by decide) ?_
    exact R_ireturn dX9_act_101 rfl ⟨_, rfl, wp_some w⟩
  · have w := wp_t c4 w
    refine R_iconst (v := 0) dX9_act_13 (by decide) ?_
    exact R_ireturn dX9_act_14 rfl ⟨_, rfl, wp_some w⟩
def g_X9_adds (a0 : Int32) (a1 : Int32) (a2 : Int32) (σ : AS) : Option (Unit × AS) := (if inb (gF σ 9 0 6) 40 then (lt (sA σ 9 0 0 (gF σ 9 0 6) a0) fun σ2 => (if inb (8 + (gF σ2 9 0 6)) 40 then (lt (sA σ2 9 0 0 (8 + (gF σ2 9 0 6)) a1) fun σ4 => (if inb (16 + (gF σ4 9 0 6)) 40 then (lt (sA σ4 9 0 0 (16 + (gF σ4 9 0 6)) a2) fun σ6 => (lt (sF σ6 9 0 6 ((gF σ6 9 0 6) + 1)) fun σ7 => some ((), σ7))) else none)) else none)) else none)
set_option maxRecDepth 100000 in
set_option maxHeartbeats 4000000 in
theorem ct_X9_adds {l : Launch} {cx : CX} (hA : AD cx) (a0 : Int32) (a1 : Int32) (a2 : Int32) (σ : AS) (Q : Unit → AS → Prop) (w : wpO (g_X9_adds a0 a1 a2 σ) Q) : AMet l cx 0 yX9_adds cX9_adds 4 none [.inr (.inr (9, 0, 0)), .inl a0, .inl a1, .inl a2] σ (QV Q) := by
  unfold g_X9_adds at w
  refine AMet.of (own := RX9) (by decide) rfl hA (Nat.le_of_ble_eq_true rfl) ?_
  show RJ l cx 0 RX9 cX9_adds 4 none 0 [(0, .inr (.inr (9, 0, 0))), (1, .inl a0), (2, .inl a1), (3, .inl a2)] [] σ _
  refine R_aload_n dX9_adds_0 rfl 0 rfl ?_
  refine R_getfA (k := 0) acl9 oz9_0 (by decide) fl_RX9_9 dX9_adds_1 rfl ?_
  refine R_aload_n dX9_adds_4 rfl 0 rfl ?_
  refine R_getfI (k := 6) acl9 oz9_0 (by decide) fl_RX9_111 dX9_adds_5 rfl ?_
  refine R_iload_n dX9_adds_8 rfl 1 rfl ?_
  obtain ⟨b1, w⟩ := wp_chk w
  refine R_iast rfl oz9_0 b1 dX9_adds_9 ?_
  refine R_nameS w ?_; clear w; intro σ2 w
  refine R_aload_n dX9_adds_10 rfl 0 rfl ?_
  refine R_getfA (k := 0) acl9 oz9_0 (by decide) fl_RX9_9 dX9_adds_11 rfl ?_
  refine R_bipush (v := 8) dX9_adds_14 (by decide) ?_
  refine R_aload_n dX9_adds_16 rfl 0 rfl ?_
  refine R_getfI (k := 6) acl9 oz9_0 (by decide) fl_RX9_111 dX9_adds_17 rfl ?_
  refine R_iadd dX9_adds_20 ?_
  refine R_iload_n dX9_adds_21 rfl 2 rfl ?_
  obtain ⟨b3, w⟩ := wp_chk w
  refine R_iast rfl oz9_0 b3 dX9_adds_22 ?_
  refine R_nameS w ?_; clear w; intro σ4 w
  refine R_aload_n dX9_adds_23 rfl 0 rfl ?_
  refine R_getfA (k := 0) acl9 oz9_0 (by decide) fl_RX9_9 dX9_adds_24 rfl ?_
  refine R_bipush (v := 16) dX9_adds_27 (by decide) ?_
  refine R_aload_n dX9_adds_29 rfl 0 rfl ?_
  refine R_getfI (k := 6) acl9 oz9_0 (by decide) fl_RX9_111 dX9_adds_30 rfl ?_
  refine R_iadd dX9_adds_33 ?_
  refine R_iload_n dX9_adds_34 rfl 3 rfl ?_
  obtain ⟨b5, w⟩ := wp_chk w
  refine R_iast rfl oz9_0 b5 dX9_adds_35 ?_
  refine R_nameS w ?_; clear w; intro σ6 w
  refine R_aload_n dX9_adds_36 rfl 0 rfl ?_
  refine R_dup dX9_adds_37 rfl ?_
  refine R_getfI (k := 6) acl9 oz9_0 (by decide) fl_RX9_111 dX9_adds_38 rfl ?_
  refine R_iconst (v := 1) dX9_adds_41 (by decide) ?_
  refine R_iadd dX9_adds_42 ?_
  refine R_putf (k := 6) (ty := .int) acl9 oz9_0 (by decide) fl_RX9_111 rfl (tyX9_ok 6 (by decide)) (Or.inl rfl) dX9_adds_43 rfl ?_
  refine R_nameS w ?_; clear w; intro σ7 w
  exact R_vreturn dX9_adds_46 rfl ⟨rfl, wp_some w⟩
def g_X9_rests (σ : AS) : Option (Int32 × AS) := (if gF σ 9 0 6 < 2 then some (0, σ) else some ((gF σ 9 0 6) - 1, σ))
set_option maxRecDepth 100000 in
set_option maxHeartbeats 4000000 in
theorem ct_X9_rests {l : Launch} {cx : CX} (hA : AD cx) (σ : AS) (Q : Int32 → AS → Prop) (w : wpO (g_X9_rests σ) Q) : AMet l cx 0 yX9_rests cX9_rests 1 (some .int) [.inr (.inr (9, 0, 0))] σ (QI Q) := by
  unfold g_X9_rests at w
  refine AMet.of (own := RX9) (by decide) rfl hA (Nat.le_of_ble_eq_true rfl) ?_
  show RJ l cx 0 RX9 cX9_rests 1 (some .int) 0 [(0, .inr (.inr (9, 0, 0)))] [] σ _
  refine R_aload_n dX9_rests_0 rfl 0 rfl ?_
  refine R_getfI (k := 6) acl9 oz9_0 (by decide) fl_RX9_111 dX9_rests_1 rfl ?_
  refine R_iconst (v := 2) dX9_rests_4 (by decide) ?_
  refine R_icmp_ge (tgt := 12) dX9_rests_5 (by decide) (fun c1 => ?_) (fun c1 => ?_)
  · have w := wp_f c1 w
    refine R_aload_n dX9_rests_12 rfl 0 rfl ?_
    refine R_getfI (k := 6) acl9 oz9_0 (by decide) fl_RX9_111 dX9_rests_13 rfl ?_
    refine R_iconst (v := 1) dX9_rests_16 (by decide) ?_
    refine R_isub dX9_rests_17 ?_
    exact R_ireturn dX9_rests_18 rfl ⟨_, rfl, wp_some w⟩
  · have w := wp_t c1 w
    refine R_iconst (v := 0) dX9_rests_8 (by decide) ?_
    refine R_goto (tgt := 18) dX9_rests_9 (by decide) ?_
    exact R_ireturn dX9_rests_18 rfl ⟨_, rfl, wp_some w⟩
def g_X9_heldBy_5  (k : Nat)  : Nat → Int32 → Int32 → Int32 → AS → Option (Int32 × AS)
  | 0, _, _, _, _ => none
  | f0 + 1, v2, v3, v4, σ => (bnd (g_X9_rests σ) fun r1 σ2 => (if v4 < r1 then (if v4 = v2 then (if inb (2 * v4) 14 then (lt (v3 + (gA σ2 9 0 k (2 * v4))) fun x10 => (g_X9_heldBy_5 k f0) v2 x10 (v4 + 1) σ2) else none) else (if v4 = v2 - 1 then (if inb ((2 * v4) + 1) 14 then (lt (v3 + (gA σ2 9 0 k ((2 * v4) + 1))) fun x8 => (g_X9_heldBy_5 k f0) v2 x8 (v4 + 1) σ2) else none) else (lt (v3 + 0) fun x6 => (g_X9_heldBy_5 k f0) v2 x6 (v4 + 1) σ2))) else some (v3, σ2)))
set_option maxRecDepth 100000 in
set_option maxHeartbeats 4000000 in
theorem rk_X9_heldBy_5 {l : Launch} {cx : CX} (hA : AD cx)  (k : Nat) (hk : am_k 9 k = (2, 14, 0))  (Q : Int32 → AS → Prop) : ∀ (f0 : Nat) (v2 : Int32) (v3 : Int32) (v4 : Int32) (σ : AS), wpO (g_X9_heldBy_5 k f0 v2 v3 v4 σ) Q → RJ l cx 1 RX9 cX9_heldBy 5 (some .int) 5 [(0, .inr (.inr (9, 0, 0))), (1, .inr (.inr (9, 0, k + 1))), (2, .inl v2), (3, .inl v3), (4, .inl v4)] [] σ (QI Q) := by
  intro f0
  induction f0 with
  | zero => intro v2 v3 v4 σ w; exact wp_no w
  | succ f0 ih =>
    intro v2 v3 v4 σ w
    rw [g_X9_heldBy_5] at w
    refine R_iload dX9_heldBy_5 4 rfl ?_
    refine R_aload_n dX9_heldBy_7 rfl 0 rfl ?_
    refine R_callVI (As := []) acl9 rfl oz9_0 mi_X9_rests ml_RX9_118 rfl (Nat.le_of_ble_eq_true rfl) (by decide) dX9_heldBy_8 (ct_X9_rests hA σ _ (wp_bnd w)) (fun r1 σ2 w => ?_)
    refine R_icmp_ge (tgt := 58) dX9_heldBy_11 (by decide) (fun c3 => ?_) (fun c3 => ?_)
    · have w := wp_f c3 w
      refine R_iload_n dX9_heldBy_58 rfl 3 rfl ?_
      exact R_ireturn dX9_heldBy_59 rfl ⟨_, rfl, wp_some w⟩
    · have w := wp_t c3 w
      refine R_iload_n dX9_heldBy_14 rfl 3 rfl ?_
      refine R_iload dX9_heldBy_15 4 rfl ?_
      refine R_iload_n dX9_heldBy_17 rfl 2 rfl ?_
      refine R_icmp_ne (tgt := 30) dX9_heldBy_18 (by decide) (fun c4 => ?_) (fun c4 => ?_)
      · have w := wp_f c4 w
        refine R_iload dX9_heldBy_30 4 rfl ?_
        refine R_iload_n dX9_heldBy_32 rfl 2 rfl ?_
        refine R_iconst (v := 1) dX9_heldBy_33 (by decide) ?_
        refine R_isub dX9_heldBy_34 ?_
        refine R_icmp_ne (tgt := 49) dX9_heldBy_35 (by decide) (fun c5 => ?_) (fun c5 => ?_)
        · have w := wp_f c5 w
          refine R_iconst (v := 0) dX9_heldBy_49 (by decide) ?_
          refine R_iadd dX9_heldBy_50 ?_
          refine R_nameI w ?_; clear w; intro x6 w
          refine R_istore_n (lv' := [(3, .inl x6), (0, .inr (.inr (9, 0, 0))), (1, .inr (.inr (9, 0, k + 1))), (2, .inl v2), (4, .inl v4)]) dX9_heldBy_51 rfl (by decide) rfl ?_
          refine R_iinc (v := v4 + 1) (lv' := [(4, .inl (v4 + 1)), (3, .inl x6), (0, .inr (.inr (9, 0, 0))), (1, .inr (.inr (9, 0, k + 1))), (2, .inl v2)]) dX9_heldBy_52 4 rfl rfl (by decide) rfl ?_
          refine R_goto (tgt := 5) dX9_heldBy_55 (by decide) ?_
          refine R_sub [2, 3, 4, 1, 0] rfl ?_
          exact ih v2 x6 (v4 + 1) σ2 w
        · have w := wp_t c5 w
          refine R_aload_n dX9_heldBy_38 rfl 1 rfl ?_
          refine R_iconst (v := 2) dX9_heldBy_39 (by decide) ?_
          refine R_iload dX9_heldBy_40 4 rfl ?_
          refine R_imul dX9_heldBy_42 ?_
          refine R_iconst (v := 1) dX9_heldBy_43 (by decide) ?_
          refine R_iadd dX9_heldBy_44 ?_
          obtain ⟨b7, w⟩ := wp_chk w
          refine R_iald hk oz9_0 b7 dX9_heldBy_45 ?_
          refine R_goto (tgt := 50) dX9_heldBy_46 (by decide) ?_
          refine R_iadd dX9_heldBy_50 ?_
          refine R_nameI w ?_; clear w; intro x8 w
          refine R_istore_n (lv' := [(3, .inl x8), (0, .inr (.inr (9, 0, 0))), (1, .inr (.inr (9, 0, k + 1))), (2, .inl v2), (4, .inl v4)]) dX9_heldBy_51 rfl (by decide) rfl ?_
          refine R_iinc (v := v4 + 1) (lv' := [(4, .inl (v4 + 1)), (3, .inl x8), (0, .inr (.inr (9, 0, 0))), (1, .inr (.inr (9, 0, k + 1))), (2, .inl v2)]) dX9_heldBy_52 4 rfl rfl (by decide) rfl ?_
          refine R_goto (tgt := 5) dX9_heldBy_55 (by decide) ?_
          refine R_sub [2, 3, 4, 1, 0] rfl ?_
          exact ih v2 x8 (v4 + 1) σ2 w
      · have w := wp_t c4 w
        refine R_aload_n dX9_heldBy_21 rfl 1 rfl ?_
        refine R_iconst (v := 2) dX9_heldBy_22 (by decide) ?_
        refine R_iload dX9_heldBy_23 4 rfl ?_
        refine R_imul dX9_heldBy_25 ?_
        obtain ⟨b9, w⟩ := wp_chk w
        refine R_iald hk oz9_0 b9 dX9_heldBy_26 ?_
        refine R_goto (tgt := 50) dX9_heldBy_27 (by decide) ?_
        refine R_iadd dX9_heldBy_50 ?_
        refine R_nameI w ?_; clear w; intro x10 w
        refine R_istore_n (lv' := [(3, .inl x10), (0, .inr (.inr (9, 0, 0))), (1, .inr (.inr (9, 0, k + 1))), (2, .inl v2), (4, .inl v4)]) dX9_heldBy_51 rfl (by decide) rfl ?_
        refine R_iinc (v := v4 + 1) (lv' := [(4, .inl (v4 + 1)), (3, .inl x10), (0, .inr (.inr (9, 0, 0))), (1, .inr (.inr (9, 0, k + 1))), (2, .inl v2)]) dX9_heldBy_52 4 rfl rfl (by decide) rfl ?_
        refine R_goto (tgt := 5) dX9_heldBy_55 (by decide) ?_
        refine R_sub [2, 3, 4, 1, 0] rfl ?_
        exact ih v2 x10 (v4 + 1) σ2 w
def g_X9_heldBy (k : Nat) (a1 : Int32) (σ : AS) : Option (Int32 × AS) := g_X9_heldBy_5 k 400 a1 0 0 σ
set_option maxRecDepth 100000 in
set_option maxHeartbeats 4000000 in
theorem ct_X9_heldBy {l : Launch} {cx : CX} (hA : AD cx) (k : Nat) (hk : am_k 9 k = (2, 14, 0)) (a1 : Int32) (σ : AS) (Q : Int32 → AS → Prop) (w : wpO (g_X9_heldBy k a1 σ) Q) : AMet l cx 1 yX9_heldBy cX9_heldBy 5 (some .int) [.inr (.inr (9, 0, 0)), .inr (.inr (9, 0, k + 1)), .inl a1] σ (QI Q) := by
  unfold g_X9_heldBy at w
  refine AMet.of (own := RX9) (by decide) rfl hA (Nat.le_of_ble_eq_true rfl) ?_
  show RJ l cx 1 RX9 cX9_heldBy 5 (some .int) 0 [(0, .inr (.inr (9, 0, 0))), (1, .inr (.inr (9, 0, k + 1))), (2, .inl a1)] [] σ _
  refine R_iconst (v := 0) dX9_heldBy_0 (by decide) ?_
  refine R_istore_n (lv' := [(3, .inl 0), (0, .inr (.inr (9, 0, 0))), (1, .inr (.inr (9, 0, k + 1))), (2, .inl a1)]) dX9_heldBy_1 rfl (by decide) rfl ?_
  refine R_iconst (v := 0) dX9_heldBy_2 (by decide) ?_
  refine R_istore (lv' := [(4, .inl 0), (3, .inl 0), (0, .inr (.inr (9, 0, 0))), (1, .inr (.inr (9, 0, k + 1))), (2, .inl a1)]) dX9_heldBy_3 (by decide) rfl ?_
  refine R_sub [2, 3, 4, 1, 0] rfl ?_
  exact rk_X9_heldBy_5 hA k hk _ 400 a1 0 0 σ w
def g_X9_comfortIn_90  (k : Nat)  (k65 : Int32 → Int32 → Int32 → AS → Option (Int32 × AS)) (v2 : Int32) (v7 : Int32) (s0 : Int32) (σ : AS) : Option (Int32 × AS) := (if inb v7 7 then (lt (s0 - (2 * (gA σ 9 0 28 v7))) fun x15 => k65 v2 x15 (v7 + 1) σ) else none)
set_option maxRecDepth 100000 in
set_option maxHeartbeats 4000000 in
theorem rk_X9_comfortIn_90 {l : Launch} {cx : CX} (hA : AD cx)  (k : Nat) (hk : am_k 9 k = (2, 14, 0))  (Q : Int32 → AS → Prop) (k65 : Int32 → Int32 → Int32 → AS → Option (Int32 × AS)) (hk65 : ∀ (v2 : Int32) (v6 : Int32) (v7 : Int32) (σ : AS), wpO (k65 v2 v6 v7 σ) Q → RJ l cx 2 RX9 cX9_comfortIn 8 (some .int) 65 [(0, .inr (.inr (9, 0, 0))), (2, .inl v2), (6, .inl v6), (7, .inl v7)] [] σ (QI Q)) (v2 : Int32) (v7 : Int32) (s0 : Int32) (σ : AS) (w : wpO (g_X9_comfortIn_90 k k65 v2 v7 s0 σ) Q) : RJ l cx 2 RX9 cX9_comfortIn 8 (some .int) 90 [(0, .inr (.inr (9, 0, 0))), (2, .inl v2), (7, .inl v7)] [.inl s0] σ (QI Q) := by
  unfold g_X9_comfortIn_90 at w
  refine R_iconst (v := 2) dX9_comfortIn_90 (by decide) ?_
  refine R_aload_n dX9_comfortIn_91 rfl 0 rfl ?_
  refine R_getfA (k := 28) acl9 oz9_0 (by decide) fl_RX9_49 dX9_comfortIn_92 rfl ?_
  refine R_iload dX9_comfortIn_95 2 rfl ?_
  obtain ⟨b14, w⟩ := wp_chk w
  refine R_iald rfl oz9_0 b14 dX9_comfortIn_97 ?_
  refine R_imul dX9_comfortIn_98 ?_
  refine R_goto (tgt := 103) dX9_comfortIn_99 (by decide) ?_
  refine R_isub dX9_comfortIn_103 ?_
  refine R_nameI w ?_; clear w; intro x15 w
  refine R_istore (lv' := [(6, .inl x15), (0, .inr (.inr (9, 0, 0))), (2, .inl v2), (7, .inl v7)]) dX9_comfortIn_104 (by decide) rfl ?_
  refine R_iinc (v := v7 + 1) (lv' := [(7, .inl (v7 + 1)), (6, .inl x15), (0, .inr (.inr (9, 0, 0))), (2, .inl v2)]) dX9_comfortIn_106 3 rfl rfl (by decide) rfl ?_
  refine R_goto (tgt := 65) dX9_comfortIn_109 (by decide) ?_
  refine R_sub [2, 3, 1, 0] rfl ?_
  exact hk65 v2 x15 (v7 + 1) σ w
def g_X9_comfortIn_65  (k : Nat)  : Nat → Int32 → Int32 → Int32 → AS → Option (Int32 × AS)
  | 0, _, _, _, _ => none
  | f0 + 1, v2, v6, v7, σ => (bnd (g_X9_rests σ) fun r10 σ11 => (if v7 < r10 then (if v7 = v2 then g_X9_comfortIn_90 k (g_X9_comfortIn_65 k f0) v2 v7 v6 σ11 else (if v7 = v2 - 1 then g_X9_comfortIn_90 k (g_X9_comfortIn_65 k f0) v2 v7 v6 σ11 else (lt (v6 - 0) fun x17 => (g_X9_comfortIn_65 k f0) v2 x17 (v7 + 1) σ11))) else some (v6, σ11)))
set_option maxRecDepth 100000 in
set_option maxHeartbeats 4000000 in
theorem rk_X9_comfortIn_65 {l : Launch} {cx : CX} (hA : AD cx)  (k : Nat) (hk : am_k 9 k = (2, 14, 0))  (Q : Int32 → AS → Prop) : ∀ (f0 : Nat) (v2 : Int32) (v6 : Int32) (v7 : Int32) (σ : AS), wpO (g_X9_comfortIn_65 k f0 v2 v6 v7 σ) Q → RJ l cx 2 RX9 cX9_comfortIn 8 (some .int) 65 [(0, .inr (.inr (9, 0, 0))), (2, .inl v2), (6, .inl v6), (7, .inl v7)] [] σ (QI Q) := by
  intro f0
  induction f0 with
  | zero => intro v2 v6 v7 σ w; exact wp_no w
  | succ f0 ih =>
    intro v2 v6 v7 σ w
    rw [g_X9_comfortIn_65] at w
    refine R_iload dX9_comfortIn_65 3 rfl ?_
    refine R_aload_n dX9_comfortIn_67 rfl 0 rfl ?_
    refine R_callVI (As := []) acl9 rfl oz9_0 mi_X9_rests ml_RX9_118 rfl (Nat.le_of_ble_eq_true rfl) (by decide) dX9_comfortIn_68 (ct_X9_rests hA σ _ (wp_bnd w)) (fun r10 σ11 w => ?_)
    refine R_icmp_ge (tgt := 112) dX9_comfortIn_71 (by decide) (fun c12 => ?_) (fun c12 => ?_)
    · have w := wp_f c12 w
      refine R_iload dX9_comfortIn_112 2 rfl ?_
      exact R_ireturn dX9_comfortIn_114 rfl ⟨_, rfl, wp_some w⟩
    · have w := wp_t c12 w
      refine R_iload dX9_comfortIn_74 2 rfl ?_
      refine R_iload dX9_comfortIn_76 3 rfl ?_
      refine R_iload_n dX9_comfortIn_78 rfl 1 rfl ?_
      refine R_icmp_eq (tgt := 90) dX9_comfortIn_79 (by decide) (fun c13 => ?_) (fun c13 => ?_)
      · have w := wp_t c13 w
        refine R_sub [0, 1, 3] rfl ?_
        exact rk_X9_comfortIn_90 hA k hk _ (g_X9_comfortIn_65 k f0) ih v2 v7 v6 σ11 w
      · have w := wp_f c13 w
        refine R_iload dX9_comfortIn_82 3 rfl ?_
        refine R_iload_n dX9_comfortIn_84 rfl 1 rfl ?_
        refine R_iconst (v := 1) dX9_comfortIn_85 (by decide) ?_
        refine R_isub dX9_comfortIn_86 ?_
        refine R_icmp_ne (tgt := 102) dX9_comfortIn_87 (by decide) (fun c16 => ?_) (fun c16 => ?_)
        · have w := wp_f c16 w
          refine R_iconst (v := 0) dX9_comfortIn_102 (by decide) ?_
          refine R_isub dX9_comfortIn_103 ?_
          refine R_nameI w ?_; clear w; intro x17 w
          refine R_istore (lv' := [(6, .inl x17), (0, .inr (.inr (9, 0, 0))), (2, .inl v2), (7, .inl v7)]) dX9_comfortIn_104 (by decide) rfl ?_
          refine R_iinc (v := v7 + 1) (lv' := [(7, .inl (v7 + 1)), (6, .inl x17), (0, .inr (.inr (9, 0, 0))), (2, .inl v2)]) dX9_comfortIn_106 3 rfl rfl (by decide) rfl ?_
          refine R_goto (tgt := 65) dX9_comfortIn_109 (by decide) ?_
          refine R_sub [2, 3, 1, 0] rfl ?_
          exact ih v2 x17 (v7 + 1) σ11 w
        · have w := wp_t c16 w
          refine R_sub [0, 1, 3] rfl ?_
          exact rk_X9_comfortIn_90 hA k hk _ (g_X9_comfortIn_65 k f0) ih v2 v7 v6 σ11 w
def g_X9_comfortIn (k : Nat) (a1 : Int32) (a2 : Int32) (σ : AS) : Option (Int32 × AS) := (if inb a1 8 then (lt (gA σ 9 0 14 a1) fun x2 => (if inb ((24 * x2) + a2) 192 then (if gA σ 9 0 8 ((24 * x2) + a2) = 2 then some (0, σ) else (bnd (g_X9_heldBy k a1 σ) fun r5 σ6 => (if inb x2 40 then (if gA σ6 9 0 0 x2 < r5 then (lt (3 * (gA σ6 9 0 0 x2)) fun x18 => g_X9_comfortIn_65 k 400 a1 x18 0 σ6) else (lt (3 * r5) fun x9 => g_X9_comfortIn_65 k 400 a1 x9 0 σ6)) else none))) else none)) else none)
set_option maxRecDepth 100000 in
set_option maxHeartbeats 4000000 in
theorem ct_X9_comfortIn {l : Launch} {cx : CX} (hA : AD cx) (k : Nat) (hk : am_k 9 k = (2, 14, 0)) (a1 : Int32) (a2 : Int32) (σ : AS) (Q : Int32 → AS → Prop) (w : wpO (g_X9_comfortIn k a1 a2 σ) Q) : AMet l cx 2 yX9_comfortIn cX9_comfortIn 8 (some .int) [.inr (.inr (9, 0, 0)), .inr (.inr (9, 0, k + 1)), .inl a1, .inl a2] σ (QI Q) := by
  unfold g_X9_comfortIn at w
  refine AMet.of (own := RX9) (by decide) rfl hA (Nat.le_of_ble_eq_true rfl) ?_
  show RJ l cx 2 RX9 cX9_comfortIn 8 (some .int) 0 [(0, .inr (.inr (9, 0, 0))), (1, .inr (.inr (9, 0, k + 1))), (2, .inl a1), (3, .inl a2)] [] σ _
  refine R_aload_n dX9_comfortIn_0 rfl 0 rfl ?_
  refine R_getfA (k := 14) acl9 oz9_0 (by decide) fl_RX9_37 dX9_comfortIn_1 rfl ?_
  refine R_iload_n dX9_comfortIn_4 rfl 2 rfl ?_
  obtain ⟨b1, w⟩ := wp_chk w
  refine R_iald rfl oz9_0 b1 dX9_comfortIn_5 ?_
  refine R_nameI w ?_; clear w; intro x2 w
  refine R_istore (lv' := [(4, .inl x2), (0, .inr (.inr (9, 0, 0))), (1, .inr (.inr (9, 0, k + 1))), (2, .inl a1), (3, .inl a2)]) dX9_comfortIn_6 (by decide) rfl ?_
  refine R_aload_n dX9_comfortIn_8 rfl 1 rfl ?_
  refine R_getfA (k := 8) acl9 oz9_0 (by decide) fl_RX9_25 dX9_comfortIn_9 rfl ?_
  refine R_bipush (v := 24) dX9_comfortIn_12 (by decide) ?_
  refine R_iload dX9_comfortIn_14 0 rfl ?_
  refine R_imul dX9_comfortIn_16 ?_
  refine R_iload_n dX9_comfortIn_17 rfl 4 rfl ?_
  refine R_iadd dX9_comfortIn_18 ?_
  obtain ⟨b3, w⟩ := wp_chk w
  refine R_iald rfl oz9_0 b3 dX9_comfortIn_19 ?_
  refine R_iconst (v := 2) dX9_comfortIn_20 (by decide) ?_
  refine R_icmp_ne (tgt := 26) dX9_comfortIn_21 (by decide) (fun c4 => ?_) (fun c4 => ?_)
  · have w := wp_f c4 w
    refine R_aload_n dX9_comfortIn_26 rfl 1 rfl ?_
    refine R_aload_n dX9_comfortIn_27 rfl 2 rfl ?_
    refine R_iload_n dX9_comfortIn_28 rfl 3 rfl ?_
    refine R_callVI (As := [.inr (.inr (9, 0, k + 1)), .inl a1]) acl9 rfl oz9_0 mi_X9_heldBy ml_RX9_164 rfl (Nat.le_of_ble_eq_true rfl) (by decide) dX9_comfortIn_29 (ct_X9_heldBy hA k hk a1 σ _ (wp_bnd w)) (fun r5 σ6 w => ?_)
    refine R_istore (lv' := [(5, .inl r5), (4, .inl x2), (0, .inr (.inr (9, 0, 0))), (1, .inr (.inr (9, 0, k + 1))), (2, .inl a1), (3, .inl a2)]) dX9_comfortIn_32 (by decide) rfl ?_
    refine R_iconst (v := 3) dX9_comfortIn_34 (by decide) ?_
    refine R_iload dX9_comfortIn_35 0 rfl ?_
    refine R_aload_n dX9_comfortIn_37 rfl 2 rfl ?_
    refine R_getfA (k := 0) acl9 oz9_0 (by decide) fl_RX9_9 dX9_comfortIn_38 rfl ?_
    refine R_iload dX9_comfortIn_41 1 rfl ?_
    obtain ⟨b7, w⟩ := wp_chk w
    refine R_iald rfl oz9_0 b7 dX9_comfortIn_43 ?_
    refine R_icmp_le (tgt := 57) dX9_comfortIn_44 (by decide) (fun c8 => ?_) (fun c8 => ?_)
    · have w := wp_f c8 w
      refine R_iload dX9_comfortIn_57 0 rfl ?_
      refine R_imul dX9_comfortIn_59 ?_
      refine R_nameI w ?_; clear w; intro x9 w
      refine R_istore (lv' := [(6, .inl x9), (5, .inl r5), (4, .inl x2), (0, .inr (.inr (9, 0, 0))), (1, .inr (.inr (9, 0, k + 1))), (2, .inl a1), (3, .inl a2)]) dX9_comfortIn_60 (by decide) rfl ?_
      refine R_iconst (v := 0) dX9_comfortIn_62 (by decide) ?_
      refine R_istore (lv' := [(7, .inl 0), (6, .inl x9), (5, .inl r5), (4, .inl x2), (0, .inr (.inr (9, 0, 0))), (1, .inr (.inr (9, 0, k + 1))), (2, .inl a1), (3, .inl a2)]) dX9_comfortIn_63 (by decide) rfl ?_
      refine R_sub [4, 6, 1, 0] rfl ?_
      exact rk_X9_comfortIn_65 hA k hk _ 400 a1 x9 0 σ6 w
    · have w := wp_t c8 w
      refine R_aload_n dX9_comfortIn_47 rfl 2 rfl ?_
      refine R_getfA (k := 0) acl9 oz9_0 (by decide) fl_RX9_9 dX9_comfortIn_48 rfl ?_
      refine R_iload dX9_comfortIn_51 1 rfl ?_
      refine R_iald rfl oz9_0 b7 dX9_comfortIn_53 ?_
      refine R_goto (tgt := 59) dX9_comfortIn_54 (by decide) ?_
      refine R_imul dX9_comfortIn_59 ?_
      refine R_nameI w ?_; clear w; intro x18 w
      refine R_istore (lv' := [(6, .inl x18), (5, .inl r5), (4, .inl x2), (0, .inr (.inr (9, 0, 0))), (1, .inr (.inr (9, 0, k + 1))), (2, .inl a1), (3, .inl a2)]) dX9_comfortIn_60 (by decide) rfl ?_
      refine R_iconst (v := 0) dX9_comfortIn_62 (by decide) ?_
      refine R_istore (lv' := [(7, .inl 0), (6, .inl x18), (5, .inl r5), (4, .inl x2), (0, .inr (.inr (9, 0, 0))), (1, .inr (.inr (9, 0, k + 1))), (2, .inl a1), (3, .inl a2)]) dX9_comfortIn_63 (by decide) rfl ?_
      refine R_sub [4, 6, 1, 0] rfl ?_
      exact rk_X9_comfortIn_65 hA k hk _ 400 a1 x18 0 σ6 w
  · have w := wp_t c4 w
    refine R_iconst (v := 0) dX9_comfortIn_24 (by decide) ?_
    exact R_ireturn dX9_comfortIn_25 rfl ⟨_, rfl, wp_some w⟩
def g_X9_isThere (a0 : Int32) (a1 : Int32) (σ : AS) : Option (Int32 × AS) := (if inb a0 8 then (if inb ((24 * (gA σ 9 0 14 a0)) + a1) 192 then (if gA σ 9 0 8 ((24 * (gA σ 9 0 14 a0)) + a1) < 2 then some (1, σ) else some (0, σ)) else none) else none)
set_option maxRecDepth 100000 in
set_option maxHeartbeats 4000000 in
theorem ct_X9_isThere {l : Launch} {cx : CX} (hA : AD cx) (a0 : Int32) (a1 : Int32) (σ : AS) (Q : Int32 → AS → Prop) (w : wpO (g_X9_isThere a0 a1 σ) Q) : AMet l cx 0 yX9_isThere cX9_isThere 3 (some .boolean) [.inr (.inr (9, 0, 0)), .inl a0, .inl a1] σ (QI Q) := by
  unfold g_X9_isThere at w
  refine AMet.of (own := RX9) (by decide) rfl hA (Nat.le_of_ble_eq_true rfl) ?_
  show RJ l cx 0 RX9 cX9_isThere 3 (some .boolean) 0 [(0, .inr (.inr (9, 0, 0))), (1, .inl a0), (2, .inl a1)] [] σ _
  refine R_aload_n dX9_isThere_0 rfl 0 rfl ?_
  refine R_getfA (k := 8) acl9 oz9_0 (by decide) fl_RX9_25 dX9_isThere_1 rfl ?_
  refine R_bipush (v := 24) dX9_isThere_4 (by decide) ?_
  refine R_aload_n dX9_isThere_6 rfl 0 rfl ?_
  refine R_getfA (k := 14) acl9 oz9_0 (by decide) fl_RX9_37 dX9_isThere_7 rfl ?_
  refine R_iload_n dX9_isThere_10 rfl 1 rfl ?_
  obtain ⟨b1, w⟩ := wp_chk w
  refine R_iald rfl oz9_0 b1 dX9_isThere_11 ?_
  refine R_imul dX9_isThere_12 ?_
  refine R_iload_n dX9_isThere_13 rfl 2 rfl ?_
  refine R_iadd dX9_isThere_14 ?_
  obtain ⟨b2, w⟩ := wp_chk w
  refine R_iald rfl oz9_0 b2 dX9_isThere_15 ?_
  refine R_iconst (v := 2) dX9_isThere_16 (by decide) ?_
  refine R_icmp_ge (tgt := 24) dX9_isThere_17 (by decide) (fun c3 => ?_) (fun c3 => ?_)
  · have w := wp_f c3 w
    refine R_iconst (v := 0) dX9_isThere_24 (by decide) ?_
    exact R_zreturn dX9_isThere_25 rfl (by decide) ⟨_, rfl, wp_some w⟩
  · have w := wp_t c3 w
    refine R_iconst (v := 1) dX9_isThere_20 (by decide) ?_
    refine R_goto (tgt := 25) dX9_isThere_21 (by decide) ?_
    exact R_zreturn dX9_isThere_25 rfl (by decide) ⟨_, rfl, wp_some w⟩
def g_X9_leaves_14  (k : Nat)  (v2 : Int32) (σ : AS) : Option (Unit × AS) := (lt (sF σ 9 0 27 1) fun σ2 => (if inb v2 14 then (lt (sA σ2 9 0 k v2 0) fun σ4 => some ((), σ4)) else none))
set_option maxRecDepth 100000 in
set_option maxHeartbeats 4000000 in
theorem rk_X9_leaves_14 {l : Launch} {cx : CX} (hA : AD cx)  (k : Nat) (hk : am_k 9 k = (2, 14, 0))  (Q : Unit → AS → Prop) (v2 : Int32) (σ : AS) (w : wpO (g_X9_leaves_14 k v2 σ) Q) : RJ l cx 0 RX9 cX9_leaves 3 none 14 [(1, .inr (.inr (9, 0, k + 1))), (2, .inl v2)] [.inr (.inr (9, 0, 0))] σ (QV Q) := by
  unfold g_X9_leaves_14 at w
  refine R_iconst (v := 1) dX9_leaves_14 (by decide) ?_
  refine R_goto (tgt := 19) dX9_leaves_15 (by decide) ?_
  refine R_putf (k := 27) (ty := .boolean) acl9 oz9_0 (by decide) fl_RX9_233 rfl (tyX9_ok 27 (by decide)) (Or.inr ⟨rfl, by decide⟩) dX9_leaves_19 rfl ?_
  refine R_nameS w ?_; clear w; intro σ2 w
  refine R_aload_n dX9_leaves_22 rfl 0 rfl ?_
  refine R_iload_n dX9_leaves_23 rfl 1 rfl ?_
  refine R_iconst (v := 0) dX9_leaves_24 (by decide) ?_
  obtain ⟨b3, w⟩ := wp_chk w
  refine R_iast hk oz9_0 b3 dX9_leaves_25 ?_
  refine R_nameS w ?_; clear w; intro σ4 w
  exact R_vreturn dX9_leaves_26 rfl ⟨rfl, wp_some w⟩
def g_X9_leaves (k : Nat) (a1 : Int32) (σ : AS) : Option (Unit × AS) := (if gF σ 9 0 27 = 0 then (if inb a1 14 then (if (0 : Int32) < gA σ 9 0 k a1 then g_X9_leaves_14 k a1 σ else (lt (sF σ 9 0 27 0) fun σ7 => (lt (sA σ7 9 0 k a1 0) fun σ8 => some ((), σ8)))) else none) else g_X9_leaves_14 k a1 σ)
set_option maxRecDepth 100000 in
set_option maxHeartbeats 4000000 in
theorem ct_X9_leaves {l : Launch} {cx : CX} (hA : AD cx) (k : Nat) (hk : am_k 9 k = (2, 14, 0)) (a1 : Int32) (σ : AS) (Q : Unit → AS → Prop) (w : wpO (g_X9_leaves k a1 σ) Q) : AMet l cx 0 yX9_leaves cX9_leaves 3 none [.inr (.inr (9, 0, 0)), .inr (.inr (9, 0, k + 1)), .inl a1] σ (QV Q) := by
  unfold g_X9_leaves at w
  refine AMet.of (own := RX9) (by decide) rfl hA (Nat.le_of_ble_eq_true rfl) ?_
  show RJ l cx 0 RX9 cX9_leaves 3 none 0 [(0, .inr (.inr (9, 0, 0))), (1, .inr (.inr (9, 0, k + 1))), (2, .inl a1)] [] σ _
  refine R_aload_n dX9_leaves_0 rfl 0 rfl ?_
  refine R_aload_n dX9_leaves_1 rfl 0 rfl ?_
  refine R_getfI (k := 27) acl9 oz9_0 (by decide) fl_RX9_233 dX9_leaves_2 rfl ?_
  refine R_if_ne (tgt := 14) dX9_leaves_5 (by decide) (fun c1 => ?_) (fun c1 => ?_)
  · have w := wp_f c1 w
    refine R_sub [1, 2] rfl ?_
    exact rk_X9_leaves_14 hA k hk _ a1 σ w
  · have w := wp_t c1 w
    refine R_aload_n dX9_leaves_8 rfl 1 rfl ?_
    refine R_iload_n dX9_leaves_9 rfl 2 rfl ?_
    obtain ⟨b5, w⟩ := wp_chk w
    refine R_iald hk oz9_0 b5 dX9_leaves_10 ?_
    refine R_if_le (tgt := 18) dX9_leaves_11 (by decide) (fun c6 => ?_) (fun c6 => ?_)
    · have w := wp_f c6 w
      refine R_iconst (v := 0) dX9_leaves_18 (by decide) ?_
      refine R_putf (k := 27) (ty := .boolean) acl9 oz9_0 (by decide) fl_RX9_233 rfl (tyX9_ok 27 (by decide)) (Or.inr ⟨rfl, by decide⟩) dX9_leaves_19 rfl ?_
      refine R_nameS w ?_; clear w; intro σ7 w
      refine R_aload_n dX9_leaves_22 rfl 1 rfl ?_
      refine R_iload_n dX9_leaves_23 rfl 2 rfl ?_
      refine R_iconst (v := 0) dX9_leaves_24 (by decide) ?_
      refine R_iast hk oz9_0 b5 dX9_leaves_25 ?_
      refine R_nameS w ?_; clear w; intro σ8 w
      exact R_vreturn dX9_leaves_26 rfl ⟨rfl, wp_some w⟩
    · have w := wp_t c6 w
      refine R_sub [1, 2] rfl ?_
      exact rk_X9_leaves_14 hA k hk _ a1 σ w
def g_X9_coughs (σ : AS) : Option (Int32 × AS) := (lt (sF σ 9 0 25 (((gF σ 9 0 25) * 1103515245) + 12345)) fun σ1 => some (rmi (ush (gF σ1 9 0 25) 8) 100, σ1))
set_option maxRecDepth 100000 in
set_option maxHeartbeats 4000000 in
theorem ct_X9_coughs {l : Launch} {cx : CX} (hA : AD cx) (σ : AS) (Q : Int32 → AS → Prop) (w : wpO (g_X9_coughs σ) Q) : AMet l cx 0 yX9_coughs cX9_coughs 1 (some .int) [.inr (.inr (9, 0, 0))] σ (QI Q) := by
  unfold g_X9_coughs at w
  refine AMet.of (own := RX9) (by decide) rfl hA (Nat.le_of_ble_eq_true rfl) ?_
  show RJ l cx 0 RX9 cX9_coughs 1 (some .int) 0 [(0, .inr (.inr (9, 0, 0)))] [] σ _
  refine R_aload_n dX9_coughs_0 rfl 0 rfl ?_
  refine R_aload_n dX9_coughs_1 rfl 0 rfl ?_
  refine R_getfI (k := 25) acl9 oz9_0 (by decide) fl_RX9_229 dX9_coughs_2 rfl ?_
  refine R_ldc dX9_coughs_5 ck_RX9_232 ?_
  refine R_imul dX9_coughs_7 ?_
  refine R_sipush (v := 12345) dX9_coughs_8 (by decide) ?_
  refine R_iadd dX9_coughs_11 ?_
  refine R_putf (k := 25) (ty := .int) acl9 oz9_0 (by decide) fl_RX9_229 rfl (tyX9_ok 25 (by decide)) (Or.inl rfl) dX9_coughs_12 rfl ?_
  refine R_nameS w ?_; clear w; intro σ1 w
  refine R_aload_n dX9_coughs_15 rfl 0 rfl ?_
  refine R_getfI (k := 25) acl9 oz9_0 (by decide) fl_RX9_229 dX9_coughs_16 rfl ?_
  refine R_bipush (v := 8) dX9_coughs_19 (by decide) ?_
  refine R_iushr dX9_coughs_21 ?_
  refine R_bipush (v := 100) dX9_coughs_22 (by decide) ?_
  refine R_irem dX9_coughs_24 (by decide) ?_
  exact R_ireturn dX9_coughs_25 rfl ⟨_, rfl, wp_some w⟩
def g_X9_isRest (a0 : Int32) (σ : AS) : Option (Int32 × AS) := (bnd (g_X9_rests σ) fun r1 σ2 => (bnd (g_X9_within a0.toInt64 0 ((r1 - 1).toInt64) σ2) fun r3 σ4 => (if r3 = 0 ∨ r3 = 1 then some (r3, σ4) else none)))
set_option maxRecDepth 100000 in
set_option maxHeartbeats 4000000 in
theorem ct_X9_isRest {l : Launch} {cx : CX} (hA : AD cx) (a0 : Int32) (σ : AS) (Q : Int32 → AS → Prop) (w : wpO (g_X9_isRest a0 σ) Q) : AMet l cx 1 yX9_isRest cX9_isRest 2 (some .boolean) [.inr (.inr (9, 0, 0)), .inl a0] σ (QI Q) := by
  unfold g_X9_isRest at w
  refine AMet.of (own := RX9) (by decide) rfl hA (Nat.le_of_ble_eq_true rfl) ?_
  show RJ l cx 1 RX9 cX9_isRest 2 (some .boolean) 0 [(0, .inr (.inr (9, 0, 0))), (1, .inl a0)] [] σ _
  refine R_iload_n dX9_isRest_0 rfl 1 rfl ?_
  refine R_i2l dX9_isRest_1 ?_
  refine R_lconst (v := 0) dX9_isRest_2 (by decide) ?_
  refine R_aload_n dX9_isRest_3 rfl 0 rfl ?_
  refine R_callVI (As := []) acl9 rfl oz9_0 mi_X9_rests ml_RX9_118 rfl (Nat.le_of_ble_eq_true rfl) (by decide) dX9_isRest_4 (ct_X9_rests hA σ _ (wp_bnd w)) (fun r1 σ2 w => ?_)
  refine R_iconst (v := 1) dX9_isRest_7 (by decide) ?_
  refine R_isub dX9_isRest_8 ?_
  refine R_i2l dX9_isRest_9 ?_
  refine R_callSI (As := [.inr (.inl a0.toInt64), .inr (.inl 0), .inr (.inl ((r1 - 1).toInt64))]) mi_X9_within ml_RX9_114 rfl (Nat.le_of_ble_eq_true rfl) (by decide) dX9_isRest_10 (ct_X9_within hA a0.toInt64 0 ((r1 - 1).toInt64) σ2 _ (wp_bnd w)) (fun r3 σ4 w => ?_)
  obtain ⟨b5, w⟩ := wp_chk w
  exact R_zreturn dX9_isRest_13 rfl b5 ⟨_, rfl, wp_some w⟩
def g_X9_byteAt (σ : AS) : Option (Int32 × AS) := (if gF σ 9 0 20 < gF σ 9 0 21 then (if gF σ 9 0 19 < 0 then (if inb (gF σ 9 0 20) 120 then some (gA σ 9 0 15 (gF σ 9 0 20), σ) else none) else (if inb ((gF σ 9 0 19) + (gF σ 9 0 20)) 120 then some (gA σ 9 0 17 ((gF σ 9 0 19) + (gF σ 9 0 20)), σ) else none)) else some (0, σ))
set_option maxRecDepth 100000 in
set_option maxHeartbeats 4000000 in
theorem ct_X9_byteAt {l : Launch} {cx : CX} (hA : AD cx) (σ : AS) (Q : Int32 → AS → Prop) (w : wpO (g_X9_byteAt σ) Q) : AMet l cx 0 yX9_byteAt cX9_byteAt 1 (some .int) [.inr (.inr (9, 0, 0))] σ (QI Q) := by
  unfold g_X9_byteAt at w
  refine AMet.of (own := RX9) (by decide) rfl hA (Nat.le_of_ble_eq_true rfl) ?_
  show RJ l cx 0 RX9 cX9_byteAt 1 (some .int) 0 [(0, .inr (.inr (9, 0, 0)))] [] σ _
  refine R_aload_n dX9_byteAt_0 rfl 0 rfl ?_
  refine R_getfI (k := 20) acl9 oz9_0 (by decide) fl_RX9_176 dX9_byteAt_1 rfl ?_
  refine R_aload_n dX9_byteAt_4 rfl 0 rfl ?_
  refine R_getfI (k := 21) acl9 oz9_0 (by decide) fl_RX9_179 dX9_byteAt_5 rfl ?_
  refine R_icmp_ge (tgt := 47) dX9_byteAt_8 (by decide) (fun c1 => ?_) (fun c1 => ?_)
  · have w := wp_f c1 w
    refine R_iconst (v := 0) dX9_byteAt_47 (by decide) ?_
    exact R_ireturn dX9_byteAt_48 rfl ⟨_, rfl, wp_some w⟩
  · have w := wp_t c1 w
    refine R_aload_n dX9_byteAt_11 rfl 0 rfl ?_
    refine R_getfI (k := 19) acl9 oz9_0 (by decide) fl_RX9_182 dX9_byteAt_12 rfl ?_
    refine R_if_ge (tgt := 30) dX9_byteAt_15 (by decide) (fun c2 => ?_) (fun c2 => ?_)
    · have w := wp_f c2 w
      refine R_aload_n dX9_byteAt_30 rfl 0 rfl ?_
      refine R_getfA (k := 17) acl9 oz9_0 (by decide) fl_RX9_43 dX9_byteAt_31 rfl ?_
      refine R_aload_n dX9_byteAt_34 rfl 0 rfl ?_
      refine R_getfI (k := 19) acl9 oz9_0 (by decide) fl_RX9_182 dX9_byteAt_35 rfl ?_
      refine R_aload_n dX9_byteAt_38 rfl 0 rfl ?_
      refine R_getfI (k := 20) acl9 oz9_0 (by decide) fl_RX9_176 dX9_byteAt_39 rfl ?_
      refine R_iadd dX9_byteAt_42 ?_
      obtain ⟨b3, w⟩ := wp_chk w
      refine R_iald rfl oz9_0 b3 dX9_byteAt_43 ?_
      refine R_goto (tgt := 48) dX9_byteAt_44 (by decide) ?_
      exact R_ireturn dX9_byteAt_48 rfl ⟨_, rfl, wp_some w⟩
    · have w := wp_t c2 w
      refine R_aload_n dX9_byteAt_18 rfl 0 rfl ?_
      refine R_getfA (k := 15) acl9 oz9_0 (by decide) fl_RX9_40 dX9_byteAt_19 rfl ?_
      refine R_aload_n dX9_byteAt_22 rfl 0 rfl ?_
      refine R_getfI (k := 20) acl9 oz9_0 (by decide) fl_RX9_176 dX9_byteAt_23 rfl ?_
      obtain ⟨b4, w⟩ := wp_chk w
      refine R_iald rfl oz9_0 b4 dX9_byteAt_26 ?_
      refine R_goto (tgt := 48) dX9_byteAt_27 (by decide) ?_
      exact R_ireturn dX9_byteAt_48 rfl ⟨_, rfl, wp_some w⟩
def g_X9_takes (a0 : Int32) (σ : AS) : Option (Int32 × AS) := (if gF σ 9 0 22 < 0 then (bnd (g_X9_byteAt σ) fun r2 σ3 => (if r2 = a0 then (lt (sF σ3 9 0 20 ((gF σ3 9 0 20) + 1)) fun σ5 => some (1, σ5)) else some (0, σ3))) else some (0, σ))
set_option maxRecDepth 100000 in
set_option maxHeartbeats 4000000 in
theorem ct_X9_takes {l : Launch} {cx : CX} (hA : AD cx) (a0 : Int32) (σ : AS) (Q : Int32 → AS → Prop) (w : wpO (g_X9_takes a0 σ) Q) : AMet l cx 1 yX9_takes cX9_takes 2 (some .boolean) [.inr (.inr (9, 0, 0)), .inl a0] σ (QI Q) := by
  unfold g_X9_takes at w
  refine AMet.of (own := RX9) (by decide) rfl hA (Nat.le_of_ble_eq_true rfl) ?_
  show RJ l cx 1 RX9 cX9_takes 2 (some .boolean) 0 [(0, .inr (.inr (9, 0, 0))), (1, .inl a0)] [] σ _
  refine R_aload_n dX9_takes_0 rfl 0 rfl ?_
  refine R_getfI (k := 22) acl9 oz9_0 (by decide) fl_RX9_185 dX9_takes_1 rfl ?_
  refine R_if_ge (tgt := 15) dX9_takes_4 (by decide) (fun c1 => ?_) (fun c1 => ?_)
  · have w := wp_f c1 w
    refine R_iconst (v := 0) dX9_takes_15 (by decide) ?_
    exact R_zreturn dX9_takes_16 rfl (by decide) ⟨_, rfl, wp_some w⟩
  · have w := wp_t c1 w
    refine R_aload_n dX9_takes_7 rfl 0 rfl ?_
    refine R_callVI (As := []) acl9 rfl oz9_0 mi_X9_byteAt ml_RX9_188 rfl (Nat.le_of_ble_eq_true rfl) (by decide) dX9_takes_8 (ct_X9_byteAt hA σ _ (wp_bnd w)) (fun r2 σ3 w => ?_)
    refine R_iload_n dX9_takes_11 rfl 1 rfl ?_
    refine R_icmp_eq (tgt := 17) dX9_takes_12 (by decide) (fun c4 => ?_) (fun c4 => ?_)
    · have w := wp_t c4 w
      refine R_aload_n dX9_takes_17 rfl 0 rfl ?_
      refine R_dup dX9_takes_18 rfl ?_
      refine R_getfI (k := 20) acl9 oz9_0 (by decide) fl_RX9_176 dX9_takes_19 rfl ?_
      refine R_iconst (v := 1) dX9_takes_22 (by decide) ?_
      refine R_iadd dX9_takes_23 ?_
      refine R_putf (k := 20) (ty := .int) acl9 oz9_0 (by decide) fl_RX9_176 rfl (tyX9_ok 20 (by decide)) (Or.inl rfl) dX9_takes_24 rfl ?_
      refine R_nameS w ?_; clear w; intro σ5 w
      refine R_iconst (v := 1) dX9_takes_27 (by decide) ?_
      exact R_zreturn dX9_takes_28 rfl (by decide) ⟨_, rfl, wp_some w⟩
    · have w := wp_f c4 w
      refine R_iconst (v := 0) dX9_takes_15 (by decide) ?_
      exact R_zreturn dX9_takes_16 rfl (by decide) ⟨_, rfl, wp_some w⟩
def g_X9_nameOf (a0 : Int32) (σ : AS) : Option (Int32 × AS) := (if a0 = 99 then some (7, σ) else (if a0 = 100 then some ((-1), σ) else (if a0 = 101 then some ((-1), σ) else (if a0 = 102 then some ((-1), σ) else (if a0 = 103 then some ((-1), σ) else (if a0 = 104 then some (8, σ) else (if a0 = 105 then some (3, σ) else (if a0 = 106 then some (4, σ) else (if a0 = 107 then some ((-1), σ) else (if a0 = 108 then some ((-1), σ) else (if a0 = 109 then some (6, σ) else (if a0 = 110 then some ((-1), σ) else (if a0 = 111 then some ((-1), σ) else (if a0 = 112 then some (1, σ) else (if a0 = 113 then some ((-1), σ) else (if a0 = 114 then some (2, σ) else (if a0 = 115 then some (0, σ) else (if a0 = 116 then some ((-1), σ) else (if a0 = 117 then some ((-1), σ) else (if a0 = 118 then some ((-1), σ) else (if a0 = 119 then some ((-1), σ) else (if a0 = 120 then some ((-1), σ) else (if a0 = 121 then some ((-1), σ) else (if a0 = 122 then some (5, σ) else some ((-1), σ)))))))))))))))))))))))))
set_option maxRecDepth 100000 in
set_option maxHeartbeats 4000000 in
theorem ct_X9_nameOf {l : Launch} {cx : CX} (hA : AD cx) (a0 : Int32) (σ : AS) (Q : Int32 → AS → Prop) (w : wpO (g_X9_nameOf a0 σ) Q) : AMet l cx 0 yX9_nameOf cX9_nameOf 1 (some .int) [.inl a0] σ (QI Q) := by
  unfold g_X9_nameOf at w
  refine AMet.of (own := RX9) (by decide) rfl hA (Nat.le_of_ble_eq_true rfl) ?_
  show RJ l cx 0 RX9 cX9_nameOf 1 (some .int) 0 [(0, .inl a0)] [] σ _
  refine R_iload_n dX9_nameOf_0 rfl 0 rfl ?_
  by_cases c1 : a0 = 99
  · have w := wp_t c1 w
    refine R_tswIn (v := 99) (tgt := 127) dX9_nameOf_1 c1 (by decide) (by decide) rfl (by decide) ?_
    refine R_bipush (v := 7) dX9_nameOf_127 (by decide) ?_
    exact R_ireturn dX9_nameOf_129 rfl ⟨_, rfl, wp_some w⟩
  have w := wp_f c1 w
  by_cases c2 : a0 = 100
  · have w := wp_t c2 w
    refine R_tswIn (v := 100) (tgt := 133) dX9_nameOf_1 c2 (by decide) (by decide) rfl (by decide) ?_
    refine R_iconst (v := (-1)) dX9_nameOf_133 (by decide) ?_
    exact R_ireturn dX9_nameOf_134 rfl ⟨_, rfl, wp_some w⟩
  have w := wp_f c2 w
  by_cases c3 : a0 = 101
  · have w := wp_t c3 w
    refine R_tswIn (v := 101) (tgt := 133) dX9_nameOf_1 c3 (by decide) (by decide) rfl (by decide) ?_
    refine R_iconst (v := (-1)) dX9_nameOf_133 (by decide) ?_
    exact R_ireturn dX9_nameOf_134 rfl ⟨_, rfl, wp_some w⟩
  have w := wp_f c3 w
  by_cases c4 : a0 = 102
  · have w := wp_t c4 w
    refine R_tswIn (v := 102) (tgt := 133) dX9_nameOf_1 c4 (by decide) (by decide) rfl (by decide) ?_
    refine R_iconst (v := (-1)) dX9_nameOf_133 (by decide) ?_
    exact R_ireturn dX9_nameOf_134 rfl ⟨_, rfl, wp_some w⟩
  have w := wp_f c4 w
  by_cases c5 : a0 = 103
  · have w := wp_t c5 w
    refine R_tswIn (v := 103) (tgt := 133) dX9_nameOf_1 c5 (by decide) (by decide) rfl (by decide) ?_
    refine R_iconst (v := (-1)) dX9_nameOf_133 (by decide) ?_
    exact R_ireturn dX9_nameOf_134 rfl ⟨_, rfl, wp_some w⟩
  have w := wp_f c5 w
  by_cases c6 : a0 = 104
  · have w := wp_t c6 w
    refine R_tswIn (v := 104) (tgt := 130) dX9_nameOf_1 c6 (by decide) (by decide) rfl (by decide) ?_
    refine R_bipush (v := 8) dX9_nameOf_130 (by decide) ?_
    exact R_ireturn dX9_nameOf_132 rfl ⟨_, rfl, wp_some w⟩
  have w := wp_f c6 w
  by_cases c7 : a0 = 105
  · have w := wp_t c7 w
    refine R_tswIn (v := 105) (tgt := 118) dX9_nameOf_1 c7 (by decide) (by decide) rfl (by decide) ?_
    refine R_iconst (v := 3) dX9_nameOf_118 (by decide) ?_
    exact R_ireturn dX9_nameOf_119 rfl ⟨_, rfl, wp_some w⟩
  have w := wp_f c7 w
  by_cases c8 : a0 = 106
  · have w := wp_t c8 w
    refine R_tswIn (v := 106) (tgt := 120) dX9_nameOf_1 c8 (by decide) (by decide) rfl (by decide) ?_
    refine R_iconst (v := 4) dX9_nameOf_120 (by decide) ?_
    exact R_ireturn dX9_nameOf_121 rfl ⟨_, rfl, wp_some w⟩
  have w := wp_f c8 w
  by_cases c9 : a0 = 107
  · have w := wp_t c9 w
    refine R_tswIn (v := 107) (tgt := 133) dX9_nameOf_1 c9 (by decide) (by decide) rfl (by decide) ?_
    refine R_iconst (v := (-1)) dX9_nameOf_133 (by decide) ?_
    exact R_ireturn dX9_nameOf_134 rfl ⟨_, rfl, wp_some w⟩
  have w := wp_f c9 w
  by_cases c10 : a0 = 108
  · have w := wp_t c10 w
    refine R_tswIn (v := 108) (tgt := 133) dX9_nameOf_1 c10 (by decide) (by decide) rfl (by decide) ?_
    refine R_iconst (v := (-1)) dX9_nameOf_133 (by decide) ?_
    exact R_ireturn dX9_nameOf_134 rfl ⟨_, rfl, wp_some w⟩
  have w := wp_f c10 w
  by_cases c11 : a0 = 109
  · have w := wp_t c11 w
    refine R_tswIn (v := 109) (tgt := 124) dX9_nameOf_1 c11 (by decide) (by decide) rfl (by decide) ?_
    refine R_bipush (v := 6) dX9_nameOf_124 (by decide) ?_
    exact R_ireturn dX9_nameOf_126 rfl ⟨_, rfl, wp_some w⟩
  have w := wp_f c11 w
  by_cases c12 : a0 = 110
  · have w := wp_t c12 w
    refine R_tswIn (v := 110) (tgt := 133) dX9_nameOf_1 c12 (by decide) (by decide) rfl (by decide) ?_
    refine R_iconst (v := (-1)) dX9_nameOf_133 (by decide) ?_
    exact R_ireturn dX9_nameOf_134 rfl ⟨_, rfl, wp_some w⟩
  have w := wp_f c12 w
  by_cases c13 : a0 = 111
  · have w := wp_t c13 w
    refine R_tswIn (v := 111) (tgt := 133) dX9_nameOf_1 c13 (by decide) (by decide) rfl (by decide) ?_
    refine R_iconst (v := (-1)) dX9_nameOf_133 (by decide) ?_
    exact R_ireturn dX9_nameOf_134 rfl ⟨_, rfl, wp_some w⟩
  have w := wp_f c13 w
  by_cases c14 : a0 = 112
  · have w := wp_t c14 w
    refine R_tswIn (v := 112) (tgt := 114) dX9_nameOf_1 c14 (by decide) (by decide) rfl (by decide) ?_
    refine R_iconst (v := 1) dX9_nameOf_114 (by decide) ?_
    exact R_ireturn dX9_nameOf_115 rfl ⟨_, rfl, wp_some w⟩
  have w := wp_f c14 w
  by_cases c15 : a0 = 113
  · have w := wp_t c15 w
    refine R_tswIn (v := 113) (tgt := 133) dX9_nameOf_1 c15 (by decide) (by decide) rfl (by decide) ?_
    refine R_iconst (v := (-1)) dX9_nameOf_133 (by decide) ?_
    exact R_ireturn dX9_nameOf_134 rfl ⟨_, rfl, wp_some w⟩
  have w := wp_f c15 w
  by_cases c16 : a0 = 114
  · have w := wp_t c16 w
    refine R_tswIn (v := 114) (tgt := 116) dX9_nameOf_1 c16 (by decide) (by decide) rfl (by decide) ?_
    refine R_iconst (v := 2) dX9_nameOf_116 (by decide) ?_
    exact R_ireturn dX9_nameOf_117 rfl ⟨_, rfl, wp_some w⟩
  have w := wp_f c16 w
  by_cases c17 : a0 = 115
  · have w := wp_t c17 w
    refine R_tswIn (v := 115) (tgt := 112) dX9_nameOf_1 c17 (by decide) (by decide) rfl (by decide) ?_
    refine R_iconst (v := 0) dX9_nameOf_112 (by decide) ?_
    exact R_ireturn dX9_nameOf_113 rfl ⟨_, rfl, wp_some w⟩
  have w := wp_f c17 w
  by_cases c18 : a0 = 116
  · have w := wp_t c18 w
    refine R_tswIn (v := 116) (tgt := 133) dX9_nameOf_1 c18 (by decide) (by decide) rfl (by decide) ?_
    refine R_iconst (v := (-1)) dX9_nameOf_133 (by decide) ?_
    exact R_ireturn dX9_nameOf_134 rfl ⟨_, rfl, wp_some w⟩
  have w := wp_f c18 w
  by_cases c19 : a0 = 117
  · have w := wp_t c19 w
    refine R_tswIn (v := 117) (tgt := 133) dX9_nameOf_1 c19 (by decide) (by decide) rfl (by decide) ?_
    refine R_iconst (v := (-1)) dX9_nameOf_133 (by decide) ?_
    exact R_ireturn dX9_nameOf_134 rfl ⟨_, rfl, wp_some w⟩
  have w := wp_f c19 w
  by_cases c20 : a0 = 118
  · have w := wp_t c20 w
    refine R_tswIn (v := 118) (tgt := 133) dX9_nameOf_1 c20 (by decide) (by decide) rfl (by decide) ?_
    refine R_iconst (v := (-1)) dX9_nameOf_133 (by decide) ?_
    exact R_ireturn dX9_nameOf_134 rfl ⟨_, rfl, wp_some w⟩
  have w := wp_f c20 w
  by_cases c21 : a0 = 119
  · have w := wp_t c21 w
    refine R_tswIn (v := 119) (tgt := 133) dX9_nameOf_1 c21 (by decide) (by decide) rfl (by decide) ?_
    refine R_iconst (v := (-1)) dX9_nameOf_133 (by decide) ?_
    exact R_ireturn dX9_nameOf_134 rfl ⟨_, rfl, wp_some w⟩
  have w := wp_f c21 w
  by_cases c22 : a0 = 120
  · have w := wp_t c22 w
    refine R_tswIn (v := 120) (tgt := 133) dX9_nameOf_1 c22 (by decide) (by decide) rfl (by decide) ?_
    refine R_iconst (v := (-1)) dX9_nameOf_133 (by decide) ?_
    exact R_ireturn dX9_nameOf_134 rfl ⟨_, rfl, wp_some w⟩
  have w := wp_f c22 w
  by_cases c23 : a0 = 121
  · have w := wp_t c23 w
    refine R_tswIn (v := 121) (tgt := 133) dX9_nameOf_1 c23 (by decide) (by decide) rfl (by decide) ?_
    refine R_iconst (v := (-1)) dX9_nameOf_133 (by decide) ?_
    exact R_ireturn dX9_nameOf_134 rfl ⟨_, rfl, wp_some w⟩
  have w := wp_f c23 w
  by_cases c24 : a0 = 122
  · have w := wp_t c24 w
    refine R_tswIn (v := 122) (tgt := 122) dX9_nameOf_1 c24 (by decide) (by decide) rfl (by decide) ?_
    refine R_iconst (v := 5) dX9_nameOf_122 (by decide) ?_
    exact R_ireturn dX9_nameOf_123 rfl ⟨_, rfl, wp_some w⟩
  have w := wp_f c24 w
  refine R_tswOut (tgt := 133) dX9_nameOf_1 [99, 100, 101, 102, 103, 104, 105, 106, 107, 108, 109, 110, 111, 112, 113, 114, 115, 116, 117, 118, 119, 120, 121, 122] (List.forall_mem_cons.mpr ⟨c1, (List.forall_mem_cons.mpr ⟨c2, (List.forall_mem_cons.mpr ⟨c3, (List.forall_mem_cons.mpr ⟨c4, (List.forall_mem_cons.mpr ⟨c5, (List.forall_mem_cons.mpr ⟨c6, (List.forall_mem_cons.mpr ⟨c7, (List.forall_mem_cons.mpr ⟨c8, (List.forall_mem_cons.mpr ⟨c9, (List.forall_mem_cons.mpr ⟨c10, (List.forall_mem_cons.mpr ⟨c11, (List.forall_mem_cons.mpr ⟨c12, (List.forall_mem_cons.mpr ⟨c13, (List.forall_mem_cons.mpr ⟨c14, (List.forall_mem_cons.mpr ⟨c15, (List.forall_mem_cons.mpr ⟨c16, (List.forall_mem_cons.mpr ⟨c17, (List.forall_mem_cons.mpr ⟨c18, (List.forall_mem_cons.mpr ⟨c19, (List.forall_mem_cons.mpr ⟨c20, (List.forall_mem_cons.mpr ⟨c21, (List.forall_mem_cons.mpr ⟨c22, (List.forall_mem_cons.mpr ⟨c23, (List.forall_mem_cons.mpr ⟨c24, (fun _ z => absurd z List.not_mem_nil)⟩)⟩)⟩)⟩)⟩)⟩)⟩)⟩)⟩)⟩)⟩)⟩)⟩)⟩)⟩)⟩)⟩)⟩)⟩)⟩)⟩)⟩)⟩)⟩) (by decide) (by decide) ?_
  refine R_iconst (v := (-1)) dX9_nameOf_133 (by decide) ?_
  exact R_ireturn dX9_nameOf_134 rfl ⟨_, rfl, wp_some w⟩
def g_X9_wrong (σ : AS) : Option (Int32 × AS) := (if gF σ 9 0 22 < 0 then (lt (sF σ 9 0 22 (gF σ 9 0 20)) fun σ3 => some (0, σ3)) else (lt (sF σ 9 0 22 (gF σ 9 0 22)) fun σ2 => some (0, σ2)))
set_option maxRecDepth 100000 in
set_option maxHeartbeats 4000000 in
theorem ct_X9_wrong {l : Launch} {cx : CX} (hA : AD cx) (σ : AS) (Q : Int32 → AS → Prop) (w : wpO (g_X9_wrong σ) Q) : AMet l cx 0 yX9_wrong cX9_wrong 1 (some .int) [.inr (.inr (9, 0, 0))] σ (QI Q) := by
  unfold g_X9_wrong at w
  refine AMet.of (own := RX9) (by decide) rfl hA (Nat.le_of_ble_eq_true rfl) ?_
  show RJ l cx 0 RX9 cX9_wrong 1 (some .int) 0 [(0, .inr (.inr (9, 0, 0)))] [] σ _
  refine R_aload_n dX9_wrong_0 rfl 0 rfl ?_
  refine R_aload_n dX9_wrong_1 rfl 0 rfl ?_
  refine R_getfI (k := 22) acl9 oz9_0 (by decide) fl_RX9_185 dX9_wrong_2 rfl ?_
  refine R_if_ge (tgt := 15) dX9_wrong_5 (by decide) (fun c1 => ?_) (fun c1 => ?_)
  · have w := wp_f c1 w
    refine R_aload_n dX9_wrong_15 rfl 0 rfl ?_
    refine R_getfI (k := 22) acl9 oz9_0 (by decide) fl_RX9_185 dX9_wrong_16 rfl ?_
    refine R_putf (k := 22) (ty := .int) acl9 oz9_0 (by decide) fl_RX9_185 rfl (tyX9_ok 22 (by decide)) (Or.inl rfl) dX9_wrong_19 rfl ?_
    refine R_nameS w ?_; clear w; intro σ2 w
    refine R_iconst (v := 0) dX9_wrong_22 (by decide) ?_
    exact R_ireturn dX9_wrong_23 rfl ⟨_, rfl, wp_some w⟩
  · have w := wp_t c1 w
    refine R_aload_n dX9_wrong_8 rfl 0 rfl ?_
    refine R_getfI (k := 20) acl9 oz9_0 (by decide) fl_RX9_176 dX9_wrong_9 rfl ?_
    refine R_goto (tgt := 19) dX9_wrong_12 (by decide) ?_
    refine R_putf (k := 22) (ty := .int) acl9 oz9_0 (by decide) fl_RX9_185 rfl (tyX9_ok 22 (by decide)) (Or.inl rfl) dX9_wrong_19 rfl ?_
    refine R_nameS w ?_; clear w; intro σ3 w
    refine R_iconst (v := 0) dX9_wrong_22 (by decide) ?_
    exact R_ireturn dX9_wrong_23 rfl ⟨_, rfl, wp_some w⟩
abbrev GT2 : Type := (AS → Option (Int32 × AS)) × (AS → Option (Int32 × AS)) × (AS → Option (Int32 × AS)) × (AS → Option (Int32 × AS)) × (AS → Option (Int32 × AS)) × (AS → Option (Int32 × AS))
abbrev GC2 (l : Launch) (cx : CX) (f : Nat) (rc : GT2) : Prop := (∀  (σ : AS) (Q : Int32 → AS → Prop), wpO (rc.1  σ) Q → AMet l cx (f + 2) yX9_either cX9_either 3 (some .int) [.inr (.inr (9, 0, 0))] σ (QI Q)) ∧ (∀  (σ : AS) (Q : Int32 → AS → Prop), wpO (rc.2.1  σ) Q → AMet l cx (f + 2) yX9_bothOf cX9_bothOf 3 (some .int) [.inr (.inr (9, 0, 0))] σ (QI Q)) ∧ (∀  (σ : AS) (Q : Int32 → AS → Prop), wpO (rc.2.2.1  σ) Q → AMet l cx (f + 2) yX9_compared cX9_compared 4 (some .int) [.inr (.inr (9, 0, 0))] σ (QI Q)) ∧ (∀  (σ : AS) (Q : Int32 → AS → Prop), wpO (rc.2.2.2.1  σ) Q → AMet l cx (f + 2) yX9_sums cX9_sums 4 (some .int) [.inr (.inr (9, 0, 0))] σ (QI Q)) ∧ (∀  (σ : AS) (Q : Int32 → AS → Prop), wpO (rc.2.2.2.2.1  σ) Q → AMet l cx (f + 2) yX9_product cX9_product 4 (some .int) [.inr (.inr (9, 0, 0))] σ (QI Q)) ∧ (∀  (σ : AS) (Q : Int32 → AS → Prop), wpO (rc.2.2.2.2.2  σ) Q → AMet l cx (f + 2) yX9_one cX9_one 5 (some .int) [.inr (.inr (9, 0, 0))] σ (QI Q))
def g_X9_either_5 (rc : GT2)   : Nat → Int32 → AS → Option (Int32 × AS)
  | 0, _, _ => none
  | f0 + 1, v1, σ => (bnd (g_X9_takes 124 σ) fun r3 σ4 => (if r3 = 0 then some (v1, σ4) else (bnd (rc.2.1 σ4) fun r6 σ7 => (if v1 = 0 then (if r6 = 0 then (g_X9_either_5 rc f0) 0 σ7 else (g_X9_either_5 rc f0) 1 σ7) else (g_X9_either_5 rc f0) 1 σ7))))
set_option maxRecDepth 100000 in
set_option maxHeartbeats 4000000 in
theorem rk_X9_either_5 {l : Launch} {cx : CX} (hA : AD cx) {f : Nat} (rc : GT2) (hrc : GC2 l cx f rc)   (Q : Int32 → AS → Prop) : ∀ (f0 : Nat) (v1 : Int32) (σ : AS), wpO (g_X9_either_5 rc f0 v1 σ) Q → RJ l cx (f + 1 + 2) RX9 cX9_either 3 (some .int) 5 [(0, .inr (.inr (9, 0, 0))), (1, .inl v1)] [] σ (QI Q) := by
  intro f0
  induction f0 with
  | zero => intro v1 σ w; exact wp_no w
  | succ f0 ih =>
    intro v1 σ w
    rw [g_X9_either_5] at w
    refine R_aload_n dX9_either_5 rfl 0 rfl ?_
    refine R_bipush (v := 124) dX9_either_6 (by decide) ?_
    refine R_callVI (As := [.inl 124]) acl9 rfl oz9_0 mi_X9_takes ml_RX9_194 rfl (Nat.le_of_ble_eq_true rfl) (am_hle 2) dX9_either_8 (ct_X9_takes hA 124 σ _ (wp_bnd w)) (fun r3 σ4 w => ?_)
    refine R_if_eq (tgt := 36) dX9_either_11 (by decide) (fun c5 => ?_) (fun c5 => ?_)
    · have w := wp_t c5 w
      refine R_iload_n dX9_either_36 rfl 1 rfl ?_
      exact R_ireturn dX9_either_37 rfl ⟨_, rfl, wp_some w⟩
    · have w := wp_f c5 w
      refine R_aload_n dX9_either_14 rfl 0 rfl ?_
      refine R_callVI (As := []) acl9 rfl oz9_0 mi_X9_bothOf ml_RX9_191 rfl (Nat.le_of_ble_eq_true rfl) (Nat.le_refl _) dX9_either_15 (hrc.2.1 σ4 _ (wp_bnd w)) (fun r6 σ7 w => ?_)
      refine R_istore_n (lv' := [(2, .inl r6), (0, .inr (.inr (9, 0, 0))), (1, .inl v1)]) dX9_either_18 rfl (by decide) rfl ?_
      refine R_iload_n dX9_either_19 rfl 2 rfl ?_
      refine R_if_ne (tgt := 27) dX9_either_20 (by decide) (fun c8 => ?_) (fun c8 => ?_)
      · have w := wp_f c8 w
        refine R_iconst (v := 1) dX9_either_27 (by decide) ?_
        refine R_goto (tgt := 32) dX9_either_28 (by decide) ?_
        refine R_istore_n (lv' := [(1, .inl 1), (2, .inl r6), (0, .inr (.inr (9, 0, 0)))]) dX9_either_32 rfl (by decide) rfl ?_
        refine R_goto (tgt := 5) dX9_either_33 (by decide) ?_
        refine R_sub [2, 0] rfl ?_
        exact ih 1 σ7 w
      · have w := wp_t c8 w
        refine R_iload_n dX9_either_23 rfl 0 rfl ?_
        refine R_if_eq (tgt := 31) dX9_either_24 (by decide) (fun c9 => ?_) (fun c9 => ?_)
        · have w := wp_t c9 w
          refine R_iconst (v := 0) dX9_either_31 (by decide) ?_
          refine R_istore_n (lv' := [(1, .inl 0), (2, .inl r6), (0, .inr (.inr (9, 0, 0)))]) dX9_either_32 rfl (by decide) rfl ?_
          refine R_goto (tgt := 5) dX9_either_33 (by decide) ?_
          refine R_sub [2, 0] rfl ?_
          exact ih 0 σ7 w
        · have w := wp_f c9 w
          refine R_iconst (v := 1) dX9_either_27 (by decide) ?_
          refine R_goto (tgt := 32) dX9_either_28 (by decide) ?_
          refine R_istore_n (lv' := [(1, .inl 1), (2, .inl r6), (0, .inr (.inr (9, 0, 0)))]) dX9_either_32 rfl (by decide) rfl ?_
          refine R_goto (tgt := 5) dX9_either_33 (by decide) ?_
          refine R_sub [2, 0] rfl ?_
          exact ih 1 σ7 w
def gb_X9_either (rc : GT2) (σ : AS) : Option (Int32 × AS) := (bnd (rc.2.1 σ) fun r1 σ2 => g_X9_either_5 rc 400 r1 σ2)
set_option maxRecDepth 100000 in
set_option maxHeartbeats 4000000 in
theorem cb_X9_either {l : Launch} {cx : CX} (hA : AD cx) {f : Nat} (rc : GT2) (hrc : GC2 l cx f rc) (σ : AS) (Q : Int32 → AS → Prop) (w : wpO (gb_X9_either rc σ) Q) : AMet l cx (f + 1 + 2) yX9_either cX9_either 3 (some .int) [.inr (.inr (9, 0, 0))] σ (QI Q) := by
  unfold gb_X9_either at w
  refine AMet.of (own := RX9) (by decide) rfl hA (Nat.le_of_ble_eq_true rfl) ?_
  show RJ l cx (f + 1 + 2) RX9 cX9_either 3 (some .int) 0 [(0, .inr (.inr (9, 0, 0)))] [] σ _
  refine R_aload_n dX9_either_0 rfl 0 rfl ?_
  refine R_callVI (As := []) acl9 rfl oz9_0 mi_X9_bothOf ml_RX9_191 rfl (Nat.le_of_ble_eq_true rfl) (Nat.le_refl _) dX9_either_1 (hrc.2.1 σ _ (wp_bnd w)) (fun r1 σ2 w => ?_)
  refine R_istore_n (lv' := [(1, .inl r1), (0, .inr (.inr (9, 0, 0)))]) dX9_either_4 rfl (by decide) rfl ?_
  refine R_sub [1, 0] rfl ?_
  exact rk_X9_either_5 hA rc hrc _ 400 r1 σ2 w
def g_X9_bothOf_5 (rc : GT2)   : Nat → Int32 → AS → Option (Int32 × AS)
  | 0, _, _ => none
  | f0 + 1, v1, σ => (bnd (g_X9_takes 38 σ) fun r3 σ4 => (if r3 = 0 then some (v1, σ4) else (bnd (rc.2.2.1 σ4) fun r6 σ7 => (if v1 = 0 then (g_X9_bothOf_5 rc f0) 0 σ7 else (if r6 = 0 then (g_X9_bothOf_5 rc f0) 0 σ7 else (g_X9_bothOf_5 rc f0) 1 σ7)))))
set_option maxRecDepth 100000 in
set_option maxHeartbeats 4000000 in
theorem rk_X9_bothOf_5 {l : Launch} {cx : CX} (hA : AD cx) {f : Nat} (rc : GT2) (hrc : GC2 l cx f rc)   (Q : Int32 → AS → Prop) : ∀ (f0 : Nat) (v1 : Int32) (σ : AS), wpO (g_X9_bothOf_5 rc f0 v1 σ) Q → RJ l cx (f + 1 + 2) RX9 cX9_bothOf 3 (some .int) 5 [(0, .inr (.inr (9, 0, 0))), (1, .inl v1)] [] σ (QI Q) := by
  intro f0
  induction f0 with
  | zero => intro v1 σ w; exact wp_no w
  | succ f0 ih =>
    intro v1 σ w
    rw [g_X9_bothOf_5] at w
    refine R_aload_n dX9_bothOf_5 rfl 0 rfl ?_
    refine R_bipush (v := 38) dX9_bothOf_6 (by decide) ?_
    refine R_callVI (As := [.inl 38]) acl9 rfl oz9_0 mi_X9_takes ml_RX9_194 rfl (Nat.le_of_ble_eq_true rfl) (am_hle 2) dX9_bothOf_8 (ct_X9_takes hA 38 σ _ (wp_bnd w)) (fun r3 σ4 w => ?_)
    refine R_if_eq (tgt := 36) dX9_bothOf_11 (by decide) (fun c5 => ?_) (fun c5 => ?_)
    · have w := wp_t c5 w
      refine R_iload_n dX9_bothOf_36 rfl 1 rfl ?_
      exact R_ireturn dX9_bothOf_37 rfl ⟨_, rfl, wp_some w⟩
    · have w := wp_f c5 w
      refine R_aload_n dX9_bothOf_14 rfl 0 rfl ?_
      refine R_callVI (As := []) acl9 rfl oz9_0 mi_X9_compared ml_RX9_197 rfl (Nat.le_of_ble_eq_true rfl) (Nat.le_refl _) dX9_bothOf_15 (hrc.2.2.1 σ4 _ (wp_bnd w)) (fun r6 σ7 w => ?_)
      refine R_istore_n (lv' := [(2, .inl r6), (0, .inr (.inr (9, 0, 0))), (1, .inl v1)]) dX9_bothOf_18 rfl (by decide) rfl ?_
      refine R_iload_n dX9_bothOf_19 rfl 2 rfl ?_
      refine R_if_eq (tgt := 31) dX9_bothOf_20 (by decide) (fun c8 => ?_) (fun c8 => ?_)
      · have w := wp_t c8 w
        refine R_iconst (v := 0) dX9_bothOf_31 (by decide) ?_
        refine R_istore_n (lv' := [(1, .inl 0), (2, .inl r6), (0, .inr (.inr (9, 0, 0)))]) dX9_bothOf_32 rfl (by decide) rfl ?_
        refine R_goto (tgt := 5) dX9_bothOf_33 (by decide) ?_
        refine R_sub [2, 0] rfl ?_
        exact ih 0 σ7 w
      · have w := wp_f c8 w
        refine R_iload_n dX9_bothOf_23 rfl 0 rfl ?_
        refine R_if_eq (tgt := 31) dX9_bothOf_24 (by decide) (fun c9 => ?_) (fun c9 => ?_)
        · have w := wp_t c9 w
          refine R_iconst (v := 0) dX9_bothOf_31 (by decide) ?_
          refine R_istore_n (lv' := [(1, .inl 0), (2, .inl r6), (0, .inr (.inr (9, 0, 0)))]) dX9_bothOf_32 rfl (by decide) rfl ?_
          refine R_goto (tgt := 5) dX9_bothOf_33 (by decide) ?_
          refine R_sub [2, 0] rfl ?_
          exact ih 0 σ7 w
        · have w := wp_f c9 w
          refine R_iconst (v := 1) dX9_bothOf_27 (by decide) ?_
          refine R_goto (tgt := 32) dX9_bothOf_28 (by decide) ?_
          refine R_istore_n (lv' := [(1, .inl 1), (2, .inl r6), (0, .inr (.inr (9, 0, 0)))]) dX9_bothOf_32 rfl (by decide) rfl ?_
          refine R_goto (tgt := 5) dX9_bothOf_33 (by decide) ?_
          refine R_sub [2, 0] rfl ?_
          exact ih 1 σ7 w
def gb_X9_bothOf (rc : GT2) (σ : AS) : Option (Int32 × AS) := (bnd (rc.2.2.1 σ) fun r1 σ2 => g_X9_bothOf_5 rc 400 r1 σ2)
set_option maxRecDepth 100000 in
set_option maxHeartbeats 4000000 in
theorem cb_X9_bothOf {l : Launch} {cx : CX} (hA : AD cx) {f : Nat} (rc : GT2) (hrc : GC2 l cx f rc) (σ : AS) (Q : Int32 → AS → Prop) (w : wpO (gb_X9_bothOf rc σ) Q) : AMet l cx (f + 1 + 2) yX9_bothOf cX9_bothOf 3 (some .int) [.inr (.inr (9, 0, 0))] σ (QI Q) := by
  unfold gb_X9_bothOf at w
  refine AMet.of (own := RX9) (by decide) rfl hA (Nat.le_of_ble_eq_true rfl) ?_
  show RJ l cx (f + 1 + 2) RX9 cX9_bothOf 3 (some .int) 0 [(0, .inr (.inr (9, 0, 0)))] [] σ _
  refine R_aload_n dX9_bothOf_0 rfl 0 rfl ?_
  refine R_callVI (As := []) acl9 rfl oz9_0 mi_X9_compared ml_RX9_197 rfl (Nat.le_of_ble_eq_true rfl) (Nat.le_refl _) dX9_bothOf_1 (hrc.2.2.1 σ _ (wp_bnd w)) (fun r1 σ2 w => ?_)
  refine R_istore_n (lv' := [(1, .inl r1), (0, .inr (.inr (9, 0, 0)))]) dX9_bothOf_4 rfl (by decide) rfl ?_
  refine R_sub [1, 0] rfl ?_
  exact rk_X9_bothOf_5 hA rc hrc _ 400 r1 σ2 w
def g_X9_compared_37 (rc : GT2)   (v1 : Int32) (v2 : Int32) (σ : AS) : Option (Int32 × AS) := (lt (sF σ 9 0 20 ((gF σ 9 0 20) + 1)) fun σ7 => (bnd (rc.2.2.2.1 σ7) fun r8 σ9 => (if v2 = 60 then (if v1 < r8 then some (1, σ9) else some (0, σ9)) else (if v2 = 61 then (if v1 = r8 then some (1, σ9) else some (0, σ9)) else (if r8 < v1 then some (1, σ9) else some (0, σ9))))))
set_option maxRecDepth 100000 in
set_option maxHeartbeats 4000000 in
theorem rk_X9_compared_37 {l : Launch} {cx : CX} (hA : AD cx) {f : Nat} (rc : GT2) (hrc : GC2 l cx f rc)   (Q : Int32 → AS → Prop) (v1 : Int32) (v2 : Int32) (σ : AS) (w : wpO (g_X9_compared_37 rc v1 v2 σ) Q) : RJ l cx (f + 1 + 2) RX9 cX9_compared 4 (some .int) 37 [(0, .inr (.inr (9, 0, 0))), (1, .inl v1), (2, .inl v2)] [] σ (QI Q) := by
  unfold g_X9_compared_37 at w
  refine R_aload_n dX9_compared_37 rfl 0 rfl ?_
  refine R_dup dX9_compared_38 rfl ?_
  refine R_getfI (k := 20) acl9 oz9_0 (by decide) fl_RX9_176 dX9_compared_39 rfl ?_
  refine R_iconst (v := 1) dX9_compared_42 (by decide) ?_
  refine R_iadd dX9_compared_43 ?_
  refine R_putf (k := 20) (ty := .int) acl9 oz9_0 (by decide) fl_RX9_176 rfl (tyX9_ok 20 (by decide)) (Or.inl rfl) dX9_compared_44 rfl ?_
  refine R_nameS w ?_; clear w; intro σ7 w
  refine R_aload_n dX9_compared_47 rfl 0 rfl ?_
  refine R_callVI (As := []) acl9 rfl oz9_0 mi_X9_sums ml_RX9_200 rfl (Nat.le_of_ble_eq_true rfl) (Nat.le_refl _) dX9_compared_48 (hrc.2.2.2.1 σ7 _ (wp_bnd w)) (fun r8 σ9 w => ?_)
  refine R_istore_n (lv' := [(3, .inl r8), (0, .inr (.inr (9, 0, 0))), (1, .inl v1), (2, .inl v2)]) dX9_compared_51 rfl (by decide) rfl ?_
  refine R_iload_n dX9_compared_52 rfl 3 rfl ?_
  refine R_bipush (v := 60) dX9_compared_53 (by decide) ?_
  refine R_icmp_ne (tgt := 66) dX9_compared_55 (by decide) (fun c10 => ?_) (fun c10 => ?_)
  · have w := wp_f c10 w
    refine R_iload_n dX9_compared_66 rfl 3 rfl ?_
    refine R_bipush (v := 61) dX9_compared_67 (by decide) ?_
    refine R_icmp_ne (tgt := 80) dX9_compared_69 (by decide) (fun c11 => ?_) (fun c11 => ?_)
    · have w := wp_f c11 w
      refine R_iload_n dX9_compared_80 rfl 2 rfl ?_
      refine R_iload_n dX9_compared_81 rfl 0 rfl ?_
      refine R_icmp_le (tgt := 89) dX9_compared_82 (by decide) (fun c12 => ?_) (fun c12 => ?_)
      · have w := wp_f c12 w
        refine R_iconst (v := 0) dX9_compared_89 (by decide) ?_
        exact R_ireturn dX9_compared_90 rfl ⟨_, rfl, wp_some w⟩
      · have w := wp_t c12 w
        refine R_iconst (v := 1) dX9_compared_85 (by decide) ?_
        refine R_goto (tgt := 90) dX9_compared_86 (by decide) ?_
        exact R_ireturn dX9_compared_90 rfl ⟨_, rfl, wp_some w⟩
    · have w := wp_t c11 w
      refine R_iload_n dX9_compared_72 rfl 2 rfl ?_
      refine R_iload_n dX9_compared_73 rfl 0 rfl ?_
      refine R_icmp_ne (tgt := 89) dX9_compared_74 (by decide) (fun c13 => ?_) (fun c13 => ?_)
      · have w := wp_f c13 w
        refine R_iconst (v := 0) dX9_compared_89 (by decide) ?_
        exact R_ireturn dX9_compared_90 rfl ⟨_, rfl, wp_some w⟩
      · have w := wp_t c13 w
        refine R_goto (tgt := 85) dX9_compared_77 (by decide) ?_
        refine R_iconst (v := 1) dX9_compared_85 (by decide) ?_
        refine R_goto (tgt := 90) dX9_compared_86 (by decide) ?_
        exact R_ireturn dX9_compared_90 rfl ⟨_, rfl, wp_some w⟩
  · have w := wp_t c10 w
    refine R_iload_n dX9_compared_58 rfl 2 rfl ?_
    refine R_iload_n dX9_compared_59 rfl 0 rfl ?_
    refine R_icmp_ge (tgt := 89) dX9_compared_60 (by decide) (fun c14 => ?_) (fun c14 => ?_)
    · have w := wp_f c14 w
      refine R_iconst (v := 0) dX9_compared_89 (by decide) ?_
      exact R_ireturn dX9_compared_90 rfl ⟨_, rfl, wp_some w⟩
    · have w := wp_t c14 w
      refine R_goto (tgt := 85) dX9_compared_63 (by decide) ?_
      refine R_iconst (v := 1) dX9_compared_85 (by decide) ?_
      refine R_goto (tgt := 90) dX9_compared_86 (by decide) ?_
      exact R_ireturn dX9_compared_90 rfl ⟨_, rfl, wp_some w⟩
def gb_X9_compared (rc : GT2) (σ : AS) : Option (Int32 × AS) := (bnd (rc.2.2.2.1 σ) fun r1 σ2 => (bnd (g_X9_byteAt σ2) fun r3 σ4 => (if gF σ4 9 0 22 < 0 then (if r3 = 60 then g_X9_compared_37 rc r1 r3 σ4 else (if r3 = 61 then g_X9_compared_37 rc r1 r3 σ4 else (if r3 = 62 then g_X9_compared_37 rc r1 r3 σ4 else some (r1, σ4)))) else some (r1, σ4))))
set_option maxRecDepth 100000 in
set_option maxHeartbeats 4000000 in
theorem cb_X9_compared {l : Launch} {cx : CX} (hA : AD cx) {f : Nat} (rc : GT2) (hrc : GC2 l cx f rc) (σ : AS) (Q : Int32 → AS → Prop) (w : wpO (gb_X9_compared rc σ) Q) : AMet l cx (f + 1 + 2) yX9_compared cX9_compared 4 (some .int) [.inr (.inr (9, 0, 0))] σ (QI Q) := by
  unfold gb_X9_compared at w
  refine AMet.of (own := RX9) (by decide) rfl hA (Nat.le_of_ble_eq_true rfl) ?_
  show RJ l cx (f + 1 + 2) RX9 cX9_compared 4 (some .int) 0 [(0, .inr (.inr (9, 0, 0)))] [] σ _
  refine R_aload_n dX9_compared_0 rfl 0 rfl ?_
  refine R_callVI (As := []) acl9 rfl oz9_0 mi_X9_sums ml_RX9_200 rfl (Nat.le_of_ble_eq_true rfl) (Nat.le_refl _) dX9_compared_1 (hrc.2.2.2.1 σ _ (wp_bnd w)) (fun r1 σ2 w => ?_)
  refine R_istore_n (lv' := [(1, .inl r1), (0, .inr (.inr (9, 0, 0)))]) dX9_compared_4 rfl (by decide) rfl ?_
  refine R_aload_n dX9_compared_5 rfl 1 rfl ?_
  refine R_callVI (As := []) acl9 rfl oz9_0 mi_X9_byteAt ml_RX9_188 rfl (Nat.le_of_ble_eq_true rfl) (am_hle 1) dX9_compared_6 (ct_X9_byteAt hA σ2 _ (wp_bnd w)) (fun r3 σ4 w => ?_)
  refine R_istore_n (lv' := [(2, .inl r3), (1, .inl r1), (0, .inr (.inr (9, 0, 0)))]) dX9_compared_9 rfl (by decide) rfl ?_
  refine R_aload_n dX9_compared_10 rfl 2 rfl ?_
  refine R_getfI (k := 22) acl9 oz9_0 (by decide) fl_RX9_185 dX9_compared_11 rfl ?_
  refine R_if_ge (tgt := 35) dX9_compared_14 (by decide) (fun c5 => ?_) (fun c5 => ?_)
  · have w := wp_f c5 w
    refine R_iload_n dX9_compared_35 rfl 1 rfl ?_
    exact R_ireturn dX9_compared_36 rfl ⟨_, rfl, wp_some w⟩
  · have w := wp_t c5 w
    refine R_iload_n dX9_compared_17 rfl 0 rfl ?_
    refine R_bipush (v := 60) dX9_compared_18 (by decide) ?_
    refine R_icmp_eq (tgt := 37) dX9_compared_20 (by decide) (fun c6 => ?_) (fun c6 => ?_)
    · have w := wp_t c6 w
      refine R_sub [2, 1, 0] rfl ?_
      exact rk_X9_compared_37 hA rc hrc _ r1 r3 σ4 w
    · have w := wp_f c6 w
      refine R_iload_n dX9_compared_23 rfl 0 rfl ?_
      refine R_bipush (v := 61) dX9_compared_24 (by decide) ?_
      refine R_icmp_eq (tgt := 37) dX9_compared_26 (by decide) (fun c15 => ?_) (fun c15 => ?_)
      · have w := wp_t c15 w
        refine R_sub [2, 1, 0] rfl ?_
        exact rk_X9_compared_37 hA rc hrc _ r1 r3 σ4 w
      · have w := wp_f c15 w
        refine R_iload_n dX9_compared_29 rfl 0 rfl ?_
        refine R_bipush (v := 62) dX9_compared_30 (by decide) ?_
        refine R_icmp_eq (tgt := 37) dX9_compared_32 (by decide) (fun c16 => ?_) (fun c16 => ?_)
        · have w := wp_t c16 w
          refine R_sub [2, 1, 0] rfl ?_
          exact rk_X9_compared_37 hA rc hrc _ r1 r3 σ4 w
        · have w := wp_f c16 w
          refine R_iload_n dX9_compared_35 rfl 1 rfl ?_
          exact R_ireturn dX9_compared_36 rfl ⟨_, rfl, wp_some w⟩
def g_X9_sums_44 (rc : GT2)   (k5 : Int32 → AS → Option (Int32 × AS)) (v1 : Int32) (s0 : Int32) (σ : AS) : Option (Int32 × AS) := (lt (sF σ 9 0 20 ((gF σ 9 0 20) + 1)) fun σ10 => (bnd (rc.2.2.2.2.1 σ10) fun r11 σ12 => (if s0 = 0 then (lt (v1 - r11) fun x14 => k5 x14 σ12) else (lt (v1 + r11) fun x15 => k5 x15 σ12))))
set_option maxRecDepth 100000 in
set_option maxHeartbeats 4000000 in
theorem rk_X9_sums_44 {l : Launch} {cx : CX} (hA : AD cx) {f : Nat} (rc : GT2) (hrc : GC2 l cx f rc)   (Q : Int32 → AS → Prop) (k5 : Int32 → AS → Option (Int32 × AS)) (hk5 : ∀ (v1 : Int32) (σ : AS), wpO (k5 v1 σ) Q → RJ l cx (f + 1 + 2) RX9 cX9_sums 4 (some .int) 5 [(0, .inr (.inr (9, 0, 0))), (1, .inl v1)] [] σ (QI Q)) (v1 : Int32) (s0 : Int32) (σ : AS) (w : wpO (g_X9_sums_44 rc k5 v1 s0 σ) Q) : RJ l cx (f + 1 + 2) RX9 cX9_sums 4 (some .int) 44 [(0, .inr (.inr (9, 0, 0))), (1, .inl v1)] [.inl s0] σ (QI Q) := by
  unfold g_X9_sums_44 at w
  refine R_istore_n (lv' := [(2, .inl s0), (0, .inr (.inr (9, 0, 0))), (1, .inl v1)]) dX9_sums_44 rfl (by decide) rfl ?_
  refine R_aload_n dX9_sums_45 rfl 1 rfl ?_
  refine R_dup dX9_sums_46 rfl ?_
  refine R_getfI (k := 20) acl9 oz9_0 (by decide) fl_RX9_176 dX9_sums_47 rfl ?_
  refine R_iconst (v := 1) dX9_sums_50 (by decide) ?_
  refine R_iadd dX9_sums_51 ?_
  refine R_putf (k := 20) (ty := .int) acl9 oz9_0 (by decide) fl_RX9_176 rfl (tyX9_ok 20 (by decide)) (Or.inl rfl) dX9_sums_52 rfl ?_
  refine R_nameS w ?_; clear w; intro σ10 w
  refine R_aload_n dX9_sums_55 rfl 1 rfl ?_
  refine R_callVI (As := []) acl9 rfl oz9_0 mi_X9_product ml_RX9_203 rfl (Nat.le_of_ble_eq_true rfl) (Nat.le_refl _) dX9_sums_56 (hrc.2.2.2.2.1 σ10 _ (wp_bnd w)) (fun r11 σ12 w => ?_)
  refine R_istore_n (lv' := [(3, .inl r11), (2, .inl s0), (0, .inr (.inr (9, 0, 0))), (1, .inl v1)]) dX9_sums_59 rfl (by decide) rfl ?_
  refine R_iload_n dX9_sums_60 rfl 1 rfl ?_
  refine R_if_eq (tgt := 70) dX9_sums_61 (by decide) (fun c13 => ?_) (fun c13 => ?_)
  · have w := wp_t c13 w
    refine R_iload_n dX9_sums_70 rfl 3 rfl ?_
    refine R_iload_n dX9_sums_71 rfl 0 rfl ?_
    refine R_isub dX9_sums_72 ?_
    refine R_nameI w ?_; clear w; intro x14 w
    refine R_istore_n (lv' := [(1, .inl x14), (3, .inl r11), (2, .inl s0), (0, .inr (.inr (9, 0, 0)))]) dX9_sums_73 rfl (by decide) rfl ?_
    refine R_goto (tgt := 5) dX9_sums_74 (by decide) ?_
    refine R_sub [3, 0] rfl ?_
    exact hk5 x14 σ12 w
  · have w := wp_f c13 w
    refine R_iload_n dX9_sums_64 rfl 3 rfl ?_
    refine R_iload_n dX9_sums_65 rfl 0 rfl ?_
    refine R_iadd dX9_sums_66 ?_
    refine R_goto (tgt := 73) dX9_sums_67 (by decide) ?_
    refine R_nameI w ?_; clear w; intro x15 w
    refine R_istore_n (lv' := [(1, .inl x15), (3, .inl r11), (2, .inl s0), (0, .inr (.inr (9, 0, 0)))]) dX9_sums_73 rfl (by decide) rfl ?_
    refine R_goto (tgt := 5) dX9_sums_74 (by decide) ?_
    refine R_sub [3, 0] rfl ?_
    exact hk5 x15 σ12 w
def g_X9_sums_30 (rc : GT2)   (k5 : Int32 → AS → Option (Int32 × AS)) (v1 : Int32) (σ : AS) : Option (Int32 × AS) := (bnd (g_X9_byteAt σ) fun r7 σ8 => (if r7 = 43 then g_X9_sums_44 rc k5 v1 1 σ8 else g_X9_sums_44 rc k5 v1 0 σ8))
set_option maxRecDepth 100000 in
set_option maxHeartbeats 4000000 in
theorem rk_X9_sums_30 {l : Launch} {cx : CX} (hA : AD cx) {f : Nat} (rc : GT2) (hrc : GC2 l cx f rc)   (Q : Int32 → AS → Prop) (k5 : Int32 → AS → Option (Int32 × AS)) (hk5 : ∀ (v1 : Int32) (σ : AS), wpO (k5 v1 σ) Q → RJ l cx (f + 1 + 2) RX9 cX9_sums 4 (some .int) 5 [(0, .inr (.inr (9, 0, 0))), (1, .inl v1)] [] σ (QI Q)) (v1 : Int32) (σ : AS) (w : wpO (g_X9_sums_30 rc k5 v1 σ) Q) : RJ l cx (f + 1 + 2) RX9 cX9_sums 4 (some .int) 30 [(0, .inr (.inr (9, 0, 0))), (1, .inl v1)] [] σ (QI Q) := by
  unfold g_X9_sums_30 at w
  refine R_aload_n dX9_sums_30 rfl 0 rfl ?_
  refine R_callVI (As := []) acl9 rfl oz9_0 mi_X9_byteAt ml_RX9_188 rfl (Nat.le_of_ble_eq_true rfl) (am_hle 1) dX9_sums_31 (ct_X9_byteAt hA σ _ (wp_bnd w)) (fun r7 σ8 w => ?_)
  refine R_bipush (v := 43) dX9_sums_34 (by decide) ?_
  refine R_icmp_ne (tgt := 43) dX9_sums_36 (by decide) (fun c9 => ?_) (fun c9 => ?_)
  · have w := wp_f c9 w
    refine R_iconst (v := 0) dX9_sums_43 (by decide) ?_
    refine R_sub [0, 1] rfl ?_
    exact rk_X9_sums_44 hA rc hrc _ k5 hk5 v1 0 σ8 w
  · have w := wp_t c9 w
    refine R_iconst (v := 1) dX9_sums_39 (by decide) ?_
    refine R_goto (tgt := 44) dX9_sums_40 (by decide) ?_
    refine R_sub [0, 1] rfl ?_
    exact rk_X9_sums_44 hA rc hrc _ k5 hk5 v1 1 σ8 w
def g_X9_sums_5 (rc : GT2)   : Nat → Int32 → AS → Option (Int32 × AS)
  | 0, _, _ => none
  | f0 + 1, v1, σ => (if gF σ 9 0 22 < 0 then (bnd (g_X9_byteAt σ) fun r4 σ5 => (if r4 = 43 then g_X9_sums_30 rc (g_X9_sums_5 rc f0) v1 σ5 else (bnd (g_X9_byteAt σ5) fun r16 σ17 => (if r16 = 45 then g_X9_sums_30 rc (g_X9_sums_5 rc f0) v1 σ17 else some (v1, σ17))))) else some (v1, σ))
set_option maxRecDepth 100000 in
set_option maxHeartbeats 4000000 in
theorem rk_X9_sums_5 {l : Launch} {cx : CX} (hA : AD cx) {f : Nat} (rc : GT2) (hrc : GC2 l cx f rc)   (Q : Int32 → AS → Prop) : ∀ (f0 : Nat) (v1 : Int32) (σ : AS), wpO (g_X9_sums_5 rc f0 v1 σ) Q → RJ l cx (f + 1 + 2) RX9 cX9_sums 4 (some .int) 5 [(0, .inr (.inr (9, 0, 0))), (1, .inl v1)] [] σ (QI Q) := by
  intro f0
  induction f0 with
  | zero => intro v1 σ w; exact wp_no w
  | succ f0 ih =>
    intro v1 σ w
    rw [g_X9_sums_5] at w
    refine R_aload_n dX9_sums_5 rfl 0 rfl ?_
    refine R_getfI (k := 22) acl9 oz9_0 (by decide) fl_RX9_185 dX9_sums_6 rfl ?_
    refine R_if_ge (tgt := 77) dX9_sums_9 (by decide) (fun c3 => ?_) (fun c3 => ?_)
    · have w := wp_f c3 w
      refine R_iload_n dX9_sums_77 rfl 1 rfl ?_
      exact R_ireturn dX9_sums_78 rfl ⟨_, rfl, wp_some w⟩
    · have w := wp_t c3 w
      refine R_aload_n dX9_sums_12 rfl 0 rfl ?_
      refine R_callVI (As := []) acl9 rfl oz9_0 mi_X9_byteAt ml_RX9_188 rfl (Nat.le_of_ble_eq_true rfl) (am_hle 1) dX9_sums_13 (ct_X9_byteAt hA σ _ (wp_bnd w)) (fun r4 σ5 w => ?_)
      refine R_bipush (v := 43) dX9_sums_16 (by decide) ?_
      refine R_icmp_eq (tgt := 30) dX9_sums_18 (by decide) (fun c6 => ?_) (fun c6 => ?_)
      · have w := wp_t c6 w
        refine R_sub [0, 1] rfl ?_
        exact rk_X9_sums_30 hA rc hrc _ (g_X9_sums_5 rc f0) ih v1 σ5 w
      · have w := wp_f c6 w
        refine R_aload_n dX9_sums_21 rfl 0 rfl ?_
        refine R_callVI (As := []) acl9 rfl oz9_0 mi_X9_byteAt ml_RX9_188 rfl (Nat.le_of_ble_eq_true rfl) (am_hle 1) dX9_sums_22 (ct_X9_byteAt hA σ5 _ (wp_bnd w)) (fun r16 σ17 w => ?_)
        refine R_bipush (v := 45) dX9_sums_25 (by decide) ?_
        refine R_icmp_ne (tgt := 77) dX9_sums_27 (by decide) (fun c18 => ?_) (fun c18 => ?_)
        · have w := wp_f c18 w
          refine R_iload_n dX9_sums_77 rfl 1 rfl ?_
          exact R_ireturn dX9_sums_78 rfl ⟨_, rfl, wp_some w⟩
        · have w := wp_t c18 w
          refine R_sub [0, 1] rfl ?_
          exact rk_X9_sums_30 hA rc hrc _ (g_X9_sums_5 rc f0) ih v1 σ17 w
def gb_X9_sums (rc : GT2) (σ : AS) : Option (Int32 × AS) := (bnd (rc.2.2.2.2.1 σ) fun r1 σ2 => g_X9_sums_5 rc 400 r1 σ2)
set_option maxRecDepth 100000 in
set_option maxHeartbeats 4000000 in
theorem cb_X9_sums {l : Launch} {cx : CX} (hA : AD cx) {f : Nat} (rc : GT2) (hrc : GC2 l cx f rc) (σ : AS) (Q : Int32 → AS → Prop) (w : wpO (gb_X9_sums rc σ) Q) : AMet l cx (f + 1 + 2) yX9_sums cX9_sums 4 (some .int) [.inr (.inr (9, 0, 0))] σ (QI Q) := by
  unfold gb_X9_sums at w
  refine AMet.of (own := RX9) (by decide) rfl hA (Nat.le_of_ble_eq_true rfl) ?_
  show RJ l cx (f + 1 + 2) RX9 cX9_sums 4 (some .int) 0 [(0, .inr (.inr (9, 0, 0)))] [] σ _
  refine R_aload_n dX9_sums_0 rfl 0 rfl ?_
  refine R_callVI (As := []) acl9 rfl oz9_0 mi_X9_product ml_RX9_203 rfl (Nat.le_of_ble_eq_true rfl) (Nat.le_refl _) dX9_sums_1 (hrc.2.2.2.2.1 σ _ (wp_bnd w)) (fun r1 σ2 w => ?_)
  refine R_istore_n (lv' := [(1, .inl r1), (0, .inr (.inr (9, 0, 0)))]) dX9_sums_4 rfl (by decide) rfl ?_
  refine R_sub [1, 0] rfl ?_
  exact rk_X9_sums_5 hA rc hrc _ 400 r1 σ2 w
def g_X9_product_85 (rc : GT2)   (k10 : Int32 → Int32 → AS → Option (Int32 × AS)) (s0 : Int32) (σ : AS) : Option (Int32 × AS) := (bnd (g_X9_byteAt σ) fun r14 σ15 => k10 s0 r14 σ15)
set_option maxRecDepth 100000 in
set_option maxHeartbeats 4000000 in
theorem rk_X9_product_85 {l : Launch} {cx : CX} (hA : AD cx) {f : Nat} (rc : GT2) (hrc : GC2 l cx f rc)   (Q : Int32 → AS → Prop) (k10 : Int32 → Int32 → AS → Option (Int32 × AS)) (hk10 : ∀ (v1 : Int32) (v2 : Int32) (σ : AS), wpO (k10 v1 v2 σ) Q → RJ l cx (f + 1 + 2) RX9 cX9_product 4 (some .int) 10 [(0, .inr (.inr (9, 0, 0))), (1, .inl v1), (2, .inl v2)] [] σ (QI Q)) (s0 : Int32) (σ : AS) (w : wpO (g_X9_product_85 rc k10 s0 σ) Q) : RJ l cx (f + 1 + 2) RX9 cX9_product 4 (some .int) 85 [(0, .inr (.inr (9, 0, 0)))] [.inl s0] σ (QI Q) := by
  unfold g_X9_product_85 at w
  refine R_istore_n (lv' := [(1, .inl s0), (0, .inr (.inr (9, 0, 0)))]) dX9_product_85 rfl (by decide) rfl ?_
  refine R_aload_n dX9_product_86 rfl 1 rfl ?_
  refine R_callVI (As := []) acl9 rfl oz9_0 mi_X9_byteAt ml_RX9_188 rfl (Nat.le_of_ble_eq_true rfl) (am_hle 1) dX9_product_87 (ct_X9_byteAt hA σ _ (wp_bnd w)) (fun r14 σ15 w => ?_)
  refine R_istore_n (lv' := [(2, .inl r14), (1, .inl s0), (0, .inr (.inr (9, 0, 0)))]) dX9_product_90 rfl (by decide) rfl ?_
  refine R_goto (tgt := 10) dX9_product_91 (by decide) ?_
  refine R_sub [2, 1, 0] rfl ?_
  exact hk10 s0 r14 σ15 w
def g_X9_product_35 (rc : GT2)   (k10 : Int32 → Int32 → AS → Option (Int32 × AS)) (v1 : Int32) (v2 : Int32) (σ : AS) : Option (Int32 × AS) := (lt (sF σ 9 0 20 ((gF σ 9 0 20) + 1)) fun σ7 => (bnd (rc.2.2.2.2.2 σ7) fun r8 σ9 => (if v2 = 42 then g_X9_product_85 rc k10 (v1 * r8) σ9 else (if r8 = 0 then g_X9_product_85 rc k10 0 σ9 else (if v2 = 47 then (if ¬ r8 = 0 then g_X9_product_85 rc k10 (v1 / r8) σ9 else none) else (if ¬ r8 = 0 then g_X9_product_85 rc k10 (rmi v1 r8) σ9 else none))))))
set_option maxRecDepth 100000 in
set_option maxHeartbeats 4000000 in
theorem rk_X9_product_35 {l : Launch} {cx : CX} (hA : AD cx) {f : Nat} (rc : GT2) (hrc : GC2 l cx f rc)   (Q : Int32 → AS → Prop) (k10 : Int32 → Int32 → AS → Option (Int32 × AS)) (hk10 : ∀ (v1 : Int32) (v2 : Int32) (σ : AS), wpO (k10 v1 v2 σ) Q → RJ l cx (f + 1 + 2) RX9 cX9_product 4 (some .int) 10 [(0, .inr (.inr (9, 0, 0))), (1, .inl v1), (2, .inl v2)] [] σ (QI Q)) (v1 : Int32) (v2 : Int32) (σ : AS) (w : wpO (g_X9_product_35 rc k10 v1 v2 σ) Q) : RJ l cx (f + 1 + 2) RX9 cX9_product 4 (some .int) 35 [(0, .inr (.inr (9, 0, 0))), (1, .inl v1), (2, .inl v2)] [] σ (QI Q) := by
  unfold g_X9_product_35 at w
  refine R_aload_n dX9_product_35 rfl 0 rfl ?_
  refine R_dup dX9_product_36 rfl ?_
  refine R_getfI (k := 20) acl9 oz9_0 (by decide) fl_RX9_176 dX9_product_37 rfl ?_
  refine R_iconst (v := 1) dX9_product_40 (by decide) ?_
  refine R_iadd dX9_product_41 ?_
  refine R_putf (k := 20) (ty := .int) acl9 oz9_0 (by decide) fl_RX9_176 rfl (tyX9_ok 20 (by decide)) (Or.inl rfl) dX9_product_42 rfl ?_
  refine R_nameS w ?_; clear w; intro σ7 w
  refine R_aload_n dX9_product_45 rfl 0 rfl ?_
  refine R_callVI (As := []) acl9 rfl oz9_0 mi_X9_one ml_RX9_206 rfl (Nat.le_of_ble_eq_true rfl) (Nat.le_refl _) dX9_product_46 (hrc.2.2.2.2.2 σ7 _ (wp_bnd w)) (fun r8 σ9 w => ?_)
  refine R_istore_n (lv' := [(3, .inl r8), (0, .inr (.inr (9, 0, 0))), (1, .inl v1), (2, .inl v2)]) dX9_product_49 rfl (by decide) rfl ?_
  refine R_iload_n dX9_product_50 rfl 3 rfl ?_
  refine R_bipush (v := 42) dX9_product_51 (by decide) ?_
  refine R_icmp_ne (tgt := 62) dX9_product_53 (by decide) (fun c10 => ?_) (fun c10 => ?_)
  · have w := wp_f c10 w
    refine R_iload_n dX9_product_62 rfl 0 rfl ?_
    refine R_if_ne (tgt := 70) dX9_product_63 (by decide) (fun c11 => ?_) (fun c11 => ?_)
    · have w := wp_f c11 w
      refine R_iload_n dX9_product_70 rfl 3 rfl ?_
      refine R_bipush (v := 47) dX9_product_71 (by decide) ?_
      refine R_icmp_ne (tgt := 82) dX9_product_73 (by decide) (fun c12 => ?_) (fun c12 => ?_)
      · have w := wp_f c12 w
        refine R_iload_n dX9_product_82 rfl 2 rfl ?_
        refine R_iload_n dX9_product_83 rfl 0 rfl ?_
        obtain ⟨b13, w⟩ := wp_chk w
        refine R_irem dX9_product_84 b13 ?_
        refine R_sub [1] rfl ?_
        exact rk_X9_product_85 hA rc hrc _ k10 hk10 (rmi v1 r8) σ9 w
      · have w := wp_t c12 w
        refine R_iload_n dX9_product_76 rfl 2 rfl ?_
        refine R_iload_n dX9_product_77 rfl 0 rfl ?_
        obtain ⟨b16, w⟩ := wp_chk w
        refine R_idiv dX9_product_78 b16 ?_
        refine R_goto (tgt := 85) dX9_product_79 (by decide) ?_
        refine R_sub [1] rfl ?_
        exact rk_X9_product_85 hA rc hrc _ k10 hk10 (v1 / r8) σ9 w
    · have w := wp_t c11 w
      refine R_iconst (v := 0) dX9_product_66 (by decide) ?_
      refine R_goto (tgt := 85) dX9_product_67 (by decide) ?_
      refine R_sub [1] rfl ?_
      exact rk_X9_product_85 hA rc hrc _ k10 hk10 0 σ9 w
  · have w := wp_t c10 w
    refine R_iload_n dX9_product_56 rfl 2 rfl ?_
    refine R_iload_n dX9_product_57 rfl 0 rfl ?_
    refine R_imul dX9_product_58 ?_
    refine R_goto (tgt := 85) dX9_product_59 (by decide) ?_
    refine R_sub [1] rfl ?_
    exact rk_X9_product_85 hA rc hrc _ k10 hk10 (v1 * r8) σ9 w
def g_X9_product_10 (rc : GT2)   : Nat → Int32 → Int32 → AS → Option (Int32 × AS)
  | 0, _, _, _ => none
  | f0 + 1, v1, v2, σ => (if gF σ 9 0 22 < 0 then (if v2 = 42 then g_X9_product_35 rc (g_X9_product_10 rc f0) v1 v2 σ else (if v2 = 47 then g_X9_product_35 rc (g_X9_product_10 rc f0) v1 v2 σ else (if v2 = 37 then g_X9_product_35 rc (g_X9_product_10 rc f0) v1 v2 σ else some (v1, σ)))) else some (v1, σ))
set_option maxRecDepth 100000 in
set_option maxHeartbeats 4000000 in
theorem rk_X9_product_10 {l : Launch} {cx : CX} (hA : AD cx) {f : Nat} (rc : GT2) (hrc : GC2 l cx f rc)   (Q : Int32 → AS → Prop) : ∀ (f0 : Nat) (v1 : Int32) (v2 : Int32) (σ : AS), wpO (g_X9_product_10 rc f0 v1 v2 σ) Q → RJ l cx (f + 1 + 2) RX9 cX9_product 4 (some .int) 10 [(0, .inr (.inr (9, 0, 0))), (1, .inl v1), (2, .inl v2)] [] σ (QI Q) := by
  intro f0
  induction f0 with
  | zero => intro v1 v2 σ w; exact wp_no w
  | succ f0 ih =>
    intro v1 v2 σ w
    rw [g_X9_product_10] at w
    refine R_aload_n dX9_product_10 rfl 0 rfl ?_
    refine R_getfI (k := 22) acl9 oz9_0 (by decide) fl_RX9_185 dX9_product_11 rfl ?_
    refine R_if_ge (tgt := 94) dX9_product_14 (by decide) (fun c5 => ?_) (fun c5 => ?_)
    · have w := wp_f c5 w
      refine R_iload_n dX9_product_94 rfl 1 rfl ?_
      exact R_ireturn dX9_product_95 rfl ⟨_, rfl, wp_some w⟩
    · have w := wp_t c5 w
      refine R_iload_n dX9_product_17 rfl 2 rfl ?_
      refine R_bipush (v := 42) dX9_product_18 (by decide) ?_
      refine R_icmp_eq (tgt := 35) dX9_product_20 (by decide) (fun c6 => ?_) (fun c6 => ?_)
      · have w := wp_t c6 w
        refine R_sub [0, 1, 2] rfl ?_
        exact rk_X9_product_35 hA rc hrc _ (g_X9_product_10 rc f0) ih v1 v2 σ w
      · have w := wp_f c6 w
        refine R_iload_n dX9_product_23 rfl 2 rfl ?_
        refine R_bipush (v := 47) dX9_product_24 (by decide) ?_
        refine R_icmp_eq (tgt := 35) dX9_product_26 (by decide) (fun c17 => ?_) (fun c17 => ?_)
        · have w := wp_t c17 w
          refine R_sub [0, 1, 2] rfl ?_
          exact rk_X9_product_35 hA rc hrc _ (g_X9_product_10 rc f0) ih v1 v2 σ w
        · have w := wp_f c17 w
          refine R_iload_n dX9_product_29 rfl 2 rfl ?_
          refine R_bipush (v := 37) dX9_product_30 (by decide) ?_
          refine R_icmp_ne (tgt := 94) dX9_product_32 (by decide) (fun c18 => ?_) (fun c18 => ?_)
          · have w := wp_f c18 w
            refine R_iload_n dX9_product_94 rfl 1 rfl ?_
            exact R_ireturn dX9_product_95 rfl ⟨_, rfl, wp_some w⟩
          · have w := wp_t c18 w
            refine R_sub [0, 1, 2] rfl ?_
            exact rk_X9_product_35 hA rc hrc _ (g_X9_product_10 rc f0) ih v1 v2 σ w
def gb_X9_product (rc : GT2) (σ : AS) : Option (Int32 × AS) := (bnd (rc.2.2.2.2.2 σ) fun r1 σ2 => (bnd (g_X9_byteAt σ2) fun r3 σ4 => g_X9_product_10 rc 400 r1 r3 σ4))
set_option maxRecDepth 100000 in
set_option maxHeartbeats 4000000 in
theorem cb_X9_product {l : Launch} {cx : CX} (hA : AD cx) {f : Nat} (rc : GT2) (hrc : GC2 l cx f rc) (σ : AS) (Q : Int32 → AS → Prop) (w : wpO (gb_X9_product rc σ) Q) : AMet l cx (f + 1 + 2) yX9_product cX9_product 4 (some .int) [.inr (.inr (9, 0, 0))] σ (QI Q) := by
  unfold gb_X9_product at w
  refine AMet.of (own := RX9) (by decide) rfl hA (Nat.le_of_ble_eq_true rfl) ?_
  show RJ l cx (f + 1 + 2) RX9 cX9_product 4 (some .int) 0 [(0, .inr (.inr (9, 0, 0)))] [] σ _
  refine R_aload_n dX9_product_0 rfl 0 rfl ?_
  refine R_callVI (As := []) acl9 rfl oz9_0 mi_X9_one ml_RX9_206 rfl (Nat.le_of_ble_eq_true rfl) (Nat.le_refl _) dX9_product_1 (hrc.2.2.2.2.2 σ _ (wp_bnd w)) (fun r1 σ2 w => ?_)
  refine R_istore_n (lv' := [(1, .inl r1), (0, .inr (.inr (9, 0, 0)))]) dX9_product_4 rfl (by decide) rfl ?_
  refine R_aload_n dX9_product_5 rfl 1 rfl ?_
  refine R_callVI (As := []) acl9 rfl oz9_0 mi_X9_byteAt ml_RX9_188 rfl (Nat.le_of_ble_eq_true rfl) (am_hle 1) dX9_product_6 (ct_X9_byteAt hA σ2 _ (wp_bnd w)) (fun r3 σ4 w => ?_)
  refine R_istore_n (lv' := [(2, .inl r3), (1, .inl r1), (0, .inr (.inr (9, 0, 0)))]) dX9_product_9 rfl (by decide) rfl ?_
  refine R_sub [2, 1, 0] rfl ?_
  exact rk_X9_product_10 hA rc hrc _ 400 r1 r3 σ4 w
def g_X9_one_104 (rc : GT2)   (v1 : Int32) (v2 : Int32) (σ : AS) : Option (Int32 × AS) := (lt (sF σ 9 0 23 ((gF σ 9 0 23) - 1)) fun σ12 => (if v1 = 40 then some (v2, σ12) else (if v1 = 45 then some (-v2, σ12) else (if v2 = 0 then some (1, σ12) else some (0, σ12)))))
set_option maxRecDepth 100000 in
set_option maxHeartbeats 4000000 in
theorem rk_X9_one_104 {l : Launch} {cx : CX} (hA : AD cx) {f : Nat} (rc : GT2) (hrc : GC2 l cx f rc)   (Q : Int32 → AS → Prop) (v1 : Int32) (v2 : Int32) (σ : AS) (w : wpO (g_X9_one_104 rc v1 v2 σ) Q) : RJ l cx (f + 1 + 2) RX9 cX9_one 5 (some .int) 104 [(0, .inr (.inr (9, 0, 0))), (1, .inl v1), (2, .inl v2)] [] σ (QI Q) := by
  unfold g_X9_one_104 at w
  refine R_aload_n dX9_one_104 rfl 0 rfl ?_
  refine R_dup dX9_one_105 rfl ?_
  refine R_getfI (k := 23) acl9 oz9_0 (by decide) fl_RX9_209 dX9_one_106 rfl ?_
  refine R_iconst (v := 1) dX9_one_109 (by decide) ?_
  refine R_isub dX9_one_110 ?_
  refine R_putf (k := 23) (ty := .int) acl9 oz9_0 (by decide) fl_RX9_209 rfl (tyX9_ok 23 (by decide)) (Or.inl rfl) dX9_one_111 rfl ?_
  refine R_nameS w ?_; clear w; intro σ12 w
  refine R_iload_n dX9_one_114 rfl 1 rfl ?_
  refine R_bipush (v := 40) dX9_one_115 (by decide) ?_
  refine R_icmp_ne (tgt := 124) dX9_one_117 (by decide) (fun c13 => ?_) (fun c13 => ?_)
  · have w := wp_f c13 w
    refine R_iload_n dX9_one_124 rfl 1 rfl ?_
    refine R_bipush (v := 45) dX9_one_125 (by decide) ?_
    refine R_icmp_ne (tgt := 135) dX9_one_127 (by decide) (fun c14 => ?_) (fun c14 => ?_)
    · have w := wp_f c14 w
      refine R_iload_n dX9_one_135 rfl 2 rfl ?_
      refine R_if_ne (tgt := 143) dX9_one_136 (by decide) (fun c15 => ?_) (fun c15 => ?_)
      · have w := wp_f c15 w
        refine R_iconst (v := 0) dX9_one_143 (by decide) ?_
        exact R_ireturn dX9_one_144 rfl ⟨_, rfl, wp_some w⟩
      · have w := wp_t c15 w
        refine R_iconst (v := 1) dX9_one_139 (by decide) ?_
        refine R_goto (tgt := 144) dX9_one_140 (by decide) ?_
        exact R_ireturn dX9_one_144 rfl ⟨_, rfl, wp_some w⟩
    · have w := wp_t c14 w
      refine R_iload_n dX9_one_130 rfl 2 rfl ?_
      refine R_ineg dX9_one_131 ?_
      refine R_goto (tgt := 144) dX9_one_132 (by decide) ?_
      exact R_ireturn dX9_one_144 rfl ⟨_, rfl, wp_some w⟩
  · have w := wp_t c13 w
    refine R_iload_n dX9_one_120 rfl 2 rfl ?_
    refine R_goto (tgt := 144) dX9_one_121 (by decide) ?_
    exact R_ireturn dX9_one_144 rfl ⟨_, rfl, wp_some w⟩
def g_X9_one_83 (rc : GT2)   (v1 : Int32) (s0 : Int32) (σ : AS) : Option (Int32 × AS) := (if v1 = 40 then (bnd (g_X9_takes 41 σ) fun r16 σ17 => (if r16 = 0 then (bnd (g_X9_wrong σ17) fun r19 σ20 => some (r19, σ20)) else g_X9_one_104 rc v1 s0 σ17)) else g_X9_one_104 rc v1 s0 σ)
set_option maxRecDepth 100000 in
set_option maxHeartbeats 4000000 in
theorem rk_X9_one_83 {l : Launch} {cx : CX} (hA : AD cx) {f : Nat} (rc : GT2) (hrc : GC2 l cx f rc)   (Q : Int32 → AS → Prop) (v1 : Int32) (s0 : Int32) (σ : AS) (w : wpO (g_X9_one_83 rc v1 s0 σ) Q) : RJ l cx (f + 1 + 2) RX9 cX9_one 5 (some .int) 83 [(0, .inr (.inr (9, 0, 0))), (1, .inl v1)] [.inl s0] σ (QI Q) := by
  unfold g_X9_one_83 at w
  refine R_istore_n (lv' := [(2, .inl s0), (0, .inr (.inr (9, 0, 0))), (1, .inl v1)]) dX9_one_83 rfl (by decide) rfl ?_
  refine R_iload_n dX9_one_84 rfl 2 rfl ?_
  refine R_bipush (v := 40) dX9_one_85 (by decide) ?_
  refine R_icmp_ne (tgt := 104) dX9_one_87 (by decide) (fun c11 => ?_) (fun c11 => ?_)
  · have w := wp_f c11 w
    refine R_sub [1, 2, 0] rfl ?_
    exact rk_X9_one_104 hA rc hrc _ v1 s0 σ w
  · have w := wp_t c11 w
    refine R_aload_n dX9_one_90 rfl 1 rfl ?_
    refine R_bipush (v := 41) dX9_one_91 (by decide) ?_
    refine R_callVI (As := [.inl 41]) acl9 rfl oz9_0 mi_X9_takes ml_RX9_194 rfl (Nat.le_of_ble_eq_true rfl) (am_hle 2) dX9_one_93 (ct_X9_takes hA 41 σ _ (wp_bnd w)) (fun r16 σ17 w => ?_)
    refine R_if_ne (tgt := 104) dX9_one_96 (by decide) (fun c18 => ?_) (fun c18 => ?_)
    · have w := wp_f c18 w
      refine R_sub [1, 2, 0] rfl ?_
      exact rk_X9_one_104 hA rc hrc _ v1 s0 σ17 w
    · have w := wp_t c18 w
      refine R_aload_n dX9_one_99 rfl 1 rfl ?_
      refine R_callVI (As := []) acl9 rfl oz9_0 mi_X9_wrong ml_RX9_212 rfl (Nat.le_of_ble_eq_true rfl) (am_hle 1) dX9_one_100 (ct_X9_wrong hA σ17 _ (wp_bnd w)) (fun r19 σ20 w => ?_)
      exact R_ireturn dX9_one_103 rfl ⟨_, rfl, wp_some w⟩
def g_X9_one_32 (rc : GT2)   (v1 : Int32) (σ : AS) : Option (Int32 × AS) := (if gF σ 9 0 23 = 6 then (bnd (g_X9_wrong σ) fun r23 σ24 => some (r23, σ24)) else (lt (sF σ 9 0 23 ((gF σ 9 0 23) + 1)) fun σ6 => (lt (sF σ6 9 0 20 ((gF σ6 9 0 20) + 1)) fun σ7 => (if v1 = 40 then (bnd (rc.1 σ7) fun r21 σ22 => g_X9_one_83 rc v1 r21 σ22) else (bnd (rc.2.2.2.2.2 σ7) fun r9 σ10 => g_X9_one_83 rc v1 r9 σ10)))))
set_option maxRecDepth 100000 in
set_option maxHeartbeats 4000000 in
theorem rk_X9_one_32 {l : Launch} {cx : CX} (hA : AD cx) {f : Nat} (rc : GT2) (hrc : GC2 l cx f rc)   (Q : Int32 → AS → Prop) (v1 : Int32) (σ : AS) (w : wpO (g_X9_one_32 rc v1 σ) Q) : RJ l cx (f + 1 + 2) RX9 cX9_one 5 (some .int) 32 [(0, .inr (.inr (9, 0, 0))), (1, .inl v1)] [] σ (QI Q) := by
  unfold g_X9_one_32 at w
  refine R_aload_n dX9_one_32 rfl 0 rfl ?_
  refine R_getfI (k := 23) acl9 oz9_0 (by decide) fl_RX9_209 dX9_one_33 rfl ?_
  refine R_bipush (v := 6) dX9_one_36 (by decide) ?_
  refine R_icmp_ne (tgt := 46) dX9_one_38 (by decide) (fun c5 => ?_) (fun c5 => ?_)
  · have w := wp_f c5 w
    refine R_aload_n dX9_one_46 rfl 0 rfl ?_
    refine R_dup dX9_one_47 rfl ?_
    refine R_getfI (k := 23) acl9 oz9_0 (by decide) fl_RX9_209 dX9_one_48 rfl ?_
    refine R_iconst (v := 1) dX9_one_51 (by decide) ?_
    refine R_iadd dX9_one_52 ?_
    refine R_putf (k := 23) (ty := .int) acl9 oz9_0 (by decide) fl_RX9_209 rfl (tyX9_ok 23 (by decide)) (Or.inl rfl) dX9_one_53 rfl ?_
    refine R_nameS w ?_; clear w; intro σ6 w
    refine R_aload_n dX9_one_56 rfl 0 rfl ?_
    refine R_dup dX9_one_57 rfl ?_
    refine R_getfI (k := 20) acl9 oz9_0 (by decide) fl_RX9_176 dX9_one_58 rfl ?_
    refine R_iconst (v := 1) dX9_one_61 (by decide) ?_
    refine R_iadd dX9_one_62 ?_
    refine R_putf (k := 20) (ty := .int) acl9 oz9_0 (by decide) fl_RX9_176 rfl (tyX9_ok 20 (by decide)) (Or.inl rfl) dX9_one_63 rfl ?_
    refine R_nameS w ?_; clear w; intro σ7 w
    refine R_iload_n dX9_one_66 rfl 1 rfl ?_
    refine R_bipush (v := 40) dX9_one_67 (by decide) ?_
    refine R_icmp_ne (tgt := 79) dX9_one_69 (by decide) (fun c8 => ?_) (fun c8 => ?_)
    · have w := wp_f c8 w
      refine R_aload_n dX9_one_79 rfl 0 rfl ?_
      refine R_callVI (As := []) acl9 rfl oz9_0 mi_X9_one ml_RX9_206 rfl (Nat.le_of_ble_eq_true rfl) (Nat.le_refl _) dX9_one_80 (hrc.2.2.2.2.2 σ7 _ (wp_bnd w)) (fun r9 σ10 w => ?_)
      refine R_sub [0, 1] rfl ?_
      exact rk_X9_one_83 hA rc hrc _ v1 r9 σ10 w
    · have w := wp_t c8 w
      refine R_aload_n dX9_one_72 rfl 0 rfl ?_
      refine R_callVI (As := []) acl9 rfl oz9_0 mi_X9_either ml_RX9_215 rfl (Nat.le_of_ble_eq_true rfl) (Nat.le_refl _) dX9_one_73 (hrc.1 σ7 _ (wp_bnd w)) (fun r21 σ22 w => ?_)
      refine R_goto (tgt := 83) dX9_one_76 (by decide) ?_
      refine R_sub [0, 1] rfl ?_
      exact rk_X9_one_83 hA rc hrc _ v1 r21 σ22 w
  · have w := wp_t c5 w
    refine R_aload_n dX9_one_41 rfl 0 rfl ?_
    refine R_callVI (As := []) acl9 rfl oz9_0 mi_X9_wrong ml_RX9_212 rfl (Nat.le_of_ble_eq_true rfl) (am_hle 1) dX9_one_42 (ct_X9_wrong hA σ _ (wp_bnd w)) (fun r23 σ24 w => ?_)
    exact R_ireturn dX9_one_45 rfl ⟨_, rfl, wp_some w⟩
def g_X9_one_229 (rc : GT2)   (v3 : Int32) (v4 : Int32) (σ : AS) : Option (Int32 × AS) := (if v4 = 0 then (bnd (g_X9_wrong σ) fun r32 σ33 => some (r32, σ33)) else some (v3, σ))
set_option maxRecDepth 100000 in
set_option maxHeartbeats 4000000 in
theorem rk_X9_one_229 {l : Launch} {cx : CX} (hA : AD cx) {f : Nat} (rc : GT2) (hrc : GC2 l cx f rc)   (Q : Int32 → AS → Prop) (v3 : Int32) (v4 : Int32) (σ : AS) (w : wpO (g_X9_one_229 rc v3 v4 σ) Q) : RJ l cx (f + 1 + 2) RX9 cX9_one 5 (some .int) 229 [(0, .inr (.inr (9, 0, 0))), (3, .inl v3), (4, .inl v4)] [] σ (QI Q) := by
  unfold g_X9_one_229 at w
  refine R_iload dX9_one_229 2 rfl ?_
  refine R_if_ne (tgt := 241) dX9_one_231 (by decide) (fun c31 => ?_) (fun c31 => ?_)
  · have w := wp_f c31 w
    refine R_iload_n dX9_one_241 rfl 1 rfl ?_
    exact R_ireturn dX9_one_242 rfl ⟨_, rfl, wp_some w⟩
  · have w := wp_t c31 w
    refine R_aload_n dX9_one_234 rfl 0 rfl ?_
    refine R_callVI (As := []) acl9 rfl oz9_0 mi_X9_wrong ml_RX9_212 rfl (Nat.le_of_ble_eq_true rfl) (am_hle 1) dX9_one_235 (ct_X9_wrong hA σ _ (wp_bnd w)) (fun r32 σ33 w => ?_)
    refine R_goto (tgt := 242) dX9_one_238 (by decide) ?_
    exact R_ireturn dX9_one_242 rfl ⟨_, rfl, wp_some w⟩
def g_X9_one_176 (rc : GT2)   : Nat → Int32 → Int32 → AS → Option (Int32 × AS)
  | 0, _, _, _ => none
  | f0 + 1, v3, v4, σ => (if v4 < 4 then (bnd (g_X9_byteAt σ) fun r34 σ35 => (if r34 < 48 then g_X9_one_229 rc v3 v4 σ35 else (bnd (g_X9_byteAt σ35) fun r37 σ38 => (if (57 : Int32) < r37 then g_X9_one_229 rc v3 v4 σ38 else (bnd (g_X9_byteAt σ38) fun r40 σ41 => (lt (((10 * v3) + r40) - 48) fun x42 => (lt (sF σ41 9 0 20 ((gF σ41 9 0 20) + 1)) fun σ43 => (g_X9_one_176 rc f0) x42 (v4 + 1) σ43))))))) else g_X9_one_229 rc v3 v4 σ)
set_option maxRecDepth 100000 in
set_option maxHeartbeats 4000000 in
theorem rk_X9_one_176 {l : Launch} {cx : CX} (hA : AD cx) {f : Nat} (rc : GT2) (hrc : GC2 l cx f rc)   (Q : Int32 → AS → Prop) : ∀ (f0 : Nat) (v3 : Int32) (v4 : Int32) (σ : AS), wpO (g_X9_one_176 rc f0 v3 v4 σ) Q → RJ l cx (f + 1 + 2) RX9 cX9_one 5 (some .int) 176 [(0, .inr (.inr (9, 0, 0))), (3, .inl v3), (4, .inl v4)] [] σ (QI Q) := by
  intro f0
  induction f0 with
  | zero => intro v3 v4 σ w; exact wp_no w
  | succ f0 ih =>
    intro v3 v4 σ w
    rw [g_X9_one_176] at w
    refine R_iload dX9_one_176 2 rfl ?_
    refine R_iconst (v := 4) dX9_one_178 (by decide) ?_
    refine R_icmp_ge (tgt := 229) dX9_one_179 (by decide) (fun c30 => ?_) (fun c30 => ?_)
    · have w := wp_f c30 w
      refine R_sub [0, 1, 2] rfl ?_
      exact rk_X9_one_229 hA rc hrc _ v3 v4 σ w
    · have w := wp_t c30 w
      refine R_aload_n dX9_one_182 rfl 0 rfl ?_
      refine R_callVI (As := []) acl9 rfl oz9_0 mi_X9_byteAt ml_RX9_188 rfl (Nat.le_of_ble_eq_true rfl) (am_hle 1) dX9_one_183 (ct_X9_byteAt hA σ _ (wp_bnd w)) (fun r34 σ35 w => ?_)
      refine R_bipush (v := 48) dX9_one_186 (by decide) ?_
      refine R_icmp_lt (tgt := 229) dX9_one_188 (by decide) (fun c36 => ?_) (fun c36 => ?_)
      · have w := wp_t c36 w
        refine R_sub [0, 1, 2] rfl ?_
        exact rk_X9_one_229 hA rc hrc _ v3 v4 σ35 w
      · have w := wp_f c36 w
        refine R_aload_n dX9_one_191 rfl 0 rfl ?_
        refine R_callVI (As := []) acl9 rfl oz9_0 mi_X9_byteAt ml_RX9_188 rfl (Nat.le_of_ble_eq_true rfl) (am_hle 1) dX9_one_192 (ct_X9_byteAt hA σ35 _ (wp_bnd w)) (fun r37 σ38 w => ?_)
        refine R_bipush (v := 57) dX9_one_195 (by decide) ?_
        refine R_icmp_gt (tgt := 229) dX9_one_197 (by decide) (fun c39 => ?_) (fun c39 => ?_)
        · have w := wp_t c39 w
          refine R_sub [0, 1, 2] rfl ?_
          exact rk_X9_one_229 hA rc hrc _ v3 v4 σ38 w
        · have w := wp_f c39 w
          refine R_bipush (v := 10) dX9_one_200 (by decide) ?_
          refine R_iload_n dX9_one_202 rfl 1 rfl ?_
          refine R_imul dX9_one_203 ?_
          refine R_aload_n dX9_one_204 rfl 0 rfl ?_
          refine R_callVI (As := []) acl9 rfl oz9_0 mi_X9_byteAt ml_RX9_188 rfl (Nat.le_of_ble_eq_true rfl) (am_hle 1) dX9_one_205 (ct_X9_byteAt hA σ38 _ (wp_bnd w)) (fun r40 σ41 w => ?_)
          refine R_iadd dX9_one_208 ?_
          refine R_bipush (v := 48) dX9_one_209 (by decide) ?_
          refine R_isub dX9_one_211 ?_
          refine R_nameI w ?_; clear w; intro x42 w
          refine R_istore_n (lv' := [(3, .inl x42), (0, .inr (.inr (9, 0, 0))), (4, .inl v4)]) dX9_one_212 rfl (by decide) rfl ?_
          refine R_iinc (v := v4 + 1) (lv' := [(4, .inl (v4 + 1)), (3, .inl x42), (0, .inr (.inr (9, 0, 0)))]) dX9_one_213 2 rfl rfl (by decide) rfl ?_
          refine R_aload_n dX9_one_216 rfl 2 rfl ?_
          refine R_dup dX9_one_217 rfl ?_
          refine R_getfI (k := 20) acl9 oz9_0 (by decide) fl_RX9_176 dX9_one_218 rfl ?_
          refine R_iconst (v := 1) dX9_one_221 (by decide) ?_
          refine R_iadd dX9_one_222 ?_
          refine R_putf (k := 20) (ty := .int) acl9 oz9_0 (by decide) fl_RX9_176 rfl (tyX9_ok 20 (by decide)) (Or.inl rfl) dX9_one_223 rfl ?_
          refine R_nameS w ?_; clear w; intro σ43 w
          refine R_goto (tgt := 176) dX9_one_226 (by decide) ?_
          refine R_sub [2, 1, 0] rfl ?_
          exact ih x42 (v4 + 1) σ43 w
def gb_X9_one (rc : GT2) (σ : AS) : Option (Int32 × AS) := (if gF σ 9 0 22 < 0 then (bnd (g_X9_byteAt σ) fun r2 σ3 => (if r2 = 33 then g_X9_one_32 rc r2 σ3 else (if r2 = 45 then g_X9_one_32 rc r2 σ3 else (if r2 = 40 then g_X9_one_32 rc r2 σ3 else (bnd (g_X9_nameOf r2 σ3) fun r27 σ28 => (if r27 < 0 then g_X9_one_176 rc 400 0 0 σ28 else (lt (sF σ28 9 0 20 ((gF σ28 9 0 20) + 1)) fun σ44 => (if inb r27 9 then some (gA σ44 9 0 24 r27, σ44) else none)))))))) else some (0, σ))
set_option maxRecDepth 100000 in
set_option maxHeartbeats 4000000 in
theorem cb_X9_one {l : Launch} {cx : CX} (hA : AD cx) {f : Nat} (rc : GT2) (hrc : GC2 l cx f rc) (σ : AS) (Q : Int32 → AS → Prop) (w : wpO (gb_X9_one rc σ) Q) : AMet l cx (f + 1 + 2) yX9_one cX9_one 5 (some .int) [.inr (.inr (9, 0, 0))] σ (QI Q) := by
  unfold gb_X9_one at w
  refine AMet.of (own := RX9) (by decide) rfl hA (Nat.le_of_ble_eq_true rfl) ?_
  show RJ l cx (f + 1 + 2) RX9 cX9_one 5 (some .int) 0 [(0, .inr (.inr (9, 0, 0)))] [] σ _
  refine R_aload_n dX9_one_0 rfl 0 rfl ?_
  refine R_getfI (k := 22) acl9 oz9_0 (by decide) fl_RX9_185 dX9_one_1 rfl ?_
  refine R_if_lt (tgt := 9) dX9_one_4 (by decide) (fun c1 => ?_) (fun c1 => ?_)
  · have w := wp_t c1 w
    refine R_aload_n dX9_one_9 rfl 0 rfl ?_
    refine R_callVI (As := []) acl9 rfl oz9_0 mi_X9_byteAt ml_RX9_188 rfl (Nat.le_of_ble_eq_true rfl) (am_hle 1) dX9_one_10 (ct_X9_byteAt hA σ _ (wp_bnd w)) (fun r2 σ3 w => ?_)
    refine R_istore_n (lv' := [(1, .inl r2), (0, .inr (.inr (9, 0, 0)))]) dX9_one_13 rfl (by decide) rfl ?_
    refine R_iload_n dX9_one_14 rfl 0 rfl ?_
    refine R_bipush (v := 33) dX9_one_15 (by decide) ?_
    refine R_icmp_eq (tgt := 32) dX9_one_17 (by decide) (fun c4 => ?_) (fun c4 => ?_)
    · have w := wp_t c4 w
      refine R_sub [1, 0] rfl ?_
      exact rk_X9_one_32 hA rc hrc _ r2 σ3 w
    · have w := wp_f c4 w
      refine R_iload_n dX9_one_20 rfl 0 rfl ?_
      refine R_bipush (v := 45) dX9_one_21 (by decide) ?_
      refine R_icmp_eq (tgt := 32) dX9_one_23 (by decide) (fun c25 => ?_) (fun c25 => ?_)
      · have w := wp_t c25 w
        refine R_sub [1, 0] rfl ?_
        exact rk_X9_one_32 hA rc hrc _ r2 σ3 w
      · have w := wp_f c25 w
        refine R_iload_n dX9_one_26 rfl 0 rfl ?_
        refine R_bipush (v := 40) dX9_one_27 (by decide) ?_
        refine R_icmp_ne (tgt := 145) dX9_one_29 (by decide) (fun c26 => ?_) (fun c26 => ?_)
        · have w := wp_f c26 w
          refine R_iload_n dX9_one_145 rfl 0 rfl ?_
          refine R_callSI (As := [.inl r2]) mi_X9_nameOf ml_RX9_218 rfl (Nat.le_of_ble_eq_true rfl) (am_hle 1) dX9_one_146 (ct_X9_nameOf hA r2 σ3 _ (wp_bnd w)) (fun r27 σ28 w => ?_)
          refine R_istore_n (lv' := [(2, .inl r27), (1, .inl r2), (0, .inr (.inr (9, 0, 0)))]) dX9_one_149 rfl (by decide) rfl ?_
          refine R_iload_n dX9_one_150 rfl 0 rfl ?_
          refine R_if_lt (tgt := 171) dX9_one_151 (by decide) (fun c29 => ?_) (fun c29 => ?_)
          · have w := wp_t c29 w
            refine R_iconst (v := 0) dX9_one_171 (by decide) ?_
            refine R_istore_n (lv' := [(3, .inl 0), (2, .inl r27), (1, .inl r2), (0, .inr (.inr (9, 0, 0)))]) dX9_one_172 rfl (by decide) rfl ?_
            refine R_iconst (v := 0) dX9_one_173 (by decide) ?_
            refine R_istore (lv' := [(4, .inl 0), (3, .inl 0), (2, .inl r27), (1, .inl r2), (0, .inr (.inr (9, 0, 0)))]) dX9_one_174 (by decide) rfl ?_
            refine R_sub [4, 1, 0] rfl ?_
            exact rk_X9_one_176 hA rc hrc _ 400 0 0 σ28 w
          · have w := wp_f c29 w
            refine R_aload_n dX9_one_154 rfl 2 rfl ?_
            refine R_dup dX9_one_155 rfl ?_
            refine R_getfI (k := 20) acl9 oz9_0 (by decide) fl_RX9_176 dX9_one_156 rfl ?_
            refine R_iconst (v := 1) dX9_one_159 (by decide) ?_
            refine R_iadd dX9_one_160 ?_
            refine R_putf (k := 20) (ty := .int) acl9 oz9_0 (by decide) fl_RX9_176 rfl (tyX9_ok 20 (by decide)) (Or.inl rfl) dX9_one_161 rfl ?_
            refine R_nameS w ?_; clear w; intro σ44 w
            refine R_aload_n dX9_one_164 rfl 2 rfl ?_
            refine R_getfA (k := 24) acl9 oz9_0 (by decide) fl_RX9_46 dX9_one_165 rfl ?_
            refine R_iload_n dX9_one_168 rfl 0 rfl ?_
            obtain ⟨b45, w⟩ := wp_chk w
            refine R_iald rfl oz9_0 b45 dX9_one_169 ?_
            exact R_ireturn dX9_one_170 rfl ⟨_, rfl, wp_some w⟩
        · have w := wp_t c26 w
          refine R_sub [1, 0] rfl ?_
          exact rk_X9_one_32 hA rc hrc _ r2 σ3 w
  · have w := wp_f c1 w
    refine R_iconst (v := 0) dX9_one_7 (by decide) ?_
    exact R_ireturn dX9_one_8 rfl ⟨_, rfl, wp_some w⟩
def gr2 : Nat → GT2
  | 0 => ((fun _ => none), (fun _ => none), (fun _ => none), (fun _ => none), (fun _ => none), (fun _ => none))
  | f + 1 => (gb_X9_either (gr2 f), gb_X9_bothOf (gr2 f), gb_X9_compared (gr2 f), gb_X9_sums (gr2 f), gb_X9_product (gr2 f), gb_X9_one (gr2 f))
set_option maxRecDepth 100000 in
set_option maxHeartbeats 4000000 in
theorem gc2 {l : Launch} {cx : CX} (hA : AD cx) : ∀ f, GC2 l cx f (gr2 f)
  | 0 => ⟨(fun  σ Q w => wp_no w), (fun  σ Q w => wp_no w), (fun  σ Q w => wp_no w), (fun  σ Q w => wp_no w), (fun  σ Q w => wp_no w), (fun  σ Q w => wp_no w)⟩
  | f + 1 => by
    have ih := gc2 (l := l) hA f
    have e : ∀ b : Nat, f + 1 + b = f + 1 + b := fun _ => rfl
    exact ⟨(fun  σ Q w => cb_X9_either hA (gr2 f) ih  σ Q w), (fun  σ Q w => cb_X9_bothOf hA (gr2 f) ih  σ Q w), (fun  σ Q w => cb_X9_compared hA (gr2 f) ih  σ Q w), (fun  σ Q w => cb_X9_sums hA (gr2 f) ih  σ Q w), (fun  σ Q w => cb_X9_product hA (gr2 f) ih  σ Q w), (fun  σ Q w => cb_X9_one hA (gr2 f) ih  σ Q w)⟩
def g_X9_either  (σ : AS) : Option (Int32 × AS) := (gr2 100).1  σ
set_option maxRecDepth 100000 in
set_option maxHeartbeats 4000000 in
theorem ct_X9_either {l : Launch} {cx : CX} (hA : AD cx)  (σ : AS) (Q : Int32 → AS → Prop) (w : wpO (g_X9_either  σ) Q) : AMet l cx 102 yX9_either cX9_either 3 (some .int) [.inr (.inr (9, 0, 0))] σ (QI Q) := (gc2 hA 100).1  σ Q w
def g_X9_bothOf  (σ : AS) : Option (Int32 × AS) := (gr2 100).2.1  σ
set_option maxRecDepth 100000 in
set_option maxHeartbeats 4000000 in
theorem ct_X9_bothOf {l : Launch} {cx : CX} (hA : AD cx)  (σ : AS) (Q : Int32 → AS → Prop) (w : wpO (g_X9_bothOf  σ) Q) : AMet l cx 102 yX9_bothOf cX9_bothOf 3 (some .int) [.inr (.inr (9, 0, 0))] σ (QI Q) := (gc2 hA 100).2.1  σ Q w
def g_X9_compared  (σ : AS) : Option (Int32 × AS) := (gr2 100).2.2.1  σ
set_option maxRecDepth 100000 in
set_option maxHeartbeats 4000000 in
theorem ct_X9_compared {l : Launch} {cx : CX} (hA : AD cx)  (σ : AS) (Q : Int32 → AS → Prop) (w : wpO (g_X9_compared  σ) Q) : AMet l cx 102 yX9_compared cX9_compared 4 (some .int) [.inr (.inr (9, 0, 0))] σ (QI Q) := (gc2 hA 100).2.2.1  σ Q w
def g_X9_sums  (σ : AS) : Option (Int32 × AS) := (gr2 100).2.2.2.1  σ
set_option maxRecDepth 100000 in
set_option maxHeartbeats 4000000 in
theorem ct_X9_sums {l : Launch} {cx : CX} (hA : AD cx)  (σ : AS) (Q : Int32 → AS → Prop) (w : wpO (g_X9_sums  σ) Q) : AMet l cx 102 yX9_sums cX9_sums 4 (some .int) [.inr (.inr (9, 0, 0))] σ (QI Q) := (gc2 hA 100).2.2.2.1  σ Q w
def g_X9_product  (σ : AS) : Option (Int32 × AS) := (gr2 100).2.2.2.2.1  σ
set_option maxRecDepth 100000 in
set_option maxHeartbeats 4000000 in
theorem ct_X9_product {l : Launch} {cx : CX} (hA : AD cx)  (σ : AS) (Q : Int32 → AS → Prop) (w : wpO (g_X9_product  σ) Q) : AMet l cx 102 yX9_product cX9_product 4 (some .int) [.inr (.inr (9, 0, 0))] σ (QI Q) := (gc2 hA 100).2.2.2.2.1  σ Q w
def g_X9_one  (σ : AS) : Option (Int32 × AS) := (gr2 100).2.2.2.2.2  σ
set_option maxRecDepth 100000 in
set_option maxHeartbeats 4000000 in
theorem ct_X9_one {l : Launch} {cx : CX} (hA : AD cx)  (σ : AS) (Q : Int32 → AS → Prop) (w : wpO (g_X9_one  σ) Q) : AMet l cx 102 yX9_one cX9_one 5 (some .int) [.inr (.inr (9, 0, 0))] σ (QI Q) := (gc2 hA 100).2.2.2.2.2  σ Q w
