def g_X9_workOut_96    (k33 : Int32 → Int32 → Int32 → AS → Option (Int32 × AS)) (v3 : Int32) (v4 : Int32) (σ : AS) : Option (Int32 × AS) := (bnd (g_X9_takes 59 σ) fun r17 σ18 => k33 v3 v4 r17 σ18)
set_option maxRecDepth 100000 in
set_option maxHeartbeats 4000000 in
theorem rk_X9_workOut_96 {l : Launch} {cx : CX} (hA : AD cx)    (Q : Int32 → AS → Prop) (k33 : Int32 → Int32 → Int32 → AS → Option (Int32 × AS)) (hk33 : ∀ (v3 : Int32) (v4 : Int32) (v5 : Int32) (σ : AS), wpO (k33 v3 v4 v5 σ) Q → RJ l cx 103 RX9 cX9_workOut 8 (some .int) 33 [(0, .inr (.inr (9, 0, 0))), (3, .inl v3), (4, .inl v4), (5, .inl v5)] [] σ (QI Q)) (v3 : Int32) (v4 : Int32) (σ : AS) (w : wpO (g_X9_workOut_96 k33 v3 v4 σ) Q) : RJ l cx 103 RX9 cX9_workOut 8 (some .int) 96 [(0, .inr (.inr (9, 0, 0))), (3, .inl v3), (4, .inl v4)] [] σ (QI Q) := by
  unfold g_X9_workOut_96 at w
  refine R_aload_n dX9_workOut_96 rfl 0 rfl ?_
  refine R_bipush (v := 59) dX9_workOut_97 (by decide) ?_
  refine R_callVI (As := [.inl 59]) acl9 rfl oz9_0 mi_X9_takes ml_RX9_194 rfl (Nat.le_of_ble_eq_true rfl) (by decide) dX9_workOut_99 (ct_X9_takes hA 59 σ _ (wp_bnd w)) (fun r17 σ18 w => ?_)
  refine R_istore (lv' := [(5, .inl r17), (0, .inr (.inr (9, 0, 0))), (3, .inl v3), (4, .inl v4)]) dX9_workOut_102 (by decide) rfl ?_
  refine R_goto (tgt := 33) dX9_workOut_104 (by decide) ?_
  refine R_sub [1, 2, 3, 0] rfl ?_
  exact hk33 v3 v4 r17 σ18 w
def g_X9_workOut_74    (k33 : Int32 → Int32 → Int32 → AS → Option (Int32 × AS)) (v3 : Int32) (v4 : Int32) (v6 : Int32) (v7 : Int32) (σ : AS) : Option (Int32 × AS) := (if gF σ 9 0 22 < 0 then (if v7 = 0 then g_X9_workOut_96 k33 v3 v4 σ else (if v3 = 0 then g_X9_workOut_96 k33 1 v6 σ else g_X9_workOut_96 k33 v3 v4 σ)) else g_X9_workOut_96 k33 v3 v4 σ)
set_option maxRecDepth 100000 in
set_option maxHeartbeats 4000000 in
theorem rk_X9_workOut_74 {l : Launch} {cx : CX} (hA : AD cx)    (Q : Int32 → AS → Prop) (k33 : Int32 → Int32 → Int32 → AS → Option (Int32 × AS)) (hk33 : ∀ (v3 : Int32) (v4 : Int32) (v5 : Int32) (σ : AS), wpO (k33 v3 v4 v5 σ) Q → RJ l cx 103 RX9 cX9_workOut 8 (some .int) 33 [(0, .inr (.inr (9, 0, 0))), (3, .inl v3), (4, .inl v4), (5, .inl v5)] [] σ (QI Q)) (v3 : Int32) (v4 : Int32) (v6 : Int32) (v7 : Int32) (σ : AS) (w : wpO (g_X9_workOut_74 k33 v3 v4 v6 v7 σ) Q) : RJ l cx 103 RX9 cX9_workOut 8 (some .int) 74 [(0, .inr (.inr (9, 0, 0))), (3, .inl v3), (4, .inl v4), (6, .inl v6), (7, .inl v7)] [] σ (QI Q) := by
  unfold g_X9_workOut_74 at w
  refine R_aload_n dX9_workOut_74 rfl 0 rfl ?_
  refine R_getfI (k := 22) acl9 oz9_0 (by decide) fl_RX9_185 dX9_workOut_75 rfl ?_
  refine R_if_ge (tgt := 96) dX9_workOut_78 (by decide) (fun c16 => ?_) (fun c16 => ?_)
  · have w := wp_f c16 w
    refine R_sub [0, 1, 2] rfl ?_
    exact rk_X9_workOut_96 hA _ k33 hk33 v3 v4 σ w
  · have w := wp_t c16 w
    refine R_iload dX9_workOut_81 4 rfl ?_
    refine R_if_eq (tgt := 96) dX9_workOut_83 (by decide) (fun c19 => ?_) (fun c19 => ?_)
    · have w := wp_t c19 w
      refine R_sub [0, 1, 2] rfl ?_
      exact rk_X9_workOut_96 hA _ k33 hk33 v3 v4 σ w
    · have w := wp_f c19 w
      refine R_iload_n dX9_workOut_86 rfl 1 rfl ?_
      refine R_if_ne (tgt := 96) dX9_workOut_87 (by decide) (fun c20 => ?_) (fun c20 => ?_)
      · have w := wp_f c20 w
        refine R_sub [0, 1, 2] rfl ?_
        exact rk_X9_workOut_96 hA _ k33 hk33 v3 v4 σ w
      · have w := wp_t c20 w
        refine R_iconst (v := 1) dX9_workOut_90 (by decide) ?_
        refine R_istore_n (lv' := [(3, .inl 1), (0, .inr (.inr (9, 0, 0))), (4, .inl v4), (6, .inl v6), (7, .inl v7)]) dX9_workOut_91 rfl (by decide) rfl ?_
        refine R_iload dX9_workOut_92 3 rfl ?_
        refine R_istore (lv' := [(4, .inl v6), (3, .inl 1), (0, .inr (.inr (9, 0, 0))), (6, .inl v6), (7, .inl v7)]) dX9_workOut_94 (by decide) rfl ?_
        refine R_sub [2, 1, 0] rfl ?_
        exact rk_X9_workOut_96 hA _ k33 hk33 1 v6 σ w
def g_X9_workOut_66    (k33 : Int32 → Int32 → Int32 → AS → Option (Int32 × AS)) (v3 : Int32) (v4 : Int32) (s0 : Int32) (σ : AS) : Option (Int32 × AS) := (bnd (g_X9_either σ) fun r22 σ23 => g_X9_workOut_74 k33 v3 v4 r22 s0 σ23)
set_option maxRecDepth 100000 in
set_option maxHeartbeats 4000000 in
theorem rk_X9_workOut_66 {l : Launch} {cx : CX} (hA : AD cx)    (Q : Int32 → AS → Prop) (k33 : Int32 → Int32 → Int32 → AS → Option (Int32 × AS)) (hk33 : ∀ (v3 : Int32) (v4 : Int32) (v5 : Int32) (σ : AS), wpO (k33 v3 v4 v5 σ) Q → RJ l cx 103 RX9 cX9_workOut 8 (some .int) 33 [(0, .inr (.inr (9, 0, 0))), (3, .inl v3), (4, .inl v4), (5, .inl v5)] [] σ (QI Q)) (v3 : Int32) (v4 : Int32) (s0 : Int32) (σ : AS) (w : wpO (g_X9_workOut_66 k33 v3 v4 s0 σ) Q) : RJ l cx 103 RX9 cX9_workOut 8 (some .int) 66 [(0, .inr (.inr (9, 0, 0))), (3, .inl v3), (4, .inl v4)] [.inl s0] σ (QI Q) := by
  unfold g_X9_workOut_66 at w
  refine R_istore (lv' := [(7, .inl s0), (0, .inr (.inr (9, 0, 0))), (3, .inl v3), (4, .inl v4)]) dX9_workOut_66 (by decide) rfl ?_
  refine R_aload_n dX9_workOut_68 rfl 1 rfl ?_
  refine R_callVI (As := []) acl9 rfl oz9_0 mi_X9_either ml_RX9_215 rfl (Nat.le_of_ble_eq_true rfl) (by decide) dX9_workOut_69 (ct_X9_either hA σ _ (wp_bnd w)) (fun r22 σ23 w => ?_)
  refine R_istore (lv' := [(6, .inl r22), (7, .inl s0), (0, .inr (.inr (9, 0, 0))), (3, .inl v3), (4, .inl v4)]) dX9_workOut_72 (by decide) rfl ?_
  refine R_sub [2, 3, 4, 0, 1] rfl ?_
  exact rk_X9_workOut_74 hA _ k33 hk33 v3 v4 r22 s0 σ23 w
def g_X9_workOut_33    : Nat → Int32 → Int32 → Int32 → AS → Option (Int32 × AS)
  | 0, _, _, _, _ => none
  | f0 + 1, v3, v4, v5, σ => (if v5 = 0 then (if gF σ 9 0 22 < 0 then (if gF σ 9 0 20 < gF σ 9 0 21 then (bnd (g_X9_wrong σ) fun r9 σ10 => some (r9, σ10)) else some (v4, σ)) else some (v4, σ)) else (bnd (g_X9_either σ) fun r11 σ12 => (bnd (g_X9_takes 63 σ12) fun r13 σ14 => (if r13 = 0 then g_X9_workOut_74 (g_X9_workOut_33 f0) v3 v4 r11 1 σ14 else (if r11 = 0 then g_X9_workOut_66 (g_X9_workOut_33 f0) v3 v4 0 σ14 else g_X9_workOut_66 (g_X9_workOut_33 f0) v3 v4 1 σ14)))))
set_option maxRecDepth 100000 in
set_option maxHeartbeats 4000000 in
theorem rk_X9_workOut_33 {l : Launch} {cx : CX} (hA : AD cx)    (Q : Int32 → AS → Prop) : ∀ (f0 : Nat) (v3 : Int32) (v4 : Int32) (v5 : Int32) (σ : AS), wpO (g_X9_workOut_33 f0 v3 v4 v5 σ) Q → RJ l cx 103 RX9 cX9_workOut 8 (some .int) 33 [(0, .inr (.inr (9, 0, 0))), (3, .inl v3), (4, .inl v4), (5, .inl v5)] [] σ (QI Q) := by
  intro f0
  induction f0 with
  | zero => intro v3 v4 v5 σ w; exact wp_no w
  | succ f0 ih =>
    intro v3 v4 v5 σ w
    rw [g_X9_workOut_33] at w
    refine R_iload dX9_workOut_33 3 rfl ?_
    refine R_if_eq (tgt := 107) dX9_workOut_35 (by decide) (fun c6 => ?_) (fun c6 => ?_)
    · have w := wp_t c6 w
      refine R_aload_n dX9_workOut_107 rfl 0 rfl ?_
      refine R_getfI (k := 22) acl9 oz9_0 (by decide) fl_RX9_185 dX9_workOut_108 rfl ?_
      refine R_if_ge (tgt := 130) dX9_workOut_111 (by decide) (fun c7 => ?_) (fun c7 => ?_)
      · have w := wp_f c7 w
        refine R_iload dX9_workOut_130 2 rfl ?_
        exact R_ireturn dX9_workOut_132 rfl ⟨_, rfl, wp_some w⟩
      · have w := wp_t c7 w
        refine R_aload_n dX9_workOut_114 rfl 0 rfl ?_
        refine R_getfI (k := 20) acl9 oz9_0 (by decide) fl_RX9_176 dX9_workOut_115 rfl ?_
        refine R_aload_n dX9_workOut_118 rfl 0 rfl ?_
        refine R_getfI (k := 21) acl9 oz9_0 (by decide) fl_RX9_179 dX9_workOut_119 rfl ?_
        refine R_icmp_ge (tgt := 130) dX9_workOut_122 (by decide) (fun c8 => ?_) (fun c8 => ?_)
        · have w := wp_f c8 w
          refine R_iload dX9_workOut_130 2 rfl ?_
          exact R_ireturn dX9_workOut_132 rfl ⟨_, rfl, wp_some w⟩
        · have w := wp_t c8 w
          refine R_aload_n dX9_workOut_125 rfl 0 rfl ?_
          refine R_callVI (As := []) acl9 rfl oz9_0 mi_X9_wrong ml_RX9_212 rfl (Nat.le_of_ble_eq_true rfl) (by decide) dX9_workOut_126 (ct_X9_wrong hA σ _ (wp_bnd w)) (fun r9 σ10 w => ?_)
          exact R_ireturn dX9_workOut_129 rfl ⟨_, rfl, wp_some w⟩
    · have w := wp_f c6 w
      refine R_aload_n dX9_workOut_38 rfl 0 rfl ?_
      refine R_callVI (As := []) acl9 rfl oz9_0 mi_X9_either ml_RX9_215 rfl (Nat.le_of_ble_eq_true rfl) (by decide) dX9_workOut_39 (ct_X9_either hA σ _ (wp_bnd w)) (fun r11 σ12 w => ?_)
      refine R_istore (lv' := [(6, .inl r11), (0, .inr (.inr (9, 0, 0))), (3, .inl v3), (4, .inl v4), (5, .inl v5)]) dX9_workOut_42 (by decide) rfl ?_
      refine R_iconst (v := 1) dX9_workOut_44 (by decide) ?_
      refine R_istore (lv' := [(7, .inl 1), (6, .inl r11), (0, .inr (.inr (9, 0, 0))), (3, .inl v3), (4, .inl v4), (5, .inl v5)]) dX9_workOut_45 (by decide) rfl ?_
      refine R_aload_n dX9_workOut_47 rfl 2 rfl ?_
      refine R_bipush (v := 63) dX9_workOut_48 (by decide) ?_
      refine R_callVI (As := [.inl 63]) acl9 rfl oz9_0 mi_X9_takes ml_RX9_194 rfl (Nat.le_of_ble_eq_true rfl) (by decide) dX9_workOut_50 (ct_X9_takes hA 63 σ12 _ (wp_bnd w)) (fun r13 σ14 w => ?_)
      refine R_if_eq (tgt := 74) dX9_workOut_53 (by decide) (fun c15 => ?_) (fun c15 => ?_)
      · have w := wp_t c15 w
        refine R_sub [2, 3, 4, 1, 0] rfl ?_
        exact rk_X9_workOut_74 hA _ (g_X9_workOut_33 f0) ih v3 v4 r11 1 σ14 w
      · have w := wp_f c15 w
        refine R_iload dX9_workOut_56 1 rfl ?_
        refine R_if_eq (tgt := 65) dX9_workOut_58 (by decide) (fun c21 => ?_) (fun c21 => ?_)
        · have w := wp_t c21 w
          refine R_iconst (v := 0) dX9_workOut_65 (by decide) ?_
          refine R_sub [2, 3, 4] rfl ?_
          exact rk_X9_workOut_66 hA _ (g_X9_workOut_33 f0) ih v3 v4 0 σ14 w
        · have w := wp_f c21 w
          refine R_iconst (v := 1) dX9_workOut_61 (by decide) ?_
          refine R_goto (tgt := 66) dX9_workOut_62 (by decide) ?_
          refine R_sub [2, 3, 4] rfl ?_
          exact rk_X9_workOut_66 hA _ (g_X9_workOut_33 f0) ih v3 v4 1 σ14 w
def g_X9_workOut (a0 : Int32) (a1 : Int32) (σ : AS) : Option (Int32 × AS) := (lt (sF σ 9 0 19 a0) fun σ1 => (lt (sF σ1 9 0 20 0) fun σ2 => (lt (sF σ2 9 0 21 a1) fun σ3 => (lt (sF σ3 9 0 22 (-1)) fun σ4 => (lt (sF σ4 9 0 23 0) fun σ5 => g_X9_workOut_33 400 0 0 1 σ5)))))
set_option maxRecDepth 100000 in
set_option maxHeartbeats 4000000 in
theorem ct_X9_workOut {l : Launch} {cx : CX} (hA : AD cx) (a0 : Int32) (a1 : Int32) (σ : AS) (Q : Int32 → AS → Prop) (w : wpO (g_X9_workOut a0 a1 σ) Q) : AMet l cx 103 yX9_workOut cX9_workOut 8 (some .int) [.inr (.inr (9, 0, 0)), .inl a0, .inl a1] σ (QI Q) := by
  unfold g_X9_workOut at w
  refine AMet.of (own := RX9) (by decide) rfl hA (Nat.le_of_ble_eq_true rfl) ?_
  show RJ l cx 103 RX9 cX9_workOut 8 (some .int) 0 [(0, .inr (.inr (9, 0, 0))), (1, .inl a0), (2, .inl a1)] [] σ _
  refine R_aload_n dX9_workOut_0 rfl 0 rfl ?_
  refine R_iload_n dX9_workOut_1 rfl 1 rfl ?_
  refine R_putf (k := 19) (ty := .int) acl9 oz9_0 (by decide) fl_RX9_182 rfl (tyX9_ok 19 (by decide)) (Or.inl rfl) dX9_workOut_2 rfl ?_
  refine R_nameS w ?_; clear w; intro σ1 w
  refine R_aload_n dX9_workOut_5 rfl 0 rfl ?_
  refine R_iconst (v := 0) dX9_workOut_6 (by decide) ?_
  refine R_putf (k := 20) (ty := .int) acl9 oz9_0 (by decide) fl_RX9_176 rfl (tyX9_ok 20 (by decide)) (Or.inl rfl) dX9_workOut_7 rfl ?_
  refine R_nameS w ?_; clear w; intro σ2 w
  refine R_aload_n dX9_workOut_10 rfl 0 rfl ?_
  refine R_iload_n dX9_workOut_11 rfl 2 rfl ?_
  refine R_putf (k := 21) (ty := .int) acl9 oz9_0 (by decide) fl_RX9_179 rfl (tyX9_ok 21 (by decide)) (Or.inl rfl) dX9_workOut_12 rfl ?_
  refine R_nameS w ?_; clear w; intro σ3 w
  refine R_aload_n dX9_workOut_15 rfl 0 rfl ?_
  refine R_iconst (v := (-1)) dX9_workOut_16 (by decide) ?_
  refine R_putf (k := 22) (ty := .int) acl9 oz9_0 (by decide) fl_RX9_185 rfl (tyX9_ok 22 (by decide)) (Or.inl rfl) dX9_workOut_17 rfl ?_
  refine R_nameS w ?_; clear w; intro σ4 w
  refine R_aload_n dX9_workOut_20 rfl 0 rfl ?_
  refine R_iconst (v := 0) dX9_workOut_21 (by decide) ?_
  refine R_putf (k := 23) (ty := .int) acl9 oz9_0 (by decide) fl_RX9_209 rfl (tyX9_ok 23 (by decide)) (Or.inl rfl) dX9_workOut_22 rfl ?_
  refine R_nameS w ?_; clear w; intro σ5 w
  refine R_iconst (v := 0) dX9_workOut_25 (by decide) ?_
  refine R_istore_n (lv' := [(3, .inl 0), (0, .inr (.inr (9, 0, 0))), (1, .inl a0), (2, .inl a1)]) dX9_workOut_26 rfl (by decide) rfl ?_
  refine R_iconst (v := 0) dX9_workOut_27 (by decide) ?_
  refine R_istore (lv' := [(4, .inl 0), (3, .inl 0), (0, .inr (.inr (9, 0, 0))), (1, .inl a0), (2, .inl a1)]) dX9_workOut_28 (by decide) rfl ?_
  refine R_iconst (v := 1) dX9_workOut_30 (by decide) ?_
  refine R_istore (lv' := [(5, .inl 1), (4, .inl 0), (3, .inl 0), (0, .inr (.inr (9, 0, 0))), (1, .inl a0), (2, .inl a1)]) dX9_workOut_31 (by decide) rfl ?_
  refine R_sub [3, 2, 1, 0] rfl ?_
  exact rk_X9_workOut_33 hA _ 400 0 0 1 σ5 w
def g_X9_strengthAt_202  (k : Nat)  (v4 : Int32) (v5 : Int32) (s0 : Int32) (s1 : Int32) (σ : AS) : Option (Int32 × AS) := (if inb s1 9 then (lt (sA σ 9 0 24 s1 s0) fun σ26 => (lt (sA σ26 9 0 24 7 v4) fun σ27 => (lt (sA σ27 9 0 24 8 v5) fun σ28 => (bnd (g_X9_workOut 0 (gF σ28 9 0 18) σ28) fun r29 σ30 => (if r29 < 0 then some (0, σ30) else (if (999 : Int32) < r29 then some (999, σ30) else some (r29, σ30))))))) else none)
set_option maxRecDepth 100000 in
set_option maxHeartbeats 4000000 in
theorem rk_X9_strengthAt_202 {l : Launch} {cx : CX} (hA : AD cx)  (k : Nat) (hk : am_k 9 k = (2, 14, 0))  (Q : Int32 → AS → Prop) (v4 : Int32) (v5 : Int32) (s0 : Int32) (s1 : Int32) (σ : AS) (w : wpO (g_X9_strengthAt_202 k v4 v5 s0 s1 σ) Q) : RJ l cx 104 RX9 cX9_strengthAt 10 (some .int) 202 [(0, .inr (.inr (9, 0, 0))), (4, .inl v4), (5, .inl v5)] [.inl s0, .inl s1, .inr (.inr (9, 0, 24 + 1))] σ (QI Q) := by
  unfold g_X9_strengthAt_202 at w
  obtain ⟨b25, w⟩ := wp_chk w
  refine R_iast rfl oz9_0 b25 dX9_strengthAt_202 ?_
  refine R_nameS w ?_; clear w; intro σ26 w
  refine R_aload_n dX9_strengthAt_203 rfl 0 rfl ?_
  refine R_getfA (k := 24) acl9 oz9_0 (by decide) fl_RX9_46 dX9_strengthAt_204 rfl ?_
  refine R_bipush (v := 7) dX9_strengthAt_207 (by decide) ?_
  refine R_iload dX9_strengthAt_209 1 rfl ?_
  refine R_iast rfl oz9_0 (by decide) dX9_strengthAt_211 ?_
  refine R_nameS w ?_; clear w; intro σ27 w
  refine R_aload_n dX9_strengthAt_212 rfl 0 rfl ?_
  refine R_getfA (k := 24) acl9 oz9_0 (by decide) fl_RX9_46 dX9_strengthAt_213 rfl ?_
  refine R_bipush (v := 8) dX9_strengthAt_216 (by decide) ?_
  refine R_iload dX9_strengthAt_218 2 rfl ?_
  refine R_iast rfl oz9_0 (by decide) dX9_strengthAt_220 ?_
  refine R_nameS w ?_; clear w; intro σ28 w
  refine R_aload_n dX9_strengthAt_221 rfl 0 rfl ?_
  refine R_iconst (v := 0) dX9_strengthAt_222 (by decide) ?_
  refine R_aload_n dX9_strengthAt_223 rfl 0 rfl ?_
  refine R_getfI (k := 18) acl9 oz9_0 (by decide) fl_RX9_101 dX9_strengthAt_224 rfl ?_
  refine R_callVI (As := [.inl 0, .inl (gF σ28 9 0 18)]) acl9 rfl oz9_0 mi_X9_workOut ml_RX9_222 rfl (Nat.le_of_ble_eq_true rfl) (by decide) dX9_strengthAt_227 (ct_X9_workOut hA 0 (gF σ28 9 0 18) σ28 _ (wp_bnd w)) (fun r29 σ30 w => ?_)
  refine R_istore (lv' := [(9, .inl r29), (0, .inr (.inr (9, 0, 0))), (4, .inl v4), (5, .inl v5)]) dX9_strengthAt_230 (by decide) rfl ?_
  refine R_iload dX9_strengthAt_232 0 rfl ?_
  refine R_if_ge (tgt := 241) dX9_strengthAt_234 (by decide) (fun c31 => ?_) (fun c31 => ?_)
  · have w := wp_f c31 w
    refine R_iload dX9_strengthAt_241 0 rfl ?_
    refine R_sipush (v := 999) dX9_strengthAt_243 (by decide) ?_
    refine R_icmp_le (tgt := 255) dX9_strengthAt_246 (by decide) (fun c32 => ?_) (fun c32 => ?_)
    · have w := wp_f c32 w
      refine R_iload dX9_strengthAt_255 0 rfl ?_
      exact R_ireturn dX9_strengthAt_257 rfl ⟨_, rfl, wp_some w⟩
    · have w := wp_t c32 w
      refine R_sipush (v := 999) dX9_strengthAt_249 (by decide) ?_
      refine R_goto (tgt := 257) dX9_strengthAt_252 (by decide) ?_
      exact R_ireturn dX9_strengthAt_257 rfl ⟨_, rfl, wp_some w⟩
  · have w := wp_t c31 w
    refine R_iconst (v := 0) dX9_strengthAt_237 (by decide) ?_
    refine R_goto (tgt := 257) dX9_strengthAt_238 (by decide) ?_
    exact R_ireturn dX9_strengthAt_257 rfl ⟨_, rfl, wp_some w⟩
def g_X9_strengthAt_201  (k : Nat)  (v4 : Int32) (v5 : Int32) (s0 : Int32) (σ : AS) : Option (Int32 × AS) := g_X9_strengthAt_202 k v4 v5 0 s0 σ
set_option maxRecDepth 100000 in
set_option maxHeartbeats 4000000 in
theorem rk_X9_strengthAt_201 {l : Launch} {cx : CX} (hA : AD cx)  (k : Nat) (hk : am_k 9 k = (2, 14, 0))  (Q : Int32 → AS → Prop) (v4 : Int32) (v5 : Int32) (s0 : Int32) (σ : AS) (w : wpO (g_X9_strengthAt_201 k v4 v5 s0 σ) Q) : RJ l cx 104 RX9 cX9_strengthAt 10 (some .int) 201 [(0, .inr (.inr (9, 0, 0))), (4, .inl v4), (5, .inl v5)] [.inl s0, .inr (.inr (9, 0, 24 + 1))] σ (QI Q) := by
  unfold g_X9_strengthAt_201 at w
  refine R_iconst (v := 0) dX9_strengthAt_201 (by decide) ?_
  refine R_sub [0, 1, 2] rfl ?_
  exact rk_X9_strengthAt_202 hA k hk _ v4 v5 0 s0 σ w
def g_X9_strengthAt_162  (k : Nat)  (v2 : Int32) (v4 : Int32) (v5 : Int32) (v8 : Int32) (s0 : Int32) (s1 : Int32) (s3 : Int32) (σ : AS) : Option (Int32 × AS) := (if inb (s1 + s0) 14 then (if inb s3 9 then (lt (sA σ 9 0 24 s3 (gA σ 9 0 k (s1 + s0))) fun σ20 => (lt (sA σ20 9 0 24 5 v8) fun σ21 => (bnd (g_X9_isRest v2 σ21) fun r22 σ23 => (if r22 = 0 then g_X9_strengthAt_201 k v4 v5 6 σ23 else (bnd (g_X9_isRest (v2 - 1) σ23) fun r33 σ34 => (if r33 = 0 then g_X9_strengthAt_201 k v4 v5 6 σ34 else g_X9_strengthAt_202 k v4 v5 1 6 σ34)))))) else none) else none)
set_option maxRecDepth 100000 in
set_option maxHeartbeats 4000000 in
theorem rk_X9_strengthAt_162 {l : Launch} {cx : CX} (hA : AD cx)  (k : Nat) (hk : am_k 9 k = (2, 14, 0))  (Q : Int32 → AS → Prop) (v2 : Int32) (v4 : Int32) (v5 : Int32) (v8 : Int32) (s0 : Int32) (s1 : Int32) (s3 : Int32) (σ : AS) (w : wpO (g_X9_strengthAt_162 k v2 v4 v5 v8 s0 s1 s3 σ) Q) : RJ l cx 104 RX9 cX9_strengthAt 10 (some .int) 162 [(0, .inr (.inr (9, 0, 0))), (2, .inl v2), (4, .inl v4), (5, .inl v5), (8, .inl v8)] [.inl s0, .inl s1, .inr (.inr (9, 0, k + 1)), .inl s3, .inr (.inr (9, 0, 24 + 1))] σ (QI Q) := by
  unfold g_X9_strengthAt_162 at w
  refine R_iadd dX9_strengthAt_162 ?_
  obtain ⟨b18, w⟩ := wp_chk w
  refine R_iald hk oz9_0 b18 dX9_strengthAt_163 ?_
  obtain ⟨b19, w⟩ := wp_chk w
  refine R_iast rfl oz9_0 b19 dX9_strengthAt_164 ?_
  refine R_nameS w ?_; clear w; intro σ20 w
  refine R_aload_n dX9_strengthAt_165 rfl 0 rfl ?_
  refine R_getfA (k := 24) acl9 oz9_0 (by decide) fl_RX9_46 dX9_strengthAt_166 rfl ?_
  refine R_iconst (v := 5) dX9_strengthAt_169 (by decide) ?_
  refine R_iload dX9_strengthAt_170 4 rfl ?_
  refine R_iast rfl oz9_0 (by decide) dX9_strengthAt_172 ?_
  refine R_nameS w ?_; clear w; intro σ21 w
  refine R_aload_n dX9_strengthAt_173 rfl 0 rfl ?_
  refine R_getfA (k := 24) acl9 oz9_0 (by decide) fl_RX9_46 dX9_strengthAt_174 rfl ?_
  refine R_bipush (v := 6) dX9_strengthAt_177 (by decide) ?_
  refine R_aload_n dX9_strengthAt_179 rfl 0 rfl ?_
  refine R_iload_n dX9_strengthAt_180 rfl 1 rfl ?_
  refine R_callVI (As := [.inl v2]) acl9 rfl oz9_0 mi_X9_isRest ml_RX9_168 rfl (Nat.le_of_ble_eq_true rfl) (by decide) dX9_strengthAt_181 (ct_X9_isRest hA v2 σ21 _ (wp_bnd w)) (fun r22 σ23 w => ?_)
  refine R_if_eq (tgt := 201) dX9_strengthAt_184 (by decide) (fun c24 => ?_) (fun c24 => ?_)
  · have w := wp_t c24 w
    refine R_sub [0, 2, 3] rfl ?_
    exact rk_X9_strengthAt_201 hA k hk _ v4 v5 6 σ23 w
  · have w := wp_f c24 w
    refine R_aload_n dX9_strengthAt_187 rfl 0 rfl ?_
    refine R_iload_n dX9_strengthAt_188 rfl 1 rfl ?_
    refine R_iconst (v := 1) dX9_strengthAt_189 (by decide) ?_
    refine R_isub dX9_strengthAt_190 ?_
    refine R_callVI (As := [.inl (v2 - 1)]) acl9 rfl oz9_0 mi_X9_isRest ml_RX9_168 rfl (Nat.le_of_ble_eq_true rfl) (by decide) dX9_strengthAt_191 (ct_X9_isRest hA (v2 - 1) σ23 _ (wp_bnd w)) (fun r33 σ34 w => ?_)
    refine R_if_eq (tgt := 201) dX9_strengthAt_194 (by decide) (fun c35 => ?_) (fun c35 => ?_)
    · have w := wp_t c35 w
      refine R_sub [0, 2, 3] rfl ?_
      exact rk_X9_strengthAt_201 hA k hk _ v4 v5 6 σ34 w
    · have w := wp_f c35 w
      refine R_iconst (v := 1) dX9_strengthAt_197 (by decide) ?_
      refine R_goto (tgt := 202) dX9_strengthAt_198 (by decide) ?_
      refine R_sub [0, 2, 3] rfl ?_
      exact rk_X9_strengthAt_202 hA k hk _ v4 v5 1 6 σ34 w
def g_X9_strengthAt_48  (k : Nat)  (v2 : Int32) (v3 : Int32) (v4 : Int32) (v5 : Int32) (v6 : Int32) (v7 : Int32) (s0 : Int32) (σ : AS) : Option (Int32 × AS) := (if inb (8 + v6) 40 then (lt ((2 * (gA σ 9 0 0 (8 + v6))) + v7) fun x9 => (if gF σ 9 0 18 < 0 then (if s0 = 1 then some (x9 / 2, σ) else some (x9, σ)) else (if inb v6 40 then (lt (sA σ 9 0 24 0 (gA σ 9 0 0 v6)) fun σ12 => (lt (sA σ12 9 0 24 1 (gA σ12 9 0 0 (8 + v6))) fun σ13 => (if inb (16 + v6) 40 then (lt (sA σ13 9 0 24 2 (gA σ13 9 0 0 (16 + v6))) fun σ15 => (lt (sA σ15 9 0 24 3 v7) fun σ16 => (if v3 = v2 then g_X9_strengthAt_162 k v2 v4 v5 s0 1 (2 * v3) 4 σ16 else g_X9_strengthAt_162 k v2 v4 v5 s0 0 (2 * v3) 4 σ16))) else none))) else none))) else none)
set_option maxRecDepth 100000 in
set_option maxHeartbeats 4000000 in
theorem rk_X9_strengthAt_48 {l : Launch} {cx : CX} (hA : AD cx)  (k : Nat) (hk : am_k 9 k = (2, 14, 0))  (Q : Int32 → AS → Prop) (v2 : Int32) (v3 : Int32) (v4 : Int32) (v5 : Int32) (v6 : Int32) (v7 : Int32) (s0 : Int32) (σ : AS) (w : wpO (g_X9_strengthAt_48 k v2 v3 v4 v5 v6 v7 s0 σ) Q) : RJ l cx 104 RX9 cX9_strengthAt 10 (some .int) 48 [(0, .inr (.inr (9, 0, 0))), (1, .inr (.inr (9, 0, k + 1))), (2, .inl v2), (3, .inl v3), (4, .inl v4), (5, .inl v5), (6, .inl v6), (7, .inl v7)] [.inl s0] σ (QI Q) := by
  unfold g_X9_strengthAt_48 at w
  refine R_istore (lv' := [(8, .inl s0), (0, .inr (.inr (9, 0, 0))), (1, .inr (.inr (9, 0, k + 1))), (2, .inl v2), (3, .inl v3), (4, .inl v4), (5, .inl v5), (6, .inl v6), (7, .inl v7)]) dX9_strengthAt_48 (by decide) rfl ?_
  refine R_iconst (v := 2) dX9_strengthAt_50 (by decide) ?_
  refine R_aload_n dX9_strengthAt_51 rfl 1 rfl ?_
  refine R_getfA (k := 0) acl9 oz9_0 (by decide) fl_RX9_9 dX9_strengthAt_52 rfl ?_
  refine R_bipush (v := 8) dX9_strengthAt_55 (by decide) ?_
  refine R_iload dX9_strengthAt_57 7 rfl ?_
  refine R_iadd dX9_strengthAt_59 ?_
  obtain ⟨b8, w⟩ := wp_chk w
  refine R_iald rfl oz9_0 b8 dX9_strengthAt_60 ?_
  refine R_imul dX9_strengthAt_61 ?_
  refine R_iload dX9_strengthAt_62 8 rfl ?_
  refine R_iadd dX9_strengthAt_64 ?_
  refine R_nameI w ?_; clear w; intro x9 w
  refine R_istore (lv' := [(9, .inl x9), (8, .inl s0), (0, .inr (.inr (9, 0, 0))), (1, .inr (.inr (9, 0, k + 1))), (2, .inl v2), (3, .inl v3), (4, .inl v4), (5, .inl v5), (6, .inl v6), (7, .inl v7)]) dX9_strengthAt_65 (by decide) rfl ?_
  refine R_aload_n dX9_strengthAt_67 rfl 2 rfl ?_
  refine R_getfI (k := 18) acl9 oz9_0 (by decide) fl_RX9_101 dX9_strengthAt_68 rfl ?_
  refine R_if_ge (tgt := 90) dX9_strengthAt_71 (by decide) (fun c10 => ?_) (fun c10 => ?_)
  · have w := wp_f c10 w
    refine R_aload_n dX9_strengthAt_90 rfl 2 rfl ?_
    refine R_getfA (k := 24) acl9 oz9_0 (by decide) fl_RX9_46 dX9_strengthAt_91 rfl ?_
    refine R_iconst (v := 0) dX9_strengthAt_94 (by decide) ?_
    refine R_aload_n dX9_strengthAt_95 rfl 2 rfl ?_
    refine R_getfA (k := 0) acl9 oz9_0 (by decide) fl_RX9_9 dX9_strengthAt_96 rfl ?_
    refine R_iload dX9_strengthAt_99 8 rfl ?_
    obtain ⟨b11, w⟩ := wp_chk w
    refine R_iald rfl oz9_0 b11 dX9_strengthAt_101 ?_
    refine R_iast rfl oz9_0 (by decide) dX9_strengthAt_102 ?_
    refine R_nameS w ?_; clear w; intro σ12 w
    refine R_aload_n dX9_strengthAt_103 rfl 2 rfl ?_
    refine R_getfA (k := 24) acl9 oz9_0 (by decide) fl_RX9_46 dX9_strengthAt_104 rfl ?_
    refine R_iconst (v := 1) dX9_strengthAt_107 (by decide) ?_
    refine R_aload_n dX9_strengthAt_108 rfl 2 rfl ?_
    refine R_getfA (k := 0) acl9 oz9_0 (by decide) fl_RX9_9 dX9_strengthAt_109 rfl ?_
    refine R_bipush (v := 8) dX9_strengthAt_112 (by decide) ?_
    refine R_iload dX9_strengthAt_114 8 rfl ?_
    refine R_iadd dX9_strengthAt_116 ?_
    refine R_iald rfl oz9_0 b8 dX9_strengthAt_117 ?_
    refine R_iast rfl oz9_0 (by decide) dX9_strengthAt_118 ?_
    refine R_nameS w ?_; clear w; intro σ13 w
    refine R_aload_n dX9_strengthAt_119 rfl 2 rfl ?_
    refine R_getfA (k := 24) acl9 oz9_0 (by decide) fl_RX9_46 dX9_strengthAt_120 rfl ?_
    refine R_iconst (v := 2) dX9_strengthAt_123 (by decide) ?_
    refine R_aload_n dX9_strengthAt_124 rfl 2 rfl ?_
    refine R_getfA (k := 0) acl9 oz9_0 (by decide) fl_RX9_9 dX9_strengthAt_125 rfl ?_
    refine R_bipush (v := 16) dX9_strengthAt_128 (by decide) ?_
    refine R_iload dX9_strengthAt_130 8 rfl ?_
    refine R_iadd dX9_strengthAt_132 ?_
    obtain ⟨b14, w⟩ := wp_chk w
    refine R_iald rfl oz9_0 b14 dX9_strengthAt_133 ?_
    refine R_iast rfl oz9_0 (by decide) dX9_strengthAt_134 ?_
    refine R_nameS w ?_; clear w; intro σ15 w
    refine R_aload_n dX9_strengthAt_135 rfl 2 rfl ?_
    refine R_getfA (k := 24) acl9 oz9_0 (by decide) fl_RX9_46 dX9_strengthAt_136 rfl ?_
    refine R_iconst (v := 3) dX9_strengthAt_139 (by decide) ?_
    refine R_iload dX9_strengthAt_140 9 rfl ?_
    refine R_iast rfl oz9_0 (by decide) dX9_strengthAt_142 ?_
    refine R_nameS w ?_; clear w; intro σ16 w
    refine R_aload_n dX9_strengthAt_143 rfl 2 rfl ?_
    refine R_getfA (k := 24) acl9 oz9_0 (by decide) fl_RX9_46 dX9_strengthAt_144 rfl ?_
    refine R_iconst (v := 4) dX9_strengthAt_147 (by decide) ?_
    refine R_aload_n dX9_strengthAt_148 rfl 3 rfl ?_
    refine R_iconst (v := 2) dX9_strengthAt_149 (by decide) ?_
    refine R_iload_n dX9_strengthAt_150 rfl 5 rfl ?_
    refine R_imul dX9_strengthAt_151 ?_
    refine R_iload_n dX9_strengthAt_152 rfl 5 rfl ?_
    refine R_iload_n dX9_strengthAt_153 rfl 4 rfl ?_
    refine R_icmp_ne (tgt := 161) dX9_strengthAt_154 (by decide) (fun c17 => ?_) (fun c17 => ?_)
    · have w := wp_f c17 w
      refine R_iconst (v := 0) dX9_strengthAt_161 (by decide) ?_
      refine R_sub [2, 4, 6, 7, 1] rfl ?_
      exact rk_X9_strengthAt_162 hA k hk _ v2 v4 v5 s0 0 (2 * v3) 4 σ16 w
    · have w := wp_t c17 w
      refine R_iconst (v := 1) dX9_strengthAt_157 (by decide) ?_
      refine R_goto (tgt := 162) dX9_strengthAt_158 (by decide) ?_
      refine R_sub [2, 4, 6, 7, 1] rfl ?_
      exact rk_X9_strengthAt_162 hA k hk _ v2 v4 v5 s0 1 (2 * v3) 4 σ16 w
  · have w := wp_t c10 w
    refine R_iload dX9_strengthAt_74 1 rfl ?_
    refine R_iconst (v := 1) dX9_strengthAt_76 (by decide) ?_
    refine R_icmp_ne (tgt := 87) dX9_strengthAt_77 (by decide) (fun c36 => ?_) (fun c36 => ?_)
    · have w := wp_f c36 w
      refine R_iload dX9_strengthAt_87 0 rfl ?_
      exact R_ireturn dX9_strengthAt_89 rfl ⟨_, rfl, wp_some w⟩
    · have w := wp_t c36 w
      refine R_iload dX9_strengthAt_80 0 rfl ?_
      refine R_iconst (v := 2) dX9_strengthAt_82 (by decide) ?_
      refine R_idiv dX9_strengthAt_83 (by decide) ?_
      refine R_goto (tgt := 89) dX9_strengthAt_84 (by decide) ?_
      exact R_ireturn dX9_strengthAt_89 rfl ⟨_, rfl, wp_some w⟩
def g_X9_strengthAt_22  (k : Nat)  (v2 : Int32) (v3 : Int32) (v4 : Int32) (v5 : Int32) (v6 : Int32) (s0 : Int32) (s1 : Int32) (σ : AS) : Option (Int32 × AS) := (if inb (s1 + s0) 14 then (lt (gA σ 9 0 k (s1 + s0)) fun x5 => (if inb ((24 * v6) + v5) 192 then (if gA σ 9 0 8 ((24 * v6) + v5) = 1 then g_X9_strengthAt_48 k v2 v3 v4 v5 v6 x5 1 σ else g_X9_strengthAt_48 k v2 v3 v4 v5 v6 x5 0 σ) else none)) else none)
set_option maxRecDepth 100000 in
set_option maxHeartbeats 4000000 in
theorem rk_X9_strengthAt_22 {l : Launch} {cx : CX} (hA : AD cx)  (k : Nat) (hk : am_k 9 k = (2, 14, 0))  (Q : Int32 → AS → Prop) (v2 : Int32) (v3 : Int32) (v4 : Int32) (v5 : Int32) (v6 : Int32) (s0 : Int32) (s1 : Int32) (σ : AS) (w : wpO (g_X9_strengthAt_22 k v2 v3 v4 v5 v6 s0 s1 σ) Q) : RJ l cx 104 RX9 cX9_strengthAt 10 (some .int) 22 [(0, .inr (.inr (9, 0, 0))), (1, .inr (.inr (9, 0, k + 1))), (2, .inl v2), (3, .inl v3), (4, .inl v4), (5, .inl v5), (6, .inl v6)] [.inl s0, .inl s1, .inr (.inr (9, 0, k + 1))] σ (QI Q) := by
  unfold g_X9_strengthAt_22 at w
  refine R_iadd dX9_strengthAt_22 ?_
  obtain ⟨b4, w⟩ := wp_chk w
  refine R_iald hk oz9_0 b4 dX9_strengthAt_23 ?_
  refine R_nameI w ?_; clear w; intro x5 w
  refine R_istore (lv' := [(7, .inl x5), (0, .inr (.inr (9, 0, 0))), (1, .inr (.inr (9, 0, k + 1))), (2, .inl v2), (3, .inl v3), (4, .inl v4), (5, .inl v5), (6, .inl v6)]) dX9_strengthAt_24 (by decide) rfl ?_
  refine R_aload_n dX9_strengthAt_26 rfl 1 rfl ?_
  refine R_getfA (k := 8) acl9 oz9_0 (by decide) fl_RX9_25 dX9_strengthAt_27 rfl ?_
  refine R_bipush (v := 24) dX9_strengthAt_30 (by decide) ?_
  refine R_iload dX9_strengthAt_32 7 rfl ?_
  refine R_imul dX9_strengthAt_34 ?_
  refine R_iload dX9_strengthAt_35 6 rfl ?_
  refine R_iadd dX9_strengthAt_37 ?_
  obtain ⟨b6, w⟩ := wp_chk w
  refine R_iald rfl oz9_0 b6 dX9_strengthAt_38 ?_
  refine R_iconst (v := 1) dX9_strengthAt_39 (by decide) ?_
  refine R_icmp_ne (tgt := 47) dX9_strengthAt_40 (by decide) (fun c7 => ?_) (fun c7 => ?_)
  · have w := wp_f c7 w
    refine R_iconst (v := 0) dX9_strengthAt_47 (by decide) ?_
    refine R_sub [1, 2, 3, 4, 5, 6, 7, 0] rfl ?_
    exact rk_X9_strengthAt_48 hA k hk _ v2 v3 v4 v5 v6 x5 0 σ w
  · have w := wp_t c7 w
    refine R_iconst (v := 1) dX9_strengthAt_43 (by decide) ?_
    refine R_goto (tgt := 48) dX9_strengthAt_44 (by decide) ?_
    refine R_sub [1, 2, 3, 4, 5, 6, 7, 0] rfl ?_
    exact rk_X9_strengthAt_48 hA k hk _ v2 v3 v4 v5 v6 x5 1 σ w
def g_X9_strengthAt (k : Nat) (a1 : Int32) (a2 : Int32) (a3 : Int32) (a4 : Int32) (σ : AS) : Option (Int32 × AS) := (if inb a1 8 then (lt (gA σ 9 0 14 a1) fun x2 => (if a2 = a1 then g_X9_strengthAt_22 k a1 a2 a3 a4 x2 0 (2 * a2) σ else g_X9_strengthAt_22 k a1 a2 a3 a4 x2 1 (2 * a2) σ)) else none)
set_option maxRecDepth 100000 in
set_option maxHeartbeats 4000000 in
theorem ct_X9_strengthAt {l : Launch} {cx : CX} (hA : AD cx) (k : Nat) (hk : am_k 9 k = (2, 14, 0)) (a1 : Int32) (a2 : Int32) (a3 : Int32) (a4 : Int32) (σ : AS) (Q : Int32 → AS → Prop) (w : wpO (g_X9_strengthAt k a1 a2 a3 a4 σ) Q) : AMet l cx 104 yX9_strengthAt cX9_strengthAt 10 (some .int) [.inr (.inr (9, 0, 0)), .inr (.inr (9, 0, k + 1)), .inl a1, .inl a2, .inl a3, .inl a4] σ (QI Q) := by
  unfold g_X9_strengthAt at w
  refine AMet.of (own := RX9) (by decide) rfl hA (Nat.le_of_ble_eq_true rfl) ?_
  show RJ l cx 104 RX9 cX9_strengthAt 10 (some .int) 0 [(0, .inr (.inr (9, 0, 0))), (1, .inr (.inr (9, 0, k + 1))), (2, .inl a1), (3, .inl a2), (4, .inl a3), (5, .inl a4)] [] σ _
  refine R_aload_n dX9_strengthAt_0 rfl 0 rfl ?_
  refine R_getfA (k := 14) acl9 oz9_0 (by decide) fl_RX9_37 dX9_strengthAt_1 rfl ?_
  refine R_iload_n dX9_strengthAt_4 rfl 2 rfl ?_
  obtain ⟨b1, w⟩ := wp_chk w
  refine R_iald rfl oz9_0 b1 dX9_strengthAt_5 ?_
  refine R_nameI w ?_; clear w; intro x2 w
  refine R_istore (lv' := [(6, .inl x2), (0, .inr (.inr (9, 0, 0))), (1, .inr (.inr (9, 0, k + 1))), (2, .inl a1), (3, .inl a2), (4, .inl a3), (5, .inl a4)]) dX9_strengthAt_6 (by decide) rfl ?_
  refine R_aload_n dX9_strengthAt_8 rfl 2 rfl ?_
  refine R_iconst (v := 2) dX9_strengthAt_9 (by decide) ?_
  refine R_iload_n dX9_strengthAt_10 rfl 4 rfl ?_
  refine R_imul dX9_strengthAt_11 ?_
  refine R_iload_n dX9_strengthAt_12 rfl 4 rfl ?_
  refine R_iload_n dX9_strengthAt_13 rfl 3 rfl ?_
  refine R_icmp_ne (tgt := 21) dX9_strengthAt_14 (by decide) (fun c3 => ?_) (fun c3 => ?_)
  · have w := wp_f c3 w
    refine R_iconst (v := 1) dX9_strengthAt_21 (by decide) ?_
    refine R_sub [1, 2, 3, 4, 5, 6, 0] rfl ?_
    exact rk_X9_strengthAt_22 hA k hk _ a1 a2 a3 a4 x2 1 (2 * a2) σ w
  · have w := wp_t c3 w
    refine R_iconst (v := 0) dX9_strengthAt_17 (by decide) ?_
    refine R_goto (tgt := 22) dX9_strengthAt_18 (by decide) ?_
    refine R_sub [1, 2, 3, 4, 5, 6, 0] rfl ?_
    exact rk_X9_strengthAt_22 hA k hk _ a1 a2 a3 a4 x2 0 (2 * a2) σ w
def g_X9_takesFree (k : Nat) (a1 : Int32) (σ : AS) : Option (Unit × AS) := (if inb a1 14 then (lt (sA σ 9 0 k a1 ((gA σ 9 0 k a1) + 1)) fun σ2 => (lt (sF σ2 9 0 27 1) fun σ3 => some ((), σ3))) else none)
set_option maxRecDepth 100000 in
set_option maxHeartbeats 4000000 in
theorem ct_X9_takesFree {l : Launch} {cx : CX} (hA : AD cx) (k : Nat) (hk : am_k 9 k = (2, 14, 0)) (a1 : Int32) (σ : AS) (Q : Unit → AS → Prop) (w : wpO (g_X9_takesFree k a1 σ) Q) : AMet l cx 0 yX9_takesFree cX9_takesFree 3 none [.inr (.inr (9, 0, 0)), .inr (.inr (9, 0, k + 1)), .inl a1] σ (QV Q) := by
  unfold g_X9_takesFree at w
  refine AMet.of (own := RX9) (by decide) rfl hA (Nat.le_of_ble_eq_true rfl) ?_
  show RJ l cx 0 RX9 cX9_takesFree 3 none 0 [(0, .inr (.inr (9, 0, 0))), (1, .inr (.inr (9, 0, k + 1))), (2, .inl a1)] [] σ _
  refine R_aload_n dX9_takesFree_0 rfl 1 rfl ?_
  refine R_iload_n dX9_takesFree_1 rfl 2 rfl ?_
  refine R_dup2 dX9_takesFree_2 rfl rfl ?_
  obtain ⟨b1, w⟩ := wp_chk w
  refine R_iald hk oz9_0 b1 dX9_takesFree_3 ?_
  refine R_iconst (v := 1) dX9_takesFree_4 (by decide) ?_
  refine R_iadd dX9_takesFree_5 ?_
  refine R_iast hk oz9_0 b1 dX9_takesFree_6 ?_
  refine R_nameS w ?_; clear w; intro σ2 w
  refine R_aload_n dX9_takesFree_7 rfl 0 rfl ?_
  refine R_iconst (v := 1) dX9_takesFree_8 (by decide) ?_
  refine R_putf (k := 27) (ty := .boolean) acl9 oz9_0 (by decide) fl_RX9_233 rfl (tyX9_ok 27 (by decide)) (Or.inr ⟨rfl, by decide⟩) dX9_takesFree_9 rfl ?_
  refine R_nameS w ?_; clear w; intro σ3 w
  exact R_vreturn dX9_takesFree_12 rfl ⟨rfl, wp_some w⟩
def g_X9_pushes_111  (k : Nat)  (v2 : Int32) (v7 : Int32) (v8 : Int32) (s0 : Int32) (σ : AS) : Option (Unit × AS) := (if inb (((2 * v2) + 1) - v7) 14 then (if (0 : Int32) < gA σ 9 0 k (((2 * v2) + 1) - v7) then (if inb v8 8 then (if inb (16 + (gA σ 9 0 14 v8)) 40 then (if gA σ 9 0 0 (16 + (gA σ 9 0 14 v8)) < s0 then (lt (sA σ 9 0 k (((2 * v2) + 1) - v7) ((gA σ 9 0 k (((2 * v2) + 1) - v7)) - 1)) fun σ21 => (bnd (g_X9_takesFree k ((2 * v2) + v7) σ21) fun _ σ22 => (if inb v2 7 then (lt (sA σ22 9 0 28 v2 1) fun σ24 => (lt (sA σ24 9 0 29 v8 1) fun σ25 => (lt (sF σ25 9 0 26 ((gF σ25 9 0 26) + 1)) fun σ26 => some ((), σ26)))) else none))) else some ((), σ)) else none) else none) else some ((), σ)) else none)
set_option maxRecDepth 100000 in
set_option maxHeartbeats 4000000 in
theorem rk_X9_pushes_111 {l : Launch} {cx : CX} (hA : AD cx)  (k : Nat) (hk : am_k 9 k = (2, 14, 0))  (Q : Unit → AS → Prop) (v2 : Int32) (v7 : Int32) (v8 : Int32) (s0 : Int32) (σ : AS) (w : wpO (g_X9_pushes_111 k v2 v7 v8 s0 σ) Q) : RJ l cx 105 RX9 cX9_pushes 10 none 111 [(0, .inr (.inr (9, 0, 0))), (1, .inr (.inr (9, 0, k + 1))), (2, .inl v2), (7, .inl v7), (8, .inl v8)] [.inl s0] σ (QV Q) := by
  unfold g_X9_pushes_111 at w
  refine R_istore (lv' := [(9, .inl s0), (0, .inr (.inr (9, 0, 0))), (1, .inr (.inr (9, 0, k + 1))), (2, .inl v2), (7, .inl v7), (8, .inl v8)]) dX9_pushes_111 (by decide) rfl ?_
  refine R_aload_n dX9_pushes_113 rfl 2 rfl ?_
  refine R_iconst (v := 2) dX9_pushes_114 (by decide) ?_
  refine R_iload_n dX9_pushes_115 rfl 3 rfl ?_
  refine R_imul dX9_pushes_116 ?_
  refine R_iconst (v := 1) dX9_pushes_117 (by decide) ?_
  refine R_iadd dX9_pushes_118 ?_
  refine R_iload dX9_pushes_119 4 rfl ?_
  refine R_isub dX9_pushes_121 ?_
  obtain ⟨b16, w⟩ := wp_chk w
  refine R_iald hk oz9_0 b16 dX9_pushes_122 ?_
  refine R_if_le (tgt := 196) dX9_pushes_123 (by decide) (fun c17 => ?_) (fun c17 => ?_)
  · have w := wp_f c17 w
    exact R_vreturn dX9_pushes_196 rfl ⟨rfl, wp_some w⟩
  · have w := wp_t c17 w
    refine R_iload dX9_pushes_126 0 rfl ?_
    refine R_aload_n dX9_pushes_128 rfl 1 rfl ?_
    refine R_getfA (k := 0) acl9 oz9_0 (by decide) fl_RX9_9 dX9_pushes_129 rfl ?_
    refine R_bipush (v := 16) dX9_pushes_132 (by decide) ?_
    refine R_aload_n dX9_pushes_134 rfl 1 rfl ?_
    refine R_getfA (k := 14) acl9 oz9_0 (by decide) fl_RX9_37 dX9_pushes_135 rfl ?_
    refine R_iload dX9_pushes_138 5 rfl ?_
    obtain ⟨b18, w⟩ := wp_chk w
    refine R_iald rfl oz9_0 b18 dX9_pushes_140 ?_
    refine R_iadd dX9_pushes_141 ?_
    obtain ⟨b19, w⟩ := wp_chk w
    refine R_iald rfl oz9_0 b19 dX9_pushes_142 ?_
    refine R_icmp_le (tgt := 196) dX9_pushes_143 (by decide) (fun c20 => ?_) (fun c20 => ?_)
    · have w := wp_f c20 w
      exact R_vreturn dX9_pushes_196 rfl ⟨rfl, wp_some w⟩
    · have w := wp_t c20 w
      refine R_aload_n dX9_pushes_146 rfl 2 rfl ?_
      refine R_iconst (v := 2) dX9_pushes_147 (by decide) ?_
      refine R_iload_n dX9_pushes_148 rfl 3 rfl ?_
      refine R_imul dX9_pushes_149 ?_
      refine R_iconst (v := 1) dX9_pushes_150 (by decide) ?_
      refine R_iadd dX9_pushes_151 ?_
      refine R_iload dX9_pushes_152 4 rfl ?_
      refine R_isub dX9_pushes_154 ?_
      refine R_dup2 dX9_pushes_155 rfl rfl ?_
      refine R_iald hk oz9_0 b16 dX9_pushes_156 ?_
      refine R_iconst (v := 1) dX9_pushes_157 (by decide) ?_
      refine R_isub dX9_pushes_158 ?_
      refine R_iast hk oz9_0 b16 dX9_pushes_159 ?_
      refine R_nameS w ?_; clear w; intro σ21 w
      refine R_aload_n dX9_pushes_160 rfl 1 rfl ?_
      refine R_aload_n dX9_pushes_161 rfl 2 rfl ?_
      refine R_iconst (v := 2) dX9_pushes_162 (by decide) ?_
      refine R_iload_n dX9_pushes_163 rfl 3 rfl ?_
      refine R_imul dX9_pushes_164 ?_
      refine R_iload dX9_pushes_165 4 rfl ?_
      refine R_iadd dX9_pushes_167 ?_
      refine R_callVV (As := [.inr (.inr (9, 0, k + 1)), .inl ((2 * v2) + v7)]) acl9 rfl oz9_0 mi_X9_takesFree ml_RX9_240 rfl (Nat.le_of_ble_eq_true rfl) (by decide) dX9_pushes_168 (ct_X9_takesFree hA k hk ((2 * v2) + v7) σ21 _ (wp_bnd w)) (fun σ22 w => ?_)
      refine R_aload_n dX9_pushes_171 rfl 1 rfl ?_
      refine R_getfA (k := 28) acl9 oz9_0 (by decide) fl_RX9_49 dX9_pushes_172 rfl ?_
      refine R_iload_n dX9_pushes_175 rfl 3 rfl ?_
      refine R_iconst (v := 1) dX9_pushes_176 (by decide) ?_
      obtain ⟨b23, w⟩ := wp_chk w
      refine R_iast rfl oz9_0 b23 dX9_pushes_177 ?_
      refine R_nameS w ?_; clear w; intro σ24 w
      refine R_aload_n dX9_pushes_178 rfl 1 rfl ?_
      refine R_getfA (k := 29) acl9 oz9_0 (by decide) fl_RX9_52 dX9_pushes_179 rfl ?_
      refine R_iload dX9_pushes_182 5 rfl ?_
      refine R_iconst (v := 1) dX9_pushes_184 (by decide) ?_
      refine R_iast rfl oz9_0 b18 dX9_pushes_185 ?_
      refine R_nameS w ?_; clear w; intro σ25 w
      refine R_aload_n dX9_pushes_186 rfl 1 rfl ?_
      refine R_dup dX9_pushes_187 rfl ?_
      refine R_getfI (k := 26) acl9 oz9_0 (by decide) fl_RX9_244 dX9_pushes_188 rfl ?_
      refine R_iconst (v := 1) dX9_pushes_191 (by decide) ?_
      refine R_iadd dX9_pushes_192 ?_
      refine R_putf (k := 26) (ty := .int) acl9 oz9_0 (by decide) fl_RX9_244 rfl (tyX9_ok 26 (by decide)) (Or.inl rfl) dX9_pushes_193 rfl ?_
      refine R_nameS w ?_; clear w; intro σ26 w
      exact R_vreturn dX9_pushes_196 rfl ⟨rfl, wp_some w⟩
def g_X9_pushes_52  (k : Nat)  (v2 : Int32) (v3 : Int32) (v5 : Int32) (v6 : Int32) (s0 : Int32) (σ : AS) : Option (Unit × AS) := (lt ((v2 + 1) - s0) fun x11 => (if inb (2 * v2) 14 then (if inb ((2 * v2) + 1) 14 then (if (gA σ 9 0 k (2 * v2)) + (gA σ 9 0 k ((2 * v2) + 1)) < v3 then (bnd (g_X9_takesFree k ((2 * v2) + s0) σ) fun _ σ27 => some ((), σ27)) else (if v6 < v5 then g_X9_pushes_111 k v2 s0 x11 (v5 - v6) σ else g_X9_pushes_111 k v2 s0 x11 (v6 - v5) σ)) else none) else none))
set_option maxRecDepth 100000 in
set_option maxHeartbeats 4000000 in
theorem rk_X9_pushes_52 {l : Launch} {cx : CX} (hA : AD cx)  (k : Nat) (hk : am_k 9 k = (2, 14, 0))  (Q : Unit → AS → Prop) (v2 : Int32) (v3 : Int32) (v5 : Int32) (v6 : Int32) (s0 : Int32) (σ : AS) (w : wpO (g_X9_pushes_52 k v2 v3 v5 v6 s0 σ) Q) : RJ l cx 105 RX9 cX9_pushes 10 none 52 [(0, .inr (.inr (9, 0, 0))), (1, .inr (.inr (9, 0, k + 1))), (2, .inl v2), (3, .inl v3), (5, .inl v5), (6, .inl v6)] [.inl s0] σ (QV Q) := by
  unfold g_X9_pushes_52 at w
  refine R_istore (lv' := [(7, .inl s0), (0, .inr (.inr (9, 0, 0))), (1, .inr (.inr (9, 0, k + 1))), (2, .inl v2), (3, .inl v3), (5, .inl v5), (6, .inl v6)]) dX9_pushes_52 (by decide) rfl ?_
  refine R_iload_n dX9_pushes_54 rfl 3 rfl ?_
  refine R_iconst (v := 1) dX9_pushes_55 (by decide) ?_
  refine R_iadd dX9_pushes_56 ?_
  refine R_iload dX9_pushes_57 0 rfl ?_
  refine R_isub dX9_pushes_59 ?_
  refine R_nameI w ?_; clear w; intro x11 w
  refine R_istore (lv' := [(8, .inl x11), (7, .inl s0), (0, .inr (.inr (9, 0, 0))), (1, .inr (.inr (9, 0, k + 1))), (2, .inl v2), (3, .inl v3), (5, .inl v5), (6, .inl v6)]) dX9_pushes_60 (by decide) rfl ?_
  refine R_aload_n dX9_pushes_62 rfl 3 rfl ?_
  refine R_iconst (v := 2) dX9_pushes_63 (by decide) ?_
  refine R_iload_n dX9_pushes_64 rfl 4 rfl ?_
  refine R_imul dX9_pushes_65 ?_
  obtain ⟨b12, w⟩ := wp_chk w
  refine R_iald hk oz9_0 b12 dX9_pushes_66 ?_
  refine R_aload_n dX9_pushes_67 rfl 3 rfl ?_
  refine R_iconst (v := 2) dX9_pushes_68 (by decide) ?_
  refine R_iload_n dX9_pushes_69 rfl 4 rfl ?_
  refine R_imul dX9_pushes_70 ?_
  refine R_iconst (v := 1) dX9_pushes_71 (by decide) ?_
  refine R_iadd dX9_pushes_72 ?_
  obtain ⟨b13, w⟩ := wp_chk w
  refine R_iald hk oz9_0 b13 dX9_pushes_73 ?_
  refine R_iadd dX9_pushes_74 ?_
  refine R_iload_n dX9_pushes_75 rfl 5 rfl ?_
  refine R_icmp_ge (tgt := 91) dX9_pushes_76 (by decide) (fun c14 => ?_) (fun c14 => ?_)
  · have w := wp_f c14 w
    refine R_iload dX9_pushes_91 6 rfl ?_
    refine R_iload dX9_pushes_93 7 rfl ?_
    refine R_icmp_le (tgt := 106) dX9_pushes_95 (by decide) (fun c15 => ?_) (fun c15 => ?_)
    · have w := wp_f c15 w
      refine R_iload dX9_pushes_106 7 rfl ?_
      refine R_iload dX9_pushes_108 6 rfl ?_
      refine R_isub dX9_pushes_110 ?_
      refine R_sub [2, 3, 4, 1, 0] rfl ?_
      exact rk_X9_pushes_111 hA k hk _ v2 s0 x11 (v6 - v5) σ w
    · have w := wp_t c15 w
      refine R_iload dX9_pushes_98 6 rfl ?_
      refine R_iload dX9_pushes_100 7 rfl ?_
      refine R_isub dX9_pushes_102 ?_
      refine R_goto (tgt := 111) dX9_pushes_103 (by decide) ?_
      refine R_sub [2, 3, 4, 1, 0] rfl ?_
      exact rk_X9_pushes_111 hA k hk _ v2 s0 x11 (v5 - v6) σ w
  · have w := wp_t c14 w
    refine R_aload_n dX9_pushes_79 rfl 2 rfl ?_
    refine R_aload_n dX9_pushes_80 rfl 3 rfl ?_
    refine R_iconst (v := 2) dX9_pushes_81 (by decide) ?_
    refine R_iload_n dX9_pushes_82 rfl 4 rfl ?_
    refine R_imul dX9_pushes_83 ?_
    refine R_iload dX9_pushes_84 1 rfl ?_
    refine R_iadd dX9_pushes_86 ?_
    refine R_callVV (As := [.inr (.inr (9, 0, k + 1)), .inl ((2 * v2) + s0)]) acl9 rfl oz9_0 mi_X9_takesFree ml_RX9_240 rfl (Nat.le_of_ble_eq_true rfl) (by decide) dX9_pushes_87 (ct_X9_takesFree hA k hk ((2 * v2) + s0) σ _ (wp_bnd w)) (fun σ27 w => ?_)
    exact R_vreturn dX9_pushes_90 rfl ⟨rfl, wp_some w⟩
def g_X9_pushes (k : Nat) (a1 : Int32) (a2 : Int32) (a3 : Int32) (σ : AS) : Option (Unit × AS) := (bnd (g_X9_coughs σ) fun r1 σ2 => (bnd (g_X9_strengthAt k a1 a1 r1 a3 σ2) fun r3 σ4 => (bnd (g_X9_coughs σ4) fun r5 σ6 => (bnd (g_X9_strengthAt k (a1 + 1) a1 r5 a3 σ6) fun r7 σ8 => (if r3 = r7 then some ((), σ8) else (if r7 < r3 then g_X9_pushes_52 k a1 a2 r3 r7 0 σ8 else g_X9_pushes_52 k a1 a2 r3 r7 1 σ8))))))
set_option maxRecDepth 100000 in
set_option maxHeartbeats 4000000 in
theorem ct_X9_pushes {l : Launch} {cx : CX} (hA : AD cx) (k : Nat) (hk : am_k 9 k = (2, 14, 0)) (a1 : Int32) (a2 : Int32) (a3 : Int32) (σ : AS) (Q : Unit → AS → Prop) (w : wpO (g_X9_pushes k a1 a2 a3 σ) Q) : AMet l cx 105 yX9_pushes cX9_pushes 10 none [.inr (.inr (9, 0, 0)), .inr (.inr (9, 0, k + 1)), .inl a1, .inl a2, .inl a3] σ (QV Q) := by
  unfold g_X9_pushes at w
  refine AMet.of (own := RX9) (by decide) rfl hA (Nat.le_of_ble_eq_true rfl) ?_
  show RJ l cx 105 RX9 cX9_pushes 10 none 0 [(0, .inr (.inr (9, 0, 0))), (1, .inr (.inr (9, 0, k + 1))), (2, .inl a1), (3, .inl a2), (4, .inl a3)] [] σ _
  refine R_aload_n dX9_pushes_0 rfl 0 rfl ?_
  refine R_aload_n dX9_pushes_1 rfl 1 rfl ?_
  refine R_iload_n dX9_pushes_2 rfl 2 rfl ?_
  refine R_iload_n dX9_pushes_3 rfl 2 rfl ?_
  refine R_aload_n dX9_pushes_4 rfl 0 rfl ?_
  refine R_callVI (As := []) acl9 rfl oz9_0 mi_X9_coughs ml_RX9_237 rfl (Nat.le_of_ble_eq_true rfl) (by decide) dX9_pushes_5 (ct_X9_coughs hA σ _ (wp_bnd w)) (fun r1 σ2 w => ?_)
  refine R_iload dX9_pushes_8 4 rfl ?_
  refine R_callVI (As := [.inr (.inr (9, 0, k + 1)), .inl a1, .inl a1, .inl r1, .inl a3]) acl9 rfl oz9_0 mi_X9_strengthAt ml_RX9_225 rfl (Nat.le_of_ble_eq_true rfl) (by decide) dX9_pushes_10 (ct_X9_strengthAt hA k hk a1 a1 r1 a3 σ2 _ (wp_bnd w)) (fun r3 σ4 w => ?_)
  refine R_istore (lv' := [(5, .inl r3), (0, .inr (.inr (9, 0, 0))), (1, .inr (.inr (9, 0, k + 1))), (2, .inl a1), (3, .inl a2), (4, .inl a3)]) dX9_pushes_13 (by decide) rfl ?_
  refine R_aload_n dX9_pushes_15 rfl 1 rfl ?_
  refine R_aload_n dX9_pushes_16 rfl 2 rfl ?_
  refine R_iload_n dX9_pushes_17 rfl 3 rfl ?_
  refine R_iconst (v := 1) dX9_pushes_18 (by decide) ?_
  refine R_iadd dX9_pushes_19 ?_
  refine R_iload_n dX9_pushes_20 rfl 3 rfl ?_
  refine R_aload_n dX9_pushes_21 rfl 1 rfl ?_
  refine R_callVI (As := []) acl9 rfl oz9_0 mi_X9_coughs ml_RX9_237 rfl (Nat.le_of_ble_eq_true rfl) (by decide) dX9_pushes_22 (ct_X9_coughs hA σ4 _ (wp_bnd w)) (fun r5 σ6 w => ?_)
  refine R_iload dX9_pushes_25 5 rfl ?_
  refine R_callVI (As := [.inr (.inr (9, 0, k + 1)), .inl (a1 + 1), .inl a1, .inl r5, .inl a3]) acl9 rfl oz9_0 mi_X9_strengthAt ml_RX9_225 rfl (Nat.le_of_ble_eq_true rfl) (by decide) dX9_pushes_27 (ct_X9_strengthAt hA k hk (a1 + 1) a1 r5 a3 σ6 _ (wp_bnd w)) (fun r7 σ8 w => ?_)
  refine R_istore (lv' := [(6, .inl r7), (5, .inl r3), (0, .inr (.inr (9, 0, 0))), (1, .inr (.inr (9, 0, k + 1))), (2, .inl a1), (3, .inl a2), (4, .inl a3)]) dX9_pushes_30 (by decide) rfl ?_
  refine R_iload dX9_pushes_32 1 rfl ?_
  refine R_iload dX9_pushes_34 0 rfl ?_
  refine R_icmp_ne (tgt := 40) dX9_pushes_36 (by decide) (fun c9 => ?_) (fun c9 => ?_)
  · have w := wp_f c9 w
    refine R_iload dX9_pushes_40 1 rfl ?_
    refine R_iload dX9_pushes_42 0 rfl ?_
    refine R_icmp_le (tgt := 51) dX9_pushes_44 (by decide) (fun c10 => ?_) (fun c10 => ?_)
    · have w := wp_f c10 w
      refine R_iconst (v := 1) dX9_pushes_51 (by decide) ?_
      refine R_sub [2, 3, 4, 5, 1, 0] rfl ?_
      exact rk_X9_pushes_52 hA k hk _ a1 a2 r3 r7 1 σ8 w
    · have w := wp_t c10 w
      refine R_iconst (v := 0) dX9_pushes_47 (by decide) ?_
      refine R_goto (tgt := 52) dX9_pushes_48 (by decide) ?_
      refine R_sub [2, 3, 4, 5, 1, 0] rfl ?_
      exact rk_X9_pushes_52 hA k hk _ a1 a2 r3 r7 0 σ8 w
  · have w := wp_t c9 w
    exact R_vreturn dX9_pushes_39 rfl ⟨rfl, wp_some w⟩
def g_X9_restGoes_115  (k : Nat)  (s0 : Int32) (σ : AS) : Option (Unit × AS) := (bnd (g_X9_takesFree k s0 σ) fun _ σ13 => some ((), σ13))
set_option maxRecDepth 100000 in
set_option maxHeartbeats 4000000 in
theorem rk_X9_restGoes_115 {l : Launch} {cx : CX} (hA : AD cx)  (k : Nat) (hk : am_k 9 k = (2, 14, 0))  (Q : Unit → AS → Prop) (s0 : Int32) (σ : AS) (w : wpO (g_X9_restGoes_115 k s0 σ) Q) : RJ l cx 106 RX9 cX9_restGoes 7 none 115 [] [.inl s0, .inr (.inr (9, 0, k + 1)), .inr (.inr (9, 0, 0))] σ (QV Q) := by
  unfold g_X9_restGoes_115 at w
  refine R_callVV (As := [.inr (.inr (9, 0, k + 1)), .inl s0]) acl9 rfl oz9_0 mi_X9_takesFree ml_RX9_240 rfl (Nat.le_of_ble_eq_true rfl) (by decide) dX9_restGoes_115 (ct_X9_takesFree hA k hk s0 σ _ (wp_bnd w)) (fun σ13 w => ?_)
  exact R_vreturn dX9_restGoes_118 rfl ⟨rfl, wp_some w⟩
def g_X9_restGoes_80  (k : Nat)  (v2 : Int32) (v3 : Int32) (v5 : Int32) (σ : AS) : Option (Unit × AS) := (if inb (2 * v2) 14 then (if inb ((2 * v2) + 1) 14 then (if (gA σ 9 0 k (2 * v2)) + (gA σ 9 0 k ((2 * v2) + 1)) < v3 then (if v5 = 0 then g_X9_restGoes_115 k ((2 * v2) + 1) σ else g_X9_restGoes_115 k (2 * v2) σ) else some ((), σ)) else none) else none)
set_option maxRecDepth 100000 in
set_option maxHeartbeats 4000000 in
theorem rk_X9_restGoes_80 {l : Launch} {cx : CX} (hA : AD cx)  (k : Nat) (hk : am_k 9 k = (2, 14, 0))  (Q : Unit → AS → Prop) (v2 : Int32) (v3 : Int32) (v5 : Int32) (σ : AS) (w : wpO (g_X9_restGoes_80 k v2 v3 v5 σ) Q) : RJ l cx 106 RX9 cX9_restGoes 7 none 80 [(0, .inr (.inr (9, 0, 0))), (1, .inr (.inr (9, 0, k + 1))), (2, .inl v2), (3, .inl v3), (5, .inl v5)] [] σ (QV Q) := by
  unfold g_X9_restGoes_80 at w
  refine R_aload_n dX9_restGoes_80 rfl 1 rfl ?_
  refine R_iconst (v := 2) dX9_restGoes_81 (by decide) ?_
  refine R_iload_n dX9_restGoes_82 rfl 2 rfl ?_
  refine R_imul dX9_restGoes_83 ?_
  obtain ⟨b9, w⟩ := wp_chk w
  refine R_iald hk oz9_0 b9 dX9_restGoes_84 ?_
  refine R_aload_n dX9_restGoes_85 rfl 1 rfl ?_
  refine R_iconst (v := 2) dX9_restGoes_86 (by decide) ?_
  refine R_iload_n dX9_restGoes_87 rfl 2 rfl ?_
  refine R_imul dX9_restGoes_88 ?_
  refine R_iconst (v := 1) dX9_restGoes_89 (by decide) ?_
  refine R_iadd dX9_restGoes_90 ?_
  obtain ⟨b10, w⟩ := wp_chk w
  refine R_iald hk oz9_0 b10 dX9_restGoes_91 ?_
  refine R_iadd dX9_restGoes_92 ?_
  refine R_iload_n dX9_restGoes_93 rfl 3 rfl ?_
  refine R_icmp_ge (tgt := 118) dX9_restGoes_94 (by decide) (fun c11 => ?_) (fun c11 => ?_)
  · have w := wp_f c11 w
    exact R_vreturn dX9_restGoes_118 rfl ⟨rfl, wp_some w⟩
  · have w := wp_t c11 w
    refine R_aload_n dX9_restGoes_97 rfl 0 rfl ?_
    refine R_aload_n dX9_restGoes_98 rfl 1 rfl ?_
    refine R_iload dX9_restGoes_99 4 rfl ?_
    refine R_if_eq (tgt := 110) dX9_restGoes_101 (by decide) (fun c12 => ?_) (fun c12 => ?_)
    · have w := wp_t c12 w
      refine R_iconst (v := 2) dX9_restGoes_110 (by decide) ?_
      refine R_iload_n dX9_restGoes_111 rfl 2 rfl ?_
      refine R_imul dX9_restGoes_112 ?_
      refine R_iconst (v := 1) dX9_restGoes_113 (by decide) ?_
      refine R_iadd dX9_restGoes_114 ?_
      refine R_sub [] rfl ?_
      exact rk_X9_restGoes_115 hA k hk _ ((2 * v2) + 1) σ w
    · have w := wp_f c12 w
      refine R_iconst (v := 2) dX9_restGoes_104 (by decide) ?_
      refine R_iload_n dX9_restGoes_105 rfl 2 rfl ?_
      refine R_imul dX9_restGoes_106 ?_
      refine R_goto (tgt := 115) dX9_restGoes_107 (by decide) ?_
      refine R_sub [] rfl ?_
      exact rk_X9_restGoes_115 hA k hk _ (2 * v2) σ w
def g_X9_restGoes_70  (k : Nat)  (v2 : Int32) (v3 : Int32) (v5 : Int32) (v6 : Int32) (σ : AS) : Option (Unit × AS) := (if v5 = 0 then (if v6 = 0 then some ((), σ) else g_X9_restGoes_80 k v2 v3 v5 σ) else g_X9_restGoes_80 k v2 v3 v5 σ)
set_option maxRecDepth 100000 in
set_option maxHeartbeats 4000000 in
theorem rk_X9_restGoes_70 {l : Launch} {cx : CX} (hA : AD cx)  (k : Nat) (hk : am_k 9 k = (2, 14, 0))  (Q : Unit → AS → Prop) (v2 : Int32) (v3 : Int32) (v5 : Int32) (v6 : Int32) (σ : AS) (w : wpO (g_X9_restGoes_70 k v2 v3 v5 v6 σ) Q) : RJ l cx 106 RX9 cX9_restGoes 7 none 70 [(0, .inr (.inr (9, 0, 0))), (1, .inr (.inr (9, 0, k + 1))), (2, .inl v2), (3, .inl v3), (5, .inl v5), (6, .inl v6)] [] σ (QV Q) := by
  unfold g_X9_restGoes_70 at w
  refine R_iload dX9_restGoes_70 4 rfl ?_
  refine R_if_ne (tgt := 80) dX9_restGoes_72 (by decide) (fun c8 => ?_) (fun c8 => ?_)
  · have w := wp_f c8 w
    refine R_sub [0, 1, 2, 3, 4] rfl ?_
    exact rk_X9_restGoes_80 hA k hk _ v2 v3 v5 σ w
  · have w := wp_t c8 w
    refine R_iload dX9_restGoes_75 5 rfl ?_
    refine R_if_eq (tgt := 118) dX9_restGoes_77 (by decide) (fun c14 => ?_) (fun c14 => ?_)
    · have w := wp_t c14 w
      exact R_vreturn dX9_restGoes_118 rfl ⟨rfl, wp_some w⟩
    · have w := wp_f c14 w
      refine R_sub [0, 1, 2, 3, 4] rfl ?_
      exact rk_X9_restGoes_80 hA k hk _ v2 v3 v5 σ w
def g_X9_restGoes_48  (k : Nat)  (v2 : Int32) (v3 : Int32) (v4 : Int32) (v5 : Int32) (v6 : Int32) (σ : AS) : Option (Unit × AS) := (if v5 = 0 then g_X9_restGoes_70 k v2 v3 v5 v6 σ else (if v6 = 0 then g_X9_restGoes_70 k v2 v3 v5 v6 σ else (bnd (g_X9_pushes k v2 v3 v4 σ) fun _ σ16 => some ((), σ16))))
set_option maxRecDepth 100000 in
set_option maxHeartbeats 4000000 in
theorem rk_X9_restGoes_48 {l : Launch} {cx : CX} (hA : AD cx)  (k : Nat) (hk : am_k 9 k = (2, 14, 0))  (Q : Unit → AS → Prop) (v2 : Int32) (v3 : Int32) (v4 : Int32) (v5 : Int32) (v6 : Int32) (σ : AS) (w : wpO (g_X9_restGoes_48 k v2 v3 v4 v5 v6 σ) Q) : RJ l cx 106 RX9 cX9_restGoes 7 none 48 [(0, .inr (.inr (9, 0, 0))), (1, .inr (.inr (9, 0, k + 1))), (2, .inl v2), (3, .inl v3), (4, .inl v4), (5, .inl v5), (6, .inl v6)] [] σ (QV Q) := by
  unfold g_X9_restGoes_48 at w
  refine R_iload dX9_restGoes_48 5 rfl ?_
  refine R_if_eq (tgt := 70) dX9_restGoes_50 (by decide) (fun c7 => ?_) (fun c7 => ?_)
  · have w := wp_t c7 w
    refine R_sub [0, 1, 2, 3, 5, 6] rfl ?_
    exact rk_X9_restGoes_70 hA k hk _ v2 v3 v5 v6 σ w
  · have w := wp_f c7 w
    refine R_iload dX9_restGoes_53 6 rfl ?_
    refine R_if_eq (tgt := 70) dX9_restGoes_55 (by decide) (fun c15 => ?_) (fun c15 => ?_)
    · have w := wp_t c15 w
      refine R_sub [0, 1, 2, 3, 5, 6] rfl ?_
      exact rk_X9_restGoes_70 hA k hk _ v2 v3 v5 v6 σ w
    · have w := wp_f c15 w
      refine R_aload_n dX9_restGoes_58 rfl 0 rfl ?_
      refine R_aload_n dX9_restGoes_59 rfl 1 rfl ?_
      refine R_iload_n dX9_restGoes_60 rfl 2 rfl ?_
      refine R_iload_n dX9_restGoes_61 rfl 3 rfl ?_
      refine R_iload dX9_restGoes_62 4 rfl ?_
      refine R_callVV (As := [.inr (.inr (9, 0, k + 1)), .inl v2, .inl v3, .inl v4]) acl9 rfl oz9_0 mi_X9_pushes ml_RX9_254 rfl (Nat.le_of_ble_eq_true rfl) (by decide) dX9_restGoes_64 (ct_X9_pushes hA k hk v2 v3 v4 σ _ (wp_bnd w)) (fun σ16 w => ?_)
      refine R_goto (tgt := 118) dX9_restGoes_67 (by decide) ?_
      exact R_vreturn dX9_restGoes_118 rfl ⟨rfl, wp_some w⟩
def g_X9_restGoes_33  (k : Nat)  (v2 : Int32) (v3 : Int32) (v4 : Int32) (v5 : Int32) (v6 : Int32) (σ : AS) : Option (Unit × AS) := (if v6 = 0 then (bnd (g_X9_leaves k ((2 * v2) + 1) σ) fun _ σ17 => g_X9_restGoes_48 k v2 v3 v4 v5 v6 σ17) else g_X9_restGoes_48 k v2 v3 v4 v5 v6 σ)
set_option maxRecDepth 100000 in
set_option maxHeartbeats 4000000 in
theorem rk_X9_restGoes_33 {l : Launch} {cx : CX} (hA : AD cx)  (k : Nat) (hk : am_k 9 k = (2, 14, 0))  (Q : Unit → AS → Prop) (v2 : Int32) (v3 : Int32) (v4 : Int32) (v5 : Int32) (v6 : Int32) (σ : AS) (w : wpO (g_X9_restGoes_33 k v2 v3 v4 v5 v6 σ) Q) : RJ l cx 106 RX9 cX9_restGoes 7 none 33 [(0, .inr (.inr (9, 0, 0))), (1, .inr (.inr (9, 0, k + 1))), (2, .inl v2), (3, .inl v3), (4, .inl v4), (5, .inl v5), (6, .inl v6)] [] σ (QV Q) := by
  unfold g_X9_restGoes_33 at w
  refine R_iload dX9_restGoes_33 6 rfl ?_
  refine R_if_ne (tgt := 48) dX9_restGoes_35 (by decide) (fun c6 => ?_) (fun c6 => ?_)
  · have w := wp_f c6 w
    refine R_sub [0, 1, 2, 3, 4, 5, 6] rfl ?_
    exact rk_X9_restGoes_48 hA k hk _ v2 v3 v4 v5 v6 σ w
  · have w := wp_t c6 w
    refine R_aload_n dX9_restGoes_38 rfl 0 rfl ?_
    refine R_aload_n dX9_restGoes_39 rfl 1 rfl ?_
    refine R_iconst (v := 2) dX9_restGoes_40 (by decide) ?_
    refine R_iload_n dX9_restGoes_41 rfl 2 rfl ?_
    refine R_imul dX9_restGoes_42 ?_
    refine R_iconst (v := 1) dX9_restGoes_43 (by decide) ?_
    refine R_iadd dX9_restGoes_44 ?_
    refine R_callVV (As := [.inr (.inr (9, 0, k + 1)), .inl ((2 * v2) + 1)]) acl9 rfl oz9_0 mi_X9_leaves ml_RX9_251 rfl (Nat.le_of_ble_eq_true rfl) (by decide) dX9_restGoes_45 (ct_X9_leaves hA k hk ((2 * v2) + 1) σ _ (wp_bnd w)) (fun σ17 w => ?_)
    refine R_sub [0, 1, 2, 3, 4, 5, 6] rfl ?_
    exact rk_X9_restGoes_48 hA k hk _ v2 v3 v4 v5 v6 σ17 w
def g_X9_restGoes (k : Nat) (a1 : Int32) (a2 : Int32) (a3 : Int32) (σ : AS) : Option (Unit × AS) := (bnd (g_X9_isThere a1 a3 σ) fun r1 σ2 => (bnd (g_X9_isThere (a1 + 1) a3 σ2) fun r3 σ4 => (if r1 = 0 then (bnd (g_X9_leaves k (2 * a1) σ4) fun _ σ18 => g_X9_restGoes_33 k a1 a2 a3 r1 r3 σ18) else g_X9_restGoes_33 k a1 a2 a3 r1 r3 σ4)))
set_option maxRecDepth 100000 in
set_option maxHeartbeats 4000000 in
theorem ct_X9_restGoes {l : Launch} {cx : CX} (hA : AD cx) (k : Nat) (hk : am_k 9 k = (2, 14, 0)) (a1 : Int32) (a2 : Int32) (a3 : Int32) (σ : AS) (Q : Unit → AS → Prop) (w : wpO (g_X9_restGoes k a1 a2 a3 σ) Q) : AMet l cx 106 yX9_restGoes cX9_restGoes 7 none [.inr (.inr (9, 0, 0)), .inr (.inr (9, 0, k + 1)), .inl a1, .inl a2, .inl a3] σ (QV Q) := by
  unfold g_X9_restGoes at w
  refine AMet.of (own := RX9) (by decide) rfl hA (Nat.le_of_ble_eq_true rfl) ?_
  show RJ l cx 106 RX9 cX9_restGoes 7 none 0 [(0, .inr (.inr (9, 0, 0))), (1, .inr (.inr (9, 0, k + 1))), (2, .inl a1), (3, .inl a2), (4, .inl a3)] [] σ _
  refine R_aload_n dX9_restGoes_0 rfl 0 rfl ?_
  refine R_iload_n dX9_restGoes_1 rfl 2 rfl ?_
  refine R_iload dX9_restGoes_2 4 rfl ?_
  refine R_callVI (As := [.inl a1, .inl a3]) acl9 rfl oz9_0 mi_X9_isThere ml_RX9_247 rfl (Nat.le_of_ble_eq_true rfl) (by decide) dX9_restGoes_4 (ct_X9_isThere hA a1 a3 σ _ (wp_bnd w)) (fun r1 σ2 w => ?_)
  refine R_istore (lv' := [(5, .inl r1), (0, .inr (.inr (9, 0, 0))), (1, .inr (.inr (9, 0, k + 1))), (2, .inl a1), (3, .inl a2), (4, .inl a3)]) dX9_restGoes_7 (by decide) rfl ?_
  refine R_aload_n dX9_restGoes_9 rfl 1 rfl ?_
  refine R_iload_n dX9_restGoes_10 rfl 3 rfl ?_
  refine R_iconst (v := 1) dX9_restGoes_11 (by decide) ?_
  refine R_iadd dX9_restGoes_12 ?_
  refine R_iload dX9_restGoes_13 5 rfl ?_
  refine R_callVI (As := [.inl (a1 + 1), .inl a3]) acl9 rfl oz9_0 mi_X9_isThere ml_RX9_247 rfl (Nat.le_of_ble_eq_true rfl) (by decide) dX9_restGoes_15 (ct_X9_isThere hA (a1 + 1) a3 σ2 _ (wp_bnd w)) (fun r3 σ4 w => ?_)
  refine R_istore (lv' := [(6, .inl r3), (5, .inl r1), (0, .inr (.inr (9, 0, 0))), (1, .inr (.inr (9, 0, k + 1))), (2, .inl a1), (3, .inl a2), (4, .inl a3)]) dX9_restGoes_18 (by decide) rfl ?_
  refine R_iload dX9_restGoes_20 1 rfl ?_
  refine R_if_ne (tgt := 33) dX9_restGoes_22 (by decide) (fun c5 => ?_) (fun c5 => ?_)
  · have w := wp_f c5 w
    refine R_sub [2, 3, 4, 5, 6, 1, 0] rfl ?_
    exact rk_X9_restGoes_33 hA k hk _ a1 a2 a3 r1 r3 σ4 w
  · have w := wp_t c5 w
    refine R_aload_n dX9_restGoes_25 rfl 2 rfl ?_
    refine R_aload_n dX9_restGoes_26 rfl 3 rfl ?_
    refine R_iconst (v := 2) dX9_restGoes_27 (by decide) ?_
    refine R_iload_n dX9_restGoes_28 rfl 4 rfl ?_
    refine R_imul dX9_restGoes_29 ?_
    refine R_callVV (As := [.inr (.inr (9, 0, k + 1)), .inl (2 * a1)]) acl9 rfl oz9_0 mi_X9_leaves ml_RX9_251 rfl (Nat.le_of_ble_eq_true rfl) (by decide) dX9_restGoes_30 (ct_X9_leaves hA k hk (2 * a1) σ4 _ (wp_bnd w)) (fun σ18 w => ?_)
    refine R_sub [2, 3, 4, 5, 6, 1, 0] rfl ?_
    exact rk_X9_restGoes_33 hA k hk _ a1 a2 a3 r1 r3 σ18 w
def g_X9_hourGoes_100  (k : Nat)  : Nat → Int32 → Int32 → AS → Option (Unit × AS)
  | 0, _, _, _ => none
  | f0 + 1, v2, v5, σ => (if v5 < gF σ 9 0 6 then (if inb v5 8 then (if inb (gA σ 9 0 14 v5) 8 then (bnd (g_X9_comfortIn k v5 v2 σ) fun r10 σ11 => (lt (sA σ11 9 0 30 (gA σ 9 0 14 v5) ((gA σ 9 0 30 (gA σ 9 0 14 v5)) + r10)) fun σ12 => (g_X9_hourGoes_100 k f0) v2 (v5 + 1) σ12)) else none) else none) else some ((), σ))
set_option maxRecDepth 100000 in
set_option maxHeartbeats 4000000 in
theorem rk_X9_hourGoes_100 {l : Launch} {cx : CX} (hA : AD cx)  (k : Nat) (hk : am_k 9 k = (2, 14, 0))  (Q : Unit → AS → Prop) : ∀ (f0 : Nat) (v2 : Int32) (v5 : Int32) (σ : AS), wpO (g_X9_hourGoes_100 k f0 v2 v5 σ) Q → RJ l cx 107 RX9 cX9_hourGoes 6 none 100 [(0, .inr (.inr (9, 0, 0))), (1, .inr (.inr (9, 0, k + 1))), (2, .inl v2), (5, .inl v5)] [] σ (QV Q) := by
  intro f0
  induction f0 with
  | zero => intro v2 v5 σ w; exact wp_no w
  | succ f0 ih =>
    intro v2 v5 σ w
    rw [g_X9_hourGoes_100] at w
    refine R_iload dX9_hourGoes_100 3 rfl ?_
    refine R_aload_n dX9_hourGoes_102 rfl 0 rfl ?_
    refine R_getfI (k := 6) acl9 oz9_0 (by decide) fl_RX9_111 dX9_hourGoes_103 rfl ?_
    refine R_icmp_ge (tgt := 138) dX9_hourGoes_106 (by decide) (fun c7 => ?_) (fun c7 => ?_)
    · have w := wp_f c7 w
      exact R_vreturn dX9_hourGoes_138 rfl ⟨rfl, wp_some w⟩
    · have w := wp_t c7 w
      refine R_aload_n dX9_hourGoes_109 rfl 0 rfl ?_
      refine R_getfA (k := 30) acl9 oz9_0 (by decide) fl_RX9_55 dX9_hourGoes_110 rfl ?_
      refine R_aload_n dX9_hourGoes_113 rfl 0 rfl ?_
      refine R_getfA (k := 14) acl9 oz9_0 (by decide) fl_RX9_37 dX9_hourGoes_114 rfl ?_
      refine R_iload dX9_hourGoes_117 3 rfl ?_
      obtain ⟨b8, w⟩ := wp_chk w
      refine R_iald rfl oz9_0 b8 dX9_hourGoes_119 ?_
      refine R_dup2 dX9_hourGoes_120 rfl rfl ?_
      obtain ⟨b9, w⟩ := wp_chk w
      refine R_iald rfl oz9_0 b9 dX9_hourGoes_121 ?_
      refine R_aload_n dX9_hourGoes_122 rfl 0 rfl ?_
      refine R_aload_n dX9_hourGoes_123 rfl 1 rfl ?_
      refine R_iload dX9_hourGoes_124 3 rfl ?_
      refine R_iload_n dX9_hourGoes_126 rfl 2 rfl ?_
      refine R_callVI (As := [.inr (.inr (9, 0, k + 1)), .inl v5, .inl v2]) acl9 rfl oz9_0 mi_X9_comfortIn ml_RX9_261 rfl (Nat.le_of_ble_eq_true rfl) (by decide) dX9_hourGoes_127 (ct_X9_comfortIn hA k hk v5 v2 σ _ (wp_bnd w)) (fun r10 σ11 w => ?_)
      refine R_iadd dX9_hourGoes_130 ?_
      refine R_iast rfl oz9_0 b9 dX9_hourGoes_131 ?_
      refine R_nameS w ?_; clear w; intro σ12 w
      refine R_iinc (v := v5 + 1) (lv' := [(5, .inl (v5 + 1)), (0, .inr (.inr (9, 0, 0))), (1, .inr (.inr (9, 0, k + 1))), (2, .inl v2)]) dX9_hourGoes_132 3 rfl rfl (by decide) rfl ?_
      refine R_goto (tgt := 100) dX9_hourGoes_135 (by decide) ?_
      refine R_sub [1, 2, 3, 0] rfl ?_
      exact ih v2 (v5 + 1) σ12 w
def g_X9_hourGoes_87  (k : Nat)  (k56 : Int32 → Int32 → Int32 → Int32 → AS → Option (Unit × AS)) (v2 : Int32) (v3 : Int32) (v4 : Int32) (v5 : Int32) (s0 : Int32) (s1 : Int32) (σ : AS) : Option (Unit × AS) := (bnd (g_X9_restGoes k s1 s0 v2 σ) fun _ σ15 => k56 v2 v3 v4 (v5 + 1) σ15)
set_option maxRecDepth 100000 in
set_option maxHeartbeats 4000000 in
theorem rk_X9_hourGoes_87 {l : Launch} {cx : CX} (hA : AD cx)  (k : Nat) (hk : am_k 9 k = (2, 14, 0))  (Q : Unit → AS → Prop) (k56 : Int32 → Int32 → Int32 → Int32 → AS → Option (Unit × AS)) (hk56 : ∀ (v2 : Int32) (v3 : Int32) (v4 : Int32) (v5 : Int32) (σ : AS), wpO (k56 v2 v3 v4 v5 σ) Q → RJ l cx 107 RX9 cX9_hourGoes 6 none 56 [(0, .inr (.inr (9, 0, 0))), (1, .inr (.inr (9, 0, k + 1))), (2, .inl v2), (3, .inl v3), (4, .inl v4), (5, .inl v5)] [] σ (QV Q)) (v2 : Int32) (v3 : Int32) (v4 : Int32) (v5 : Int32) (s0 : Int32) (s1 : Int32) (σ : AS) (w : wpO (g_X9_hourGoes_87 k k56 v2 v3 v4 v5 s0 s1 σ) Q) : RJ l cx 107 RX9 cX9_hourGoes 6 none 87 [(0, .inr (.inr (9, 0, 0))), (1, .inr (.inr (9, 0, k + 1))), (2, .inl v2), (3, .inl v3), (4, .inl v4), (5, .inl v5)] [.inl s0, .inl s1, .inr (.inr (9, 0, k + 1)), .inr (.inr (9, 0, 0))] σ (QV Q) := by
  unfold g_X9_hourGoes_87 at w
  refine R_iload_n dX9_hourGoes_87 rfl 2 rfl ?_
  refine R_callVV (As := [.inr (.inr (9, 0, k + 1)), .inl s1, .inl s0, .inl v2]) acl9 rfl oz9_0 mi_X9_restGoes ml_RX9_258 rfl (Nat.le_of_ble_eq_true rfl) (by decide) dX9_hourGoes_88 (ct_X9_restGoes hA k hk s1 s0 v2 σ _ (wp_bnd w)) (fun σ15 w => ?_)
  refine R_iinc (v := v5 + 1) (lv' := [(5, .inl (v5 + 1)), (0, .inr (.inr (9, 0, 0))), (1, .inr (.inr (9, 0, k + 1))), (2, .inl v2), (3, .inl v3), (4, .inl v4)]) dX9_hourGoes_91 5 rfl rfl (by decide) rfl ?_
  refine R_goto (tgt := 56) dX9_hourGoes_94 (by decide) ?_
  refine R_sub [1, 2, 3, 4, 5, 0] rfl ?_
  exact hk56 v2 v3 v4 (v5 + 1) σ15 w
def g_X9_hourGoes_56  (k : Nat)  : Nat → Int32 → Int32 → Int32 → Int32 → AS → Option (Unit × AS)
  | 0, _, _, _, _, _ => none
  | f0 + 1, v2, v3, v4, v5, σ => (bnd (g_X9_rests σ) fun r4 σ5 => (if v5 < r4 then (if v5 = v3 then g_X9_hourGoes_87 k (g_X9_hourGoes_56 k f0) v2 v3 v4 v5 v4 v5 σ5 else (if inb v5 7 then g_X9_hourGoes_87 k (g_X9_hourGoes_56 k f0) v2 v3 v4 v5 (gA σ5 9 0 7 v5) v5 σ5 else none)) else g_X9_hourGoes_100 k 400 v2 0 σ5))
set_option maxRecDepth 100000 in
set_option maxHeartbeats 4000000 in
theorem rk_X9_hourGoes_56 {l : Launch} {cx : CX} (hA : AD cx)  (k : Nat) (hk : am_k 9 k = (2, 14, 0))  (Q : Unit → AS → Prop) : ∀ (f0 : Nat) (v2 : Int32) (v3 : Int32) (v4 : Int32) (v5 : Int32) (σ : AS), wpO (g_X9_hourGoes_56 k f0 v2 v3 v4 v5 σ) Q → RJ l cx 107 RX9 cX9_hourGoes 6 none 56 [(0, .inr (.inr (9, 0, 0))), (1, .inr (.inr (9, 0, k + 1))), (2, .inl v2), (3, .inl v3), (4, .inl v4), (5, .inl v5)] [] σ (QV Q) := by
  intro f0
  induction f0 with
  | zero => intro v2 v3 v4 v5 σ w; exact wp_no w
  | succ f0 ih =>
    intro v2 v3 v4 v5 σ w
    rw [g_X9_hourGoes_56] at w
    refine R_iload dX9_hourGoes_56 5 rfl ?_
    refine R_aload_n dX9_hourGoes_58 rfl 0 rfl ?_
    refine R_callVI (As := []) acl9 rfl oz9_0 mi_X9_rests ml_RX9_118 rfl (Nat.le_of_ble_eq_true rfl) (by decide) dX9_hourGoes_59 (ct_X9_rests hA σ _ (wp_bnd w)) (fun r4 σ5 w => ?_)
    refine R_icmp_ge (tgt := 97) dX9_hourGoes_62 (by decide) (fun c6 => ?_) (fun c6 => ?_)
    · have w := wp_f c6 w
      refine R_iconst (v := 0) dX9_hourGoes_97 (by decide) ?_
      refine R_istore (lv' := [(5, .inl 0), (0, .inr (.inr (9, 0, 0))), (1, .inr (.inr (9, 0, k + 1))), (2, .inl v2), (3, .inl v3), (4, .inl v4)]) dX9_hourGoes_98 (by decide) rfl ?_
      refine R_sub [1, 2, 3, 0] rfl ?_
      exact rk_X9_hourGoes_100 hA k hk _ 400 v2 0 σ5 w
    · have w := wp_t c6 w
      refine R_aload_n dX9_hourGoes_65 rfl 0 rfl ?_
      refine R_aload_n dX9_hourGoes_66 rfl 1 rfl ?_
      refine R_iload dX9_hourGoes_67 5 rfl ?_
      refine R_iload dX9_hourGoes_69 5 rfl ?_
      refine R_iload_n dX9_hourGoes_71 rfl 3 rfl ?_
      refine R_icmp_ne (tgt := 80) dX9_hourGoes_72 (by decide) (fun c13 => ?_) (fun c13 => ?_)
      · have w := wp_f c13 w
        refine R_aload_n dX9_hourGoes_80 rfl 0 rfl ?_
        refine R_getfA (k := 7) acl9 oz9_0 (by decide) fl_RX9_22 dX9_hourGoes_81 rfl ?_
        refine R_iload dX9_hourGoes_84 5 rfl ?_
        obtain ⟨b14, w⟩ := wp_chk w
        refine R_iald rfl oz9_0 b14 dX9_hourGoes_86 ?_
        refine R_sub [0, 1, 2, 3, 4, 5] rfl ?_
        exact rk_X9_hourGoes_87 hA k hk _ (g_X9_hourGoes_56 k f0) ih v2 v3 v4 v5 (gA σ5 9 0 7 v5) v5 σ5 w
      · have w := wp_t c13 w
        refine R_iload dX9_hourGoes_75 4 rfl ?_
        refine R_goto (tgt := 87) dX9_hourGoes_77 (by decide) ?_
        refine R_sub [0, 1, 2, 3, 4, 5] rfl ?_
        exact rk_X9_hourGoes_87 hA k hk _ (g_X9_hourGoes_56 k f0) ih v2 v3 v4 v5 v4 v5 σ5 w
def g_X9_hourGoes_32  (k : Nat)  : Nat → Int32 → Int32 → Int32 → Int32 → AS → Option (Unit × AS)
  | 0, _, _, _, _, _ => none
  | f0 + 1, v2, v3, v4, v5, σ => (if v5 < 8 then (if inb v5 8 then (lt (sA σ 9 0 29 v5 0) fun σ17 => (g_X9_hourGoes_32 k f0) v2 v3 v4 (v5 + 1) σ17) else none) else g_X9_hourGoes_56 k 400 v2 v3 v4 0 σ)
set_option maxRecDepth 100000 in
set_option maxHeartbeats 4000000 in
theorem rk_X9_hourGoes_32 {l : Launch} {cx : CX} (hA : AD cx)  (k : Nat) (hk : am_k 9 k = (2, 14, 0))  (Q : Unit → AS → Prop) : ∀ (f0 : Nat) (v2 : Int32) (v3 : Int32) (v4 : Int32) (v5 : Int32) (σ : AS), wpO (g_X9_hourGoes_32 k f0 v2 v3 v4 v5 σ) Q → RJ l cx 107 RX9 cX9_hourGoes 6 none 32 [(0, .inr (.inr (9, 0, 0))), (1, .inr (.inr (9, 0, k + 1))), (2, .inl v2), (3, .inl v3), (4, .inl v4), (5, .inl v5)] [] σ (QV Q) := by
  intro f0
  induction f0 with
  | zero => intro v2 v3 v4 v5 σ w; exact wp_no w
  | succ f0 ih =>
    intro v2 v3 v4 v5 σ w
    rw [g_X9_hourGoes_32] at w
    refine R_iload dX9_hourGoes_32 5 rfl ?_
    refine R_bipush (v := 8) dX9_hourGoes_34 (by decide) ?_
    refine R_icmp_ge (tgt := 53) dX9_hourGoes_36 (by decide) (fun c3 => ?_) (fun c3 => ?_)
    · have w := wp_f c3 w
      refine R_iconst (v := 0) dX9_hourGoes_53 (by decide) ?_
      refine R_istore (lv' := [(5, .inl 0), (0, .inr (.inr (9, 0, 0))), (1, .inr (.inr (9, 0, k + 1))), (2, .inl v2), (3, .inl v3), (4, .inl v4)]) dX9_hourGoes_54 (by decide) rfl ?_
      refine R_sub [1, 2, 3, 4, 5, 0] rfl ?_
      exact rk_X9_hourGoes_56 hA k hk _ 400 v2 v3 v4 0 σ w
    · have w := wp_t c3 w
      refine R_aload_n dX9_hourGoes_39 rfl 0 rfl ?_
      refine R_getfA (k := 29) acl9 oz9_0 (by decide) fl_RX9_52 dX9_hourGoes_40 rfl ?_
      refine R_iload dX9_hourGoes_43 5 rfl ?_
      refine R_iconst (v := 0) dX9_hourGoes_45 (by decide) ?_
      obtain ⟨b16, w⟩ := wp_chk w
      refine R_iast rfl oz9_0 b16 dX9_hourGoes_46 ?_
      refine R_nameS w ?_; clear w; intro σ17 w
      refine R_iinc (v := v5 + 1) (lv' := [(5, .inl (v5 + 1)), (0, .inr (.inr (9, 0, 0))), (1, .inr (.inr (9, 0, k + 1))), (2, .inl v2), (3, .inl v3), (4, .inl v4)]) dX9_hourGoes_47 5 rfl rfl (by decide) rfl ?_
      refine R_goto (tgt := 32) dX9_hourGoes_50 (by decide) ?_
      refine R_sub [1, 2, 3, 4, 5, 0] rfl ?_
      exact ih v2 v3 v4 (v5 + 1) σ17 w
def g_X9_hourGoes_8  (k : Nat)  : Nat → Int32 → Int32 → Int32 → Int32 → AS → Option (Unit × AS)
  | 0, _, _, _, _, _ => none
  | f0 + 1, v2, v3, v4, v5, σ => (if v5 < 7 then (if inb v5 7 then (lt (sA σ 9 0 28 v5 0) fun σ19 => (g_X9_hourGoes_8 k f0) v2 v3 v4 (v5 + 1) σ19) else none) else g_X9_hourGoes_32 k 400 v2 v3 v4 0 σ)
set_option maxRecDepth 100000 in
set_option maxHeartbeats 4000000 in
theorem rk_X9_hourGoes_8 {l : Launch} {cx : CX} (hA : AD cx)  (k : Nat) (hk : am_k 9 k = (2, 14, 0))  (Q : Unit → AS → Prop) : ∀ (f0 : Nat) (v2 : Int32) (v3 : Int32) (v4 : Int32) (v5 : Int32) (σ : AS), wpO (g_X9_hourGoes_8 k f0 v2 v3 v4 v5 σ) Q → RJ l cx 107 RX9 cX9_hourGoes 6 none 8 [(0, .inr (.inr (9, 0, 0))), (1, .inr (.inr (9, 0, k + 1))), (2, .inl v2), (3, .inl v3), (4, .inl v4), (5, .inl v5)] [] σ (QV Q) := by
  intro f0
  induction f0 with
  | zero => intro v2 v3 v4 v5 σ w; exact wp_no w
  | succ f0 ih =>
    intro v2 v3 v4 v5 σ w
    rw [g_X9_hourGoes_8] at w
    refine R_iload dX9_hourGoes_8 5 rfl ?_
    refine R_bipush (v := 7) dX9_hourGoes_10 (by decide) ?_
    refine R_icmp_ge (tgt := 29) dX9_hourGoes_12 (by decide) (fun c2 => ?_) (fun c2 => ?_)
    · have w := wp_f c2 w
      refine R_iconst (v := 0) dX9_hourGoes_29 (by decide) ?_
      refine R_istore (lv' := [(5, .inl 0), (0, .inr (.inr (9, 0, 0))), (1, .inr (.inr (9, 0, k + 1))), (2, .inl v2), (3, .inl v3), (4, .inl v4)]) dX9_hourGoes_30 (by decide) rfl ?_
      refine R_sub [1, 2, 3, 4, 5, 0] rfl ?_
      exact rk_X9_hourGoes_32 hA k hk _ 400 v2 v3 v4 0 σ w
    · have w := wp_t c2 w
      refine R_aload_n dX9_hourGoes_15 rfl 0 rfl ?_
      refine R_getfA (k := 28) acl9 oz9_0 (by decide) fl_RX9_49 dX9_hourGoes_16 rfl ?_
      refine R_iload dX9_hourGoes_19 5 rfl ?_
      refine R_iconst (v := 0) dX9_hourGoes_21 (by decide) ?_
      obtain ⟨b18, w⟩ := wp_chk w
      refine R_iast rfl oz9_0 b18 dX9_hourGoes_22 ?_
      refine R_nameS w ?_; clear w; intro σ19 w
      refine R_iinc (v := v5 + 1) (lv' := [(5, .inl (v5 + 1)), (0, .inr (.inr (9, 0, 0))), (1, .inr (.inr (9, 0, k + 1))), (2, .inl v2), (3, .inl v3), (4, .inl v4)]) dX9_hourGoes_23 5 rfl rfl (by decide) rfl ?_
      refine R_goto (tgt := 8) dX9_hourGoes_26 (by decide) ?_
      refine R_sub [1, 2, 3, 4, 5, 0] rfl ?_
      exact ih v2 v3 v4 (v5 + 1) σ19 w
def g_X9_hourGoes (k : Nat) (a1 : Int32) (a2 : Int32) (a3 : Int32) (σ : AS) : Option (Unit × AS) := (lt (sF σ 9 0 27 0) fun σ1 => g_X9_hourGoes_8 k 400 a1 a2 a3 0 σ1)
set_option maxRecDepth 100000 in
set_option maxHeartbeats 4000000 in
theorem ct_X9_hourGoes {l : Launch} {cx : CX} (hA : AD cx) (k : Nat) (hk : am_k 9 k = (2, 14, 0)) (a1 : Int32) (a2 : Int32) (a3 : Int32) (σ : AS) (Q : Unit → AS → Prop) (w : wpO (g_X9_hourGoes k a1 a2 a3 σ) Q) : AMet l cx 107 yX9_hourGoes cX9_hourGoes 6 none [.inr (.inr (9, 0, 0)), .inr (.inr (9, 0, k + 1)), .inl a1, .inl a2, .inl a3] σ (QV Q) := by
  unfold g_X9_hourGoes at w
  refine AMet.of (own := RX9) (by decide) rfl hA (Nat.le_of_ble_eq_true rfl) ?_
  show RJ l cx 107 RX9 cX9_hourGoes 6 none 0 [(0, .inr (.inr (9, 0, 0))), (1, .inr (.inr (9, 0, k + 1))), (2, .inl a1), (3, .inl a2), (4, .inl a3)] [] σ _
  refine R_aload_n dX9_hourGoes_0 rfl 0 rfl ?_
  refine R_iconst (v := 0) dX9_hourGoes_1 (by decide) ?_
  refine R_putf (k := 27) (ty := .boolean) acl9 oz9_0 (by decide) fl_RX9_233 rfl (tyX9_ok 27 (by decide)) (Or.inr ⟨rfl, by decide⟩) dX9_hourGoes_2 rfl ?_
  refine R_nameS w ?_; clear w; intro σ1 w
  refine R_iconst (v := 0) dX9_hourGoes_5 (by decide) ?_
  refine R_istore (lv' := [(5, .inl 0), (0, .inr (.inr (9, 0, 0))), (1, .inr (.inr (9, 0, k + 1))), (2, .inl a1), (3, .inl a2), (4, .inl a3)]) dX9_hourGoes_6 (by decide) rfl ?_
  refine R_sub [1, 2, 3, 4, 5, 0] rfl ?_
  exact rk_X9_hourGoes_8 hA k hk _ 400 a1 a2 a3 0 σ1 w
def g_X9_starts_12    : Nat → Int32 → AS → Option (Unit × AS)
  | 0, _, _ => none
  | f0 + 1, v2, σ => (if v2 < 8 then (if inb v2 8 then (lt (sA σ 9 0 30 v2 0) fun σ5 => (g_X9_starts_12 f0) (v2 + 1) σ5) else none) else some ((), σ))
set_option maxRecDepth 100000 in
set_option maxHeartbeats 4000000 in
theorem rk_X9_starts_12 {l : Launch} {cx : CX} (hA : AD cx)    (Q : Unit → AS → Prop) : ∀ (f0 : Nat) (v2 : Int32) (σ : AS), wpO (g_X9_starts_12 f0 v2 σ) Q → RJ l cx 0 RX9 cX9_starts 3 none 12 [(0, .inr (.inr (9, 0, 0))), (2, .inl v2)] [] σ (QV Q) := by
  intro f0
  induction f0 with
  | zero => intro v2 σ w; exact wp_no w
  | succ f0 ih =>
    intro v2 σ w
    rw [g_X9_starts_12] at w
    refine R_iload_n dX9_starts_12 rfl 1 rfl ?_
    refine R_bipush (v := 8) dX9_starts_13 (by decide) ?_
    refine R_icmp_ge (tgt := 31) dX9_starts_15 (by decide) (fun c3 => ?_) (fun c3 => ?_)
    · have w := wp_f c3 w
      exact R_vreturn dX9_starts_31 rfl ⟨rfl, wp_some w⟩
    · have w := wp_t c3 w
      refine R_aload_n dX9_starts_18 rfl 0 rfl ?_
      refine R_getfA (k := 30) acl9 oz9_0 (by decide) fl_RX9_55 dX9_starts_19 rfl ?_
      refine R_iload_n dX9_starts_22 rfl 1 rfl ?_
      refine R_iconst (v := 0) dX9_starts_23 (by decide) ?_
      obtain ⟨b4, w⟩ := wp_chk w
      refine R_iast rfl oz9_0 b4 dX9_starts_24 ?_
      refine R_nameS w ?_; clear w; intro σ5 w
      refine R_iinc (v := v2 + 1) (lv' := [(2, .inl (v2 + 1)), (0, .inr (.inr (9, 0, 0)))]) dX9_starts_25 1 rfl rfl (by decide) rfl ?_
      refine R_goto (tgt := 12) dX9_starts_28 (by decide) ?_
      refine R_sub [1, 0] rfl ?_
      exact ih (v2 + 1) σ5 w
def g_X9_starts (a0 : Int32) (σ : AS) : Option (Unit × AS) := (lt (sF σ 9 0 25 a0) fun σ1 => (lt (sF σ1 9 0 26 0) fun σ2 => g_X9_starts_12 400 0 σ2))
set_option maxRecDepth 100000 in
set_option maxHeartbeats 4000000 in
theorem ct_X9_starts {l : Launch} {cx : CX} (hA : AD cx) (a0 : Int32) (σ : AS) (Q : Unit → AS → Prop) (w : wpO (g_X9_starts a0 σ) Q) : AMet l cx 0 yX9_starts cX9_starts 3 none [.inr (.inr (9, 0, 0)), .inl a0] σ (QV Q) := by
  unfold g_X9_starts at w
  refine AMet.of (own := RX9) (by decide) rfl hA (Nat.le_of_ble_eq_true rfl) ?_
  show RJ l cx 0 RX9 cX9_starts 3 none 0 [(0, .inr (.inr (9, 0, 0))), (1, .inl a0)] [] σ _
  refine R_aload_n dX9_starts_0 rfl 0 rfl ?_
  refine R_iload_n dX9_starts_1 rfl 1 rfl ?_
  refine R_putf (k := 25) (ty := .int) acl9 oz9_0 (by decide) fl_RX9_229 rfl (tyX9_ok 25 (by decide)) (Or.inl rfl) dX9_starts_2 rfl ?_
  refine R_nameS w ?_; clear w; intro σ1 w
  refine R_aload_n dX9_starts_5 rfl 0 rfl ?_
  refine R_iconst (v := 0) dX9_starts_6 (by decide) ?_
  refine R_putf (k := 26) (ty := .int) acl9 oz9_0 (by decide) fl_RX9_244 rfl (tyX9_ok 26 (by decide)) (Or.inl rfl) dX9_starts_7 rfl ?_
  refine R_nameS w ?_; clear w; intro σ2 w
  refine R_iconst (v := 0) dX9_starts_10 (by decide) ?_
  refine R_istore_n (lv' := [(2, .inl 0), (0, .inr (.inr (9, 0, 0))), (1, .inl a0)]) dX9_starts_11 rfl (by decide) rfl ?_
  refine R_sub [1, 0] rfl ?_
  exact rk_X9_starts_12 hA _ 400 0 σ2 w
def g_X9_thinks_7    : Nat → Int32 → AS → Option (Unit × AS)
  | 0, _, _ => none
  | f0 + 1, v2, σ => (if v2 < 14 then (if inb v2 14 then (lt (sA σ 9 0 33 v2 (gA σ 9 0 9 v2)) fun σ4 => (g_X9_thinks_7 f0) (v2 + 1) σ4) else none) else some ((), σ))
set_option maxRecDepth 100000 in
set_option maxHeartbeats 4000000 in
theorem rk_X9_thinks_7 {l : Launch} {cx : CX} (hA : AD cx)    (Q : Unit → AS → Prop) : ∀ (f0 : Nat) (v2 : Int32) (σ : AS), wpO (g_X9_thinks_7 f0 v2 σ) Q → RJ l cx 1 RX9 cX9_thinks 3 none 7 [(0, .inr (.inr (9, 0, 0))), (2, .inl v2)] [] σ (QV Q) := by
  intro f0
  induction f0 with
  | zero => intro v2 σ w; exact wp_no w
  | succ f0 ih =>
    intro v2 σ w
    rw [g_X9_thinks_7] at w
    refine R_iload_n dX9_thinks_7 rfl 1 rfl ?_
    refine R_bipush (v := 14) dX9_thinks_8 (by decide) ?_
    refine R_icmp_ge (tgt := 31) dX9_thinks_10 (by decide) (fun c2 => ?_) (fun c2 => ?_)
    · have w := wp_f c2 w
      exact R_vreturn dX9_thinks_31 rfl ⟨rfl, wp_some w⟩
    · have w := wp_t c2 w
      refine R_aload_n dX9_thinks_13 rfl 0 rfl ?_
      refine R_getfA (k := 33) acl9 oz9_0 (by decide) fl_RX9_64 dX9_thinks_14 rfl ?_
      refine R_iload_n dX9_thinks_17 rfl 1 rfl ?_
      refine R_aload_n dX9_thinks_18 rfl 0 rfl ?_
      refine R_getfA (k := 9) acl9 oz9_0 (by decide) fl_RX9_28 dX9_thinks_19 rfl ?_
      refine R_iload_n dX9_thinks_22 rfl 1 rfl ?_
      obtain ⟨b3, w⟩ := wp_chk w
      refine R_iald rfl oz9_0 b3 dX9_thinks_23 ?_
      refine R_iast rfl oz9_0 b3 dX9_thinks_24 ?_
      refine R_nameS w ?_; clear w; intro σ4 w
      refine R_iinc (v := v2 + 1) (lv' := [(2, .inl (v2 + 1)), (0, .inr (.inr (9, 0, 0)))]) dX9_thinks_25 1 rfl rfl (by decide) rfl ?_
      refine R_goto (tgt := 7) dX9_thinks_28 (by decide) ?_
      refine R_sub [1, 0] rfl ?_
      exact ih (v2 + 1) σ4 w
def g_X9_thinks (a0 : Int32) (σ : AS) : Option (Unit × AS) := (bnd (g_X9_starts a0 σ) fun _ σ1 => g_X9_thinks_7 400 0 σ1)
set_option maxRecDepth 100000 in
set_option maxHeartbeats 4000000 in
theorem ct_X9_thinks {l : Launch} {cx : CX} (hA : AD cx) (a0 : Int32) (σ : AS) (Q : Unit → AS → Prop) (w : wpO (g_X9_thinks a0 σ) Q) : AMet l cx 1 yX9_thinks cX9_thinks 3 none [.inr (.inr (9, 0, 0)), .inl a0] σ (QV Q) := by
  unfold g_X9_thinks at w
  refine AMet.of (own := RX9) (by decide) rfl hA (Nat.le_of_ble_eq_true rfl) ?_
  show RJ l cx 1 RX9 cX9_thinks 3 none 0 [(0, .inr (.inr (9, 0, 0))), (1, .inl a0)] [] σ _
  refine R_aload_n dX9_thinks_0 rfl 0 rfl ?_
  refine R_iload_n dX9_thinks_1 rfl 1 rfl ?_
  refine R_callVV (As := [.inl a0]) acl9 rfl oz9_0 mi_X9_starts ml_RX9_267 rfl (Nat.le_of_ble_eq_true rfl) (by decide) dX9_thinks_2 (ct_X9_starts hA a0 σ _ (wp_bnd w)) (fun σ1 w => ?_)
  refine R_iconst (v := 0) dX9_thinks_5 (by decide) ?_
  refine R_istore_n (lv' := [(2, .inl 0), (0, .inr (.inr (9, 0, 0))), (1, .inl a0)]) dX9_thinks_6 rfl (by decide) rfl ?_
  refine R_sub [1, 0] rfl ?_
  exact rk_X9_thinks_7 hA _ 400 0 σ1 w
def g_X9_goesOn_7    : Nat → Int32 → Int32 → AS → Option (Unit × AS)
  | 0, _, _, _ => none
  | f0 + 1, v2, v3, σ => (if v3 < v2 then (bnd (g_X9_hourGoes 33 ((gF σ 9 0 13) + v3) (-1) 0 σ) fun _ σ3 => (g_X9_goesOn_7 f0) v2 (v3 + 1) σ3) else some ((), σ))
set_option maxRecDepth 100000 in
set_option maxHeartbeats 4000000 in
theorem rk_X9_goesOn_7 {l : Launch} {cx : CX} (hA : AD cx)    (Q : Unit → AS → Prop) : ∀ (f0 : Nat) (v2 : Int32) (v3 : Int32) (σ : AS), wpO (g_X9_goesOn_7 f0 v2 v3 σ) Q → RJ l cx 108 RX9 cX9_goesOn 4 none 7 [(0, .inr (.inr (9, 0, 0))), (2, .inl v2), (3, .inl v3)] [] σ (QV Q) := by
  intro f0
  induction f0 with
  | zero => intro v2 v3 σ w; exact wp_no w
  | succ f0 ih =>
    intro v2 v3 σ w
    rw [g_X9_goesOn_7] at w
    refine R_iload_n dX9_goesOn_7 rfl 2 rfl ?_
    refine R_iload_n dX9_goesOn_8 rfl 1 rfl ?_
    refine R_icmp_ge (tgt := 34) dX9_goesOn_9 (by decide) (fun c2 => ?_) (fun c2 => ?_)
    · have w := wp_f c2 w
      exact R_vreturn dX9_goesOn_34 rfl ⟨rfl, wp_some w⟩
    · have w := wp_t c2 w
      refine R_aload_n dX9_goesOn_12 rfl 0 rfl ?_
      refine R_aload_n dX9_goesOn_13 rfl 0 rfl ?_
      refine R_getfA (k := 33) acl9 oz9_0 (by decide) fl_RX9_64 dX9_goesOn_14 rfl ?_
      refine R_aload_n dX9_goesOn_17 rfl 0 rfl ?_
      refine R_getfI (k := 13) acl9 oz9_0 (by decide) fl_RX9_127 dX9_goesOn_18 rfl ?_
      refine R_iload_n dX9_goesOn_21 rfl 2 rfl ?_
      refine R_iadd dX9_goesOn_22 ?_
      refine R_iconst (v := (-1)) dX9_goesOn_23 (by decide) ?_
      refine R_iconst (v := 0) dX9_goesOn_24 (by decide) ?_
      refine R_callVV (As := [.inr (.inr (9, 0, 33 + 1)), .inl ((gF σ 9 0 13) + v3), .inl (-1), .inl 0]) acl9 rfl oz9_0 mi_X9_hourGoes ml_RX9_271 rfl (Nat.le_of_ble_eq_true rfl) (by decide) dX9_goesOn_25 (ct_X9_hourGoes hA 33 rfl ((gF σ 9 0 13) + v3) (-1) 0 σ _ (wp_bnd w)) (fun σ3 w => ?_)
      refine R_iinc (v := v3 + 1) (lv' := [(3, .inl (v3 + 1)), (0, .inr (.inr (9, 0, 0))), (2, .inl v2)]) dX9_goesOn_28 2 rfl rfl (by decide) rfl ?_
      refine R_goto (tgt := 7) dX9_goesOn_31 (by decide) ?_
      refine R_sub [1, 2, 0] rfl ?_
      exact ih v2 (v3 + 1) σ3 w
def g_X9_goesOn (a0 : Int32) (a1 : Int32) (σ : AS) : Option (Unit × AS) := (bnd (g_X9_thinks a0 σ) fun _ σ1 => g_X9_goesOn_7 400 a1 0 σ1)
set_option maxRecDepth 100000 in
set_option maxHeartbeats 4000000 in
theorem ct_X9_goesOn {l : Launch} {cx : CX} (hA : AD cx) (a0 : Int32) (a1 : Int32) (σ : AS) (Q : Unit → AS → Prop) (w : wpO (g_X9_goesOn a0 a1 σ) Q) : AMet l cx 108 yX9_goesOn cX9_goesOn 4 none [.inr (.inr (9, 0, 0)), .inl a0, .inl a1] σ (QV Q) := by
  unfold g_X9_goesOn at w
  refine AMet.of (own := RX9) (by decide) rfl hA (Nat.le_of_ble_eq_true rfl) ?_
  show RJ l cx 108 RX9 cX9_goesOn 4 none 0 [(0, .inr (.inr (9, 0, 0))), (1, .inl a0), (2, .inl a1)] [] σ _
  refine R_aload_n dX9_goesOn_0 rfl 0 rfl ?_
  refine R_iload_n dX9_goesOn_1 rfl 1 rfl ?_
  refine R_callVV (As := [.inl a0]) acl9 rfl oz9_0 mi_X9_thinks ml_RX9_282 rfl (Nat.le_of_ble_eq_true rfl) (by decide) dX9_goesOn_2 (ct_X9_thinks hA a0 σ _ (wp_bnd w)) (fun σ1 w => ?_)
  refine R_iconst (v := 0) dX9_goesOn_5 (by decide) ?_
  refine R_istore_n (lv' := [(3, .inl 0), (0, .inr (.inr (9, 0, 0))), (1, .inl a0), (2, .inl a1)]) dX9_goesOn_6 rfl (by decide) rfl ?_
  refine R_sub [1, 3, 0] rfl ?_
  exact rk_X9_goesOn_7 hA _ 400 a1 0 σ1 w
def g_X9_allThatComes_16    : Nat → Int32 → Int32 → AS → Option (Int32 × AS)
  | 0, _, _, _ => none
  | f0 + 1, v2, v3, σ => (if v3 < gF σ 9 0 6 then (if inb v3 8 then (lt (v2 + (gA σ 9 0 30 v3)) fun x4 => (g_X9_allThatComes_16 f0) x4 (v3 + 1) σ) else none) else some (v2, σ))
set_option maxRecDepth 100000 in
set_option maxHeartbeats 4000000 in
theorem rk_X9_allThatComes_16 {l : Launch} {cx : CX} (hA : AD cx)    (Q : Int32 → AS → Prop) : ∀ (f0 : Nat) (v2 : Int32) (v3 : Int32) (σ : AS), wpO (g_X9_allThatComes_16 f0 v2 v3 σ) Q → RJ l cx 109 RX9 cX9_allThatComes 4 (some .int) 16 [(0, .inr (.inr (9, 0, 0))), (2, .inl v2), (3, .inl v3)] [] σ (QI Q) := by
  intro f0
  induction f0 with
  | zero => intro v2 v3 σ w; exact wp_no w
  | succ f0 ih =>
    intro v2 v3 σ w
    rw [g_X9_allThatComes_16] at w
    refine R_iload_n dX9_allThatComes_16 rfl 2 rfl ?_
    refine R_aload_n dX9_allThatComes_17 rfl 0 rfl ?_
    refine R_getfI (k := 6) acl9 oz9_0 (by decide) fl_RX9_111 dX9_allThatComes_18 rfl ?_
    refine R_icmp_ge (tgt := 39) dX9_allThatComes_21 (by decide) (fun c2 => ?_) (fun c2 => ?_)
    · have w := wp_f c2 w
      refine R_iload_n dX9_allThatComes_39 rfl 1 rfl ?_
      exact R_ireturn dX9_allThatComes_40 rfl ⟨_, rfl, wp_some w⟩
    · have w := wp_t c2 w
      refine R_iload_n dX9_allThatComes_24 rfl 1 rfl ?_
      refine R_aload_n dX9_allThatComes_25 rfl 0 rfl ?_
      refine R_getfA (k := 30) acl9 oz9_0 (by decide) fl_RX9_55 dX9_allThatComes_26 rfl ?_
      refine R_iload_n dX9_allThatComes_29 rfl 2 rfl ?_
      obtain ⟨b3, w⟩ := wp_chk w
      refine R_iald rfl oz9_0 b3 dX9_allThatComes_30 ?_
      refine R_iadd dX9_allThatComes_31 ?_
      refine R_nameI w ?_; clear w; intro x4 w
      refine R_istore_n (lv' := [(2, .inl x4), (0, .inr (.inr (9, 0, 0))), (3, .inl v3)]) dX9_allThatComes_32 rfl (by decide) rfl ?_
      refine R_iinc (v := v3 + 1) (lv' := [(3, .inl (v3 + 1)), (2, .inl x4), (0, .inr (.inr (9, 0, 0)))]) dX9_allThatComes_33 2 rfl rfl (by decide) rfl ?_
      refine R_goto (tgt := 16) dX9_allThatComes_36 (by decide) ?_
      refine R_sub [2, 1, 0] rfl ?_
      exact ih x4 (v3 + 1) σ w
def g_X9_allThatComes (a0 : Int32) (σ : AS) : Option (Int32 × AS) := (bnd (g_X9_goesOn a0 (24 - (gF σ 9 0 13)) σ) fun _ σ1 => g_X9_allThatComes_16 400 0 0 σ1)
set_option maxRecDepth 100000 in
set_option maxHeartbeats 4000000 in
theorem ct_X9_allThatComes {l : Launch} {cx : CX} (hA : AD cx) (a0 : Int32) (σ : AS) (Q : Int32 → AS → Prop) (w : wpO (g_X9_allThatComes a0 σ) Q) : AMet l cx 109 yX9_allThatComes cX9_allThatComes 4 (some .int) [.inr (.inr (9, 0, 0)), .inl a0] σ (QI Q) := by
  unfold g_X9_allThatComes at w
  refine AMet.of (own := RX9) (by decide) rfl hA (Nat.le_of_ble_eq_true rfl) ?_
  show RJ l cx 109 RX9 cX9_allThatComes 4 (some .int) 0 [(0, .inr (.inr (9, 0, 0))), (1, .inl a0)] [] σ _
  refine R_aload_n dX9_allThatComes_0 rfl 0 rfl ?_
  refine R_iload_n dX9_allThatComes_1 rfl 1 rfl ?_
  refine R_bipush (v := 24) dX9_allThatComes_2 (by decide) ?_
  refine R_aload_n dX9_allThatComes_4 rfl 0 rfl ?_
  refine R_getfI (k := 13) acl9 oz9_0 (by decide) fl_RX9_127 dX9_allThatComes_5 rfl ?_
  refine R_isub dX9_allThatComes_8 ?_
  refine R_callVV (As := [.inl a0, .inl (24 - (gF σ 9 0 13))]) acl9 rfl oz9_0 mi_X9_goesOn ml_RX9_285 rfl (Nat.le_of_ble_eq_true rfl) (by decide) dX9_allThatComes_9 (ct_X9_goesOn hA a0 (24 - (gF σ 9 0 13)) σ _ (wp_bnd w)) (fun σ1 w => ?_)
  refine R_iconst (v := 0) dX9_allThatComes_12 (by decide) ?_
  refine R_istore_n (lv' := [(2, .inl 0), (0, .inr (.inr (9, 0, 0))), (1, .inl a0)]) dX9_allThatComes_13 rfl (by decide) rfl ?_
  refine R_iconst (v := 0) dX9_allThatComes_14 (by decide) ?_
  refine R_istore_n (lv' := [(3, .inl 0), (2, .inl 0), (0, .inr (.inr (9, 0, 0))), (1, .inl a0)]) dX9_allThatComes_15 rfl (by decide) rfl ?_
  refine R_sub [2, 1, 0] rfl ?_
  exact rk_X9_allThatComes_16 hA _ 400 0 0 σ1 w
def g_X9_asSort (a0 : Int32) (a1 : Int64) (σ : AS) : Option (Int64 × AS) := (if a0 = 0 then some ((i2b a1.toInt32).toInt64, σ) else (if a0 = 1 then some ((i2s a1.toInt32).toInt64, σ) else (if a0 = 2 then some (a1.toInt32.toInt64, σ) else (if a0 = 4 then (if lg_cmp a1 0 = 0 then some (0, σ) else some (1, σ)) else some (a1, σ)))))
set_option maxRecDepth 100000 in
set_option maxHeartbeats 4000000 in
theorem ct_X9_asSort {l : Launch} {cx : CX} (hA : AD cx) (a0 : Int32) (a1 : Int64) (σ : AS) (Q : Int64 → AS → Prop) (w : wpO (g_X9_asSort a0 a1 σ) Q) : AMet l cx 0 yX9_asSort cX9_asSort 3 (some .long) [.inl a0, .inr (.inl a1)] σ (QJ Q) := by
  unfold g_X9_asSort at w
  refine AMet.of (own := RX9) (by decide) rfl hA (Nat.le_of_ble_eq_true rfl) ?_
  show RJ l cx 0 RX9 cX9_asSort 3 (some .long) 0 [(0, .inl a0), (1, .inr (.inl a1))] [] σ _
  refine R_iload_n dX9_asSort_0 rfl 0 rfl ?_
  refine R_if_ne (tgt := 11) dX9_asSort_1 (by decide) (fun c1 => ?_) (fun c1 => ?_)
  · have w := wp_f c1 w
    refine R_iload_n dX9_asSort_11 rfl 0 rfl ?_
    refine R_iconst (v := 1) dX9_asSort_12 (by decide) ?_
    refine R_icmp_ne (tgt := 23) dX9_asSort_13 (by decide) (fun c2 => ?_) (fun c2 => ?_)
    · have w := wp_f c2 w
      refine R_iload_n dX9_asSort_23 rfl 0 rfl ?_
      refine R_iconst (v := 2) dX9_asSort_24 (by decide) ?_
      refine R_icmp_ne (tgt := 34) dX9_asSort_25 (by decide) (fun c3 => ?_) (fun c3 => ?_)
      · have w := wp_f c3 w
        refine R_iload_n dX9_asSort_34 rfl 0 rfl ?_
        refine R_iconst (v := 4) dX9_asSort_35 (by decide) ?_
        refine R_icmp_ne (tgt := 53) dX9_asSort_36 (by decide) (fun c4 => ?_) (fun c4 => ?_)
        · have w := wp_f c4 w
          refine R_lload_n dX9_asSort_53 rfl 1 rfl ?_
          exact R_lreturn dX9_asSort_54 rfl ⟨_, rfl, wp_some w⟩
        · have w := wp_t c4 w
          refine R_lload_n dX9_asSort_39 rfl 1 rfl ?_
          refine R_lconst (v := 0) dX9_asSort_40 (by decide) ?_
          refine R_lcmp dX9_asSort_41 ?_
          refine R_if_eq (tgt := 49) dX9_asSort_42 (by decide) (fun c5 => ?_) (fun c5 => ?_)
          · have w := wp_t c5 w
            refine R_lconst (v := 0) dX9_asSort_49 (by decide) ?_
            refine R_goto (tgt := 54) dX9_asSort_50 (by decide) ?_
            exact R_lreturn dX9_asSort_54 rfl ⟨_, rfl, wp_some w⟩
          · have w := wp_f c5 w
            refine R_lconst (v := 1) dX9_asSort_45 (by decide) ?_
            refine R_goto (tgt := 54) dX9_asSort_46 (by decide) ?_
            exact R_lreturn dX9_asSort_54 rfl ⟨_, rfl, wp_some w⟩
      · have w := wp_t c3 w
        refine R_lload_n dX9_asSort_28 rfl 1 rfl ?_
        refine R_l2i dX9_asSort_29 ?_
        refine R_i2l dX9_asSort_30 ?_
        refine R_goto (tgt := 54) dX9_asSort_31 (by decide) ?_
        exact R_lreturn dX9_asSort_54 rfl ⟨_, rfl, wp_some w⟩
    · have w := wp_t c2 w
      refine R_lload_n dX9_asSort_16 rfl 1 rfl ?_
      refine R_l2i dX9_asSort_17 ?_
      refine R_i2s dX9_asSort_18 ?_
      refine R_i2l dX9_asSort_19 ?_
      refine R_goto (tgt := 54) dX9_asSort_20 (by decide) ?_
      exact R_lreturn dX9_asSort_54 rfl ⟨_, rfl, wp_some w⟩
  · have w := wp_t c1 w
    refine R_lload_n dX9_asSort_4 rfl 1 rfl ?_
    refine R_l2i dX9_asSort_5 ?_
    refine R_i2b dX9_asSort_6 ?_
    refine R_i2l dX9_asSort_7 ?_
    refine R_goto (tgt := 54) dX9_asSort_8 (by decide) ?_
    exact R_lreturn dX9_asSort_54 rfl ⟨_, rfl, wp_some w⟩
def g_X9_copies_2  (n : Nat) (k0 : Nat) (k1 : Nat)  : Nat → Int32 → AS → Option (Unit × AS)
  | 0, _, _ => none
  | f0 + 1, v2, σ => (if v2 < Int32.ofNat n then (if inb v2 n then (lt (sA σ 9 0 k1 v2 (gA σ 9 0 k0 v2)) fun σ3 => (g_X9_copies_2 n k0 k1 f0) (v2 + 1) σ3) else none) else some ((), σ))
set_option maxRecDepth 100000 in
set_option maxHeartbeats 4000000 in
theorem rk_X9_copies_2 {l : Launch} {cx : CX} (hA : AD cx)  (n : Nat) (k0 : Nat) (hk0 : am_k 9 k0 = (2, n, 0)) (k1 : Nat) (hk1 : am_k 9 k1 = (2, n, 0))  (Q : Unit → AS → Prop) : ∀ (f0 : Nat) (v2 : Int32) (σ : AS), wpO (g_X9_copies_2 n k0 k1 f0 v2 σ) Q → RJ l cx 0 RX9 cX9_copies 3 none 2 [(0, .inr (.inr (9, 0, k0 + 1))), (1, .inr (.inr (9, 0, k1 + 1))), (2, .inl v2)] [] σ (QV Q) := by
  intro f0
  induction f0 with
  | zero => intro v2 σ w; exact wp_no w
  | succ f0 ih =>
    intro v2 σ w
    rw [g_X9_copies_2] at w
    refine R_iload_n dX9_copies_2 rfl 2 rfl ?_
    refine R_aload_n dX9_copies_3 rfl 0 rfl ?_
    refine R_alenI hk0 oz9_0 dX9_copies_4 ?_
    refine R_icmp_ge (tgt := 20) dX9_copies_5 (by decide) (fun c1 => ?_) (fun c1 => ?_)
    · have w := wp_f c1 w
      exact R_vreturn dX9_copies_20 rfl ⟨rfl, wp_some w⟩
    · have w := wp_t c1 w
      refine R_aload_n dX9_copies_8 rfl 1 rfl ?_
      refine R_iload_n dX9_copies_9 rfl 2 rfl ?_
      refine R_aload_n dX9_copies_10 rfl 0 rfl ?_
      refine R_iload_n dX9_copies_11 rfl 2 rfl ?_
      obtain ⟨b2, w⟩ := wp_chk w
      refine R_iald hk0 oz9_0 b2 dX9_copies_12 ?_
      refine R_iast hk1 oz9_0 b2 dX9_copies_13 ?_
      refine R_nameS w ?_; clear w; intro σ3 w
      refine R_iinc (v := v2 + 1) (lv' := [(2, .inl (v2 + 1)), (0, .inr (.inr (9, 0, k0 + 1))), (1, .inr (.inr (9, 0, k1 + 1)))]) dX9_copies_14 2 rfl rfl (by decide) rfl ?_
      refine R_goto (tgt := 2) dX9_copies_17 (by decide) ?_
      refine R_sub [1, 2, 0] rfl ?_
      exact ih (v2 + 1) σ3 w
def g_X9_copies (n : Nat) (k0 : Nat) (k1 : Nat) (σ : AS) : Option (Unit × AS) := g_X9_copies_2 n k0 k1 400 0 σ
set_option maxRecDepth 100000 in
set_option maxHeartbeats 4000000 in
theorem ct_X9_copies {l : Launch} {cx : CX} (hA : AD cx) (n : Nat) (k0 : Nat) (hk0 : am_k 9 k0 = (2, n, 0)) (k1 : Nat) (hk1 : am_k 9 k1 = (2, n, 0)) (σ : AS) (Q : Unit → AS → Prop) (w : wpO (g_X9_copies n k0 k1 σ) Q) : AMet l cx 0 yX9_copies cX9_copies 3 none [.inr (.inr (9, 0, k0 + 1)), .inr (.inr (9, 0, k1 + 1))] σ (QV Q) := by
  unfold g_X9_copies at w
  refine AMet.of (own := RX9) (by decide) rfl hA (Nat.le_of_ble_eq_true rfl) ?_
  show RJ l cx 0 RX9 cX9_copies 3 none 0 [(0, .inr (.inr (9, 0, k0 + 1))), (1, .inr (.inr (9, 0, k1 + 1)))] [] σ _
  refine R_iconst (v := 0) dX9_copies_0 (by decide) ?_
  refine R_istore_n (lv' := [(2, .inl 0), (0, .inr (.inr (9, 0, k0 + 1))), (1, .inr (.inr (9, 0, k1 + 1)))]) dX9_copies_1 rfl (by decide) rfl ?_
  refine R_sub [1, 2, 0] rfl ?_
  exact rk_X9_copies_2 hA n k0 hk0 k1 hk1 _ 400 0 σ w
def g_X9_fits_22  (k : Nat)  (v2 : Int32) (v3 : Int32) (s0 : Int32) (s1 : Int32) (σ : AS) : Option (Unit × AS) := (if inb s1 14 then (lt (sA σ 9 0 k s1 s0) fun σ4 => (if inb (2 * v2) 14 then (lt (v3 - (gA σ4 9 0 k (2 * v2))) fun x6 => (if inb ((2 * v2) + 1) 14 then (if x6 < gA σ4 9 0 k ((2 * v2) + 1) then (lt (sA σ4 9 0 k ((2 * v2) + 1) x6) fun σ10 => some ((), σ10)) else (lt (sA σ4 9 0 k ((2 * v2) + 1) (gA σ4 9 0 k ((2 * v2) + 1))) fun σ9 => some ((), σ9))) else none)) else none)) else none)
set_option maxRecDepth 100000 in
set_option maxHeartbeats 4000000 in
theorem rk_X9_fits_22 {l : Launch} {cx : CX} (hA : AD cx)  (k : Nat) (hk : am_k 9 k = (2, 14, 0))  (Q : Unit → AS → Prop) (v2 : Int32) (v3 : Int32) (s0 : Int32) (s1 : Int32) (σ : AS) (w : wpO (g_X9_fits_22 k v2 v3 s0 s1 σ) Q) : RJ l cx 0 RX9 cX9_fits 5 none 22 [(1, .inr (.inr (9, 0, k + 1))), (2, .inl v2), (3, .inl v3)] [.inl s0, .inl s1, .inr (.inr (9, 0, k + 1))] σ (QV Q) := by
  unfold g_X9_fits_22 at w
  obtain ⟨b3, w⟩ := wp_chk w
  refine R_iast hk oz9_0 b3 dX9_fits_22 ?_
  refine R_nameS w ?_; clear w; intro σ4 w
  refine R_iload_n dX9_fits_23 rfl 2 rfl ?_
  refine R_aload_n dX9_fits_24 rfl 0 rfl ?_
  refine R_iconst (v := 2) dX9_fits_25 (by decide) ?_
  refine R_iload_n dX9_fits_26 rfl 1 rfl ?_
  refine R_imul dX9_fits_27 ?_
  obtain ⟨b5, w⟩ := wp_chk w
  refine R_iald hk oz9_0 b5 dX9_fits_28 ?_
  refine R_isub dX9_fits_29 ?_
  refine R_nameI w ?_; clear w; intro x6 w
  refine R_istore (lv' := [(4, .inl x6), (1, .inr (.inr (9, 0, k + 1))), (2, .inl v2), (3, .inl v3)]) dX9_fits_30 (by decide) rfl ?_
  refine R_aload_n dX9_fits_32 rfl 1 rfl ?_
  refine R_iconst (v := 2) dX9_fits_33 (by decide) ?_
  refine R_iload_n dX9_fits_34 rfl 2 rfl ?_
  refine R_imul dX9_fits_35 ?_
  refine R_iconst (v := 1) dX9_fits_36 (by decide) ?_
  refine R_iadd dX9_fits_37 ?_
  refine R_aload_n dX9_fits_38 rfl 1 rfl ?_
  refine R_iconst (v := 2) dX9_fits_39 (by decide) ?_
  refine R_iload_n dX9_fits_40 rfl 2 rfl ?_
  refine R_imul dX9_fits_41 ?_
  refine R_iconst (v := 1) dX9_fits_42 (by decide) ?_
  refine R_iadd dX9_fits_43 ?_
  obtain ⟨b7, w⟩ := wp_chk w
  refine R_iald hk oz9_0 b7 dX9_fits_44 ?_
  refine R_iload dX9_fits_45 0 rfl ?_
  refine R_icmp_le (tgt := 55) dX9_fits_47 (by decide) (fun c8 => ?_) (fun c8 => ?_)
  · have w := wp_f c8 w
    refine R_aload_n dX9_fits_55 rfl 1 rfl ?_
    refine R_iconst (v := 2) dX9_fits_56 (by decide) ?_
    refine R_iload_n dX9_fits_57 rfl 2 rfl ?_
    refine R_imul dX9_fits_58 ?_
    refine R_iconst (v := 1) dX9_fits_59 (by decide) ?_
    refine R_iadd dX9_fits_60 ?_
    refine R_iald hk oz9_0 b7 dX9_fits_61 ?_
    refine R_iast hk oz9_0 b7 dX9_fits_62 ?_
    refine R_nameS w ?_; clear w; intro σ9 w
    exact R_vreturn dX9_fits_63 rfl ⟨rfl, wp_some w⟩
  · have w := wp_t c8 w
    refine R_iload dX9_fits_50 0 rfl ?_
    refine R_goto (tgt := 62) dX9_fits_52 (by decide) ?_
    refine R_iast hk oz9_0 b7 dX9_fits_62 ?_
    refine R_nameS w ?_; clear w; intro σ10 w
    exact R_vreturn dX9_fits_63 rfl ⟨rfl, wp_some w⟩
def g_X9_fits (k : Nat) (a1 : Int32) (a2 : Int32) (σ : AS) : Option (Unit × AS) := (if inb (2 * a1) 14 then (if a2 < gA σ 9 0 k (2 * a1) then g_X9_fits_22 k a1 a2 a2 (2 * a1) σ else g_X9_fits_22 k a1 a2 (gA σ 9 0 k (2 * a1)) (2 * a1) σ) else none)
set_option maxRecDepth 100000 in
set_option maxHeartbeats 4000000 in
theorem ct_X9_fits {l : Launch} {cx : CX} (hA : AD cx) (k : Nat) (hk : am_k 9 k = (2, 14, 0)) (a1 : Int32) (a2 : Int32) (σ : AS) (Q : Unit → AS → Prop) (w : wpO (g_X9_fits k a1 a2 σ) Q) : AMet l cx 0 yX9_fits cX9_fits 5 none [.inr (.inr (9, 0, 0)), .inr (.inr (9, 0, k + 1)), .inl a1, .inl a2] σ (QV Q) := by
  unfold g_X9_fits at w
  refine AMet.of (own := RX9) (by decide) rfl hA (Nat.le_of_ble_eq_true rfl) ?_
  show RJ l cx 0 RX9 cX9_fits 5 none 0 [(0, .inr (.inr (9, 0, 0))), (1, .inr (.inr (9, 0, k + 1))), (2, .inl a1), (3, .inl a2)] [] σ _
  refine R_aload_n dX9_fits_0 rfl 1 rfl ?_
  refine R_iconst (v := 2) dX9_fits_1 (by decide) ?_
  refine R_iload_n dX9_fits_2 rfl 2 rfl ?_
  refine R_imul dX9_fits_3 ?_
  refine R_aload_n dX9_fits_4 rfl 1 rfl ?_
  refine R_iconst (v := 2) dX9_fits_5 (by decide) ?_
  refine R_iload_n dX9_fits_6 rfl 2 rfl ?_
  refine R_imul dX9_fits_7 ?_
  obtain ⟨b1, w⟩ := wp_chk w
  refine R_iald hk oz9_0 b1 dX9_fits_8 ?_
  refine R_iload_n dX9_fits_9 rfl 3 rfl ?_
  refine R_icmp_le (tgt := 17) dX9_fits_10 (by decide) (fun c2 => ?_) (fun c2 => ?_)
  · have w := wp_f c2 w
    refine R_aload_n dX9_fits_17 rfl 1 rfl ?_
    refine R_iconst (v := 2) dX9_fits_18 (by decide) ?_
    refine R_iload_n dX9_fits_19 rfl 2 rfl ?_
    refine R_imul dX9_fits_20 ?_
    refine R_iald hk oz9_0 b1 dX9_fits_21 ?_
    refine R_sub [1, 2, 3] rfl ?_
    exact rk_X9_fits_22 hA k hk _ a1 a2 (gA σ 9 0 k (2 * a1)) (2 * a1) σ w
  · have w := wp_t c2 w
    refine R_iload_n dX9_fits_13 rfl 3 rfl ?_
    refine R_goto (tgt := 22) dX9_fits_14 (by decide) ?_
    refine R_sub [1, 2, 3] rfl ?_
    exact rk_X9_fits_22 hA k hk _ a1 a2 a2 (2 * a1) σ w
def g_X9_back_83    : Nat → Int32 → AS → Option (Int32 × AS)
  | 0, _, _ => none
  | f0 + 1, v1, σ => (if v1 < 7 then (if inb v1 7 then (bnd (g_X9_fits 9 v1 (gA σ 9 0 7 v1) σ) fun _ σ11 => (g_X9_back_83 f0) (v1 + 1) σ11) else none) else some (gF σ 9 0 13, σ))
set_option maxRecDepth 100000 in
set_option maxHeartbeats 4000000 in
theorem rk_X9_back_83 {l : Launch} {cx : CX} (hA : AD cx)    (Q : Int32 → AS → Prop) : ∀ (f0 : Nat) (v1 : Int32) (σ : AS), wpO (g_X9_back_83 f0 v1 σ) Q → RJ l cx 1 RX9 cX9_back 2 (some .int) 83 [(0, .inr (.inr (9, 0, 0))), (1, .inl v1)] [] σ (QI Q) := by
  intro f0
  induction f0 with
  | zero => intro v1 σ w; exact wp_no w
  | succ f0 ih =>
    intro v1 σ w
    rw [g_X9_back_83] at w
    refine R_iload_n dX9_back_83 rfl 1 rfl ?_
    refine R_bipush (v := 7) dX9_back_84 (by decide) ?_
    refine R_icmp_ge (tgt := 110) dX9_back_86 (by decide) (fun c9 => ?_) (fun c9 => ?_)
    · have w := wp_f c9 w
      refine R_aload_n dX9_back_110 rfl 0 rfl ?_
      refine R_getfI (k := 13) acl9 oz9_0 (by decide) fl_RX9_127 dX9_back_111 rfl ?_
      exact R_ireturn dX9_back_114 rfl ⟨_, rfl, wp_some w⟩
    · have w := wp_t c9 w
      refine R_aload_n dX9_back_89 rfl 0 rfl ?_
      refine R_aload_n dX9_back_90 rfl 0 rfl ?_
      refine R_getfA (k := 9) acl9 oz9_0 (by decide) fl_RX9_28 dX9_back_91 rfl ?_
      refine R_iload_n dX9_back_94 rfl 1 rfl ?_
      refine R_aload_n dX9_back_95 rfl 0 rfl ?_
      refine R_getfA (k := 7) acl9 oz9_0 (by decide) fl_RX9_22 dX9_back_96 rfl ?_
      refine R_iload_n dX9_back_99 rfl 1 rfl ?_
      obtain ⟨b10, w⟩ := wp_chk w
      refine R_iald rfl oz9_0 b10 dX9_back_100 ?_
      refine R_callVV (As := [.inr (.inr (9, 0, 9 + 1)), .inl v1, .inl (gA σ 9 0 7 v1)]) acl9 rfl oz9_0 mi_X9_fits ml_RX9_142 rfl (Nat.le_of_ble_eq_true rfl) (by decide) dX9_back_101 (ct_X9_fits hA 9 rfl v1 (gA σ 9 0 7 v1) σ _ (wp_bnd w)) (fun σ11 w => ?_)
      refine R_iinc (v := v1 + 1) (lv' := [(1, .inl (v1 + 1)), (0, .inr (.inr (9, 0, 0)))]) dX9_back_104 1 rfl rfl (by decide) rfl ?_
      refine R_goto (tgt := 83) dX9_back_107 (by decide) ?_
      refine R_sub [1, 0] rfl ?_
      exact ih (v1 + 1) σ11 w
def g_X9_back (σ : AS) : Option (Int32 × AS) := (if gF σ 9 0 36 = 0 then some ((-5), σ) else (lt (sF σ 9 0 13 (gF σ 9 0 37)) fun σ2 => (lt (sF σ2 9 0 12 (gF σ2 9 0 38)) fun σ3 => (bnd (g_X9_copies 14 39 9 σ3) fun _ σ4 => (bnd (g_X9_copies 8 40 10 σ4) fun _ σ5 => (bnd (g_X9_copies 8 41 11 σ5) fun _ σ6 => (bnd (g_X9_copies 336 42 31 σ6) fun _ σ7 => (bnd (g_X9_copies 168 43 32 σ7) fun _ σ8 => g_X9_back_83 400 0 σ8))))))))
set_option maxRecDepth 100000 in
set_option maxHeartbeats 4000000 in
theorem ct_X9_back {l : Launch} {cx : CX} (hA : AD cx) (σ : AS) (Q : Int32 → AS → Prop) (w : wpO (g_X9_back σ) Q) : AMet l cx 1 yX9_back cX9_back 2 (some .int) [.inr (.inr (9, 0, 0))] σ (QI Q) := by
  unfold g_X9_back at w
  refine AMet.of (own := RX9) (by decide) rfl hA (Nat.le_of_ble_eq_true rfl) ?_
  show RJ l cx 1 RX9 cX9_back 2 (some .int) 0 [(0, .inr (.inr (9, 0, 0)))] [] σ _
  refine R_aload_n dX9_back_0 rfl 0 rfl ?_
  refine R_getfI (k := 36) acl9 oz9_0 (by decide) fl_RX9_314 dX9_back_1 rfl ?_
  refine R_if_ne (tgt := 10) dX9_back_4 (by decide) (fun c1 => ?_) (fun c1 => ?_)
  · have w := wp_f c1 w
    refine R_aload_n dX9_back_10 rfl 0 rfl ?_
    refine R_aload_n dX9_back_11 rfl 0 rfl ?_
    refine R_getfI (k := 37) acl9 oz9_0 (by decide) fl_RX9_317 dX9_back_12 rfl ?_
    refine R_putf (k := 13) (ty := .int) acl9 oz9_0 (by decide) fl_RX9_127 rfl (tyX9_ok 13 (by decide)) (Or.inl rfl) dX9_back_15 rfl ?_
    refine R_nameS w ?_; clear w; intro σ2 w
    refine R_aload_n dX9_back_18 rfl 0 rfl ?_
    refine R_aload_n dX9_back_19 rfl 0 rfl ?_
    refine R_getfI (k := 38) acl9 oz9_0 (by decide) fl_RX9_320 dX9_back_20 rfl ?_
    refine R_putf (k := 12) (ty := .int) acl9 oz9_0 (by decide) fl_RX9_274 rfl (tyX9_ok 12 (by decide)) (Or.inl rfl) dX9_back_23 rfl ?_
    refine R_nameS w ?_; clear w; intro σ3 w
    refine R_aload_n dX9_back_26 rfl 0 rfl ?_
    refine R_getfA (k := 39) acl9 oz9_0 (by decide) fl_RX9_67 dX9_back_27 rfl ?_
    refine R_aload_n dX9_back_30 rfl 0 rfl ?_
    refine R_getfA (k := 9) acl9 oz9_0 (by decide) fl_RX9_28 dX9_back_31 rfl ?_
    refine R_callSV (As := [.inr (.inr (9, 0, 39 + 1)), .inr (.inr (9, 0, 9 + 1))]) mi_X9_copies ml_RX9_323 rfl (Nat.le_of_ble_eq_true rfl) (by decide) dX9_back_34 (ct_X9_copies hA 14 39 rfl 9 rfl σ3 _ (wp_bnd w)) (fun σ4 w => ?_)
    refine R_aload_n dX9_back_37 rfl 0 rfl ?_
    refine R_getfA (k := 40) acl9 oz9_0 (by decide) fl_RX9_70 dX9_back_38 rfl ?_
    refine R_aload_n dX9_back_41 rfl 0 rfl ?_
    refine R_getfA (k := 10) acl9 oz9_0 (by decide) fl_RX9_31 dX9_back_42 rfl ?_
    refine R_callSV (As := [.inr (.inr (9, 0, 40 + 1)), .inr (.inr (9, 0, 10 + 1))]) mi_X9_copies ml_RX9_323 rfl (Nat.le_of_ble_eq_true rfl) (by decide) dX9_back_45 (ct_X9_copies hA 8 40 rfl 10 rfl σ4 _ (wp_bnd w)) (fun σ5 w => ?_)
    refine R_aload_n dX9_back_48 rfl 0 rfl ?_
    refine R_getfA (k := 41) acl9 oz9_0 (by decide) fl_RX9_73 dX9_back_49 rfl ?_
    refine R_aload_n dX9_back_52 rfl 0 rfl ?_
    refine R_getfA (k := 11) acl9 oz9_0 (by decide) fl_RX9_34 dX9_back_53 rfl ?_
    refine R_callSV (As := [.inr (.inr (9, 0, 41 + 1)), .inr (.inr (9, 0, 11 + 1))]) mi_X9_copies ml_RX9_323 rfl (Nat.le_of_ble_eq_true rfl) (by decide) dX9_back_56 (ct_X9_copies hA 8 41 rfl 11 rfl σ5 _ (wp_bnd w)) (fun σ6 w => ?_)
    refine R_aload_n dX9_back_59 rfl 0 rfl ?_
    refine R_getfA (k := 42) acl9 oz9_0 (by decide) fl_RX9_76 dX9_back_60 rfl ?_
    refine R_aload_n dX9_back_63 rfl 0 rfl ?_
    refine R_getfA (k := 31) acl9 oz9_0 (by decide) fl_RX9_58 dX9_back_64 rfl ?_
    refine R_callSV (As := [.inr (.inr (9, 0, 42 + 1)), .inr (.inr (9, 0, 31 + 1))]) mi_X9_copies ml_RX9_323 rfl (Nat.le_of_ble_eq_true rfl) (by decide) dX9_back_67 (ct_X9_copies hA 336 42 rfl 31 rfl σ6 _ (wp_bnd w)) (fun σ7 w => ?_)
    refine R_aload_n dX9_back_70 rfl 0 rfl ?_
    refine R_getfA (k := 43) acl9 oz9_0 (by decide) fl_RX9_79 dX9_back_71 rfl ?_
    refine R_aload_n dX9_back_74 rfl 0 rfl ?_
    refine R_getfA (k := 32) acl9 oz9_0 (by decide) fl_RX9_61 dX9_back_75 rfl ?_
    refine R_callSV (As := [.inr (.inr (9, 0, 43 + 1)), .inr (.inr (9, 0, 32 + 1))]) mi_X9_copies ml_RX9_323 rfl (Nat.le_of_ble_eq_true rfl) (by decide) dX9_back_78 (ct_X9_copies hA 168 43 rfl 32 rfl σ7 _ (wp_bnd w)) (fun σ8 w => ?_)
    refine R_iconst (v := 0) dX9_back_81 (by decide) ?_
    refine R_istore_n (lv' := [(1, .inl 0), (0, .inr (.inr (9, 0, 0)))]) dX9_back_82 rfl (by decide) rfl ?_
    refine R_sub [1, 0] rfl ?_
    exact rk_X9_back_83 hA _ 400 0 σ8 w
  · have w := wp_t c1 w
    refine R_bipush (v := (-5)) dX9_back_7 (by decide) ?_
    exact R_ireturn dX9_back_9 rfl ⟨_, rfl, wp_some w⟩
def g_X9_becomes_97    (v1 : Int32) (v2 : Int32) (v3 : Int32) (σ : AS) : Option (Int32 × AS) := (if inb (gF σ 9 0 5) 40 then (lt (sA σ 9 0 1 (gF σ 9 0 5) v1) fun σ6 => (if inb (gF σ6 9 0 5) 40 then (lt (sA σ6 9 0 2 (gF σ6 9 0 5) v3) fun σ8 => (if inb (gF σ8 9 0 5) 40 then (lt (sA σ8 9 0 3 (gF σ8 9 0 5) v2) fun σ10 => (lt (sF σ10 9 0 5 ((gF σ10 9 0 5) + 1)) fun σ11 => (lt (sF σ11 9 0 4 (gF σ11 9 0 5)) fun σ12 => (if inb v1 40 then (lt (sA σ12 9 0 0 v1 v2) fun σ14 => some (v3, σ14)) else none)))) else none)) else none)) else none)
set_option maxRecDepth 100000 in
set_option maxHeartbeats 4000000 in
theorem rk_X9_becomes_97 {l : Launch} {cx : CX} (hA : AD cx)    (Q : Int32 → AS → Prop) (v1 : Int32) (v2 : Int32) (v3 : Int32) (σ : AS) (w : wpO (g_X9_becomes_97 v1 v2 v3 σ) Q) : RJ l cx 0 RX9 cX9_becomes 5 (some .int) 97 [(0, .inr (.inr (9, 0, 0))), (1, .inl v1), (2, .inl v2), (3, .inl v3)] [] σ (QI Q) := by
  unfold g_X9_becomes_97 at w
  refine R_aload_n dX9_becomes_97 rfl 0 rfl ?_
  refine R_getfA (k := 1) acl9 oz9_0 (by decide) fl_RX9_13 dX9_becomes_98 rfl ?_
  refine R_aload_n dX9_becomes_101 rfl 0 rfl ?_
  refine R_getfI (k := 5) acl9 oz9_0 (by decide) fl_RX9_105 dX9_becomes_102 rfl ?_
  refine R_iload_n dX9_becomes_105 rfl 1 rfl ?_
  obtain ⟨b5, w⟩ := wp_chk w
  refine R_iast rfl oz9_0 b5 dX9_becomes_106 ?_
  refine R_nameS w ?_; clear w; intro σ6 w
  refine R_aload_n dX9_becomes_107 rfl 0 rfl ?_
  refine R_getfA (k := 2) acl9 oz9_0 (by decide) fl_RX9_16 dX9_becomes_108 rfl ?_
  refine R_aload_n dX9_becomes_111 rfl 0 rfl ?_
  refine R_getfI (k := 5) acl9 oz9_0 (by decide) fl_RX9_105 dX9_becomes_112 rfl ?_
  refine R_iload_n dX9_becomes_115 rfl 3 rfl ?_
  obtain ⟨b7, w⟩ := wp_chk w
  refine R_iast rfl oz9_0 b7 dX9_becomes_116 ?_
  refine R_nameS w ?_; clear w; intro σ8 w
  refine R_aload_n dX9_becomes_117 rfl 0 rfl ?_
  refine R_getfA (k := 3) acl9 oz9_0 (by decide) fl_RX9_19 dX9_becomes_118 rfl ?_
  refine R_aload_n dX9_becomes_121 rfl 0 rfl ?_
  refine R_getfI (k := 5) acl9 oz9_0 (by decide) fl_RX9_105 dX9_becomes_122 rfl ?_
  refine R_iload_n dX9_becomes_125 rfl 2 rfl ?_
  obtain ⟨b9, w⟩ := wp_chk w
  refine R_iast rfl oz9_0 b9 dX9_becomes_126 ?_
  refine R_nameS w ?_; clear w; intro σ10 w
  refine R_aload_n dX9_becomes_127 rfl 0 rfl ?_
  refine R_dup dX9_becomes_128 rfl ?_
  refine R_getfI (k := 5) acl9 oz9_0 (by decide) fl_RX9_105 dX9_becomes_129 rfl ?_
  refine R_iconst (v := 1) dX9_becomes_132 (by decide) ?_
  refine R_iadd dX9_becomes_133 ?_
  refine R_putf (k := 5) (ty := .int) acl9 oz9_0 (by decide) fl_RX9_105 rfl (tyX9_ok 5 (by decide)) (Or.inl rfl) dX9_becomes_134 rfl ?_
  refine R_nameS w ?_; clear w; intro σ11 w
  refine R_aload_n dX9_becomes_137 rfl 0 rfl ?_
  refine R_aload_n dX9_becomes_138 rfl 0 rfl ?_
  refine R_getfI (k := 5) acl9 oz9_0 (by decide) fl_RX9_105 dX9_becomes_139 rfl ?_
  refine R_putf (k := 4) (ty := .int) acl9 oz9_0 (by decide) fl_RX9_108 rfl (tyX9_ok 4 (by decide)) (Or.inl rfl) dX9_becomes_142 rfl ?_
  refine R_nameS w ?_; clear w; intro σ12 w
  refine R_aload_n dX9_becomes_145 rfl 0 rfl ?_
  refine R_getfA (k := 0) acl9 oz9_0 (by decide) fl_RX9_9 dX9_becomes_146 rfl ?_
  refine R_iload_n dX9_becomes_149 rfl 1 rfl ?_
  refine R_iload_n dX9_becomes_150 rfl 2 rfl ?_
  obtain ⟨b13, w⟩ := wp_chk w
  refine R_iast rfl oz9_0 b13 dX9_becomes_151 ?_
  refine R_nameS w ?_; clear w; intro σ14 w
  refine R_iload_n dX9_becomes_152 rfl 3 rfl ?_
  exact R_ireturn dX9_becomes_153 rfl ⟨_, rfl, wp_some w⟩
def g_X9_becomes_26    : Nat → Int32 → Int32 → Int32 → Int32 → AS → Option (Int32 × AS)
  | 0, _, _, _, _, _ => none
  | f0 + 1, v1, v2, v3, v4, σ => (if v4 < 40 then (if inb v4 40 then (if inb (v4 - 1) 40 then (lt (sA σ 9 0 1 (v4 - 1) (gA σ 9 0 1 v4)) fun σ19 => (lt (sA σ19 9 0 2 (v4 - 1) (gA σ19 9 0 2 v4)) fun σ20 => (lt (sA σ20 9 0 3 (v4 - 1) (gA σ20 9 0 3 v4)) fun σ21 => (g_X9_becomes_26 f0) v1 v2 v3 (v4 + 1) σ21))) else none) else none) else (lt (sF σ 9 0 5 ((gF σ 9 0 5) - 1)) fun σ16 => g_X9_becomes_97 v1 v2 v3 σ16))
set_option maxRecDepth 100000 in
set_option maxHeartbeats 4000000 in
theorem rk_X9_becomes_26 {l : Launch} {cx : CX} (hA : AD cx)    (Q : Int32 → AS → Prop) : ∀ (f0 : Nat) (v1 : Int32) (v2 : Int32) (v3 : Int32) (v4 : Int32) (σ : AS), wpO (g_X9_becomes_26 f0 v1 v2 v3 v4 σ) Q → RJ l cx 0 RX9 cX9_becomes 5 (some .int) 26 [(0, .inr (.inr (9, 0, 0))), (1, .inl v1), (2, .inl v2), (3, .inl v3), (4, .inl v4)] [] σ (QI Q) := by
  intro f0
  induction f0 with
  | zero => intro v1 v2 v3 v4 σ w; exact wp_no w
  | succ f0 ih =>
    intro v1 v2 v3 v4 σ w
    rw [g_X9_becomes_26] at w
    refine R_iload dX9_becomes_26 4 rfl ?_
    refine R_bipush (v := 40) dX9_becomes_28 (by decide) ?_
    refine R_icmp_ge (tgt := 87) dX9_becomes_30 (by decide) (fun c15 => ?_) (fun c15 => ?_)
    · have w := wp_f c15 w
      refine R_aload_n dX9_becomes_87 rfl 0 rfl ?_
      refine R_dup dX9_becomes_88 rfl ?_
      refine R_getfI (k := 5) acl9 oz9_0 (by decide) fl_RX9_105 dX9_becomes_89 rfl ?_
      refine R_iconst (v := 1) dX9_becomes_92 (by decide) ?_
      refine R_isub dX9_becomes_93 ?_
      refine R_putf (k := 5) (ty := .int) acl9 oz9_0 (by decide) fl_RX9_105 rfl (tyX9_ok 5 (by decide)) (Or.inl rfl) dX9_becomes_94 rfl ?_
      refine R_nameS w ?_; clear w; intro σ16 w
      refine R_sub [0, 1, 2, 3] rfl ?_
      exact rk_X9_becomes_97 hA _ v1 v2 v3 σ16 w
    · have w := wp_t c15 w
      refine R_aload_n dX9_becomes_33 rfl 0 rfl ?_
      refine R_getfA (k := 1) acl9 oz9_0 (by decide) fl_RX9_13 dX9_becomes_34 rfl ?_
      refine R_iload dX9_becomes_37 4 rfl ?_
      refine R_iconst (v := 1) dX9_becomes_39 (by decide) ?_
      refine R_isub dX9_becomes_40 ?_
      refine R_aload_n dX9_becomes_41 rfl 0 rfl ?_
      refine R_getfA (k := 1) acl9 oz9_0 (by decide) fl_RX9_13 dX9_becomes_42 rfl ?_
      refine R_iload dX9_becomes_45 4 rfl ?_
      obtain ⟨b17, w⟩ := wp_chk w
      refine R_iald rfl oz9_0 b17 dX9_becomes_47 ?_
      obtain ⟨b18, w⟩ := wp_chk w
      refine R_iast rfl oz9_0 b18 dX9_becomes_48 ?_
      refine R_nameS w ?_; clear w; intro σ19 w
      refine R_aload_n dX9_becomes_49 rfl 0 rfl ?_
      refine R_getfA (k := 2) acl9 oz9_0 (by decide) fl_RX9_16 dX9_becomes_50 rfl ?_
      refine R_iload dX9_becomes_53 4 rfl ?_
      refine R_iconst (v := 1) dX9_becomes_55 (by decide) ?_
      refine R_isub dX9_becomes_56 ?_
      refine R_aload_n dX9_becomes_57 rfl 0 rfl ?_
      refine R_getfA (k := 2) acl9 oz9_0 (by decide) fl_RX9_16 dX9_becomes_58 rfl ?_
      refine R_iload dX9_becomes_61 4 rfl ?_
      refine R_iald rfl oz9_0 b17 dX9_becomes_63 ?_
      refine R_iast rfl oz9_0 b18 dX9_becomes_64 ?_
      refine R_nameS w ?_; clear w; intro σ20 w
      refine R_aload_n dX9_becomes_65 rfl 0 rfl ?_
      refine R_getfA (k := 3) acl9 oz9_0 (by decide) fl_RX9_19 dX9_becomes_66 rfl ?_
      refine R_iload dX9_becomes_69 4 rfl ?_
      refine R_iconst (v := 1) dX9_becomes_71 (by decide) ?_
      refine R_isub dX9_becomes_72 ?_
      refine R_aload_n dX9_becomes_73 rfl 0 rfl ?_
      refine R_getfA (k := 3) acl9 oz9_0 (by decide) fl_RX9_19 dX9_becomes_74 rfl ?_
      refine R_iload dX9_becomes_77 4 rfl ?_
      refine R_iald rfl oz9_0 b17 dX9_becomes_79 ?_
      refine R_iast rfl oz9_0 b18 dX9_becomes_80 ?_
      refine R_nameS w ?_; clear w; intro σ21 w
      refine R_iinc (v := v4 + 1) (lv' := [(4, .inl (v4 + 1)), (0, .inr (.inr (9, 0, 0))), (1, .inl v1), (2, .inl v2), (3, .inl v3)]) dX9_becomes_81 4 rfl rfl (by decide) rfl ?_
      refine R_goto (tgt := 26) dX9_becomes_84 (by decide) ?_
      refine R_sub [1, 2, 3, 4, 0] rfl ?_
      exact ih v1 v2 v3 (v4 + 1) σ21 w
def g_X9_becomes (a0 : Int32) (a1 : Int32) (σ : AS) : Option (Int32 × AS) := (if inb a0 40 then (lt (gA σ 9 0 0 a0) fun x2 => (if x2 = a1 then some (x2, σ) else (if gF σ 9 0 5 = 40 then g_X9_becomes_26 400 a0 a1 x2 1 σ else g_X9_becomes_97 a0 a1 x2 σ))) else none)
set_option maxRecDepth 100000 in
set_option maxHeartbeats 4000000 in
theorem ct_X9_becomes {l : Launch} {cx : CX} (hA : AD cx) (a0 : Int32) (a1 : Int32) (σ : AS) (Q : Int32 → AS → Prop) (w : wpO (g_X9_becomes a0 a1 σ) Q) : AMet l cx 0 yX9_becomes cX9_becomes 5 (some .int) [.inr (.inr (9, 0, 0)), .inl a0, .inl a1] σ (QI Q) := by
  unfold g_X9_becomes at w
  refine AMet.of (own := RX9) (by decide) rfl hA (Nat.le_of_ble_eq_true rfl) ?_
  show RJ l cx 0 RX9 cX9_becomes 5 (some .int) 0 [(0, .inr (.inr (9, 0, 0))), (1, .inl a0), (2, .inl a1)] [] σ _
  refine R_aload_n dX9_becomes_0 rfl 0 rfl ?_
  refine R_getfA (k := 0) acl9 oz9_0 (by decide) fl_RX9_9 dX9_becomes_1 rfl ?_
  refine R_iload_n dX9_becomes_4 rfl 1 rfl ?_
  obtain ⟨b1, w⟩ := wp_chk w
  refine R_iald rfl oz9_0 b1 dX9_becomes_5 ?_
  refine R_nameI w ?_; clear w; intro x2 w
  refine R_istore_n (lv' := [(3, .inl x2), (0, .inr (.inr (9, 0, 0))), (1, .inl a0), (2, .inl a1)]) dX9_becomes_6 rfl (by decide) rfl ?_
  refine R_iload_n dX9_becomes_7 rfl 0 rfl ?_
  refine R_iload_n dX9_becomes_8 rfl 3 rfl ?_
  refine R_icmp_ne (tgt := 14) dX9_becomes_9 (by decide) (fun c3 => ?_) (fun c3 => ?_)
  · have w := wp_f c3 w
    refine R_aload_n dX9_becomes_14 rfl 1 rfl ?_
    refine R_getfI (k := 5) acl9 oz9_0 (by decide) fl_RX9_105 dX9_becomes_15 rfl ?_
    refine R_bipush (v := 40) dX9_becomes_18 (by decide) ?_
    refine R_icmp_ne (tgt := 97) dX9_becomes_20 (by decide) (fun c4 => ?_) (fun c4 => ?_)
    · have w := wp_f c4 w
      refine R_sub [1, 2, 3, 0] rfl ?_
      exact rk_X9_becomes_97 hA _ a0 a1 x2 σ w
    · have w := wp_t c4 w
      refine R_iconst (v := 1) dX9_becomes_23 (by decide) ?_
      refine R_istore (lv' := [(4, .inl 1), (3, .inl x2), (0, .inr (.inr (9, 0, 0))), (1, .inl a0), (2, .inl a1)]) dX9_becomes_24 (by decide) rfl ?_
      refine R_sub [2, 3, 4, 1, 0] rfl ?_
      exact rk_X9_becomes_26 hA _ 400 a0 a1 x2 1 σ w
  · have w := wp_t c3 w
    refine R_iload_n dX9_becomes_12 rfl 0 rfl ?_
    exact R_ireturn dX9_becomes_13 rfl ⟨_, rfl, wp_some w⟩
def g_X9_body (a0 : Int32) (σ : AS) : Option (Int32 × AS) := (bnd (g_X9_within a0.toInt64 0 7 σ) fun r1 σ2 => (if r1 = 0 then some ((-1), σ2) else (if gF σ2 9 0 44 = 50 then some ((-3), σ2) else (if inb (gF σ2 9 0 44) 50 then (lt (sA σ2 9 0 45 (gF σ2 9 0 44) a0) fun σ6 => (lt (sF σ6 9 0 44 ((gF σ6 9 0 44) + 1)) fun σ7 => some ((gF σ7 9 0 44) - 1, σ7))) else none))))
set_option maxRecDepth 100000 in
set_option maxHeartbeats 4000000 in
theorem ct_X9_body {l : Launch} {cx : CX} (hA : AD cx) (a0 : Int32) (σ : AS) (Q : Int32 → AS → Prop) (w : wpO (g_X9_body a0 σ) Q) : AMet l cx 1 yX9_body cX9_body 2 (some .int) [.inr (.inr (9, 0, 0)), .inl a0] σ (QI Q) := by
  unfold g_X9_body at w
  refine AMet.of (own := RX9) (by decide) rfl hA (Nat.le_of_ble_eq_true rfl) ?_
  show RJ l cx 1 RX9 cX9_body 2 (some .int) 0 [(0, .inr (.inr (9, 0, 0))), (1, .inl a0)] [] σ _
  refine R_iload_n dX9_body_0 rfl 1 rfl ?_
  refine R_i2l dX9_body_1 ?_
  refine R_lconst (v := 0) dX9_body_2 (by decide) ?_
  refine R_ldc2 dX9_body_3 ck_RX9_330 ?_
  refine R_callSI (As := [.inr (.inl a0.toInt64), .inr (.inl 0), .inr (.inl 7)]) mi_X9_within ml_RX9_114 rfl (Nat.le_of_ble_eq_true rfl) (by decide) dX9_body_6 (ct_X9_within hA a0.toInt64 0 7 σ _ (wp_bnd w)) (fun r1 σ2 w => ?_)
  refine R_if_ne (tgt := 14) dX9_body_9 (by decide) (fun c3 => ?_) (fun c3 => ?_)
  · have w := wp_f c3 w
    refine R_aload_n dX9_body_14 rfl 0 rfl ?_
    refine R_getfI (k := 44) acl9 oz9_0 (by decide) fl_RX9_327 dX9_body_15 rfl ?_
    refine R_bipush (v := 50) dX9_body_18 (by decide) ?_
    refine R_icmp_ne (tgt := 26) dX9_body_20 (by decide) (fun c4 => ?_) (fun c4 => ?_)
    · have w := wp_f c4 w
      refine R_aload_n dX9_body_26 rfl 0 rfl ?_
      refine R_getfA (k := 45) acl9 oz9_0 (by decide) fl_RX9_82 dX9_body_27 rfl ?_
      refine R_aload_n dX9_body_30 rfl 0 rfl ?_
      refine R_getfI (k := 44) acl9 oz9_0 (by decide) fl_RX9_327 dX9_body_31 rfl ?_
      refine R_iload_n dX9_body_34 rfl 1 rfl ?_
      obtain ⟨b5, w⟩ := wp_chk w
      refine R_iast rfl oz9_0 b5 dX9_body_35 ?_
      refine R_nameS w ?_; clear w; intro σ6 w
      refine R_aload_n dX9_body_36 rfl 0 rfl ?_
      refine R_dup dX9_body_37 rfl ?_
      refine R_getfI (k := 44) acl9 oz9_0 (by decide) fl_RX9_327 dX9_body_38 rfl ?_
      refine R_iconst (v := 1) dX9_body_41 (by decide) ?_
      refine R_iadd dX9_body_42 ?_
      refine R_putf (k := 44) (ty := .int) acl9 oz9_0 (by decide) fl_RX9_327 rfl (tyX9_ok 44 (by decide)) (Or.inl rfl) dX9_body_43 rfl ?_
      refine R_nameS w ?_; clear w; intro σ7 w
      refine R_aload_n dX9_body_46 rfl 0 rfl ?_
      refine R_getfI (k := 44) acl9 oz9_0 (by decide) fl_RX9_327 dX9_body_47 rfl ?_
      refine R_iconst (v := 1) dX9_body_50 (by decide) ?_
      refine R_isub dX9_body_51 ?_
      exact R_ireturn dX9_body_52 rfl ⟨_, rfl, wp_some w⟩
    · have w := wp_t c4 w
      refine R_bipush (v := (-3)) dX9_body_23 (by decide) ?_
      exact R_ireturn dX9_body_25 rfl ⟨_, rfl, wp_some w⟩
  · have w := wp_t c3 w
    refine R_iconst (v := (-1)) dX9_body_12 (by decide) ?_
    exact R_ireturn dX9_body_13 rfl ⟨_, rfl, wp_some w⟩
def g_X9_least (a0 : Int32) (a1 : Int32) (σ : AS) : Option (Int32 × AS) := (if a0 < a1 then some (a0, σ) else some (a1, σ))
set_option maxRecDepth 100000 in
set_option maxHeartbeats 4000000 in
theorem ct_X9_least {l : Launch} {cx : CX} (hA : AD cx) (a0 : Int32) (a1 : Int32) (σ : AS) (Q : Int32 → AS → Prop) (w : wpO (g_X9_least a0 a1 σ) Q) : AMet l cx 0 yX9_least cX9_least 2 (some .int) [.inl a0, .inl a1] σ (QI Q) := by
  unfold g_X9_least at w
  refine AMet.of (own := RX9) (by decide) rfl hA (Nat.le_of_ble_eq_true rfl) ?_
  show RJ l cx 0 RX9 cX9_least 2 (some .int) 0 [(0, .inl a0), (1, .inl a1)] [] σ _
  refine R_iload_n dX9_least_0 rfl 0 rfl ?_
  refine R_iload_n dX9_least_1 rfl 1 rfl ?_
  refine R_icmp_ge (tgt := 9) dX9_least_2 (by decide) (fun c1 => ?_) (fun c1 => ?_)
  · have w := wp_f c1 w
    refine R_iload_n dX9_least_9 rfl 1 rfl ?_
    exact R_ireturn dX9_least_10 rfl ⟨_, rfl, wp_some w⟩
  · have w := wp_t c1 w
    refine R_iload_n dX9_least_5 rfl 0 rfl ?_
    refine R_goto (tgt := 10) dX9_least_6 (by decide) ?_
    exact R_ireturn dX9_least_10 rfl ⟨_, rfl, wp_some w⟩
def g_X9_both_113    (k31 : Int32 → Int32 → Int32 → Int32 → Int32 → Int32 → AS → Option (Int32 × AS)) (v1 : Int32) (v2 : Int32) (v6 : Int32) (v7 : Int32) (v8 : Int32) (σ : AS) : Option (Int32 × AS) := (lt (v7 + v8) fun x17 => (bnd (g_X9_least v7 v8 σ) fun r18 σ19 => k31 v1 v2 v6 x17 r18 (v6 + 1) σ19))
set_option maxRecDepth 100000 in
set_option maxHeartbeats 4000000 in
theorem rk_X9_both_113 {l : Launch} {cx : CX} (hA : AD cx)    (Q : Int32 → AS → Prop) (k31 : Int32 → Int32 → Int32 → Int32 → Int32 → Int32 → AS → Option (Int32 × AS)) (hk31 : ∀ (v1 : Int32) (v2 : Int32) (v3 : Int32) (v4 : Int32) (v5 : Int32) (v6 : Int32) (σ : AS), wpO (k31 v1 v2 v3 v4 v5 v6 σ) Q → RJ l cx 2 RX9 cX9_both 9 (some .int) 31 [(0, .inr (.inr (9, 0, 0))), (1, .inl v1), (2, .inl v2), (3, .inl v3), (4, .inl v4), (5, .inl v5), (6, .inl v6)] [] σ (QI Q)) (v1 : Int32) (v2 : Int32) (v6 : Int32) (v7 : Int32) (v8 : Int32) (σ : AS) (w : wpO (g_X9_both_113 k31 v1 v2 v6 v7 v8 σ) Q) : RJ l cx 2 RX9 cX9_both 9 (some .int) 113 [(0, .inr (.inr (9, 0, 0))), (1, .inl v1), (2, .inl v2), (6, .inl v6), (7, .inl v7), (8, .inl v8)] [] σ (QI Q) := by
  unfold g_X9_both_113 at w
  refine R_iload dX9_both_113 3 rfl ?_
  refine R_istore_n (lv' := [(3, .inl v6), (0, .inr (.inr (9, 0, 0))), (1, .inl v1), (2, .inl v2), (6, .inl v6), (7, .inl v7), (8, .inl v8)]) dX9_both_115 rfl (by decide) rfl ?_
  refine R_iload dX9_both_116 5 rfl ?_
  refine R_iload dX9_both_118 6 rfl ?_
  refine R_iadd dX9_both_120 ?_
  refine R_nameI w ?_; clear w; intro x17 w
  refine R_istore (lv' := [(4, .inl x17), (3, .inl v6), (0, .inr (.inr (9, 0, 0))), (1, .inl v1), (2, .inl v2), (6, .inl v6), (7, .inl v7), (8, .inl v8)]) dX9_both_121 (by decide) rfl ?_
  refine R_iload dX9_both_123 6 rfl ?_
  refine R_iload dX9_both_125 7 rfl ?_
  refine R_callSI (As := [.inl v7, .inl v8]) mi_X9_least ml_RX9_299 rfl (Nat.le_of_ble_eq_true rfl) (by decide) dX9_both_127 (ct_X9_least hA v7 v8 σ _ (wp_bnd w)) (fun r18 σ19 w => ?_)
  refine R_istore (lv' := [(5, .inl r18), (4, .inl x17), (3, .inl v6), (0, .inr (.inr (9, 0, 0))), (1, .inl v1), (2, .inl v2), (6, .inl v6), (7, .inl v7), (8, .inl v8)]) dX9_both_130 (by decide) rfl ?_
  refine R_iinc (v := v6 + 1) (lv' := [(6, .inl (v6 + 1)), (5, .inl r18), (4, .inl x17), (3, .inl v6), (0, .inr (.inr (9, 0, 0))), (1, .inl v1), (2, .inl v2), (7, .inl v7), (8, .inl v8)]) dX9_both_132 6 rfl rfl (by decide) rfl ?_
  refine R_goto (tgt := 31) dX9_both_135 (by decide) ?_
  refine R_sub [4, 5, 6, 3, 2, 1, 0] rfl ?_
  exact hk31 v1 v2 v6 x17 r18 (v6 + 1) σ19 w
def g_X9_both_31    : Nat → Int32 → Int32 → Int32 → Int32 → Int32 → Int32 → AS → Option (Int32 × AS)
  | 0, _, _, _, _, _, _, _ => none
  | f0 + 1, v1, v2, v3, v4, v5, v6, σ => (if inb v1 7 then (if gA σ 9 0 7 v1 < v6 then (if v2 = 0 then some (v3, σ) else some (v4, σ)) else (if inb v1 40 then (bnd (g_X9_least v6 (gA σ 9 0 0 v1) σ) fun r11 σ12 => (if inb (v1 + 1) 40 then (bnd (g_X9_least ((gA σ12 9 0 7 v1) - v6) (gA σ12 9 0 0 (v1 + 1)) σ12) fun r14 σ15 => (if v3 < 0 then g_X9_both_113 (g_X9_both_31 f0) v1 v2 v6 r11 r14 σ15 else (if v4 < r11 + r14 then g_X9_both_113 (g_X9_both_31 f0) v1 v2 v6 r11 r14 σ15 else (if r11 + r14 = v4 then (bnd (g_X9_least r11 r14 σ15) fun r22 σ23 => (if v5 < r22 then g_X9_both_113 (g_X9_both_31 f0) v1 v2 v6 r11 r14 σ23 else (g_X9_both_31 f0) v1 v2 v3 v4 v5 (v6 + 1) σ23)) else (g_X9_both_31 f0) v1 v2 v3 v4 v5 (v6 + 1) σ15)))) else none)) else none)) else none)
set_option maxRecDepth 100000 in
set_option maxHeartbeats 4000000 in
theorem rk_X9_both_31 {l : Launch} {cx : CX} (hA : AD cx)    (Q : Int32 → AS → Prop) : ∀ (f0 : Nat) (v1 : Int32) (v2 : Int32) (v3 : Int32) (v4 : Int32) (v5 : Int32) (v6 : Int32) (σ : AS), wpO (g_X9_both_31 f0 v1 v2 v3 v4 v5 v6 σ) Q → RJ l cx 2 RX9 cX9_both 9 (some .int) 31 [(0, .inr (.inr (9, 0, 0))), (1, .inl v1), (2, .inl v2), (3, .inl v3), (4, .inl v4), (5, .inl v5), (6, .inl v6)] [] σ (QI Q) := by
  intro f0
  induction f0 with
  | zero => intro v1 v2 v3 v4 v5 v6 σ w; exact wp_no w
  | succ f0 ih =>
    intro v1 v2 v3 v4 v5 v6 σ w
    rw [g_X9_both_31] at w
    refine R_iload dX9_both_31 6 rfl ?_
    refine R_aload_n dX9_both_33 rfl 0 rfl ?_
    refine R_getfA (k := 7) acl9 oz9_0 (by decide) fl_RX9_22 dX9_both_34 rfl ?_
    refine R_iload_n dX9_both_37 rfl 1 rfl ?_
    obtain ⟨b7, w⟩ := wp_chk w
    refine R_iald rfl oz9_0 b7 dX9_both_38 ?_
    refine R_icmp_gt (tgt := 138) dX9_both_39 (by decide) (fun c8 => ?_) (fun c8 => ?_)
    · have w := wp_t c8 w
      refine R_iload_n dX9_both_138 rfl 2 rfl ?_
      refine R_if_ne (tgt := 146) dX9_both_139 (by decide) (fun c9 => ?_) (fun c9 => ?_)
      · have w := wp_f c9 w
        refine R_iload dX9_both_146 4 rfl ?_
        exact R_ireturn dX9_both_148 rfl ⟨_, rfl, wp_some w⟩
      · have w := wp_t c9 w
        refine R_iload_n dX9_both_142 rfl 3 rfl ?_
        refine R_goto (tgt := 148) dX9_both_143 (by decide) ?_
        exact R_ireturn dX9_both_148 rfl ⟨_, rfl, wp_some w⟩
    · have w := wp_f c8 w
      refine R_iload dX9_both_42 6 rfl ?_
      refine R_aload_n dX9_both_44 rfl 0 rfl ?_
      refine R_getfA (k := 0) acl9 oz9_0 (by decide) fl_RX9_9 dX9_both_45 rfl ?_
      refine R_iload_n dX9_both_48 rfl 1 rfl ?_
      obtain ⟨b10, w⟩ := wp_chk w
      refine R_iald rfl oz9_0 b10 dX9_both_49 ?_
      refine R_callSI (As := [.inl v6, .inl (gA σ 9 0 0 v1)]) mi_X9_least ml_RX9_299 rfl (Nat.le_of_ble_eq_true rfl) (by decide) dX9_both_50 (ct_X9_least hA v6 (gA σ 9 0 0 v1) σ _ (wp_bnd w)) (fun r11 σ12 w => ?_)
      refine R_istore (lv' := [(7, .inl r11), (0, .inr (.inr (9, 0, 0))), (1, .inl v1), (2, .inl v2), (3, .inl v3), (4, .inl v4), (5, .inl v5), (6, .inl v6)]) dX9_both_53 (by decide) rfl ?_
      refine R_aload_n dX9_both_55 rfl 1 rfl ?_
      refine R_getfA (k := 7) acl9 oz9_0 (by decide) fl_RX9_22 dX9_both_56 rfl ?_
      refine R_iload_n dX9_both_59 rfl 2 rfl ?_
      refine R_iald rfl oz9_0 b7 dX9_both_60 ?_
      refine R_iload dX9_both_61 7 rfl ?_
      refine R_isub dX9_both_63 ?_
      refine R_aload_n dX9_both_64 rfl 1 rfl ?_
      refine R_getfA (k := 0) acl9 oz9_0 (by decide) fl_RX9_9 dX9_both_65 rfl ?_
      refine R_iload_n dX9_both_68 rfl 2 rfl ?_
      refine R_iconst (v := 1) dX9_both_69 (by decide) ?_
      refine R_iadd dX9_both_70 ?_
      obtain ⟨b13, w⟩ := wp_chk w
      refine R_iald rfl oz9_0 b13 dX9_both_71 ?_
      refine R_callSI (As := [.inl ((gA σ12 9 0 7 v1) - v6), .inl (gA σ12 9 0 0 (v1 + 1))]) mi_X9_least ml_RX9_299 rfl (Nat.le_of_ble_eq_true rfl) (by decide) dX9_both_72 (ct_X9_least hA ((gA σ12 9 0 7 v1) - v6) (gA σ12 9 0 0 (v1 + 1)) σ12 _ (wp_bnd w)) (fun r14 σ15 w => ?_)
      refine R_istore (lv' := [(8, .inl r14), (7, .inl r11), (0, .inr (.inr (9, 0, 0))), (1, .inl v1), (2, .inl v2), (3, .inl v3), (4, .inl v4), (5, .inl v5), (6, .inl v6)]) dX9_both_75 (by decide) rfl ?_
      refine R_iload_n dX9_both_77 rfl 5 rfl ?_
      refine R_if_lt (tgt := 113) dX9_both_78 (by decide) (fun c16 => ?_) (fun c16 => ?_)
      · have w := wp_t c16 w
        refine R_sub [2, 3, 4, 8, 1, 0] rfl ?_
        exact rk_X9_both_113 hA _ (g_X9_both_31 f0) ih v1 v2 v6 r11 r14 σ15 w
      · have w := wp_f c16 w
        refine R_iload dX9_both_81 1 rfl ?_
        refine R_iload dX9_both_83 0 rfl ?_
        refine R_iadd dX9_both_85 ?_
        refine R_iload dX9_both_86 6 rfl ?_
        refine R_icmp_gt (tgt := 113) dX9_both_88 (by decide) (fun c20 => ?_) (fun c20 => ?_)
        · have w := wp_t c20 w
          refine R_sub [2, 3, 4, 8, 1, 0] rfl ?_
          exact rk_X9_both_113 hA _ (g_X9_both_31 f0) ih v1 v2 v6 r11 r14 σ15 w
        · have w := wp_f c20 w
          refine R_iload dX9_both_91 1 rfl ?_
          refine R_iload dX9_both_93 0 rfl ?_
          refine R_iadd dX9_both_95 ?_
          refine R_iload dX9_both_96 6 rfl ?_
          refine R_icmp_ne (tgt := 132) dX9_both_98 (by decide) (fun c21 => ?_) (fun c21 => ?_)
          · have w := wp_f c21 w
            refine R_iinc (v := v6 + 1) (lv' := [(6, .inl (v6 + 1)), (8, .inl r14), (7, .inl r11), (0, .inr (.inr (9, 0, 0))), (1, .inl v1), (2, .inl v2), (3, .inl v3), (4, .inl v4), (5, .inl v5)]) dX9_both_132 8 rfl rfl (by decide) rfl ?_
            refine R_goto (tgt := 31) dX9_both_135 (by decide) ?_
            refine R_sub [3, 4, 5, 6, 7, 8, 0] rfl ?_
            exact ih v1 v2 v3 v4 v5 (v6 + 1) σ15 w
          · have w := wp_t c21 w
            refine R_iload dX9_both_101 1 rfl ?_
            refine R_iload dX9_both_103 0 rfl ?_
            refine R_callSI (As := [.inl r11, .inl r14]) mi_X9_least ml_RX9_299 rfl (Nat.le_of_ble_eq_true rfl) (by decide) dX9_both_105 (ct_X9_least hA r11 r14 σ15 _ (wp_bnd w)) (fun r22 σ23 w => ?_)
            refine R_iload dX9_both_108 7 rfl ?_
            refine R_icmp_le (tgt := 132) dX9_both_110 (by decide) (fun c24 => ?_) (fun c24 => ?_)
            · have w := wp_f c24 w
              refine R_iinc (v := v6 + 1) (lv' := [(6, .inl (v6 + 1)), (8, .inl r14), (7, .inl r11), (0, .inr (.inr (9, 0, 0))), (1, .inl v1), (2, .inl v2), (3, .inl v3), (4, .inl v4), (5, .inl v5)]) dX9_both_132 8 rfl rfl (by decide) rfl ?_
              refine R_goto (tgt := 31) dX9_both_135 (by decide) ?_
              refine R_sub [3, 4, 5, 6, 7, 8, 0] rfl ?_
              exact ih v1 v2 v3 v4 v5 (v6 + 1) σ23 w
            · have w := wp_t c24 w
              refine R_sub [2, 3, 4, 8, 1, 0] rfl ?_
              exact rk_X9_both_113 hA _ (g_X9_both_31 f0) ih v1 v2 v6 r11 r14 σ23 w
def g_X9_both (a0 : Int32) (a1 : Int32) (σ : AS) : Option (Int32 × AS) := (bnd (g_X9_isRest a0 σ) fun r1 σ2 => (if r1 = 0 then some ((-1), σ2) else (bnd (g_X9_within a1.toInt64 0 1 σ2) fun r4 σ5 => (if r4 = 0 then some ((-1), σ5) else g_X9_both_31 400 a0 a1 (-1) 0 0 0 σ5))))
set_option maxRecDepth 100000 in
set_option maxHeartbeats 4000000 in
theorem ct_X9_both {l : Launch} {cx : CX} (hA : AD cx) (a0 : Int32) (a1 : Int32) (σ : AS) (Q : Int32 → AS → Prop) (w : wpO (g_X9_both a0 a1 σ) Q) : AMet l cx 2 yX9_both cX9_both 9 (some .int) [.inr (.inr (9, 0, 0)), .inl a0, .inl a1] σ (QI Q) := by
  unfold g_X9_both at w
  refine AMet.of (own := RX9) (by decide) rfl hA (Nat.le_of_ble_eq_true rfl) ?_
  show RJ l cx 2 RX9 cX9_both 9 (some .int) 0 [(0, .inr (.inr (9, 0, 0))), (1, .inl a0), (2, .inl a1)] [] σ _
  refine R_aload_n dX9_both_0 rfl 0 rfl ?_
  refine R_iload_n dX9_both_1 rfl 1 rfl ?_
  refine R_callVI (As := [.inl a0]) acl9 rfl oz9_0 mi_X9_isRest ml_RX9_168 rfl (Nat.le_of_ble_eq_true rfl) (by decide) dX9_both_2 (ct_X9_isRest hA a0 σ _ (wp_bnd w)) (fun r1 σ2 w => ?_)
  refine R_if_eq (tgt := 18) dX9_both_5 (by decide) (fun c3 => ?_) (fun c3 => ?_)
  · have w := wp_t c3 w
    refine R_iconst (v := (-1)) dX9_both_18 (by decide) ?_
    exact R_ireturn dX9_both_19 rfl ⟨_, rfl, wp_some w⟩
  · have w := wp_f c3 w
    refine R_iload_n dX9_both_8 rfl 2 rfl ?_
    refine R_i2l dX9_both_9 ?_
    refine R_lconst (v := 0) dX9_both_10 (by decide) ?_
    refine R_lconst (v := 1) dX9_both_11 (by decide) ?_
    refine R_callSI (As := [.inr (.inl a1.toInt64), .inr (.inl 0), .inr (.inl 1)]) mi_X9_within ml_RX9_114 rfl (Nat.le_of_ble_eq_true rfl) (by decide) dX9_both_12 (ct_X9_within hA a1.toInt64 0 1 σ2 _ (wp_bnd w)) (fun r4 σ5 w => ?_)
    refine R_if_ne (tgt := 20) dX9_both_15 (by decide) (fun c6 => ?_) (fun c6 => ?_)
    · have w := wp_f c6 w
      refine R_iconst (v := (-1)) dX9_both_20 (by decide) ?_
      refine R_istore_n (lv' := [(3, .inl (-1)), (0, .inr (.inr (9, 0, 0))), (1, .inl a0), (2, .inl a1)]) dX9_both_21 rfl (by decide) rfl ?_
      refine R_iconst (v := 0) dX9_both_22 (by decide) ?_
      refine R_istore (lv' := [(4, .inl 0), (3, .inl (-1)), (0, .inr (.inr (9, 0, 0))), (1, .inl a0), (2, .inl a1)]) dX9_both_23 (by decide) rfl ?_
      refine R_iconst (v := 0) dX9_both_25 (by decide) ?_
      refine R_istore (lv' := [(5, .inl 0), (4, .inl 0), (3, .inl (-1)), (0, .inr (.inr (9, 0, 0))), (1, .inl a0), (2, .inl a1)]) dX9_both_26 (by decide) rfl ?_
      refine R_iconst (v := 0) dX9_both_28 (by decide) ?_
      refine R_istore (lv' := [(6, .inl 0), (5, .inl 0), (4, .inl 0), (3, .inl (-1)), (0, .inr (.inr (9, 0, 0))), (1, .inl a0), (2, .inl a1)]) dX9_both_29 (by decide) rfl ?_
      refine R_sub [4, 5, 6, 3, 2, 1, 0] rfl ?_
      exact rk_X9_both_31 hA _ 400 a0 a1 (-1) 0 0 0 σ5 w
    · have w := wp_t c6 w
      refine R_iconst (v := (-1)) dX9_both_18 (by decide) ?_
      exact R_ireturn dX9_both_19 rfl ⟨_, rfl, wp_some w⟩
def g_X9_swaps (a0 : Int32) (a1 : Int32) (σ : AS) : Option (Unit × AS) := (if inb a0 8 then (lt (gA σ 9 0 14 a0) fun x2 => (if inb a1 8 then (lt (sA σ 9 0 14 a0 (gA σ 9 0 14 a1)) fun σ4 => (lt (sA σ4 9 0 14 a1 x2) fun σ5 => some ((), σ5))) else none)) else none)
set_option maxRecDepth 100000 in
set_option maxHeartbeats 4000000 in
theorem ct_X9_swaps {l : Launch} {cx : CX} (hA : AD cx) (a0 : Int32) (a1 : Int32) (σ : AS) (Q : Unit → AS → Prop) (w : wpO (g_X9_swaps a0 a1 σ) Q) : AMet l cx 0 yX9_swaps cX9_swaps 4 none [.inr (.inr (9, 0, 0)), .inl a0, .inl a1] σ (QV Q) := by
  unfold g_X9_swaps at w
  refine AMet.of (own := RX9) (by decide) rfl hA (Nat.le_of_ble_eq_true rfl) ?_
  show RJ l cx 0 RX9 cX9_swaps 4 none 0 [(0, .inr (.inr (9, 0, 0))), (1, .inl a0), (2, .inl a1)] [] σ _
  refine R_aload_n dX9_swaps_0 rfl 0 rfl ?_
  refine R_getfA (k := 14) acl9 oz9_0 (by decide) fl_RX9_37 dX9_swaps_1 rfl ?_
  refine R_iload_n dX9_swaps_4 rfl 1 rfl ?_
  obtain ⟨b1, w⟩ := wp_chk w
  refine R_iald rfl oz9_0 b1 dX9_swaps_5 ?_
  refine R_nameI w ?_; clear w; intro x2 w
  refine R_istore_n (lv' := [(3, .inl x2), (0, .inr (.inr (9, 0, 0))), (1, .inl a0), (2, .inl a1)]) dX9_swaps_6 rfl (by decide) rfl ?_
  refine R_aload_n dX9_swaps_7 rfl 1 rfl ?_
  refine R_getfA (k := 14) acl9 oz9_0 (by decide) fl_RX9_37 dX9_swaps_8 rfl ?_
  refine R_iload_n dX9_swaps_11 rfl 2 rfl ?_
  refine R_aload_n dX9_swaps_12 rfl 1 rfl ?_
  refine R_getfA (k := 14) acl9 oz9_0 (by decide) fl_RX9_37 dX9_swaps_13 rfl ?_
  refine R_iload_n dX9_swaps_16 rfl 3 rfl ?_
  obtain ⟨b3, w⟩ := wp_chk w
  refine R_iald rfl oz9_0 b3 dX9_swaps_17 ?_
  refine R_iast rfl oz9_0 b1 dX9_swaps_18 ?_
  refine R_nameS w ?_; clear w; intro σ4 w
  refine R_aload_n dX9_swaps_19 rfl 1 rfl ?_
  refine R_getfA (k := 14) acl9 oz9_0 (by decide) fl_RX9_37 dX9_swaps_20 rfl ?_
  refine R_iload_n dX9_swaps_23 rfl 3 rfl ?_
  refine R_iload_n dX9_swaps_24 rfl 0 rfl ?_
  refine R_iast rfl oz9_0 b3 dX9_swaps_25 ?_
  refine R_nameS w ?_; clear w; intro σ5 w
  exact R_vreturn dX9_swaps_26 rfl ⟨rfl, wp_some w⟩
def g_X9_change_27    (k12 : Int32 → Int32 → Int32 → Int32 → AS → Option (Int32 × AS)) : Nat → Int32 → Int32 → Int32 → Int32 → Int32 → AS → Option (Int32 × AS)
  | 0, _, _, _, _, _, _ => none
  | f0 + 1, v1, v2, v3, v4, v5, σ => (if v5 < gF σ 9 0 6 then (bnd (g_X9_swaps v4 v5 σ) fun _ σ6 => (bnd (g_X9_allThatComes v1 σ6) fun r7 σ8 => (bnd (g_X9_swaps v4 v5 σ8) fun _ σ9 => (if v3 < r7 then (lt ((10 * v4) + v5) fun x11 => (g_X9_change_27 k12 f0) v1 x11 r7 v4 (v5 + 1) σ9) else (g_X9_change_27 k12 f0) v1 v2 v3 v4 (v5 + 1) σ9)))) else k12 v1 v2 v3 (v4 + 1) σ)
set_option maxRecDepth 100000 in
set_option maxHeartbeats 4000000 in
theorem rk_X9_change_27 {l : Launch} {cx : CX} (hA : AD cx)    (Q : Int32 → AS → Prop) (k12 : Int32 → Int32 → Int32 → Int32 → AS → Option (Int32 × AS)) (hk12 : ∀ (v1 : Int32) (v2 : Int32) (v3 : Int32) (v4 : Int32) (σ : AS), wpO (k12 v1 v2 v3 v4 σ) Q → RJ l cx 110 RX9 cX9_change 7 (some .int) 12 [(0, .inr (.inr (9, 0, 0))), (1, .inl v1), (2, .inl v2), (3, .inl v3), (4, .inl v4)] [] σ (QI Q)) : ∀ (f0 : Nat) (v1 : Int32) (v2 : Int32) (v3 : Int32) (v4 : Int32) (v5 : Int32) (σ : AS), wpO (g_X9_change_27 k12 f0 v1 v2 v3 v4 v5 σ) Q → RJ l cx 110 RX9 cX9_change 7 (some .int) 27 [(0, .inr (.inr (9, 0, 0))), (1, .inl v1), (2, .inl v2), (3, .inl v3), (4, .inl v4), (5, .inl v5)] [] σ (QI Q) := by
  intro f0
  induction f0 with
  | zero => intro v1 v2 v3 v4 v5 σ w; exact wp_no w
  | succ f0 ih =>
    intro v1 v2 v3 v4 v5 σ w
    rw [g_X9_change_27] at w
    refine R_iload dX9_change_27 5 rfl ?_
    refine R_aload_n dX9_change_29 rfl 0 rfl ?_
    refine R_getfI (k := 6) acl9 oz9_0 (by decide) fl_RX9_111 dX9_change_30 rfl ?_
    refine R_icmp_ge (tgt := 83) dX9_change_33 (by decide) (fun c5 => ?_) (fun c5 => ?_)
    · have w := wp_f c5 w
      refine R_iinc (v := v4 + 1) (lv' := [(4, .inl (v4 + 1)), (0, .inr (.inr (9, 0, 0))), (1, .inl v1), (2, .inl v2), (3, .inl v3), (5, .inl v5)]) dX9_change_83 4 rfl rfl (by decide) rfl ?_
      refine R_goto (tgt := 12) dX9_change_86 (by decide) ?_
      refine R_sub [1, 2, 3, 4, 0] rfl ?_
      exact hk12 v1 v2 v3 (v4 + 1) σ w
    · have w := wp_t c5 w
      refine R_aload_n dX9_change_36 rfl 0 rfl ?_
      refine R_iload dX9_change_37 4 rfl ?_
      refine R_iload dX9_change_39 5 rfl ?_
      refine R_callVV (As := [.inl v4, .inl v5]) acl9 rfl oz9_0 mi_X9_swaps ml_RX9_289 rfl (Nat.le_of_ble_eq_true rfl) (by decide) dX9_change_41 (ct_X9_swaps hA v4 v5 σ _ (wp_bnd w)) (fun σ6 w => ?_)
      refine R_aload_n dX9_change_44 rfl 0 rfl ?_
      refine R_iload_n dX9_change_45 rfl 1 rfl ?_
      refine R_callVI (As := [.inl v1]) acl9 rfl oz9_0 mi_X9_allThatComes ml_RX9_292 rfl (Nat.le_of_ble_eq_true rfl) (by decide) dX9_change_46 (ct_X9_allThatComes hA v1 σ6 _ (wp_bnd w)) (fun r7 σ8 w => ?_)
      refine R_istore (lv' := [(6, .inl r7), (0, .inr (.inr (9, 0, 0))), (1, .inl v1), (2, .inl v2), (3, .inl v3), (4, .inl v4), (5, .inl v5)]) dX9_change_49 (by decide) rfl ?_
      refine R_aload_n dX9_change_51 rfl 1 rfl ?_
      refine R_iload dX9_change_52 5 rfl ?_
      refine R_iload dX9_change_54 6 rfl ?_
      refine R_callVV (As := [.inl v4, .inl v5]) acl9 rfl oz9_0 mi_X9_swaps ml_RX9_289 rfl (Nat.le_of_ble_eq_true rfl) (by decide) dX9_change_56 (ct_X9_swaps hA v4 v5 σ8 _ (wp_bnd w)) (fun σ9 w => ?_)
      refine R_iload dX9_change_59 0 rfl ?_
      refine R_iload_n dX9_change_61 rfl 4 rfl ?_
      refine R_icmp_le (tgt := 77) dX9_change_62 (by decide) (fun c10 => ?_) (fun c10 => ?_)
      · have w := wp_f c10 w
        refine R_iinc (v := v5 + 1) (lv' := [(5, .inl (v5 + 1)), (6, .inl r7), (0, .inr (.inr (9, 0, 0))), (1, .inl v1), (2, .inl v2), (3, .inl v3), (4, .inl v4)]) dX9_change_77 6 rfl rfl (by decide) rfl ?_
        refine R_goto (tgt := 27) dX9_change_80 (by decide) ?_
        refine R_sub [2, 3, 4, 5, 6, 0] rfl ?_
        exact ih v1 v2 v3 v4 (v5 + 1) σ9 w
      · have w := wp_t c10 w
        refine R_bipush (v := 10) dX9_change_65 (by decide) ?_
        refine R_iload dX9_change_67 5 rfl ?_
        refine R_imul dX9_change_69 ?_
        refine R_iload dX9_change_70 6 rfl ?_
        refine R_iadd dX9_change_72 ?_
        refine R_nameI w ?_; clear w; intro x11 w
        refine R_istore_n (lv' := [(2, .inl x11), (6, .inl r7), (0, .inr (.inr (9, 0, 0))), (1, .inl v1), (3, .inl v3), (4, .inl v4), (5, .inl v5)]) dX9_change_73 rfl (by decide) rfl ?_
        refine R_iload dX9_change_74 1 rfl ?_
        refine R_istore_n (lv' := [(3, .inl r7), (2, .inl x11), (6, .inl r7), (0, .inr (.inr (9, 0, 0))), (1, .inl v1), (4, .inl v4), (5, .inl v5)]) dX9_change_76 rfl (by decide) rfl ?_
        refine R_iinc (v := v5 + 1) (lv' := [(5, .inl (v5 + 1)), (3, .inl r7), (2, .inl x11), (6, .inl r7), (0, .inr (.inr (9, 0, 0))), (1, .inl v1), (4, .inl v4)]) dX9_change_77 6 rfl rfl (by decide) rfl ?_
        refine R_goto (tgt := 27) dX9_change_80 (by decide) ?_
        refine R_sub [4, 5, 2, 1, 6, 0] rfl ?_
        exact ih v1 x11 r7 v4 (v5 + 1) σ9 w
def g_X9_change_12    : Nat → Int32 → Int32 → Int32 → Int32 → AS → Option (Int32 × AS)
  | 0, _, _, _, _, _ => none
  | f0 + 1, v1, v2, v3, v4, σ => (if v4 < gF σ 9 0 6 then (lt (v4 + 1) fun x4 => g_X9_change_27 (g_X9_change_12 f0) 400 v1 v2 v3 v4 x4 σ) else some (v2, σ))
set_option maxRecDepth 100000 in
set_option maxHeartbeats 4000000 in
theorem rk_X9_change_12 {l : Launch} {cx : CX} (hA : AD cx)    (Q : Int32 → AS → Prop) : ∀ (f0 : Nat) (v1 : Int32) (v2 : Int32) (v3 : Int32) (v4 : Int32) (σ : AS), wpO (g_X9_change_12 f0 v1 v2 v3 v4 σ) Q → RJ l cx 110 RX9 cX9_change 7 (some .int) 12 [(0, .inr (.inr (9, 0, 0))), (1, .inl v1), (2, .inl v2), (3, .inl v3), (4, .inl v4)] [] σ (QI Q) := by
  intro f0
  induction f0 with
  | zero => intro v1 v2 v3 v4 σ w; exact wp_no w
  | succ f0 ih =>
    intro v1 v2 v3 v4 σ w
    rw [g_X9_change_12] at w
    refine R_iload dX9_change_12 4 rfl ?_
    refine R_aload_n dX9_change_14 rfl 0 rfl ?_
    refine R_getfI (k := 6) acl9 oz9_0 (by decide) fl_RX9_111 dX9_change_15 rfl ?_
    refine R_icmp_ge (tgt := 89) dX9_change_18 (by decide) (fun c3 => ?_) (fun c3 => ?_)
    · have w := wp_f c3 w
      refine R_iload_n dX9_change_89 rfl 2 rfl ?_
      exact R_ireturn dX9_change_90 rfl ⟨_, rfl, wp_some w⟩
    · have w := wp_t c3 w
      refine R_iload dX9_change_21 4 rfl ?_
      refine R_iconst (v := 1) dX9_change_23 (by decide) ?_
      refine R_iadd dX9_change_24 ?_
      refine R_nameI w ?_; clear w; intro x4 w
      refine R_istore (lv' := [(5, .inl x4), (0, .inr (.inr (9, 0, 0))), (1, .inl v1), (2, .inl v2), (3, .inl v3), (4, .inl v4)]) dX9_change_25 (by decide) rfl ?_
      refine R_sub [1, 2, 3, 4, 5, 0] rfl ?_
      exact rk_X9_change_27 hA _ (g_X9_change_12 f0) ih 400 v1 v2 v3 v4 x4 σ w
def g_X9_change (a0 : Int32) (σ : AS) : Option (Int32 × AS) := (bnd (g_X9_allThatComes a0 σ) fun r1 σ2 => g_X9_change_12 400 a0 (-2) r1 0 σ2)
set_option maxRecDepth 100000 in
set_option maxHeartbeats 4000000 in
theorem ct_X9_change {l : Launch} {cx : CX} (hA : AD cx) (a0 : Int32) (σ : AS) (Q : Int32 → AS → Prop) (w : wpO (g_X9_change a0 σ) Q) : AMet l cx 110 yX9_change cX9_change 7 (some .int) [.inr (.inr (9, 0, 0)), .inl a0] σ (QI Q) := by
  unfold g_X9_change at w
  refine AMet.of (own := RX9) (by decide) rfl hA (Nat.le_of_ble_eq_true rfl) ?_
  show RJ l cx 110 RX9 cX9_change 7 (some .int) 0 [(0, .inr (.inr (9, 0, 0))), (1, .inl a0)] [] σ _
  refine R_bipush (v := (-2)) dX9_change_0 (by decide) ?_
  refine R_istore_n (lv' := [(2, .inl (-2)), (0, .inr (.inr (9, 0, 0))), (1, .inl a0)]) dX9_change_2 rfl (by decide) rfl ?_
  refine R_aload_n dX9_change_3 rfl 1 rfl ?_
  refine R_iload_n dX9_change_4 rfl 2 rfl ?_
  refine R_callVI (As := [.inl a0]) acl9 rfl oz9_0 mi_X9_allThatComes ml_RX9_292 rfl (Nat.le_of_ble_eq_true rfl) (by decide) dX9_change_5 (ct_X9_allThatComes hA a0 σ _ (wp_bnd w)) (fun r1 σ2 w => ?_)
  refine R_istore_n (lv' := [(3, .inl r1), (2, .inl (-2)), (0, .inr (.inr (9, 0, 0))), (1, .inl a0)]) dX9_change_8 rfl (by decide) rfl ?_
  refine R_iconst (v := 0) dX9_change_9 (by decide) ?_
  refine R_istore (lv' := [(4, .inl 0), (3, .inl r1), (2, .inl (-2)), (0, .inr (.inr (9, 0, 0))), (1, .inl a0)]) dX9_change_10 (by decide) rfl ?_
  refine R_sub [3, 4, 2, 1, 0] rfl ?_
  exact rk_X9_change_12 hA _ 400 a0 (-2) r1 0 σ2 w
def g_X9_count (a0 : Int32) (σ : AS) : Option (Int32 × AS) := (if a0 = 0 then some (gF σ 9 0 6, σ) else (if a0 = 1 then (bnd (g_X9_rests σ) fun r3 σ4 => some (r3, σ4)) else (if a0 = 2 then some (gF σ 9 0 13, σ) else (if a0 = 3 then some (gF σ 9 0 12, σ) else (if a0 = 4 then some (gF σ 9 0 16, σ) else (if a0 = 5 then some (gF σ 9 0 5, σ) else (if a0 = 6 then some (gF σ 9 0 44, σ) else (if a0 = 7 then some (gF σ 9 0 47, σ) else some ((-1), σ)))))))))
set_option maxRecDepth 100000 in
set_option maxHeartbeats 4000000 in
theorem ct_X9_count {l : Launch} {cx : CX} (hA : AD cx) (a0 : Int32) (σ : AS) (Q : Int32 → AS → Prop) (w : wpO (g_X9_count a0 σ) Q) : AMet l cx 1 yX9_count cX9_count 2 (some .int) [.inr (.inr (9, 0, 0)), .inl a0] σ (QI Q) := by
  unfold g_X9_count at w
  refine AMet.of (own := RX9) (by decide) rfl hA (Nat.le_of_ble_eq_true rfl) ?_
  show RJ l cx 1 RX9 cX9_count 2 (some .int) 0 [(0, .inr (.inr (9, 0, 0))), (1, .inl a0)] [] σ _
  refine R_iload_n dX9_count_0 rfl 1 rfl ?_
  by_cases c1 : a0 = 0
  · have w := wp_t c1 w
    refine R_tswIn (v := 0) (tgt := 48) dX9_count_1 c1 (by decide) (by decide) rfl (by decide) ?_
    refine R_aload_n dX9_count_48 rfl 0 rfl ?_
    refine R_getfI (k := 6) acl9 oz9_0 (by decide) fl_RX9_111 dX9_count_49 rfl ?_
    exact R_ireturn dX9_count_52 rfl ⟨_, rfl, wp_some w⟩
  have w := wp_f c1 w
  by_cases c2 : a0 = 1
  · have w := wp_t c2 w
    refine R_tswIn (v := 1) (tgt := 53) dX9_count_1 c2 (by decide) (by decide) rfl (by decide) ?_
    refine R_aload_n dX9_count_53 rfl 0 rfl ?_
    refine R_callVI (As := []) acl9 rfl oz9_0 mi_X9_rests ml_RX9_118 rfl (Nat.le_of_ble_eq_true rfl) (by decide) dX9_count_54 (ct_X9_rests hA σ _ (wp_bnd w)) (fun r3 σ4 w => ?_)
    exact R_ireturn dX9_count_57 rfl ⟨_, rfl, wp_some w⟩
  have w := wp_f c2 w
  by_cases c5 : a0 = 2
  · have w := wp_t c5 w
    refine R_tswIn (v := 2) (tgt := 58) dX9_count_1 c5 (by decide) (by decide) rfl (by decide) ?_
    refine R_aload_n dX9_count_58 rfl 0 rfl ?_
    refine R_getfI (k := 13) acl9 oz9_0 (by decide) fl_RX9_127 dX9_count_59 rfl ?_
    exact R_ireturn dX9_count_62 rfl ⟨_, rfl, wp_some w⟩
  have w := wp_f c5 w
  by_cases c6 : a0 = 3
  · have w := wp_t c6 w
    refine R_tswIn (v := 3) (tgt := 63) dX9_count_1 c6 (by decide) (by decide) rfl (by decide) ?_
    refine R_aload_n dX9_count_63 rfl 0 rfl ?_
    refine R_getfI (k := 12) acl9 oz9_0 (by decide) fl_RX9_274 dX9_count_64 rfl ?_
    exact R_ireturn dX9_count_67 rfl ⟨_, rfl, wp_some w⟩
  have w := wp_f c6 w
  by_cases c7 : a0 = 4
  · have w := wp_t c7 w
    refine R_tswIn (v := 4) (tgt := 68) dX9_count_1 c7 (by decide) (by decide) rfl (by decide) ?_
    refine R_aload_n dX9_count_68 rfl 0 rfl ?_
    refine R_getfI (k := 16) acl9 oz9_0 (by decide) fl_RX9_173 dX9_count_69 rfl ?_
    exact R_ireturn dX9_count_72 rfl ⟨_, rfl, wp_some w⟩
  have w := wp_f c7 w
  by_cases c8 : a0 = 5
  · have w := wp_t c8 w
    refine R_tswIn (v := 5) (tgt := 73) dX9_count_1 c8 (by decide) (by decide) rfl (by decide) ?_
    refine R_aload_n dX9_count_73 rfl 0 rfl ?_
    refine R_getfI (k := 5) acl9 oz9_0 (by decide) fl_RX9_105 dX9_count_74 rfl ?_
    exact R_ireturn dX9_count_77 rfl ⟨_, rfl, wp_some w⟩
  have w := wp_f c8 w
  by_cases c9 : a0 = 6
  · have w := wp_t c9 w
    refine R_tswIn (v := 6) (tgt := 78) dX9_count_1 c9 (by decide) (by decide) rfl (by decide) ?_
    refine R_aload_n dX9_count_78 rfl 0 rfl ?_
    refine R_getfI (k := 44) acl9 oz9_0 (by decide) fl_RX9_327 dX9_count_79 rfl ?_
    exact R_ireturn dX9_count_82 rfl ⟨_, rfl, wp_some w⟩
  have w := wp_f c9 w
  by_cases c10 : a0 = 7
  · have w := wp_t c10 w
    refine R_tswIn (v := 7) (tgt := 83) dX9_count_1 c10 (by decide) (by decide) rfl (by decide) ?_
    refine R_aload_n dX9_count_83 rfl 0 rfl ?_
    refine R_getfI (k := 47) acl9 oz9_0 (by decide) fl_RX9_332 dX9_count_84 rfl ?_
    exact R_ireturn dX9_count_87 rfl ⟨_, rfl, wp_some w⟩
  have w := wp_f c10 w
  refine R_tswOut (tgt := 88) dX9_count_1 [0, 1, 2, 3, 4, 5, 6, 7] (List.forall_mem_cons.mpr ⟨c1, (List.forall_mem_cons.mpr ⟨c2, (List.forall_mem_cons.mpr ⟨c5, (List.forall_mem_cons.mpr ⟨c6, (List.forall_mem_cons.mpr ⟨c7, (List.forall_mem_cons.mpr ⟨c8, (List.forall_mem_cons.mpr ⟨c9, (List.forall_mem_cons.mpr ⟨c10, (fun _ z => absurd z List.not_mem_nil)⟩)⟩)⟩)⟩)⟩)⟩)⟩)⟩) (by decide) (by decide) ?_
  refine R_iconst (v := (-1)) dX9_count_88 (by decide) ?_
  exact R_ireturn dX9_count_89 rfl ⟨_, rfl, wp_some w⟩
def g_X9_sells (a0 : Int32) (a1 : Int32) (σ : AS) : Option (Int32 × AS) := (lt (a0 + a1) fun x1 => (lt ((a0 + 1) - a1) fun x2 => (if inb (32 + x2) 40 then (if inb (24 + x1) 40 then (if gA σ 9 0 0 (24 + x1) < gA σ 9 0 0 (32 + x2) then (if inb x2 40 then (if inb (((2 * a0) + 1) - a1) 14 then (lt ((gA σ 9 0 0 x2) - (gA σ 9 0 9 (((2 * a0) + 1) - a1))) fun x8 => (if x8 < 0 then some (0, σ) else (if inb ((2 * a0) + a1) 14 then (bnd (g_X9_least (gA σ 9 0 9 ((2 * a0) + a1)) x8 σ) fun r11 σ12 => some (r11, σ12)) else none))) else none) else none) else some (0, σ)) else none) else none)))
set_option maxRecDepth 100000 in
set_option maxHeartbeats 4000000 in
theorem ct_X9_sells {l : Launch} {cx : CX} (hA : AD cx) (a0 : Int32) (a1 : Int32) (σ : AS) (Q : Int32 → AS → Prop) (w : wpO (g_X9_sells a0 a1 σ) Q) : AMet l cx 1 yX9_sells cX9_sells 6 (some .int) [.inr (.inr (9, 0, 0)), .inl a0, .inl a1] σ (QI Q) := by
  unfold g_X9_sells at w
  refine AMet.of (own := RX9) (by decide) rfl hA (Nat.le_of_ble_eq_true rfl) ?_
  show RJ l cx 1 RX9 cX9_sells 6 (some .int) 0 [(0, .inr (.inr (9, 0, 0))), (1, .inl a0), (2, .inl a1)] [] σ _
  refine R_iload_n dX9_sells_0 rfl 1 rfl ?_
  refine R_iload_n dX9_sells_1 rfl 2 rfl ?_
  refine R_iadd dX9_sells_2 ?_
  refine R_nameI w ?_; clear w; intro x1 w
  refine R_istore_n (lv' := [(3, .inl x1), (0, .inr (.inr (9, 0, 0))), (1, .inl a0), (2, .inl a1)]) dX9_sells_3 rfl (by decide) rfl ?_
  refine R_iload_n dX9_sells_4 rfl 2 rfl ?_
  refine R_iconst (v := 1) dX9_sells_5 (by decide) ?_
  refine R_iadd dX9_sells_6 ?_
  refine R_iload_n dX9_sells_7 rfl 3 rfl ?_
  refine R_isub dX9_sells_8 ?_
  refine R_nameI w ?_; clear w; intro x2 w
  refine R_istore (lv' := [(4, .inl x2), (3, .inl x1), (0, .inr (.inr (9, 0, 0))), (1, .inl a0), (2, .inl a1)]) dX9_sells_9 (by decide) rfl ?_
  refine R_aload_n dX9_sells_11 rfl 2 rfl ?_
  refine R_getfA (k := 0) acl9 oz9_0 (by decide) fl_RX9_9 dX9_sells_12 rfl ?_
  refine R_bipush (v := 32) dX9_sells_15 (by decide) ?_
  refine R_iload dX9_sells_17 0 rfl ?_
  refine R_iadd dX9_sells_19 ?_
  obtain ⟨b3, w⟩ := wp_chk w
  refine R_iald rfl oz9_0 b3 dX9_sells_20 ?_
  refine R_aload_n dX9_sells_21 rfl 2 rfl ?_
  refine R_getfA (k := 0) acl9 oz9_0 (by decide) fl_RX9_9 dX9_sells_22 rfl ?_
  refine R_bipush (v := 24) dX9_sells_25 (by decide) ?_
  refine R_iload_n dX9_sells_27 rfl 1 rfl ?_
  refine R_iadd dX9_sells_28 ?_
  obtain ⟨b4, w⟩ := wp_chk w
  refine R_iald rfl oz9_0 b4 dX9_sells_29 ?_
  refine R_icmp_gt (tgt := 35) dX9_sells_30 (by decide) (fun c5 => ?_) (fun c5 => ?_)
  · have w := wp_t c5 w
    refine R_aload_n dX9_sells_35 rfl 2 rfl ?_
    refine R_getfA (k := 0) acl9 oz9_0 (by decide) fl_RX9_9 dX9_sells_36 rfl ?_
    refine R_iload dX9_sells_39 0 rfl ?_
    obtain ⟨b6, w⟩ := wp_chk w
    refine R_iald rfl oz9_0 b6 dX9_sells_41 ?_
    refine R_aload_n dX9_sells_42 rfl 2 rfl ?_
    refine R_getfA (k := 9) acl9 oz9_0 (by decide) fl_RX9_28 dX9_sells_43 rfl ?_
    refine R_iconst (v := 2) dX9_sells_46 (by decide) ?_
    refine R_iload_n dX9_sells_47 rfl 3 rfl ?_
    refine R_imul dX9_sells_48 ?_
    refine R_iconst (v := 1) dX9_sells_49 (by decide) ?_
    refine R_iadd dX9_sells_50 ?_
    refine R_iload_n dX9_sells_51 rfl 4 rfl ?_
    refine R_isub dX9_sells_52 ?_
    obtain ⟨b7, w⟩ := wp_chk w
    refine R_iald rfl oz9_0 b7 dX9_sells_53 ?_
    refine R_isub dX9_sells_54 ?_
    refine R_nameI w ?_; clear w; intro x8 w
    refine R_istore (lv' := [(5, .inl x8), (4, .inl x2), (3, .inl x1), (0, .inr (.inr (9, 0, 0))), (1, .inl a0), (2, .inl a1)]) dX9_sells_55 (by decide) rfl ?_
    refine R_iload dX9_sells_57 0 rfl ?_
    refine R_if_ge (tgt := 66) dX9_sells_59 (by decide) (fun c9 => ?_) (fun c9 => ?_)
    · have w := wp_f c9 w
      refine R_aload_n dX9_sells_66 rfl 3 rfl ?_
      refine R_getfA (k := 9) acl9 oz9_0 (by decide) fl_RX9_28 dX9_sells_67 rfl ?_
      refine R_iconst (v := 2) dX9_sells_70 (by decide) ?_
      refine R_iload_n dX9_sells_71 rfl 4 rfl ?_
      refine R_imul dX9_sells_72 ?_
      refine R_iload_n dX9_sells_73 rfl 5 rfl ?_
      refine R_iadd dX9_sells_74 ?_
      obtain ⟨b10, w⟩ := wp_chk w
      refine R_iald rfl oz9_0 b10 dX9_sells_75 ?_
      refine R_iload dX9_sells_76 0 rfl ?_
      refine R_callSI (As := [.inl (gA σ 9 0 9 ((2 * a0) + a1)), .inl x8]) mi_X9_least ml_RX9_299 rfl (Nat.le_of_ble_eq_true rfl) (by decide) dX9_sells_78 (ct_X9_least hA (gA σ 9 0 9 ((2 * a0) + a1)) x8 σ _ (wp_bnd w)) (fun r11 σ12 w => ?_)
      exact R_ireturn dX9_sells_81 rfl ⟨_, rfl, wp_some w⟩
    · have w := wp_t c9 w
      refine R_iconst (v := 0) dX9_sells_62 (by decide) ?_
      refine R_goto (tgt := 81) dX9_sells_63 (by decide) ?_
      exact R_ireturn dX9_sells_81 rfl ⟨_, rfl, wp_some w⟩
  · have w := wp_f c5 w
    refine R_iconst (v := 0) dX9_sells_33 (by decide) ?_
    exact R_ireturn dX9_sells_34 rfl ⟨_, rfl, wp_some w⟩
def g_X9_looksAt (a0 : Int32) (σ : AS) : Option (Unit × AS) := (lt (sF σ 9 0 34 0) fun σ1 => (bnd (g_X9_sells a0 0 σ1) fun r2 σ3 => (lt (sF σ3 9 0 35 r2) fun σ4 => (if gF σ4 9 0 35 = 0 then (lt (sF σ4 9 0 34 1) fun σ6 => (bnd (g_X9_sells a0 1 σ6) fun r7 σ8 => (lt (sF σ8 9 0 35 r7) fun σ9 => some ((), σ9)))) else some ((), σ4)))))
set_option maxRecDepth 100000 in
set_option maxHeartbeats 4000000 in
theorem ct_X9_looksAt {l : Launch} {cx : CX} (hA : AD cx) (a0 : Int32) (σ : AS) (Q : Unit → AS → Prop) (w : wpO (g_X9_looksAt a0 σ) Q) : AMet l cx 2 yX9_looksAt cX9_looksAt 2 none [.inr (.inr (9, 0, 0)), .inl a0] σ (QV Q) := by
  unfold g_X9_looksAt at w
  refine AMet.of (own := RX9) (by decide) rfl hA (Nat.le_of_ble_eq_true rfl) ?_
  show RJ l cx 2 RX9 cX9_looksAt 2 none 0 [(0, .inr (.inr (9, 0, 0))), (1, .inl a0)] [] σ _
  refine R_aload_n dX9_looksAt_0 rfl 0 rfl ?_
  refine R_iconst (v := 0) dX9_looksAt_1 (by decide) ?_
  refine R_putf (k := 34) (ty := .int) acl9 oz9_0 (by decide) fl_RX9_302 rfl (tyX9_ok 34 (by decide)) (Or.inl rfl) dX9_looksAt_2 rfl ?_
  refine R_nameS w ?_; clear w; intro σ1 w
  refine R_aload_n dX9_looksAt_5 rfl 0 rfl ?_
  refine R_aload_n dX9_looksAt_6 rfl 0 rfl ?_
  refine R_iload_n dX9_looksAt_7 rfl 1 rfl ?_
  refine R_iconst (v := 0) dX9_looksAt_8 (by decide) ?_
  refine R_callVI (As := [.inl a0, .inl 0]) acl9 rfl oz9_0 mi_X9_sells ml_RX9_305 rfl (Nat.le_of_ble_eq_true rfl) (by decide) dX9_looksAt_9 (ct_X9_sells hA a0 0 σ1 _ (wp_bnd w)) (fun r2 σ3 w => ?_)
  refine R_putf (k := 35) (ty := .int) acl9 oz9_0 (by decide) fl_RX9_308 rfl (tyX9_ok 35 (by decide)) (Or.inl rfl) dX9_looksAt_12 rfl ?_
  refine R_nameS w ?_; clear w; intro σ4 w
  refine R_aload_n dX9_looksAt_15 rfl 0 rfl ?_
  refine R_getfI (k := 35) acl9 oz9_0 (by decide) fl_RX9_308 dX9_looksAt_16 rfl ?_
  refine R_if_ne (tgt := 37) dX9_looksAt_19 (by decide) (fun c5 => ?_) (fun c5 => ?_)
  · have w := wp_f c5 w
    exact R_vreturn dX9_looksAt_37 rfl ⟨rfl, wp_some w⟩
  · have w := wp_t c5 w
    refine R_aload_n dX9_looksAt_22 rfl 0 rfl ?_
    refine R_iconst (v := 1) dX9_looksAt_23 (by decide) ?_
    refine R_putf (k := 34) (ty := .int) acl9 oz9_0 (by decide) fl_RX9_302 rfl (tyX9_ok 34 (by decide)) (Or.inl rfl) dX9_looksAt_24 rfl ?_
    refine R_nameS w ?_; clear w; intro σ6 w
    refine R_aload_n dX9_looksAt_27 rfl 0 rfl ?_
    refine R_aload_n dX9_looksAt_28 rfl 0 rfl ?_
    refine R_iload_n dX9_looksAt_29 rfl 1 rfl ?_
    refine R_iconst (v := 1) dX9_looksAt_30 (by decide) ?_
    refine R_callVI (As := [.inl a0, .inl 1]) acl9 rfl oz9_0 mi_X9_sells ml_RX9_305 rfl (Nat.le_of_ble_eq_true rfl) (by decide) dX9_looksAt_31 (ct_X9_sells hA a0 1 σ6 _ (wp_bnd w)) (fun r7 σ8 w => ?_)
    refine R_putf (k := 35) (ty := .int) acl9 oz9_0 (by decide) fl_RX9_308 rfl (tyX9_ok 35 (by decide)) (Or.inl rfl) dX9_looksAt_34 rfl ?_
    refine R_nameS w ?_; clear w; intro σ9 w
    exact R_vreturn dX9_looksAt_37 rfl ⟨rfl, wp_some w⟩
def g_X9_deals (a0 : Int32) (a1 : Int32) (σ : AS) : Option (Int32 × AS) := (bnd (g_X9_isRest a0 σ) fun r1 σ2 => (if r1 = 0 then some ((-2000000000), σ2) else (bnd (g_X9_within a1.toInt64 0 2 σ2) fun r4 σ5 => (if r4 = 0 then some ((-2000000000), σ5) else (bnd (g_X9_looksAt a0 σ5) fun _ σ7 => (if inb ((24 + a0) + (gF σ7 9 0 34)) 40 then (lt (gA σ7 9 0 0 ((24 + a0) + (gF σ7 9 0 34))) fun x9 => (if inb (((32 + a0) + 1) - (gF σ7 9 0 34)) 40 then (lt (gA σ7 9 0 0 (((32 + a0) + 1) - (gF σ7 9 0 34))) fun x11 => (lt ((gF σ7 9 0 35) * ((x9 + x11) / 2)) fun x12 => (if a1 = 0 then some ((gF σ7 9 0 35) * (x11 - x9), σ7) else (if a1 = 1 then some (gF σ7 9 0 35, σ7) else (if gF σ7 9 0 34 = 0 then some (x12, σ7) else some (-x12, σ7)))))) else none)) else none))))))
set_option maxRecDepth 100000 in
set_option maxHeartbeats 4000000 in
theorem ct_X9_deals {l : Launch} {cx : CX} (hA : AD cx) (a0 : Int32) (a1 : Int32) (σ : AS) (Q : Int32 → AS → Prop) (w : wpO (g_X9_deals a0 a1 σ) Q) : AMet l cx 3 yX9_deals cX9_deals 6 (some .int) [.inr (.inr (9, 0, 0)), .inl a0, .inl a1] σ (QI Q) := by
  unfold g_X9_deals at w
  refine AMet.of (own := RX9) (by decide) rfl hA (Nat.le_of_ble_eq_true rfl) ?_
  show RJ l cx 3 RX9 cX9_deals 6 (some .int) 0 [(0, .inr (.inr (9, 0, 0))), (1, .inl a0), (2, .inl a1)] [] σ _
  refine R_aload_n dX9_deals_0 rfl 0 rfl ?_
  refine R_iload_n dX9_deals_1 rfl 1 rfl ?_
  refine R_callVI (As := [.inl a0]) acl9 rfl oz9_0 mi_X9_isRest ml_RX9_168 rfl (Nat.le_of_ble_eq_true rfl) (by decide) dX9_deals_2 (ct_X9_isRest hA a0 σ _ (wp_bnd w)) (fun r1 σ2 w => ?_)
  refine R_if_eq (tgt := 20) dX9_deals_5 (by decide) (fun c3 => ?_) (fun c3 => ?_)
  · have w := wp_t c3 w
    refine R_ldc dX9_deals_20 ck_RX9_159 ?_
    exact R_ireturn dX9_deals_22 rfl ⟨_, rfl, wp_some w⟩
  · have w := wp_f c3 w
    refine R_iload_n dX9_deals_8 rfl 2 rfl ?_
    refine R_i2l dX9_deals_9 ?_
    refine R_lconst (v := 0) dX9_deals_10 (by decide) ?_
    refine R_ldc2 dX9_deals_11 ck_RX9_277 ?_
    refine R_callSI (As := [.inr (.inl a1.toInt64), .inr (.inl 0), .inr (.inl 2)]) mi_X9_within ml_RX9_114 rfl (Nat.le_of_ble_eq_true rfl) (by decide) dX9_deals_14 (ct_X9_within hA a1.toInt64 0 2 σ2 _ (wp_bnd w)) (fun r4 σ5 w => ?_)
    refine R_if_ne (tgt := 23) dX9_deals_17 (by decide) (fun c6 => ?_) (fun c6 => ?_)
    · have w := wp_f c6 w
      refine R_aload_n dX9_deals_23 rfl 0 rfl ?_
      refine R_iload_n dX9_deals_24 rfl 1 rfl ?_
      refine R_callVV (As := [.inl a0]) acl9 rfl oz9_0 mi_X9_looksAt ml_RX9_311 rfl (Nat.le_of_ble_eq_true rfl) (by decide) dX9_deals_25 (ct_X9_looksAt hA a0 σ5 _ (wp_bnd w)) (fun σ7 w => ?_)
      refine R_aload_n dX9_deals_28 rfl 0 rfl ?_
      refine R_getfA (k := 0) acl9 oz9_0 (by decide) fl_RX9_9 dX9_deals_29 rfl ?_
      refine R_bipush (v := 24) dX9_deals_32 (by decide) ?_
      refine R_iload_n dX9_deals_34 rfl 1 rfl ?_
      refine R_iadd dX9_deals_35 ?_
      refine R_aload_n dX9_deals_36 rfl 0 rfl ?_
      refine R_getfI (k := 34) acl9 oz9_0 (by decide) fl_RX9_302 dX9_deals_37 rfl ?_
      refine R_iadd dX9_deals_40 ?_
      obtain ⟨b8, w⟩ := wp_chk w
      refine R_iald rfl oz9_0 b8 dX9_deals_41 ?_
      refine R_nameI w ?_; clear w; intro x9 w
      refine R_istore_n (lv' := [(3, .inl x9), (0, .inr (.inr (9, 0, 0))), (1, .inl a0), (2, .inl a1)]) dX9_deals_42 rfl (by decide) rfl ?_
      refine R_aload_n dX9_deals_43 rfl 1 rfl ?_
      refine R_getfA (k := 0) acl9 oz9_0 (by decide) fl_RX9_9 dX9_deals_44 rfl ?_
      refine R_bipush (v := 32) dX9_deals_47 (by decide) ?_
      refine R_iload_n dX9_deals_49 rfl 2 rfl ?_
      refine R_iadd dX9_deals_50 ?_
      refine R_iconst (v := 1) dX9_deals_51 (by decide) ?_
      refine R_iadd dX9_deals_52 ?_
      refine R_aload_n dX9_deals_53 rfl 1 rfl ?_
      refine R_getfI (k := 34) acl9 oz9_0 (by decide) fl_RX9_302 dX9_deals_54 rfl ?_
      refine R_isub dX9_deals_57 ?_
      obtain ⟨b10, w⟩ := wp_chk w
      refine R_iald rfl oz9_0 b10 dX9_deals_58 ?_
      refine R_nameI w ?_; clear w; intro x11 w
      refine R_istore (lv' := [(4, .inl x11), (3, .inl x9), (0, .inr (.inr (9, 0, 0))), (1, .inl a0), (2, .inl a1)]) dX9_deals_59 (by decide) rfl ?_
      refine R_aload_n dX9_deals_61 rfl 2 rfl ?_
      refine R_getfI (k := 35) acl9 oz9_0 (by decide) fl_RX9_308 dX9_deals_62 rfl ?_
      refine R_iload_n dX9_deals_65 rfl 1 rfl ?_
      refine R_iload dX9_deals_66 0 rfl ?_
      refine R_iadd dX9_deals_68 ?_
      refine R_iconst (v := 2) dX9_deals_69 (by decide) ?_
      refine R_idiv dX9_deals_70 (by decide) ?_
      refine R_imul dX9_deals_71 ?_
      refine R_nameI w ?_; clear w; intro x12 w
      refine R_istore (lv' := [(5, .inl x12), (4, .inl x11), (3, .inl x9), (0, .inr (.inr (9, 0, 0))), (1, .inl a0), (2, .inl a1)]) dX9_deals_72 (by decide) rfl ?_
      refine R_iload_n dX9_deals_74 rfl 5 rfl ?_
      refine R_if_ne (tgt := 90) dX9_deals_75 (by decide) (fun c13 => ?_) (fun c13 => ?_)
      · have w := wp_f c13 w
        refine R_iload_n dX9_deals_90 rfl 5 rfl ?_
        refine R_iconst (v := 1) dX9_deals_91 (by decide) ?_
        refine R_icmp_ne (tgt := 102) dX9_deals_92 (by decide) (fun c14 => ?_) (fun c14 => ?_)
        · have w := wp_f c14 w
          refine R_aload_n dX9_deals_102 rfl 3 rfl ?_
          refine R_getfI (k := 34) acl9 oz9_0 (by decide) fl_RX9_302 dX9_deals_103 rfl ?_
          refine R_if_ne (tgt := 114) dX9_deals_106 (by decide) (fun c15 => ?_) (fun c15 => ?_)
          · have w := wp_f c15 w
            refine R_iload dX9_deals_114 0 rfl ?_
            refine R_ineg dX9_deals_116 ?_
            exact R_ireturn dX9_deals_117 rfl ⟨_, rfl, wp_some w⟩
          · have w := wp_t c15 w
            refine R_iload dX9_deals_109 0 rfl ?_
            refine R_goto (tgt := 117) dX9_deals_111 (by decide) ?_
            exact R_ireturn dX9_deals_117 rfl ⟨_, rfl, wp_some w⟩
        · have w := wp_t c14 w
          refine R_aload_n dX9_deals_95 rfl 3 rfl ?_
          refine R_getfI (k := 35) acl9 oz9_0 (by decide) fl_RX9_308 dX9_deals_96 rfl ?_
          refine R_goto (tgt := 117) dX9_deals_99 (by decide) ?_
          exact R_ireturn dX9_deals_117 rfl ⟨_, rfl, wp_some w⟩
      · have w := wp_t c13 w
        refine R_aload_n dX9_deals_78 rfl 3 rfl ?_
        refine R_getfI (k := 35) acl9 oz9_0 (by decide) fl_RX9_308 dX9_deals_79 rfl ?_
        refine R_iload dX9_deals_82 1 rfl ?_
        refine R_iload_n dX9_deals_84 rfl 2 rfl ?_
        refine R_isub dX9_deals_85 ?_
        refine R_imul dX9_deals_86 ?_
        refine R_goto (tgt := 117) dX9_deals_87 (by decide) ?_
        exact R_ireturn dX9_deals_117 rfl ⟨_, rfl, wp_some w⟩
    · have w := wp_t c6 w
      refine R_ldc dX9_deals_20 ck_RX9_159 ?_
      exact R_ireturn dX9_deals_22 rfl ⟨_, rfl, wp_some w⟩
def g_X9_isShelf (a0 : Int32) (σ : AS) : Option (Int32 × AS) := (bnd (g_X9_within a0.toInt64 0 5 σ) fun r1 σ2 => (if r1 = 0 ∨ r1 = 1 then some (r1, σ2) else none))
set_option maxRecDepth 100000 in
set_option maxHeartbeats 4000000 in
theorem ct_X9_isShelf {l : Launch} {cx : CX} (hA : AD cx) (a0 : Int32) (σ : AS) (Q : Int32 → AS → Prop) (w : wpO (g_X9_isShelf a0 σ) Q) : AMet l cx 1 yX9_isShelf cX9_isShelf 1 (some .boolean) [.inl a0] σ (QI Q) := by
  unfold g_X9_isShelf at w
  refine AMet.of (own := RX9) (by decide) rfl hA (Nat.le_of_ble_eq_true rfl) ?_
  show RJ l cx 1 RX9 cX9_isShelf 1 (some .boolean) 0 [(0, .inl a0)] [] σ _
  refine R_iload_n dX9_isShelf_0 rfl 0 rfl ?_
  refine R_i2l dX9_isShelf_1 ?_
  refine R_lconst (v := 0) dX9_isShelf_2 (by decide) ?_
  refine R_ldc2 dX9_isShelf_3 ck_RX9_359 ?_
  refine R_callSI (As := [.inr (.inl a0.toInt64), .inr (.inl 0), .inr (.inl 5)]) mi_X9_within ml_RX9_114 rfl (Nat.le_of_ble_eq_true rfl) (by decide) dX9_isShelf_6 (ct_X9_within hA a0.toInt64 0 5 σ _ (wp_bnd w)) (fun r1 σ2 w => ?_)
  obtain ⟨b3, w⟩ := wp_chk w
  exact R_zreturn dX9_isShelf_9 rfl b3 ⟨_, rfl, wp_some w⟩
def g_X9_refusal (a0 : Int32) (a1 : Int32) (σ : AS) : Option (Int32 × AS) := (bnd (g_X9_isShelf a0 σ) fun r1 σ2 => (if r1 = 0 then some ((-1), σ2) else (if inb a0 6 then (if gA σ2 9 0 50 a0 < 0 then some ((-11), σ2) else (if gA σ2 9 0 50 a0 < 50 then some ((-12), σ2) else (if a1 < 0 then some ((-13), σ2) else (if a1 < gA σ2 9 0 51 a0 then some (0, σ2) else some ((-13), σ2))))) else none)))
set_option maxRecDepth 100000 in
set_option maxHeartbeats 4000000 in
theorem ct_X9_refusal {l : Launch} {cx : CX} (hA : AD cx) (a0 : Int32) (a1 : Int32) (σ : AS) (Q : Int32 → AS → Prop) (w : wpO (g_X9_refusal a0 a1 σ) Q) : AMet l cx 2 yX9_refusal cX9_refusal 3 (some .int) [.inr (.inr (9, 0, 0)), .inl a0, .inl a1] σ (QI Q) := by
  unfold g_X9_refusal at w
  refine AMet.of (own := RX9) (by decide) rfl hA (Nat.le_of_ble_eq_true rfl) ?_
  show RJ l cx 2 RX9 cX9_refusal 3 (some .int) 0 [(0, .inr (.inr (9, 0, 0))), (1, .inl a0), (2, .inl a1)] [] σ _
  refine R_iload_n dX9_refusal_0 rfl 1 rfl ?_
  refine R_callSI (As := [.inl a0]) mi_X9_isShelf ml_RX9_134 rfl (Nat.le_of_ble_eq_true rfl) (by decide) dX9_refusal_1 (ct_X9_isShelf hA a0 σ _ (wp_bnd w)) (fun r1 σ2 w => ?_)
  refine R_if_ne (tgt := 9) dX9_refusal_4 (by decide) (fun c3 => ?_) (fun c3 => ?_)
  · have w := wp_f c3 w
    refine R_aload_n dX9_refusal_9 rfl 0 rfl ?_
    refine R_getfA (k := 50) acl9 oz9_0 (by decide) fl_RX9_88 dX9_refusal_10 rfl ?_
    refine R_iload_n dX9_refusal_13 rfl 1 rfl ?_
    obtain ⟨b4, w⟩ := wp_chk w
    refine R_iald rfl oz9_0 b4 dX9_refusal_14 ?_
    refine R_if_ge (tgt := 21) dX9_refusal_15 (by decide) (fun c5 => ?_) (fun c5 => ?_)
    · have w := wp_f c5 w
      refine R_aload_n dX9_refusal_21 rfl 0 rfl ?_
      refine R_getfA (k := 50) acl9 oz9_0 (by decide) fl_RX9_88 dX9_refusal_22 rfl ?_
      refine R_iload_n dX9_refusal_25 rfl 1 rfl ?_
      refine R_iald rfl oz9_0 b4 dX9_refusal_26 ?_
      refine R_bipush (v := 50) dX9_refusal_27 (by decide) ?_
      refine R_icmp_ge (tgt := 35) dX9_refusal_29 (by decide) (fun c6 => ?_) (fun c6 => ?_)
      · have w := wp_f c6 w
        refine R_iload_n dX9_refusal_35 rfl 2 rfl ?_
        refine R_if_lt (tgt := 53) dX9_refusal_36 (by decide) (fun c7 => ?_) (fun c7 => ?_)
        · have w := wp_t c7 w
          refine R_bipush (v := (-13)) dX9_refusal_53 (by decide) ?_
          exact R_ireturn dX9_refusal_55 rfl ⟨_, rfl, wp_some w⟩
        · have w := wp_f c7 w
          refine R_iload_n dX9_refusal_39 rfl 2 rfl ?_
          refine R_aload_n dX9_refusal_40 rfl 0 rfl ?_
          refine R_getfA (k := 51) acl9 oz9_0 (by decide) fl_RX9_91 dX9_refusal_41 rfl ?_
          refine R_iload_n dX9_refusal_44 rfl 1 rfl ?_
          refine R_iald rfl oz9_0 b4 dX9_refusal_45 ?_
          refine R_icmp_ge (tgt := 53) dX9_refusal_46 (by decide) (fun c8 => ?_) (fun c8 => ?_)
          · have w := wp_f c8 w
            refine R_bipush (v := (-13)) dX9_refusal_53 (by decide) ?_
            exact R_ireturn dX9_refusal_55 rfl ⟨_, rfl, wp_some w⟩
          · have w := wp_t c8 w
            refine R_iconst (v := 0) dX9_refusal_49 (by decide) ?_
            refine R_goto (tgt := 55) dX9_refusal_50 (by decide) ?_
            exact R_ireturn dX9_refusal_55 rfl ⟨_, rfl, wp_some w⟩
      · have w := wp_t c6 w
        refine R_bipush (v := (-12)) dX9_refusal_32 (by decide) ?_
        exact R_ireturn dX9_refusal_34 rfl ⟨_, rfl, wp_some w⟩
    · have w := wp_t c5 w
      refine R_bipush (v := (-11)) dX9_refusal_18 (by decide) ?_
      exact R_ireturn dX9_refusal_20 rfl ⟨_, rfl, wp_some w⟩
  · have w := wp_t c3 w
    refine R_iconst (v := (-1)) dX9_refusal_7 (by decide) ?_
    exact R_ireturn dX9_refusal_8 rfl ⟨_, rfl, wp_some w⟩
def g_X9_element (a0 : Int32) (a1 : Int32) (σ : AS) : Option (Int64 × AS) := (bnd (g_X9_refusal a0 a1 σ) fun r1 σ2 => (if r1 = 0 then (if inb ((60 * a0) + a1) 360 then some (gL σ2 9 0 52 ((60 * a0) + a1), σ2) else none) else some ((-9223372036854775808), σ2)))
set_option maxRecDepth 100000 in
set_option maxHeartbeats 4000000 in
theorem ct_X9_element {l : Launch} {cx : CX} (hA : AD cx) (a0 : Int32) (a1 : Int32) (σ : AS) (Q : Int64 → AS → Prop) (w : wpO (g_X9_element a0 a1 σ) Q) : AMet l cx 3 yX9_element cX9_element 3 (some .long) [.inr (.inr (9, 0, 0)), .inl a0, .inl a1] σ (QJ Q) := by
  unfold g_X9_element at w
  refine AMet.of (own := RX9) (by decide) rfl hA (Nat.le_of_ble_eq_true rfl) ?_
  show RJ l cx 3 RX9 cX9_element 3 (some .long) 0 [(0, .inr (.inr (9, 0, 0))), (1, .inl a0), (2, .inl a1)] [] σ _
  refine R_aload_n dX9_element_0 rfl 0 rfl ?_
  refine R_iload_n dX9_element_1 rfl 1 rfl ?_
  refine R_iload_n dX9_element_2 rfl 2 rfl ?_
  refine R_callVI (As := [.inl a0, .inl a1]) acl9 rfl oz9_0 mi_X9_refusal ml_RX9_361 rfl (Nat.le_of_ble_eq_true rfl) (by decide) dX9_element_3 (ct_X9_refusal hA a0 a1 σ _ (wp_bnd w)) (fun r1 σ2 w => ?_)
  refine R_if_eq (tgt := 15) dX9_element_6 (by decide) (fun c3 => ?_) (fun c3 => ?_)
  · have w := wp_t c3 w
    refine R_aload_n dX9_element_15 rfl 0 rfl ?_
    refine R_getfA (k := 52) acl9 oz9_0 (by decide) fl_RX9_94 dX9_element_16 rfl ?_
    refine R_bipush (v := 60) dX9_element_19 (by decide) ?_
    refine R_iload_n dX9_element_21 rfl 1 rfl ?_
    refine R_imul dX9_element_22 ?_
    refine R_iload_n dX9_element_23 rfl 2 rfl ?_
    refine R_iadd dX9_element_24 ?_
    obtain ⟨b4, w⟩ := wp_chk w
    refine R_lald rfl oz9_0 b4 dX9_element_25 ?_
    exact R_lreturn dX9_element_26 rfl ⟨_, rfl, wp_some w⟩
  · have w := wp_f c3 w
    refine R_ldc2 dX9_element_9 ck_RX9_370 ?_
    refine R_goto (tgt := 26) dX9_element_12 (by decide) ?_
    exact R_lreturn dX9_element_26 rfl ⟨_, rfl, wp_some w⟩
def g_X9_feed (a0 : Int32) (σ : AS) : Option (Int32 × AS) := (bnd (g_X9_within a0.toInt64 0 255 σ) fun r1 σ2 => (if r1 = 0 then some ((-1), σ2) else (if gF σ2 9 0 16 = 120 then some ((-3), σ2) else (if inb (gF σ2 9 0 16) 120 then (lt (sA σ2 9 0 15 (gF σ2 9 0 16) a0) fun σ6 => (lt (sF σ6 9 0 16 ((gF σ6 9 0 16) + 1)) fun σ7 => some (gF σ7 9 0 16, σ7))) else none))))
set_option maxRecDepth 100000 in
set_option maxHeartbeats 4000000 in
theorem ct_X9_feed {l : Launch} {cx : CX} (hA : AD cx) (a0 : Int32) (σ : AS) (Q : Int32 → AS → Prop) (w : wpO (g_X9_feed a0 σ) Q) : AMet l cx 1 yX9_feed cX9_feed 2 (some .int) [.inr (.inr (9, 0, 0)), .inl a0] σ (QI Q) := by
  unfold g_X9_feed at w
  refine AMet.of (own := RX9) (by decide) rfl hA (Nat.le_of_ble_eq_true rfl) ?_
  show RJ l cx 1 RX9 cX9_feed 2 (some .int) 0 [(0, .inr (.inr (9, 0, 0))), (1, .inl a0)] [] σ _
  refine R_iload_n dX9_feed_0 rfl 1 rfl ?_
  refine R_i2l dX9_feed_1 ?_
  refine R_lconst (v := 0) dX9_feed_2 (by decide) ?_
  refine R_ldc2 dX9_feed_3 ck_RX9_171 ?_
  refine R_callSI (As := [.inr (.inl a0.toInt64), .inr (.inl 0), .inr (.inl 255)]) mi_X9_within ml_RX9_114 rfl (Nat.le_of_ble_eq_true rfl) (by decide) dX9_feed_6 (ct_X9_within hA a0.toInt64 0 255 σ _ (wp_bnd w)) (fun r1 σ2 w => ?_)
  refine R_if_ne (tgt := 14) dX9_feed_9 (by decide) (fun c3 => ?_) (fun c3 => ?_)
  · have w := wp_f c3 w
    refine R_aload_n dX9_feed_14 rfl 0 rfl ?_
    refine R_getfI (k := 16) acl9 oz9_0 (by decide) fl_RX9_173 dX9_feed_15 rfl ?_
    refine R_bipush (v := 120) dX9_feed_18 (by decide) ?_
    refine R_icmp_ne (tgt := 26) dX9_feed_20 (by decide) (fun c4 => ?_) (fun c4 => ?_)
    · have w := wp_f c4 w
      refine R_aload_n dX9_feed_26 rfl 0 rfl ?_
      refine R_getfA (k := 15) acl9 oz9_0 (by decide) fl_RX9_40 dX9_feed_27 rfl ?_
      refine R_aload_n dX9_feed_30 rfl 0 rfl ?_
      refine R_getfI (k := 16) acl9 oz9_0 (by decide) fl_RX9_173 dX9_feed_31 rfl ?_
      refine R_iload_n dX9_feed_34 rfl 1 rfl ?_
      obtain ⟨b5, w⟩ := wp_chk w
      refine R_iast rfl oz9_0 b5 dX9_feed_35 ?_
      refine R_nameS w ?_; clear w; intro σ6 w
      refine R_aload_n dX9_feed_36 rfl 0 rfl ?_
      refine R_dup dX9_feed_37 rfl ?_
      refine R_getfI (k := 16) acl9 oz9_0 (by decide) fl_RX9_173 dX9_feed_38 rfl ?_
      refine R_iconst (v := 1) dX9_feed_41 (by decide) ?_
      refine R_iadd dX9_feed_42 ?_
      refine R_putf (k := 16) (ty := .int) acl9 oz9_0 (by decide) fl_RX9_173 rfl (tyX9_ok 16 (by decide)) (Or.inl rfl) dX9_feed_43 rfl ?_
      refine R_nameS w ?_; clear w; intro σ7 w
      refine R_aload_n dX9_feed_46 rfl 0 rfl ?_
      refine R_getfI (k := 16) acl9 oz9_0 (by decide) fl_RX9_173 dX9_feed_47 rfl ?_
      exact R_ireturn dX9_feed_50 rfl ⟨_, rfl, wp_some w⟩
    · have w := wp_t c4 w
      refine R_bipush (v := (-3)) dX9_feed_23 (by decide) ?_
      exact R_ireturn dX9_feed_25 rfl ⟨_, rfl, wp_some w⟩
  · have w := wp_t c3 w
    refine R_iconst (v := (-1)) dX9_feed_12 (by decide) ?_
    exact R_ireturn dX9_feed_13 rfl ⟨_, rfl, wp_some w⟩
def g_X9_go_183    : Nat → Int32 → AS → Option (Int32 × AS)
  | 0, _, _ => none
  | f0 + 1, v3, σ => (if v3 < gF σ 9 0 6 then (if inb v3 8 then (lt (sA σ 9 0 10 v3 ((gA σ 9 0 10 v3) + (gA σ 9 0 30 v3))) fun σ10 => (g_X9_go_183 f0) (v3 + 1) σ10) else none) else (lt (sF σ 9 0 12 ((gF σ 9 0 12) + (gF σ 9 0 26))) fun σ8 => some (gF σ8 9 0 26, σ8)))
set_option maxRecDepth 100000 in
set_option maxHeartbeats 4000000 in
theorem rk_X9_go_183 {l : Launch} {cx : CX} (hA : AD cx)    (Q : Int32 → AS → Prop) : ∀ (f0 : Nat) (v3 : Int32) (σ : AS), wpO (g_X9_go_183 f0 v3 σ) Q → RJ l cx 108 RX9 cX9_go 5 (some .int) 183 [(0, .inr (.inr (9, 0, 0))), (3, .inl v3)] [] σ (QI Q) := by
  intro f0
  induction f0 with
  | zero => intro v3 σ w; exact wp_no w
  | succ f0 ih =>
    intro v3 σ w
    rw [g_X9_go_183] at w
    refine R_iload_n dX9_go_183 rfl 1 rfl ?_
    refine R_aload_n dX9_go_184 rfl 0 rfl ?_
    refine R_getfI (k := 6) acl9 oz9_0 (by decide) fl_RX9_111 dX9_go_185 rfl ?_
    refine R_icmp_ge (tgt := 212) dX9_go_188 (by decide) (fun c7 => ?_) (fun c7 => ?_)
    · have w := wp_f c7 w
      refine R_aload_n dX9_go_212 rfl 0 rfl ?_
      refine R_dup dX9_go_213 rfl ?_
      refine R_getfI (k := 12) acl9 oz9_0 (by decide) fl_RX9_274 dX9_go_214 rfl ?_
      refine R_aload_n dX9_go_217 rfl 0 rfl ?_
      refine R_getfI (k := 26) acl9 oz9_0 (by decide) fl_RX9_244 dX9_go_218 rfl ?_
      refine R_iadd dX9_go_221 ?_
      refine R_putf (k := 12) (ty := .int) acl9 oz9_0 (by decide) fl_RX9_274 rfl (tyX9_ok 12 (by decide)) (Or.inl rfl) dX9_go_222 rfl ?_
      refine R_nameS w ?_; clear w; intro σ8 w
      refine R_aload_n dX9_go_225 rfl 0 rfl ?_
      refine R_getfI (k := 26) acl9 oz9_0 (by decide) fl_RX9_244 dX9_go_226 rfl ?_
      exact R_ireturn dX9_go_229 rfl ⟨_, rfl, wp_some w⟩
    · have w := wp_t c7 w
      refine R_aload_n dX9_go_191 rfl 0 rfl ?_
      refine R_getfA (k := 10) acl9 oz9_0 (by decide) fl_RX9_31 dX9_go_192 rfl ?_
      refine R_iload_n dX9_go_195 rfl 1 rfl ?_
      refine R_dup2 dX9_go_196 rfl rfl ?_
      obtain ⟨b9, w⟩ := wp_chk w
      refine R_iald rfl oz9_0 b9 dX9_go_197 ?_
      refine R_aload_n dX9_go_198 rfl 0 rfl ?_
      refine R_getfA (k := 30) acl9 oz9_0 (by decide) fl_RX9_55 dX9_go_199 rfl ?_
      refine R_iload_n dX9_go_202 rfl 1 rfl ?_
      refine R_iald rfl oz9_0 b9 dX9_go_203 ?_
      refine R_iadd dX9_go_204 ?_
      refine R_iast rfl oz9_0 b9 dX9_go_205 ?_
      refine R_nameS w ?_; clear w; intro σ10 w
      refine R_iinc (v := v3 + 1) (lv' := [(3, .inl (v3 + 1)), (0, .inr (.inr (9, 0, 0)))]) dX9_go_206 1 rfl rfl (by decide) rfl ?_
      refine R_goto (tgt := 183) dX9_go_209 (by decide) ?_
      refine R_sub [1, 0] rfl ?_
      exact ih (v3 + 1) σ10 w
def g_X9_go_133    (k35 : Int32 → Int32 → AS → Option (Int32 × AS)) : Nat → Int32 → Int32 → Int32 → AS → Option (Int32 × AS)
  | 0, _, _, _, _ => none
  | f0 + 1, v2, v3, v4, σ => (if v4 < gF σ 9 0 6 then (if inb v4 8 then (lt (sA σ 9 0 11 v4 ((gA σ 9 0 11 v4) + (gA σ 9 0 29 v4))) fun σ17 => (g_X9_go_133 k35 f0) v2 v3 (v4 + 1) σ17) else none) else (lt (sF σ 9 0 13 ((gF σ 9 0 13) + 1)) fun σ15 => k35 v2 (v3 + 1) σ15))
set_option maxRecDepth 100000 in
set_option maxHeartbeats 4000000 in
theorem rk_X9_go_133 {l : Launch} {cx : CX} (hA : AD cx)    (Q : Int32 → AS → Prop) (k35 : Int32 → Int32 → AS → Option (Int32 × AS)) (hk35 : ∀ (v2 : Int32) (v3 : Int32) (σ : AS), wpO (k35 v2 v3 σ) Q → RJ l cx 108 RX9 cX9_go 5 (some .int) 35 [(0, .inr (.inr (9, 0, 0))), (2, .inl v2), (3, .inl v3)] [] σ (QI Q)) : ∀ (f0 : Nat) (v2 : Int32) (v3 : Int32) (v4 : Int32) (σ : AS), wpO (g_X9_go_133 k35 f0 v2 v3 v4 σ) Q → RJ l cx 108 RX9 cX9_go 5 (some .int) 133 [(0, .inr (.inr (9, 0, 0))), (2, .inl v2), (3, .inl v3), (4, .inl v4)] [] σ (QI Q) := by
  intro f0
  induction f0 with
  | zero => intro v2 v3 v4 σ w; exact wp_no w
  | succ f0 ih =>
    intro v2 v3 v4 σ w
    rw [g_X9_go_133] at w
    refine R_iload dX9_go_133 3 rfl ?_
    refine R_aload_n dX9_go_135 rfl 0 rfl ?_
    refine R_getfI (k := 6) acl9 oz9_0 (by decide) fl_RX9_111 dX9_go_136 rfl ?_
    refine R_icmp_ge (tgt := 165) dX9_go_139 (by decide) (fun c14 => ?_) (fun c14 => ?_)
    · have w := wp_f c14 w
      refine R_aload_n dX9_go_165 rfl 0 rfl ?_
      refine R_dup dX9_go_166 rfl ?_
      refine R_getfI (k := 13) acl9 oz9_0 (by decide) fl_RX9_127 dX9_go_167 rfl ?_
      refine R_iconst (v := 1) dX9_go_170 (by decide) ?_
      refine R_iadd dX9_go_171 ?_
      refine R_putf (k := 13) (ty := .int) acl9 oz9_0 (by decide) fl_RX9_127 rfl (tyX9_ok 13 (by decide)) (Or.inl rfl) dX9_go_172 rfl ?_
      refine R_nameS w ?_; clear w; intro σ15 w
      refine R_iinc (v := v3 + 1) (lv' := [(3, .inl (v3 + 1)), (0, .inr (.inr (9, 0, 0))), (2, .inl v2), (4, .inl v4)]) dX9_go_175 2 rfl rfl (by decide) rfl ?_
      refine R_goto (tgt := 35) dX9_go_178 (by decide) ?_
      refine R_sub [1, 2, 0] rfl ?_
      exact hk35 v2 (v3 + 1) σ15 w
    · have w := wp_t c14 w
      refine R_aload_n dX9_go_142 rfl 0 rfl ?_
      refine R_getfA (k := 11) acl9 oz9_0 (by decide) fl_RX9_34 dX9_go_143 rfl ?_
      refine R_iload dX9_go_146 3 rfl ?_
      refine R_dup2 dX9_go_148 rfl rfl ?_
      obtain ⟨b16, w⟩ := wp_chk w
      refine R_iald rfl oz9_0 b16 dX9_go_149 ?_
      refine R_aload_n dX9_go_150 rfl 0 rfl ?_
      refine R_getfA (k := 29) acl9 oz9_0 (by decide) fl_RX9_52 dX9_go_151 rfl ?_
      refine R_iload dX9_go_154 3 rfl ?_
      refine R_iald rfl oz9_0 b16 dX9_go_156 ?_
      refine R_iadd dX9_go_157 ?_
      refine R_iast rfl oz9_0 b16 dX9_go_158 ?_
      refine R_nameS w ?_; clear w; intro σ17 w
      refine R_iinc (v := v4 + 1) (lv' := [(4, .inl (v4 + 1)), (0, .inr (.inr (9, 0, 0))), (2, .inl v2), (3, .inl v3)]) dX9_go_159 3 rfl rfl (by decide) rfl ?_
      refine R_goto (tgt := 133) dX9_go_162 (by decide) ?_
      refine R_sub [1, 2, 3, 0] rfl ?_
      exact ih v2 v3 (v4 + 1) σ17 w
def g_X9_go_95    (k35 : Int32 → Int32 → AS → Option (Int32 × AS)) : Nat → Int32 → Int32 → Int32 → AS → Option (Int32 × AS)
  | 0, _, _, _, _ => none
  | f0 + 1, v2, v3, v4, σ => (if v4 < 7 then (if inb v4 7 then (if inb ((7 * (gF σ 9 0 13)) + v4) 168 then (lt (sA σ 9 0 32 ((7 * (gF σ 9 0 13)) + v4) (gA σ 9 0 28 v4)) fun σ20 => (g_X9_go_95 k35 f0) v2 v3 (v4 + 1) σ20) else none) else none) else g_X9_go_133 k35 400 v2 v3 0 σ)
set_option maxRecDepth 100000 in
set_option maxHeartbeats 4000000 in
theorem rk_X9_go_95 {l : Launch} {cx : CX} (hA : AD cx)    (Q : Int32 → AS → Prop) (k35 : Int32 → Int32 → AS → Option (Int32 × AS)) (hk35 : ∀ (v2 : Int32) (v3 : Int32) (σ : AS), wpO (k35 v2 v3 σ) Q → RJ l cx 108 RX9 cX9_go 5 (some .int) 35 [(0, .inr (.inr (9, 0, 0))), (2, .inl v2), (3, .inl v3)] [] σ (QI Q)) : ∀ (f0 : Nat) (v2 : Int32) (v3 : Int32) (v4 : Int32) (σ : AS), wpO (g_X9_go_95 k35 f0 v2 v3 v4 σ) Q → RJ l cx 108 RX9 cX9_go 5 (some .int) 95 [(0, .inr (.inr (9, 0, 0))), (2, .inl v2), (3, .inl v3), (4, .inl v4)] [] σ (QI Q) := by
  intro f0
  induction f0 with
  | zero => intro v2 v3 v4 σ w; exact wp_no w
  | succ f0 ih =>
    intro v2 v3 v4 σ w
    rw [g_X9_go_95] at w
    refine R_iload dX9_go_95 3 rfl ?_
    refine R_bipush (v := 7) dX9_go_97 (by decide) ?_
    refine R_icmp_ge (tgt := 130) dX9_go_99 (by decide) (fun c13 => ?_) (fun c13 => ?_)
    · have w := wp_f c13 w
      refine R_iconst (v := 0) dX9_go_130 (by decide) ?_
      refine R_istore (lv' := [(4, .inl 0), (0, .inr (.inr (9, 0, 0))), (2, .inl v2), (3, .inl v3)]) dX9_go_131 (by decide) rfl ?_
      refine R_sub [1, 2, 3, 0] rfl ?_
      exact rk_X9_go_133 hA _ k35 hk35 400 v2 v3 0 σ w
    · have w := wp_t c13 w
      refine R_aload_n dX9_go_102 rfl 0 rfl ?_
      refine R_getfA (k := 32) acl9 oz9_0 (by decide) fl_RX9_61 dX9_go_103 rfl ?_
      refine R_bipush (v := 7) dX9_go_106 (by decide) ?_
      refine R_aload_n dX9_go_108 rfl 0 rfl ?_
      refine R_getfI (k := 13) acl9 oz9_0 (by decide) fl_RX9_127 dX9_go_109 rfl ?_
      refine R_imul dX9_go_112 ?_
      refine R_iload dX9_go_113 3 rfl ?_
      refine R_iadd dX9_go_115 ?_
      refine R_aload_n dX9_go_116 rfl 0 rfl ?_
      refine R_getfA (k := 28) acl9 oz9_0 (by decide) fl_RX9_49 dX9_go_117 rfl ?_
      refine R_iload dX9_go_120 3 rfl ?_
      obtain ⟨b18, w⟩ := wp_chk w
      refine R_iald rfl oz9_0 b18 dX9_go_122 ?_
      obtain ⟨b19, w⟩ := wp_chk w
      refine R_iast rfl oz9_0 b19 dX9_go_123 ?_
      refine R_nameS w ?_; clear w; intro σ20 w
      refine R_iinc (v := v4 + 1) (lv' := [(4, .inl (v4 + 1)), (0, .inr (.inr (9, 0, 0))), (2, .inl v2), (3, .inl v3)]) dX9_go_124 3 rfl rfl (by decide) rfl ?_
      refine R_goto (tgt := 95) dX9_go_127 (by decide) ?_
      refine R_sub [1, 2, 3, 0] rfl ?_
      exact ih v2 v3 (v4 + 1) σ20 w
def g_X9_go_57    (k35 : Int32 → Int32 → AS → Option (Int32 × AS)) : Nat → Int32 → Int32 → Int32 → AS → Option (Int32 × AS)
  | 0, _, _, _, _ => none
  | f0 + 1, v2, v3, v4, σ => (if v4 < 14 then (if inb v4 14 then (if inb ((14 * (gF σ 9 0 13)) + v4) 336 then (lt (sA σ 9 0 31 ((14 * (gF σ 9 0 13)) + v4) (gA σ 9 0 9 v4)) fun σ23 => (g_X9_go_57 k35 f0) v2 v3 (v4 + 1) σ23) else none) else none) else g_X9_go_95 k35 400 v2 v3 0 σ)
set_option maxRecDepth 100000 in
set_option maxHeartbeats 4000000 in
theorem rk_X9_go_57 {l : Launch} {cx : CX} (hA : AD cx)    (Q : Int32 → AS → Prop) (k35 : Int32 → Int32 → AS → Option (Int32 × AS)) (hk35 : ∀ (v2 : Int32) (v3 : Int32) (σ : AS), wpO (k35 v2 v3 σ) Q → RJ l cx 108 RX9 cX9_go 5 (some .int) 35 [(0, .inr (.inr (9, 0, 0))), (2, .inl v2), (3, .inl v3)] [] σ (QI Q)) : ∀ (f0 : Nat) (v2 : Int32) (v3 : Int32) (v4 : Int32) (σ : AS), wpO (g_X9_go_57 k35 f0 v2 v3 v4 σ) Q → RJ l cx 108 RX9 cX9_go 5 (some .int) 57 [(0, .inr (.inr (9, 0, 0))), (2, .inl v2), (3, .inl v3), (4, .inl v4)] [] σ (QI Q) := by
  intro f0
  induction f0 with
  | zero => intro v2 v3 v4 σ w; exact wp_no w
  | succ f0 ih =>
    intro v2 v3 v4 σ w
    rw [g_X9_go_57] at w
    refine R_iload dX9_go_57 3 rfl ?_
    refine R_bipush (v := 14) dX9_go_59 (by decide) ?_
    refine R_icmp_ge (tgt := 92) dX9_go_61 (by decide) (fun c12 => ?_) (fun c12 => ?_)
    · have w := wp_f c12 w
      refine R_iconst (v := 0) dX9_go_92 (by decide) ?_
      refine R_istore (lv' := [(4, .inl 0), (0, .inr (.inr (9, 0, 0))), (2, .inl v2), (3, .inl v3)]) dX9_go_93 (by decide) rfl ?_
      refine R_sub [1, 2, 3, 0] rfl ?_
      exact rk_X9_go_95 hA _ k35 hk35 400 v2 v3 0 σ w
    · have w := wp_t c12 w
      refine R_aload_n dX9_go_64 rfl 0 rfl ?_
      refine R_getfA (k := 31) acl9 oz9_0 (by decide) fl_RX9_58 dX9_go_65 rfl ?_
      refine R_bipush (v := 14) dX9_go_68 (by decide) ?_
      refine R_aload_n dX9_go_70 rfl 0 rfl ?_
      refine R_getfI (k := 13) acl9 oz9_0 (by decide) fl_RX9_127 dX9_go_71 rfl ?_
      refine R_imul dX9_go_74 ?_
      refine R_iload dX9_go_75 3 rfl ?_
      refine R_iadd dX9_go_77 ?_
      refine R_aload_n dX9_go_78 rfl 0 rfl ?_
      refine R_getfA (k := 9) acl9 oz9_0 (by decide) fl_RX9_28 dX9_go_79 rfl ?_
      refine R_iload dX9_go_82 3 rfl ?_
      obtain ⟨b21, w⟩ := wp_chk w
      refine R_iald rfl oz9_0 b21 dX9_go_84 ?_
      obtain ⟨b22, w⟩ := wp_chk w
      refine R_iast rfl oz9_0 b22 dX9_go_85 ?_
      refine R_nameS w ?_; clear w; intro σ23 w
      refine R_iinc (v := v4 + 1) (lv' := [(4, .inl (v4 + 1)), (0, .inr (.inr (9, 0, 0))), (2, .inl v2), (3, .inl v3)]) dX9_go_86 3 rfl rfl (by decide) rfl ?_
      refine R_goto (tgt := 57) dX9_go_89 (by decide) ?_
      refine R_sub [1, 2, 3, 0] rfl ?_
      exact ih v2 v3 (v4 + 1) σ23 w
def g_X9_go_35    : Nat → Int32 → Int32 → AS → Option (Int32 × AS)
  | 0, _, _, _ => none
  | f0 + 1, v2, v3, σ => (if v3 < v2 then (bnd (g_X9_hourGoes 9 (gF σ 9 0 13) (-1) 0 σ) fun _ σ11 => g_X9_go_57 (g_X9_go_35 f0) 400 v2 v3 0 σ11) else g_X9_go_183 400 0 σ)
set_option maxRecDepth 100000 in
set_option maxHeartbeats 4000000 in
theorem rk_X9_go_35 {l : Launch} {cx : CX} (hA : AD cx)    (Q : Int32 → AS → Prop) : ∀ (f0 : Nat) (v2 : Int32) (v3 : Int32) (σ : AS), wpO (g_X9_go_35 f0 v2 v3 σ) Q → RJ l cx 108 RX9 cX9_go 5 (some .int) 35 [(0, .inr (.inr (9, 0, 0))), (2, .inl v2), (3, .inl v3)] [] σ (QI Q) := by
  intro f0
  induction f0 with
  | zero => intro v2 v3 σ w; exact wp_no w
  | succ f0 ih =>
    intro v2 v3 σ w
    rw [g_X9_go_35] at w
    refine R_iload_n dX9_go_35 rfl 2 rfl ?_
    refine R_iload_n dX9_go_36 rfl 1 rfl ?_
    refine R_icmp_ge (tgt := 181) dX9_go_37 (by decide) (fun c6 => ?_) (fun c6 => ?_)
    · have w := wp_f c6 w
      refine R_iconst (v := 0) dX9_go_181 (by decide) ?_
      refine R_istore_n (lv' := [(3, .inl 0), (0, .inr (.inr (9, 0, 0))), (2, .inl v2)]) dX9_go_182 rfl (by decide) rfl ?_
      refine R_sub [1, 0] rfl ?_
      exact rk_X9_go_183 hA _ 400 0 σ w
    · have w := wp_t c6 w
      refine R_aload_n dX9_go_40 rfl 0 rfl ?_
      refine R_aload_n dX9_go_41 rfl 0 rfl ?_
      refine R_getfA (k := 9) acl9 oz9_0 (by decide) fl_RX9_28 dX9_go_42 rfl ?_
      refine R_aload_n dX9_go_45 rfl 0 rfl ?_
      refine R_getfI (k := 13) acl9 oz9_0 (by decide) fl_RX9_127 dX9_go_46 rfl ?_
      refine R_iconst (v := (-1)) dX9_go_49 (by decide) ?_
      refine R_iconst (v := 0) dX9_go_50 (by decide) ?_
      refine R_callVV (As := [.inr (.inr (9, 0, 9 + 1)), .inl (gF σ 9 0 13), .inl (-1), .inl 0]) acl9 rfl oz9_0 mi_X9_hourGoes ml_RX9_271 rfl (Nat.le_of_ble_eq_true rfl) (by decide) dX9_go_51 (ct_X9_hourGoes hA 9 rfl (gF σ 9 0 13) (-1) 0 σ _ (wp_bnd w)) (fun σ11 w => ?_)
      refine R_iconst (v := 0) dX9_go_54 (by decide) ?_
      refine R_istore (lv' := [(4, .inl 0), (0, .inr (.inr (9, 0, 0))), (2, .inl v2), (3, .inl v3)]) dX9_go_55 (by decide) rfl ?_
      refine R_sub [1, 2, 3, 0] rfl ?_
      exact rk_X9_go_57 hA _ (g_X9_go_35 f0) ih 400 v2 v3 0 σ11 w
def g_X9_go (a0 : Int32) (a1 : Int32) (σ : AS) : Option (Int32 × AS) := (bnd (g_X9_within a1.toInt64 1 24 σ) fun r1 σ2 => (if r1 = 0 then some ((-1), σ2) else (if (24 : Int32) < (gF σ2 9 0 13) + a1 then some ((-5), σ2) else (bnd (g_X9_starts a0 σ2) fun _ σ5 => g_X9_go_35 400 a1 0 σ5))))
set_option maxRecDepth 100000 in
set_option maxHeartbeats 4000000 in
theorem ct_X9_go {l : Launch} {cx : CX} (hA : AD cx) (a0 : Int32) (a1 : Int32) (σ : AS) (Q : Int32 → AS → Prop) (w : wpO (g_X9_go a0 a1 σ) Q) : AMet l cx 108 yX9_go cX9_go 5 (some .int) [.inr (.inr (9, 0, 0)), .inl a0, .inl a1] σ (QI Q) := by
  unfold g_X9_go at w
  refine AMet.of (own := RX9) (by decide) rfl hA (Nat.le_of_ble_eq_true rfl) ?_
  show RJ l cx 108 RX9 cX9_go 5 (some .int) 0 [(0, .inr (.inr (9, 0, 0))), (1, .inl a0), (2, .inl a1)] [] σ _
  refine R_iload_n dX9_go_0 rfl 2 rfl ?_
  refine R_i2l dX9_go_1 ?_
  refine R_lconst (v := 1) dX9_go_2 (by decide) ?_
  refine R_ldc2 dX9_go_3 ck_RX9_265 ?_
  refine R_callSI (As := [.inr (.inl a1.toInt64), .inr (.inl 1), .inr (.inl 24)]) mi_X9_within ml_RX9_114 rfl (Nat.le_of_ble_eq_true rfl) (by decide) dX9_go_6 (ct_X9_within hA a1.toInt64 1 24 σ _ (wp_bnd w)) (fun r1 σ2 w => ?_)
  refine R_if_ne (tgt := 14) dX9_go_9 (by decide) (fun c3 => ?_) (fun c3 => ?_)
  · have w := wp_f c3 w
    refine R_aload_n dX9_go_14 rfl 0 rfl ?_
    refine R_getfI (k := 13) acl9 oz9_0 (by decide) fl_RX9_127 dX9_go_15 rfl ?_
    refine R_iload_n dX9_go_18 rfl 2 rfl ?_
    refine R_iadd dX9_go_19 ?_
    refine R_bipush (v := 24) dX9_go_20 (by decide) ?_
    refine R_icmp_le (tgt := 28) dX9_go_22 (by decide) (fun c4 => ?_) (fun c4 => ?_)
    · have w := wp_f c4 w
      refine R_aload_n dX9_go_28 rfl 0 rfl ?_
      refine R_iload_n dX9_go_29 rfl 1 rfl ?_
      refine R_callVV (As := [.inl a0]) acl9 rfl oz9_0 mi_X9_starts ml_RX9_267 rfl (Nat.le_of_ble_eq_true rfl) (by decide) dX9_go_30 (ct_X9_starts hA a0 σ2 _ (wp_bnd w)) (fun σ5 w => ?_)
      refine R_iconst (v := 0) dX9_go_33 (by decide) ?_
      refine R_istore_n (lv' := [(3, .inl 0), (0, .inr (.inr (9, 0, 0))), (1, .inl a0), (2, .inl a1)]) dX9_go_34 rfl (by decide) rfl ?_
      refine R_sub [1, 3, 0] rfl ?_
      exact rk_X9_go_35 hA _ 400 a1 0 σ5 w
    · have w := wp_t c4 w
      refine R_bipush (v := (-5)) dX9_go_25 (by decide) ?_
      exact R_ireturn dX9_go_27 rfl ⟨_, rfl, wp_some w⟩
  · have w := wp_t c3 w
    refine R_iconst (v := (-1)) dX9_go_12 (by decide) ?_
    exact R_ireturn dX9_go_13 rfl ⟨_, rfl, wp_some w⟩
def g_X9_isSitter (a0 : Int32) (σ : AS) : Option (Int32 × AS) := (bnd (g_X9_within a0.toInt64 0 (((gF σ 9 0 6) - 1).toInt64) σ) fun r1 σ2 => (if r1 = 0 ∨ r1 = 1 then some (r1, σ2) else none))
set_option maxRecDepth 100000 in
set_option maxHeartbeats 4000000 in
theorem ct_X9_isSitter {l : Launch} {cx : CX} (hA : AD cx) (a0 : Int32) (σ : AS) (Q : Int32 → AS → Prop) (w : wpO (g_X9_isSitter a0 σ) Q) : AMet l cx 1 yX9_isSitter cX9_isSitter 2 (some .boolean) [.inr (.inr (9, 0, 0)), .inl a0] σ (QI Q) := by
  unfold g_X9_isSitter at w
  refine AMet.of (own := RX9) (by decide) rfl hA (Nat.le_of_ble_eq_true rfl) ?_
  show RJ l cx 1 RX9 cX9_isSitter 2 (some .boolean) 0 [(0, .inr (.inr (9, 0, 0))), (1, .inl a0)] [] σ _
  refine R_iload_n dX9_isSitter_0 rfl 1 rfl ?_
  refine R_i2l dX9_isSitter_1 ?_
  refine R_lconst (v := 0) dX9_isSitter_2 (by decide) ?_
  refine R_aload_n dX9_isSitter_3 rfl 0 rfl ?_
  refine R_getfI (k := 6) acl9 oz9_0 (by decide) fl_RX9_111 dX9_isSitter_4 rfl ?_
  refine R_iconst (v := 1) dX9_isSitter_7 (by decide) ?_
  refine R_isub dX9_isSitter_8 ?_
  refine R_i2l dX9_isSitter_9 ?_
  refine R_callSI (As := [.inr (.inl a0.toInt64), .inr (.inl 0), .inr (.inl (((gF σ 9 0 6) - 1).toInt64))]) mi_X9_within ml_RX9_114 rfl (Nat.le_of_ble_eq_true rfl) (by decide) dX9_isSitter_10 (ct_X9_within hA a0.toInt64 0 (((gF σ 9 0 6) - 1).toInt64) σ _ (wp_bnd w)) (fun r1 σ2 w => ?_)
  obtain ⟨b3, w⟩ := wp_chk w
  exact R_zreturn dX9_isSitter_13 rfl b3 ⟨_, rfl, wp_some w⟩
def g_X9_hours_66    : Nat → Int32 → Int32 → Int32 → Int32 → AS → Option (Int32 × AS)
  | 0, _, _, _, _, _ => none
  | f0 + 1, v1, v2, v3, v4, σ => (if rmi v2 100 < v4 then some (((rmi v2 100) - (v2 / 100)) + 1, σ) else (if inb ((24 * v1) + v4) 192 then (lt (sA σ 9 0 8 ((24 * v1) + v4) v3) fun σ14 => (g_X9_hours_66 f0) v1 v2 v3 (v4 + 1) σ14) else none))
set_option maxRecDepth 100000 in
set_option maxHeartbeats 4000000 in
theorem rk_X9_hours_66 {l : Launch} {cx : CX} (hA : AD cx)    (Q : Int32 → AS → Prop) : ∀ (f0 : Nat) (v1 : Int32) (v2 : Int32) (v3 : Int32) (v4 : Int32) (σ : AS), wpO (g_X9_hours_66 f0 v1 v2 v3 v4 σ) Q → RJ l cx 2 RX9 cX9_hours 5 (some .int) 66 [(0, .inr (.inr (9, 0, 0))), (1, .inl v1), (2, .inl v2), (3, .inl v3), (4, .inl v4)] [] σ (QI Q) := by
  intro f0
  induction f0 with
  | zero => intro v1 v2 v3 v4 σ w; exact wp_no w
  | succ f0 ih =>
    intro v1 v2 v3 v4 σ w
    rw [g_X9_hours_66] at w
    refine R_iload dX9_hours_66 4 rfl ?_
    refine R_iload_n dX9_hours_68 rfl 2 rfl ?_
    refine R_bipush (v := 100) dX9_hours_69 (by decide) ?_
    refine R_irem dX9_hours_71 (by decide) ?_
    refine R_icmp_gt (tgt := 94) dX9_hours_72 (by decide) (fun c12 => ?_) (fun c12 => ?_)
    · have w := wp_t c12 w
      refine R_iload_n dX9_hours_94 rfl 2 rfl ?_
      refine R_bipush (v := 100) dX9_hours_95 (by decide) ?_
      refine R_irem dX9_hours_97 (by decide) ?_
      refine R_iload_n dX9_hours_98 rfl 2 rfl ?_
      refine R_bipush (v := 100) dX9_hours_99 (by decide) ?_
      refine R_idiv dX9_hours_101 (by decide) ?_
      refine R_isub dX9_hours_102 ?_
      refine R_iconst (v := 1) dX9_hours_103 (by decide) ?_
      refine R_iadd dX9_hours_104 ?_
      exact R_ireturn dX9_hours_105 rfl ⟨_, rfl, wp_some w⟩
    · have w := wp_f c12 w
      refine R_aload_n dX9_hours_75 rfl 0 rfl ?_
      refine R_getfA (k := 8) acl9 oz9_0 (by decide) fl_RX9_25 dX9_hours_76 rfl ?_
      refine R_bipush (v := 24) dX9_hours_79 (by decide) ?_
      refine R_iload_n dX9_hours_81 rfl 1 rfl ?_
      refine R_imul dX9_hours_82 ?_
      refine R_iload dX9_hours_83 4 rfl ?_
      refine R_iadd dX9_hours_85 ?_
      refine R_iload_n dX9_hours_86 rfl 3 rfl ?_
      obtain ⟨b13, w⟩ := wp_chk w
      refine R_iast rfl oz9_0 b13 dX9_hours_87 ?_
      refine R_nameS w ?_; clear w; intro σ14 w
      refine R_iinc (v := v4 + 1) (lv' := [(4, .inl (v4 + 1)), (0, .inr (.inr (9, 0, 0))), (1, .inl v1), (2, .inl v2), (3, .inl v3)]) dX9_hours_88 4 rfl rfl (by decide) rfl ?_
      refine R_goto (tgt := 66) dX9_hours_91 (by decide) ?_
      refine R_sub [1, 2, 3, 4, 0] rfl ?_
      exact ih v1 v2 v3 (v4 + 1) σ14 w
def g_X9_hours (a0 : Int32) (a1 : Int32) (a2 : Int32) (σ : AS) : Option (Int32 × AS) := (bnd (g_X9_isSitter a0 σ) fun r1 σ2 => (if r1 = 0 then some ((-1), σ2) else (if a1 < 0 then some ((-1), σ2) else (if rmi a1 100 < a1 / 100 then some ((-1), σ2) else (if rmi a1 100 < 24 then (bnd (g_X9_within a2.toInt64 0 3 σ2) fun r7 σ8 => (if r7 = 0 then some ((-1), σ8) else (if a1 / 100 < gF σ8 9 0 13 then some ((-5), σ8) else (lt (a1 / 100) fun x11 => g_X9_hours_66 400 a0 a1 a2 x11 σ8)))) else some ((-1), σ2))))))
set_option maxRecDepth 100000 in
set_option maxHeartbeats 4000000 in
theorem ct_X9_hours {l : Launch} {cx : CX} (hA : AD cx) (a0 : Int32) (a1 : Int32) (a2 : Int32) (σ : AS) (Q : Int32 → AS → Prop) (w : wpO (g_X9_hours a0 a1 a2 σ) Q) : AMet l cx 2 yX9_hours cX9_hours 5 (some .int) [.inr (.inr (9, 0, 0)), .inl a0, .inl a1, .inl a2] σ (QI Q) := by
  unfold g_X9_hours at w
  refine AMet.of (own := RX9) (by decide) rfl hA (Nat.le_of_ble_eq_true rfl) ?_
  show RJ l cx 2 RX9 cX9_hours 5 (some .int) 0 [(0, .inr (.inr (9, 0, 0))), (1, .inl a0), (2, .inl a1), (3, .inl a2)] [] σ _
  refine R_aload_n dX9_hours_0 rfl 0 rfl ?_
  refine R_iload_n dX9_hours_1 rfl 1 rfl ?_
  refine R_callVI (As := [.inl a0]) acl9 rfl oz9_0 mi_X9_isSitter ml_RX9_146 rfl (Nat.le_of_ble_eq_true rfl) (by decide) dX9_hours_2 (ct_X9_isSitter hA a0 σ _ (wp_bnd w)) (fun r1 σ2 w => ?_)
  refine R_if_eq (tgt := 44) dX9_hours_5 (by decide) (fun c3 => ?_) (fun c3 => ?_)
  · have w := wp_t c3 w
    refine R_iconst (v := (-1)) dX9_hours_44 (by decide) ?_
    exact R_ireturn dX9_hours_45 rfl ⟨_, rfl, wp_some w⟩
  · have w := wp_f c3 w
    refine R_iload_n dX9_hours_8 rfl 2 rfl ?_
    refine R_if_lt (tgt := 44) dX9_hours_9 (by decide) (fun c4 => ?_) (fun c4 => ?_)
    · have w := wp_t c4 w
      refine R_iconst (v := (-1)) dX9_hours_44 (by decide) ?_
      exact R_ireturn dX9_hours_45 rfl ⟨_, rfl, wp_some w⟩
    · have w := wp_f c4 w
      refine R_iload_n dX9_hours_12 rfl 2 rfl ?_
      refine R_bipush (v := 100) dX9_hours_13 (by decide) ?_
      refine R_idiv dX9_hours_15 (by decide) ?_
      refine R_iload_n dX9_hours_16 rfl 2 rfl ?_
      refine R_bipush (v := 100) dX9_hours_17 (by decide) ?_
      refine R_irem dX9_hours_19 (by decide) ?_
      refine R_icmp_gt (tgt := 44) dX9_hours_20 (by decide) (fun c5 => ?_) (fun c5 => ?_)
      · have w := wp_t c5 w
        refine R_iconst (v := (-1)) dX9_hours_44 (by decide) ?_
        exact R_ireturn dX9_hours_45 rfl ⟨_, rfl, wp_some w⟩
      · have w := wp_f c5 w
        refine R_iload_n dX9_hours_23 rfl 2 rfl ?_
        refine R_bipush (v := 100) dX9_hours_24 (by decide) ?_
        refine R_irem dX9_hours_26 (by decide) ?_
        refine R_bipush (v := 24) dX9_hours_27 (by decide) ?_
        refine R_icmp_ge (tgt := 44) dX9_hours_29 (by decide) (fun c6 => ?_) (fun c6 => ?_)
        · have w := wp_f c6 w
          refine R_iconst (v := (-1)) dX9_hours_44 (by decide) ?_
          exact R_ireturn dX9_hours_45 rfl ⟨_, rfl, wp_some w⟩
        · have w := wp_t c6 w
          refine R_iload_n dX9_hours_32 rfl 3 rfl ?_
          refine R_i2l dX9_hours_33 ?_
          refine R_lconst (v := 0) dX9_hours_34 (by decide) ?_
          refine R_ldc2 dX9_hours_35 ck_RX9_149 ?_
          refine R_callSI (As := [.inr (.inl a2.toInt64), .inr (.inl 0), .inr (.inl 3)]) mi_X9_within ml_RX9_114 rfl (Nat.le_of_ble_eq_true rfl) (by decide) dX9_hours_38 (ct_X9_within hA a2.toInt64 0 3 σ2 _ (wp_bnd w)) (fun r7 σ8 w => ?_)
          refine R_if_ne (tgt := 46) dX9_hours_41 (by decide) (fun c9 => ?_) (fun c9 => ?_)
          · have w := wp_f c9 w
            refine R_iload_n dX9_hours_46 rfl 2 rfl ?_
            refine R_bipush (v := 100) dX9_hours_47 (by decide) ?_
            refine R_idiv dX9_hours_49 (by decide) ?_
            refine R_aload_n dX9_hours_50 rfl 0 rfl ?_
            refine R_getfI (k := 13) acl9 oz9_0 (by decide) fl_RX9_127 dX9_hours_51 rfl ?_
            refine R_icmp_ge (tgt := 60) dX9_hours_54 (by decide) (fun c10 => ?_) (fun c10 => ?_)
            · have w := wp_f c10 w
              refine R_iload_n dX9_hours_60 rfl 2 rfl ?_
              refine R_bipush (v := 100) dX9_hours_61 (by decide) ?_
              refine R_idiv dX9_hours_63 (by decide) ?_
              refine R_nameI w ?_; clear w; intro x11 w
              refine R_istore (lv' := [(4, .inl x11), (0, .inr (.inr (9, 0, 0))), (1, .inl a0), (2, .inl a1), (3, .inl a2)]) dX9_hours_64 (by decide) rfl ?_
              refine R_sub [1, 2, 3, 4, 0] rfl ?_
              exact rk_X9_hours_66 hA _ 400 a0 a1 a2 x11 σ8 w
            · have w := wp_t c10 w
              refine R_bipush (v := (-5)) dX9_hours_57 (by decide) ?_
              exact R_ireturn dX9_hours_59 rfl ⟨_, rfl, wp_some w⟩
          · have w := wp_t c9 w
            refine R_iconst (v := (-1)) dX9_hours_44 (by decide) ?_
            exact R_ireturn dX9_hours_45 rfl ⟨_, rfl, wp_some w⟩
def g_X9_image (σ : AS) : Option (Int32 × AS) := (lt (sF σ 9 0 36 1) fun σ1 => (lt (sF σ1 9 0 37 (gF σ1 9 0 13)) fun σ2 => (lt (sF σ2 9 0 38 (gF σ2 9 0 12)) fun σ3 => (bnd (g_X9_copies 14 9 39 σ3) fun _ σ4 => (bnd (g_X9_copies 8 10 40 σ4) fun _ σ5 => (bnd (g_X9_copies 8 11 41 σ5) fun _ σ6 => (bnd (g_X9_copies 336 31 42 σ6) fun _ σ7 => (bnd (g_X9_copies 168 32 43 σ7) fun _ σ8 => some (gF σ8 9 0 13, σ8)))))))))
set_option maxRecDepth 100000 in
set_option maxHeartbeats 4000000 in
theorem ct_X9_image {l : Launch} {cx : CX} (hA : AD cx) (σ : AS) (Q : Int32 → AS → Prop) (w : wpO (g_X9_image σ) Q) : AMet l cx 1 yX9_image cX9_image 1 (some .int) [.inr (.inr (9, 0, 0))] σ (QI Q) := by
  unfold g_X9_image at w
  refine AMet.of (own := RX9) (by decide) rfl hA (Nat.le_of_ble_eq_true rfl) ?_
  show RJ l cx 1 RX9 cX9_image 1 (some .int) 0 [(0, .inr (.inr (9, 0, 0)))] [] σ _
  refine R_aload_n dX9_image_0 rfl 0 rfl ?_
  refine R_iconst (v := 1) dX9_image_1 (by decide) ?_
  refine R_putf (k := 36) (ty := .boolean) acl9 oz9_0 (by decide) fl_RX9_314 rfl (tyX9_ok 36 (by decide)) (Or.inr ⟨rfl, by decide⟩) dX9_image_2 rfl ?_
  refine R_nameS w ?_; clear w; intro σ1 w
  refine R_aload_n dX9_image_5 rfl 0 rfl ?_
  refine R_aload_n dX9_image_6 rfl 0 rfl ?_
  refine R_getfI (k := 13) acl9 oz9_0 (by decide) fl_RX9_127 dX9_image_7 rfl ?_
  refine R_putf (k := 37) (ty := .int) acl9 oz9_0 (by decide) fl_RX9_317 rfl (tyX9_ok 37 (by decide)) (Or.inl rfl) dX9_image_10 rfl ?_
  refine R_nameS w ?_; clear w; intro σ2 w
  refine R_aload_n dX9_image_13 rfl 0 rfl ?_
  refine R_aload_n dX9_image_14 rfl 0 rfl ?_
  refine R_getfI (k := 12) acl9 oz9_0 (by decide) fl_RX9_274 dX9_image_15 rfl ?_
  refine R_putf (k := 38) (ty := .int) acl9 oz9_0 (by decide) fl_RX9_320 rfl (tyX9_ok 38 (by decide)) (Or.inl rfl) dX9_image_18 rfl ?_
  refine R_nameS w ?_; clear w; intro σ3 w
  refine R_aload_n dX9_image_21 rfl 0 rfl ?_
  refine R_getfA (k := 9) acl9 oz9_0 (by decide) fl_RX9_28 dX9_image_22 rfl ?_
  refine R_aload_n dX9_image_25 rfl 0 rfl ?_
  refine R_getfA (k := 39) acl9 oz9_0 (by decide) fl_RX9_67 dX9_image_26 rfl ?_
  refine R_callSV (As := [.inr (.inr (9, 0, 9 + 1)), .inr (.inr (9, 0, 39 + 1))]) mi_X9_copies ml_RX9_323 rfl (Nat.le_of_ble_eq_true rfl) (by decide) dX9_image_29 (ct_X9_copies hA 14 9 rfl 39 rfl σ3 _ (wp_bnd w)) (fun σ4 w => ?_)
  refine R_aload_n dX9_image_32 rfl 0 rfl ?_
  refine R_getfA (k := 10) acl9 oz9_0 (by decide) fl_RX9_31 dX9_image_33 rfl ?_
  refine R_aload_n dX9_image_36 rfl 0 rfl ?_
  refine R_getfA (k := 40) acl9 oz9_0 (by decide) fl_RX9_70 dX9_image_37 rfl ?_
  refine R_callSV (As := [.inr (.inr (9, 0, 10 + 1)), .inr (.inr (9, 0, 40 + 1))]) mi_X9_copies ml_RX9_323 rfl (Nat.le_of_ble_eq_true rfl) (by decide) dX9_image_40 (ct_X9_copies hA 8 10 rfl 40 rfl σ4 _ (wp_bnd w)) (fun σ5 w => ?_)
  refine R_aload_n dX9_image_43 rfl 0 rfl ?_
  refine R_getfA (k := 11) acl9 oz9_0 (by decide) fl_RX9_34 dX9_image_44 rfl ?_
  refine R_aload_n dX9_image_47 rfl 0 rfl ?_
  refine R_getfA (k := 41) acl9 oz9_0 (by decide) fl_RX9_73 dX9_image_48 rfl ?_
  refine R_callSV (As := [.inr (.inr (9, 0, 11 + 1)), .inr (.inr (9, 0, 41 + 1))]) mi_X9_copies ml_RX9_323 rfl (Nat.le_of_ble_eq_true rfl) (by decide) dX9_image_51 (ct_X9_copies hA 8 11 rfl 41 rfl σ5 _ (wp_bnd w)) (fun σ6 w => ?_)
  refine R_aload_n dX9_image_54 rfl 0 rfl ?_
  refine R_getfA (k := 31) acl9 oz9_0 (by decide) fl_RX9_58 dX9_image_55 rfl ?_
  refine R_aload_n dX9_image_58 rfl 0 rfl ?_
  refine R_getfA (k := 42) acl9 oz9_0 (by decide) fl_RX9_76 dX9_image_59 rfl ?_
  refine R_callSV (As := [.inr (.inr (9, 0, 31 + 1)), .inr (.inr (9, 0, 42 + 1))]) mi_X9_copies ml_RX9_323 rfl (Nat.le_of_ble_eq_true rfl) (by decide) dX9_image_62 (ct_X9_copies hA 336 31 rfl 42 rfl σ6 _ (wp_bnd w)) (fun σ7 w => ?_)
  refine R_aload_n dX9_image_65 rfl 0 rfl ?_
  refine R_getfA (k := 32) acl9 oz9_0 (by decide) fl_RX9_61 dX9_image_66 rfl ?_
  refine R_aload_n dX9_image_69 rfl 0 rfl ?_
  refine R_getfA (k := 43) acl9 oz9_0 (by decide) fl_RX9_79 dX9_image_70 rfl ?_
  refine R_callSV (As := [.inr (.inr (9, 0, 32 + 1)), .inr (.inr (9, 0, 43 + 1))]) mi_X9_copies ml_RX9_323 rfl (Nat.le_of_ble_eq_true rfl) (by decide) dX9_image_73 (ct_X9_copies hA 168 32 rfl 43 rfl σ7 _ (wp_bnd w)) (fun σ8 w => ?_)
  refine R_aload_n dX9_image_76 rfl 0 rfl ?_
  refine R_getfI (k := 13) acl9 oz9_0 (by decide) fl_RX9_127 dX9_image_77 rfl ?_
  exact R_ireturn dX9_image_80 rfl ⟨_, rfl, wp_some w⟩
