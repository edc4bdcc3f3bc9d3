def g_X9_isAsItWas_49    (k28 : Int32 → AS → Option (Int32 × AS)) : Nat → Int32 → Int32 → AS → Option (Int32 × AS)
  | 0, _, _, _ => none
  | f0 + 1, v2, v3, σ => (bnd (g_X9_rests σ) fun r5 σ6 => (if v3 < r5 then (lt ((14 * v2) + (2 * v3)) fun x8 => (if inb (2 * v3) 14 then (if inb x8 336 then (if gA σ6 9 0 33 (2 * v3) = gA σ6 9 0 31 x8 then (if inb ((2 * v3) + 1) 14 then (if inb (x8 + 1) 336 then (if gA σ6 9 0 33 ((2 * v3) + 1) = gA σ6 9 0 31 (x8 + 1) then (if inb v3 7 then (if inb ((7 * v2) + v3) 168 then (if gA σ6 9 0 28 v3 = gA σ6 9 0 32 ((7 * v2) + v3) then (g_X9_isAsItWas_49 k28 f0) v2 (v3 + 1) σ6 else some (0, σ6)) else none) else none) else some (0, σ6)) else none) else none) else some (0, σ6)) else none) else none)) else k28 (v2 + 1) σ6))
set_option maxRecDepth 100000 in
set_option maxHeartbeats 4000000 in
theorem rk_X9_isAsItWas_49 {l : Launch} {cx : CX} (hA : AD cx)    (Q : Int32 → AS → Prop) (k28 : Int32 → AS → Option (Int32 × AS)) (hk28 : ∀ (v2 : Int32) (σ : AS), wpO (k28 v2 σ) Q → RJ l cx 108 RX9 cX9_isAsItWas 5 (some .boolean) 28 [(0, .inr (.inr (9, 0, 0))), (2, .inl v2)] [] σ (QI Q)) : ∀ (f0 : Nat) (v2 : Int32) (v3 : Int32) (σ : AS), wpO (g_X9_isAsItWas_49 k28 f0 v2 v3 σ) Q → RJ l cx 108 RX9 cX9_isAsItWas 5 (some .boolean) 49 [(0, .inr (.inr (9, 0, 0))), (2, .inl v2), (3, .inl v3)] [] σ (QI Q) := by
  intro f0
  induction f0 with
  | zero => intro v2 v3 σ w; exact wp_no w
  | succ f0 ih =>
    intro v2 v3 σ w
    rw [g_X9_isAsItWas_49] at w
    refine R_iload_n dX9_isAsItWas_49 rfl 2 rfl ?_
    refine R_aload_n dX9_isAsItWas_50 rfl 0 rfl ?_
    refine R_callVI (As := []) acl9 rfl oz9_0 mi_X9_rests ml_RX9_118 rfl (Nat.le_of_ble_eq_true rfl) (by decide) dX9_isAsItWas_51 (ct_X9_rests hA σ _ (wp_bnd w)) (fun r5 σ6 w => ?_)
    refine R_icmp_ge (tgt := 135) dX9_isAsItWas_54 (by decide) (fun c7 => ?_) (fun c7 => ?_)
    · have w := wp_f c7 w
      refine R_iinc (v := v2 + 1) (lv' := [(2, .inl (v2 + 1)), (0, .inr (.inr (9, 0, 0))), (3, .inl v3)]) dX9_isAsItWas_135 1 rfl rfl (by decide) rfl ?_
      refine R_goto (tgt := 28) dX9_isAsItWas_138 (by decide) ?_
      refine R_sub [1, 0] rfl ?_
      exact hk28 (v2 + 1) σ6 w
    · have w := wp_t c7 w
      refine R_bipush (v := 14) dX9_isAsItWas_57 (by decide) ?_
      refine R_iload_n dX9_isAsItWas_59 rfl 1 rfl ?_
      refine R_imul dX9_isAsItWas_60 ?_
      refine R_iconst (v := 2) dX9_isAsItWas_61 (by decide) ?_
      refine R_iload_n dX9_isAsItWas_62 rfl 2 rfl ?_
      refine R_imul dX9_isAsItWas_63 ?_
      refine R_iadd dX9_isAsItWas_64 ?_
      refine R_nameI w ?_; clear w; intro x8 w
      refine R_istore (lv' := [(4, .inl x8), (0, .inr (.inr (9, 0, 0))), (2, .inl v2), (3, .inl v3)]) dX9_isAsItWas_65 (by decide) rfl ?_
      refine R_aload_n dX9_isAsItWas_67 rfl 1 rfl ?_
      refine R_getfA (k := 33) acl9 oz9_0 (by decide) fl_RX9_64 dX9_isAsItWas_68 rfl ?_
      refine R_iconst (v := 2) dX9_isAsItWas_71 (by decide) ?_
      refine R_iload_n dX9_isAsItWas_72 rfl 3 rfl ?_
      refine R_imul dX9_isAsItWas_73 ?_
      obtain ⟨b9, w⟩ := wp_chk w
      refine R_iald rfl oz9_0 b9 dX9_isAsItWas_74 ?_
      refine R_aload_n dX9_isAsItWas_75 rfl 1 rfl ?_
      refine R_getfA (k := 31) acl9 oz9_0 (by decide) fl_RX9_58 dX9_isAsItWas_76 rfl ?_
      refine R_iload dX9_isAsItWas_79 0 rfl ?_
      obtain ⟨b10, w⟩ := wp_chk w
      refine R_iald rfl oz9_0 b10 dX9_isAsItWas_81 ?_
      refine R_icmp_ne (tgt := 127) dX9_isAsItWas_82 (by decide) (fun c11 => ?_) (fun c11 => ?_)
      · have w := wp_f c11 w
        refine R_iconst (v := 0) dX9_isAsItWas_127 (by decide) ?_
        exact R_zreturn dX9_isAsItWas_128 rfl (by decide) ⟨_, rfl, wp_some w⟩
      · have w := wp_t c11 w
        refine R_aload_n dX9_isAsItWas_85 rfl 1 rfl ?_
        refine R_getfA (k := 33) acl9 oz9_0 (by decide) fl_RX9_64 dX9_isAsItWas_86 rfl ?_
        refine R_iconst (v := 2) dX9_isAsItWas_89 (by decide) ?_
        refine R_iload_n dX9_isAsItWas_90 rfl 3 rfl ?_
        refine R_imul dX9_isAsItWas_91 ?_
        refine R_iconst (v := 1) dX9_isAsItWas_92 (by decide) ?_
        refine R_iadd dX9_isAsItWas_93 ?_
        obtain ⟨b12, w⟩ := wp_chk w
        refine R_iald rfl oz9_0 b12 dX9_isAsItWas_94 ?_
        refine R_aload_n dX9_isAsItWas_95 rfl 1 rfl ?_
        refine R_getfA (k := 31) acl9 oz9_0 (by decide) fl_RX9_58 dX9_isAsItWas_96 rfl ?_
        refine R_iload dX9_isAsItWas_99 0 rfl ?_
        refine R_iconst (v := 1) dX9_isAsItWas_101 (by decide) ?_
        refine R_iadd dX9_isAsItWas_102 ?_
        obtain ⟨b13, w⟩ := wp_chk w
        refine R_iald rfl oz9_0 b13 dX9_isAsItWas_103 ?_
        refine R_icmp_ne (tgt := 127) dX9_isAsItWas_104 (by decide) (fun c14 => ?_) (fun c14 => ?_)
        · have w := wp_f c14 w
          refine R_iconst (v := 0) dX9_isAsItWas_127 (by decide) ?_
          exact R_zreturn dX9_isAsItWas_128 rfl (by decide) ⟨_, rfl, wp_some w⟩
        · have w := wp_t c14 w
          refine R_aload_n dX9_isAsItWas_107 rfl 1 rfl ?_
          refine R_getfA (k := 28) acl9 oz9_0 (by decide) fl_RX9_49 dX9_isAsItWas_108 rfl ?_
          refine R_iload_n dX9_isAsItWas_111 rfl 3 rfl ?_
          obtain ⟨b15, w⟩ := wp_chk w
          refine R_iald rfl oz9_0 b15 dX9_isAsItWas_112 ?_
          refine R_aload_n dX9_isAsItWas_113 rfl 1 rfl ?_
          refine R_getfA (k := 32) acl9 oz9_0 (by decide) fl_RX9_61 dX9_isAsItWas_114 rfl ?_
          refine R_bipush (v := 7) dX9_isAsItWas_117 (by decide) ?_
          refine R_iload_n dX9_isAsItWas_119 rfl 2 rfl ?_
          refine R_imul dX9_isAsItWas_120 ?_
          refine R_iload_n dX9_isAsItWas_121 rfl 3 rfl ?_
          refine R_iadd dX9_isAsItWas_122 ?_
          obtain ⟨b16, w⟩ := wp_chk w
          refine R_iald rfl oz9_0 b16 dX9_isAsItWas_123 ?_
          refine R_icmp_eq (tgt := 129) dX9_isAsItWas_124 (by decide) (fun c17 => ?_) (fun c17 => ?_)
          · have w := wp_t c17 w
            refine R_iinc (v := v3 + 1) (lv' := [(3, .inl (v3 + 1)), (4, .inl x8), (0, .inr (.inr (9, 0, 0))), (2, .inl v2)]) dX9_isAsItWas_129 3 rfl rfl (by decide) rfl ?_
            refine R_goto (tgt := 49) dX9_isAsItWas_132 (by decide) ?_
            refine R_sub [2, 3, 0] rfl ?_
            exact ih v2 (v3 + 1) σ6 w
          · have w := wp_f c17 w
            refine R_iconst (v := 0) dX9_isAsItWas_127 (by decide) ?_
            exact R_zreturn dX9_isAsItWas_128 rfl (by decide) ⟨_, rfl, wp_some w⟩
def g_X9_isAsItWas_28    : Nat → Int32 → AS → Option (Int32 × AS)
  | 0, _, _ => none
  | f0 + 1, v2, σ => (if v2 < gF σ 9 0 13 then (bnd (g_X9_hourGoes 33 v2 (-1) 0 σ) fun _ σ4 => g_X9_isAsItWas_49 (g_X9_isAsItWas_28 f0) 400 v2 0 σ4) else some (1, σ))
set_option maxRecDepth 100000 in
set_option maxHeartbeats 4000000 in
theorem rk_X9_isAsItWas_28 {l : Launch} {cx : CX} (hA : AD cx)    (Q : Int32 → AS → Prop) : ∀ (f0 : Nat) (v2 : Int32) (σ : AS), wpO (g_X9_isAsItWas_28 f0 v2 σ) Q → RJ l cx 108 RX9 cX9_isAsItWas 5 (some .boolean) 28 [(0, .inr (.inr (9, 0, 0))), (2, .inl v2)] [] σ (QI Q) := by
  intro f0
  induction f0 with
  | zero => intro v2 σ w; exact wp_no w
  | succ f0 ih =>
    intro v2 σ w
    rw [g_X9_isAsItWas_28] at w
    refine R_iload_n dX9_isAsItWas_28 rfl 1 rfl ?_
    refine R_aload_n dX9_isAsItWas_29 rfl 0 rfl ?_
    refine R_getfI (k := 13) acl9 oz9_0 (by decide) fl_RX9_127 dX9_isAsItWas_30 rfl ?_
    refine R_icmp_ge (tgt := 141) dX9_isAsItWas_33 (by decide) (fun c3 => ?_) (fun c3 => ?_)
    · have w := wp_f c3 w
      refine R_iconst (v := 1) dX9_isAsItWas_141 (by decide) ?_
      exact R_zreturn dX9_isAsItWas_142 rfl (by decide) ⟨_, rfl, wp_some w⟩
    · have w := wp_t c3 w
      refine R_aload_n dX9_isAsItWas_36 rfl 0 rfl ?_
      refine R_aload_n dX9_isAsItWas_37 rfl 0 rfl ?_
      refine R_getfA (k := 33) acl9 oz9_0 (by decide) fl_RX9_64 dX9_isAsItWas_38 rfl ?_
      refine R_iload_n dX9_isAsItWas_41 rfl 1 rfl ?_
      refine R_iconst (v := (-1)) dX9_isAsItWas_42 (by decide) ?_
      refine R_iconst (v := 0) dX9_isAsItWas_43 (by decide) ?_
      refine R_callVV (As := [.inr (.inr (9, 0, 33 + 1)), .inl v2, .inl (-1), .inl 0]) acl9 rfl oz9_0 mi_X9_hourGoes ml_RX9_271 rfl (Nat.le_of_ble_eq_true rfl) (by decide) dX9_isAsItWas_44 (ct_X9_hourGoes hA 33 rfl v2 (-1) 0 σ _ (wp_bnd w)) (fun σ4 w => ?_)
      refine R_iconst (v := 0) dX9_isAsItWas_47 (by decide) ?_
      refine R_istore_n (lv' := [(3, .inl 0), (0, .inr (.inr (9, 0, 0))), (2, .inl v2)]) dX9_isAsItWas_48 rfl (by decide) rfl ?_
      refine R_sub [1, 2, 0] rfl ?_
      exact rk_X9_isAsItWas_49 hA _ (g_X9_isAsItWas_28 f0) ih 400 v2 0 σ4 w
def g_X9_isAsItWas_7    : Nat → Int32 → AS → Option (Int32 × AS)
  | 0, _, _ => none
  | f0 + 1, v2, σ => (if v2 < 14 then (if inb v2 14 then (lt (sA σ 9 0 33 v2 0) fun σ19 => (g_X9_isAsItWas_7 f0) (v2 + 1) σ19) else none) else g_X9_isAsItWas_28 400 0 σ)
set_option maxRecDepth 100000 in
set_option maxHeartbeats 4000000 in
theorem rk_X9_isAsItWas_7 {l : Launch} {cx : CX} (hA : AD cx)    (Q : Int32 → AS → Prop) : ∀ (f0 : Nat) (v2 : Int32) (σ : AS), wpO (g_X9_isAsItWas_7 f0 v2 σ) Q → RJ l cx 108 RX9 cX9_isAsItWas 5 (some .boolean) 7 [(0, .inr (.inr (9, 0, 0))), (2, .inl v2)] [] σ (QI Q) := by
  intro f0
  induction f0 with
  | zero => intro v2 σ w; exact wp_no w
  | succ f0 ih =>
    intro v2 σ w
    rw [g_X9_isAsItWas_7] at w
    refine R_iload_n dX9_isAsItWas_7 rfl 1 rfl ?_
    refine R_bipush (v := 14) dX9_isAsItWas_8 (by decide) ?_
    refine R_icmp_ge (tgt := 26) dX9_isAsItWas_10 (by decide) (fun c2 => ?_) (fun c2 => ?_)
    · have w := wp_f c2 w
      refine R_iconst (v := 0) dX9_isAsItWas_26 (by decide) ?_
      refine R_istore_n (lv' := [(2, .inl 0), (0, .inr (.inr (9, 0, 0)))]) dX9_isAsItWas_27 rfl (by decide) rfl ?_
      refine R_sub [1, 0] rfl ?_
      exact rk_X9_isAsItWas_28 hA _ 400 0 σ w
    · have w := wp_t c2 w
      refine R_aload_n dX9_isAsItWas_13 rfl 0 rfl ?_
      refine R_getfA (k := 33) acl9 oz9_0 (by decide) fl_RX9_64 dX9_isAsItWas_14 rfl ?_
      refine R_iload_n dX9_isAsItWas_17 rfl 1 rfl ?_
      refine R_iconst (v := 0) dX9_isAsItWas_18 (by decide) ?_
      obtain ⟨b18, w⟩ := wp_chk w
      refine R_iast rfl oz9_0 b18 dX9_isAsItWas_19 ?_
      refine R_nameS w ?_; clear w; intro σ19 w
      refine R_iinc (v := v2 + 1) (lv' := [(2, .inl (v2 + 1)), (0, .inr (.inr (9, 0, 0)))]) dX9_isAsItWas_20 1 rfl rfl (by decide) rfl ?_
      refine R_goto (tgt := 7) dX9_isAsItWas_23 (by decide) ?_
      refine R_sub [1, 0] rfl ?_
      exact ih (v2 + 1) σ19 w
def g_X9_isAsItWas (a0 : Int32) (σ : AS) : Option (Int32 × AS) := (bnd (g_X9_starts a0 σ) fun _ σ1 => g_X9_isAsItWas_7 400 0 σ1)
set_option maxRecDepth 100000 in
set_option maxHeartbeats 4000000 in
theorem ct_X9_isAsItWas {l : Launch} {cx : CX} (hA : AD cx) (a0 : Int32) (σ : AS) (Q : Int32 → AS → Prop) (w : wpO (g_X9_isAsItWas a0 σ) Q) : AMet l cx 108 yX9_isAsItWas cX9_isAsItWas 5 (some .boolean) [.inr (.inr (9, 0, 0)), .inl a0] σ (QI Q) := by
  unfold g_X9_isAsItWas at w
  refine AMet.of (own := RX9) (by decide) rfl hA (Nat.le_of_ble_eq_true rfl) ?_
  show RJ l cx 108 RX9 cX9_isAsItWas 5 (some .boolean) 0 [(0, .inr (.inr (9, 0, 0))), (1, .inl a0)] [] σ _
  refine R_aload_n dX9_isAsItWas_0 rfl 0 rfl ?_
  refine R_iload_n dX9_isAsItWas_1 rfl 1 rfl ?_
  refine R_callVV (As := [.inl a0]) acl9 rfl oz9_0 mi_X9_starts ml_RX9_267 rfl (Nat.le_of_ble_eq_true rfl) (by decide) dX9_isAsItWas_2 (ct_X9_starts hA a0 σ _ (wp_bnd w)) (fun σ1 w => ?_)
  refine R_iconst (v := 0) dX9_isAsItWas_5 (by decide) ?_
  refine R_istore_n (lv' := [(2, .inl 0), (0, .inr (.inr (9, 0, 0))), (1, .inl a0)]) dX9_isAsItWas_6 rfl (by decide) rfl ?_
  refine R_sub [1, 0] rfl ?_
  exact rk_X9_isAsItWas_7 hA _ 400 0 σ1 w
def g_X9_isCalm_24    : Nat → Int32 → Int32 → Int32 → Int32 → AS → Option (Int32 × AS)
  | 0, _, _, _, _, _ => none
  | f0 + 1, v2, v3, v4, v5, σ => (if v5 < 24 then (bnd (g_X9_hourGoes 33 v5 v2 v3 σ) fun _ σ6 => (if inb v2 7 then (lt (v4 + (gA σ6 9 0 28 v2)) fun x8 => (g_X9_isCalm_24 f0) v2 v3 x8 (v5 + 1) σ6) else none)) else (if v4 = 0 then some (1, σ) else some (0, σ)))
set_option maxRecDepth 100000 in
set_option maxHeartbeats 4000000 in
theorem rk_X9_isCalm_24 {l : Launch} {cx : CX} (hA : AD cx)    (Q : Int32 → AS → Prop) : ∀ (f0 : Nat) (v2 : Int32) (v3 : Int32) (v4 : Int32) (v5 : Int32) (σ : AS), wpO (g_X9_isCalm_24 f0 v2 v3 v4 v5 σ) Q → RJ l cx 108 RX9 cX9_isCalm 6 (some .boolean) 24 [(0, .inr (.inr (9, 0, 0))), (2, .inl v2), (3, .inl v3), (4, .inl v4), (5, .inl v5)] [] σ (QI Q) := by
  intro f0
  induction f0 with
  | zero => intro v2 v3 v4 v5 σ w; exact wp_no w
  | succ f0 ih =>
    intro v2 v3 v4 v5 σ w
    rw [g_X9_isCalm_24] at w
    refine R_iload dX9_isCalm_24 4 rfl ?_
    refine R_bipush (v := 24) dX9_isCalm_26 (by decide) ?_
    refine R_icmp_ge (tgt := 60) dX9_isCalm_28 (by decide) (fun c4 => ?_) (fun c4 => ?_)
    · have w := wp_f c4 w
      refine R_iload dX9_isCalm_60 3 rfl ?_
      refine R_if_ne (tgt := 69) dX9_isCalm_62 (by decide) (fun c5 => ?_) (fun c5 => ?_)
      · have w := wp_f c5 w
        refine R_iconst (v := 0) dX9_isCalm_69 (by decide) ?_
        exact R_zreturn dX9_isCalm_70 rfl (by decide) ⟨_, rfl, wp_some w⟩
      · have w := wp_t c5 w
        refine R_iconst (v := 1) dX9_isCalm_65 (by decide) ?_
        refine R_goto (tgt := 70) dX9_isCalm_66 (by decide) ?_
        exact R_zreturn dX9_isCalm_70 rfl (by decide) ⟨_, rfl, wp_some w⟩
    · have w := wp_t c4 w
      refine R_aload_n dX9_isCalm_31 rfl 0 rfl ?_
      refine R_aload_n dX9_isCalm_32 rfl 0 rfl ?_
      refine R_getfA (k := 33) acl9 oz9_0 (by decide) fl_RX9_64 dX9_isCalm_33 rfl ?_
      refine R_iload dX9_isCalm_36 4 rfl ?_
      refine R_iload_n dX9_isCalm_38 rfl 1 rfl ?_
      refine R_iload_n dX9_isCalm_39 rfl 2 rfl ?_
      refine R_callVV (As := [.inr (.inr (9, 0, 33 + 1)), .inl v5, .inl v2, .inl v3]) acl9 rfl oz9_0 mi_X9_hourGoes ml_RX9_271 rfl (Nat.le_of_ble_eq_true rfl) (by decide) dX9_isCalm_40 (ct_X9_hourGoes hA 33 rfl v5 v2 v3 σ _ (wp_bnd w)) (fun σ6 w => ?_)
      refine R_iload dX9_isCalm_43 3 rfl ?_
      refine R_aload_n dX9_isCalm_45 rfl 0 rfl ?_
      refine R_getfA (k := 28) acl9 oz9_0 (by decide) fl_RX9_49 dX9_isCalm_46 rfl ?_
      refine R_iload_n dX9_isCalm_49 rfl 1 rfl ?_
      obtain ⟨b7, w⟩ := wp_chk w
      refine R_iald rfl oz9_0 b7 dX9_isCalm_50 ?_
      refine R_iadd dX9_isCalm_51 ?_
      refine R_nameI w ?_; clear w; intro x8 w
      refine R_istore (lv' := [(4, .inl x8), (0, .inr (.inr (9, 0, 0))), (2, .inl v2), (3, .inl v3), (5, .inl v5)]) dX9_isCalm_52 (by decide) rfl ?_
      refine R_iinc (v := v5 + 1) (lv' := [(5, .inl (v5 + 1)), (4, .inl x8), (0, .inr (.inr (9, 0, 0))), (2, .inl v2), (3, .inl v3)]) dX9_isCalm_54 4 rfl rfl (by decide) rfl ?_
      refine R_goto (tgt := 24) dX9_isCalm_57 (by decide) ?_
      refine R_sub [2, 3, 4, 1, 0] rfl ?_
      exact ih v2 v3 x8 (v5 + 1) σ6 w
def g_X9_isCalm (a0 : Int32) (a1 : Int32) (a2 : Int32) (σ : AS) : Option (Int32 × AS) := (bnd (g_X9_thinks a0 σ) fun _ σ1 => (bnd (g_X9_fits 33 a1 a2 σ1) fun _ σ2 => (lt (gF σ2 9 0 13) fun x3 => g_X9_isCalm_24 400 a1 a2 0 x3 σ2)))
set_option maxRecDepth 100000 in
set_option maxHeartbeats 4000000 in
theorem ct_X9_isCalm {l : Launch} {cx : CX} (hA : AD cx) (a0 : Int32) (a1 : Int32) (a2 : Int32) (σ : AS) (Q : Int32 → AS → Prop) (w : wpO (g_X9_isCalm a0 a1 a2 σ) Q) : AMet l cx 108 yX9_isCalm cX9_isCalm 6 (some .boolean) [.inr (.inr (9, 0, 0)), .inl a0, .inl a1, .inl a2] σ (QI Q) := by
  unfold g_X9_isCalm at w
  refine AMet.of (own := RX9) (by decide) rfl hA (Nat.le_of_ble_eq_true rfl) ?_
  show RJ l cx 108 RX9 cX9_isCalm 6 (some .boolean) 0 [(0, .inr (.inr (9, 0, 0))), (1, .inl a0), (2, .inl a1), (3, .inl a2)] [] σ _
  refine R_aload_n dX9_isCalm_0 rfl 0 rfl ?_
  refine R_iload_n dX9_isCalm_1 rfl 1 rfl ?_
  refine R_callVV (As := [.inl a0]) acl9 rfl oz9_0 mi_X9_thinks ml_RX9_282 rfl (Nat.le_of_ble_eq_true rfl) (by decide) dX9_isCalm_2 (ct_X9_thinks hA a0 σ _ (wp_bnd w)) (fun σ1 w => ?_)
  refine R_aload_n dX9_isCalm_5 rfl 0 rfl ?_
  refine R_aload_n dX9_isCalm_6 rfl 0 rfl ?_
  refine R_getfA (k := 33) acl9 oz9_0 (by decide) fl_RX9_64 dX9_isCalm_7 rfl ?_
  refine R_iload_n dX9_isCalm_10 rfl 2 rfl ?_
  refine R_iload_n dX9_isCalm_11 rfl 3 rfl ?_
  refine R_callVV (As := [.inr (.inr (9, 0, 33 + 1)), .inl a1, .inl a2]) acl9 rfl oz9_0 mi_X9_fits ml_RX9_142 rfl (Nat.le_of_ble_eq_true rfl) (by decide) dX9_isCalm_12 (ct_X9_fits hA 33 rfl a1 a2 σ1 _ (wp_bnd w)) (fun σ2 w => ?_)
  refine R_iconst (v := 0) dX9_isCalm_15 (by decide) ?_
  refine R_istore (lv' := [(4, .inl 0), (0, .inr (.inr (9, 0, 0))), (1, .inl a0), (2, .inl a1), (3, .inl a2)]) dX9_isCalm_16 (by decide) rfl ?_
  refine R_aload_n dX9_isCalm_18 rfl 1 rfl ?_
  refine R_getfI (k := 13) acl9 oz9_0 (by decide) fl_RX9_127 dX9_isCalm_19 rfl ?_
  refine R_nameI w ?_; clear w; intro x3 w
  refine R_istore (lv' := [(5, .inl x3), (4, .inl 0), (0, .inr (.inr (9, 0, 0))), (1, .inl a0), (2, .inl a1), (3, .inl a2)]) dX9_isCalm_22 (by decide) rfl ?_
  refine R_sub [2, 4, 5, 1, 0] rfl ?_
  exact rk_X9_isCalm_24 hA _ 400 a1 a2 0 x3 σ2 w
def g_X9_isOne (a0 : Int64) (a1 : Int64) (a2 : Int64) (σ : AS) : Option (Int32 × AS) := (bnd (g_X9_within a0 0 9 σ) fun r1 σ2 => (if r1 = 0 then some (0, σ2) else (bnd (g_X9_within a1 0 9 σ2) fun r4 σ5 => (if r4 = 0 then some (0, σ5) else (bnd (g_X9_within a2 0 9 σ5) fun r7 σ8 => (if r7 = 0 then some (0, σ8) else some (1, σ8)))))))
set_option maxRecDepth 100000 in
set_option maxHeartbeats 4000000 in
theorem ct_X9_isOne {l : Launch} {cx : CX} (hA : AD cx) (a0 : Int64) (a1 : Int64) (a2 : Int64) (σ : AS) (Q : Int32 → AS → Prop) (w : wpO (g_X9_isOne a0 a1 a2 σ) Q) : AMet l cx 1 yX9_isOne cX9_isOne 6 (some .boolean) [.inr (.inl a0), .inr (.inl a1), .inr (.inl a2)] σ (QI Q) := by
  unfold g_X9_isOne at w
  refine AMet.of (own := RX9) (by decide) rfl hA (Nat.le_of_ble_eq_true rfl) ?_
  show RJ l cx 1 RX9 cX9_isOne 6 (some .boolean) 0 [(0, .inr (.inl a0)), (2, .inr (.inl a1)), (4, .inr (.inl a2))] [] σ _
  refine R_lload_n dX9_isOne_0 rfl 0 rfl ?_
  refine R_lconst (v := 0) dX9_isOne_1 (by decide) ?_
  refine R_ldc2 dX9_isOne_2 ck_RX9_122 ?_
  refine R_callSI (As := [.inr (.inl a0), .inr (.inl 0), .inr (.inl 9)]) mi_X9_within ml_RX9_114 rfl (Nat.le_of_ble_eq_true rfl) (by decide) dX9_isOne_5 (ct_X9_within hA a0 0 9 σ _ (wp_bnd w)) (fun r1 σ2 w => ?_)
  refine R_if_eq (tgt := 38) dX9_isOne_8 (by decide) (fun c3 => ?_) (fun c3 => ?_)
  · have w := wp_t c3 w
    refine R_iconst (v := 0) dX9_isOne_38 (by decide) ?_
    exact R_zreturn dX9_isOne_39 rfl (by decide) ⟨_, rfl, wp_some w⟩
  · have w := wp_f c3 w
    refine R_lload_n dX9_isOne_11 rfl 1 rfl ?_
    refine R_lconst (v := 0) dX9_isOne_12 (by decide) ?_
    refine R_ldc2 dX9_isOne_13 ck_RX9_122 ?_
    refine R_callSI (As := [.inr (.inl a1), .inr (.inl 0), .inr (.inl 9)]) mi_X9_within ml_RX9_114 rfl (Nat.le_of_ble_eq_true rfl) (by decide) dX9_isOne_16 (ct_X9_within hA a1 0 9 σ2 _ (wp_bnd w)) (fun r4 σ5 w => ?_)
    refine R_if_eq (tgt := 38) dX9_isOne_19 (by decide) (fun c6 => ?_) (fun c6 => ?_)
    · have w := wp_t c6 w
      refine R_iconst (v := 0) dX9_isOne_38 (by decide) ?_
      exact R_zreturn dX9_isOne_39 rfl (by decide) ⟨_, rfl, wp_some w⟩
    · have w := wp_f c6 w
      refine R_lload dX9_isOne_22 2 rfl ?_
      refine R_lconst (v := 0) dX9_isOne_24 (by decide) ?_
      refine R_ldc2 dX9_isOne_25 ck_RX9_122 ?_
      refine R_callSI (As := [.inr (.inl a2), .inr (.inl 0), .inr (.inl 9)]) mi_X9_within ml_RX9_114 rfl (Nat.le_of_ble_eq_true rfl) (by decide) dX9_isOne_28 (ct_X9_within hA a2 0 9 σ5 _ (wp_bnd w)) (fun r7 σ8 w => ?_)
      refine R_if_eq (tgt := 38) dX9_isOne_31 (by decide) (fun c9 => ?_) (fun c9 => ?_)
      · have w := wp_t c9 w
        refine R_iconst (v := 0) dX9_isOne_38 (by decide) ?_
        exact R_zreturn dX9_isOne_39 rfl (by decide) ⟨_, rfl, wp_some w⟩
      · have w := wp_f c9 w
        refine R_iconst (v := 1) dX9_isOne_34 (by decide) ?_
        refine R_goto (tgt := 39) dX9_isOne_35 (by decide) ?_
        exact R_zreturn dX9_isOne_39 rfl (by decide) ⟨_, rfl, wp_some w⟩
def g_X9_judge_45    : Nat → Int32 → Int32 → Int32 → AS → Option (Int32 × AS)
  | 0, _, _, _, _ => none
  | f0 + 1, v1, v2, v3, σ => (if inb v1 6 then (if v3 < gA σ 9 0 51 v1 then (if v3 < 2 * (gF σ 9 0 13) then (if inb ((60 * v1) + v3) 360 then (if inb (((14 * (v3 / 2)) + (2 * v2)) + (rmi v3 2)) 336 then (if lg_cmp (gL σ 9 0 52 ((60 * v1) + v3)) ((gA σ 9 0 31 (((14 * (v3 / 2)) + (2 * v2)) + (rmi v3 2))).toInt64) = 0 then (g_X9_judge_45 f0) v1 v2 (v3 + 1) σ else some (v3 / 2, σ)) else none) else none) else some ((-2), σ)) else some ((-2), σ)) else none)
set_option maxRecDepth 100000 in
set_option maxHeartbeats 4000000 in
theorem rk_X9_judge_45 {l : Launch} {cx : CX} (hA : AD cx)    (Q : Int32 → AS → Prop) : ∀ (f0 : Nat) (v1 : Int32) (v2 : Int32) (v3 : Int32) (σ : AS), wpO (g_X9_judge_45 f0 v1 v2 v3 σ) Q → RJ l cx 2 RX9 cX9_judge 4 (some .int) 45 [(0, .inr (.inr (9, 0, 0))), (1, .inl v1), (2, .inl v2), (3, .inl v3)] [] σ (QI Q) := by
  intro f0
  induction f0 with
  | zero => intro v1 v2 v3 σ w; exact wp_no w
  | succ f0 ih =>
    intro v1 v2 v3 σ w
    rw [g_X9_judge_45] at w
    refine R_iload_n dX9_judge_45 rfl 3 rfl ?_
    refine R_aload_n dX9_judge_46 rfl 0 rfl ?_
    refine R_getfA (k := 51) acl9 oz9_0 (by decide) fl_RX9_91 dX9_judge_47 rfl ?_
    refine R_iload_n dX9_judge_50 rfl 1 rfl ?_
    obtain ⟨b10, w⟩ := wp_chk w
    refine R_iald rfl oz9_0 b10 dX9_judge_51 ?_
    refine R_icmp_ge (tgt := 110) dX9_judge_52 (by decide) (fun c11 => ?_) (fun c11 => ?_)
    · have w := wp_f c11 w
      refine R_bipush (v := (-2)) dX9_judge_110 (by decide) ?_
      exact R_ireturn dX9_judge_112 rfl ⟨_, rfl, wp_some w⟩
    · have w := wp_t c11 w
      refine R_iload_n dX9_judge_55 rfl 3 rfl ?_
      refine R_iconst (v := 2) dX9_judge_56 (by decide) ?_
      refine R_aload_n dX9_judge_57 rfl 0 rfl ?_
      refine R_getfI (k := 13) acl9 oz9_0 (by decide) fl_RX9_127 dX9_judge_58 rfl ?_
      refine R_imul dX9_judge_61 ?_
      refine R_icmp_ge (tgt := 110) dX9_judge_62 (by decide) (fun c12 => ?_) (fun c12 => ?_)
      · have w := wp_f c12 w
        refine R_bipush (v := (-2)) dX9_judge_110 (by decide) ?_
        exact R_ireturn dX9_judge_112 rfl ⟨_, rfl, wp_some w⟩
      · have w := wp_t c12 w
        refine R_aload_n dX9_judge_65 rfl 0 rfl ?_
        refine R_getfA (k := 52) acl9 oz9_0 (by decide) fl_RX9_94 dX9_judge_66 rfl ?_
        refine R_bipush (v := 60) dX9_judge_69 (by decide) ?_
        refine R_iload_n dX9_judge_71 rfl 1 rfl ?_
        refine R_imul dX9_judge_72 ?_
        refine R_iload_n dX9_judge_73 rfl 3 rfl ?_
        refine R_iadd dX9_judge_74 ?_
        obtain ⟨b13, w⟩ := wp_chk w
        refine R_lald rfl oz9_0 b13 dX9_judge_75 ?_
        refine R_aload_n dX9_judge_76 rfl 0 rfl ?_
        refine R_getfA (k := 31) acl9 oz9_0 (by decide) fl_RX9_58 dX9_judge_77 rfl ?_
        refine R_bipush (v := 14) dX9_judge_80 (by decide) ?_
        refine R_iload_n dX9_judge_82 rfl 3 rfl ?_
        refine R_iconst (v := 2) dX9_judge_83 (by decide) ?_
        refine R_idiv dX9_judge_84 (by decide) ?_
        refine R_imul dX9_judge_85 ?_
        refine R_iconst (v := 2) dX9_judge_86 (by decide) ?_
        refine R_iload_n dX9_judge_87 rfl 2 rfl ?_
        refine R_imul dX9_judge_88 ?_
        refine R_iadd dX9_judge_89 ?_
        refine R_iload_n dX9_judge_90 rfl 3 rfl ?_
        refine R_iconst (v := 2) dX9_judge_91 (by decide) ?_
        refine R_irem dX9_judge_92 (by decide) ?_
        refine R_iadd dX9_judge_93 ?_
        obtain ⟨b14, w⟩ := wp_chk w
        refine R_iald rfl oz9_0 b14 dX9_judge_94 ?_
        refine R_i2l dX9_judge_95 ?_
        refine R_lcmp dX9_judge_96 ?_
        refine R_if_eq (tgt := 104) dX9_judge_97 (by decide) (fun c15 => ?_) (fun c15 => ?_)
        · have w := wp_t c15 w
          refine R_iinc (v := v3 + 1) (lv' := [(3, .inl (v3 + 1)), (0, .inr (.inr (9, 0, 0))), (1, .inl v1), (2, .inl v2)]) dX9_judge_104 3 rfl rfl (by decide) rfl ?_
          refine R_goto (tgt := 45) dX9_judge_107 (by decide) ?_
          refine R_sub [1, 2, 3, 0] rfl ?_
          exact ih v1 v2 (v3 + 1) σ w
        · have w := wp_f c15 w
          refine R_iload_n dX9_judge_100 rfl 3 rfl ?_
          refine R_iconst (v := 2) dX9_judge_101 (by decide) ?_
          refine R_idiv dX9_judge_102 (by decide) ?_
          exact R_ireturn dX9_judge_103 rfl ⟨_, rfl, wp_some w⟩
def g_X9_judge (a0 : Int32) (a1 : Int32) (σ : AS) : Option (Int32 × AS) := (bnd (g_X9_isShelf a0 σ) fun r1 σ2 => (if r1 = 0 then some ((-1), σ2) else (bnd (g_X9_isRest a1 σ2) fun r4 σ5 => (if r4 = 0 then some ((-1), σ5) else (if inb a0 6 then (if gA σ5 9 0 50 a0 < 0 then some ((-11), σ5) else (if gA σ5 9 0 50 a0 = 50 then g_X9_judge_45 400 a0 a1 0 σ5 else some ((-12), σ5))) else none)))))
set_option maxRecDepth 100000 in
set_option maxHeartbeats 4000000 in
theorem ct_X9_judge {l : Launch} {cx : CX} (hA : AD cx) (a0 : Int32) (a1 : Int32) (σ : AS) (Q : Int32 → AS → Prop) (w : wpO (g_X9_judge a0 a1 σ) Q) : AMet l cx 2 yX9_judge cX9_judge 4 (some .int) [.inr (.inr (9, 0, 0)), .inl a0, .inl a1] σ (QI Q) := by
  unfold g_X9_judge at w
  refine AMet.of (own := RX9) (by decide) rfl hA (Nat.le_of_ble_eq_true rfl) ?_
  show RJ l cx 2 RX9 cX9_judge 4 (some .int) 0 [(0, .inr (.inr (9, 0, 0))), (1, .inl a0), (2, .inl a1)] [] σ _
  refine R_iload_n dX9_judge_0 rfl 1 rfl ?_
  refine R_callSI (As := [.inl a0]) mi_X9_isShelf ml_RX9_134 rfl (Nat.le_of_ble_eq_true rfl) (by decide) dX9_judge_1 (ct_X9_isShelf hA a0 σ _ (wp_bnd w)) (fun r1 σ2 w => ?_)
  refine R_if_eq (tgt := 15) dX9_judge_4 (by decide) (fun c3 => ?_) (fun c3 => ?_)
  · have w := wp_t c3 w
    refine R_iconst (v := (-1)) dX9_judge_15 (by decide) ?_
    exact R_ireturn dX9_judge_16 rfl ⟨_, rfl, wp_some w⟩
  · have w := wp_f c3 w
    refine R_aload_n dX9_judge_7 rfl 0 rfl ?_
    refine R_iload_n dX9_judge_8 rfl 2 rfl ?_
    refine R_callVI (As := [.inl a1]) acl9 rfl oz9_0 mi_X9_isRest ml_RX9_168 rfl (Nat.le_of_ble_eq_true rfl) (by decide) dX9_judge_9 (ct_X9_isRest hA a1 σ2 _ (wp_bnd w)) (fun r4 σ5 w => ?_)
    refine R_if_ne (tgt := 17) dX9_judge_12 (by decide) (fun c6 => ?_) (fun c6 => ?_)
    · have w := wp_f c6 w
      refine R_aload_n dX9_judge_17 rfl 0 rfl ?_
      refine R_getfA (k := 50) acl9 oz9_0 (by decide) fl_RX9_88 dX9_judge_18 rfl ?_
      refine R_iload_n dX9_judge_21 rfl 1 rfl ?_
      obtain ⟨b7, w⟩ := wp_chk w
      refine R_iald rfl oz9_0 b7 dX9_judge_22 ?_
      refine R_if_ge (tgt := 29) dX9_judge_23 (by decide) (fun c8 => ?_) (fun c8 => ?_)
      · have w := wp_f c8 w
        refine R_aload_n dX9_judge_29 rfl 0 rfl ?_
        refine R_getfA (k := 50) acl9 oz9_0 (by decide) fl_RX9_88 dX9_judge_30 rfl ?_
        refine R_iload_n dX9_judge_33 rfl 1 rfl ?_
        refine R_iald rfl oz9_0 b7 dX9_judge_34 ?_
        refine R_bipush (v := 50) dX9_judge_35 (by decide) ?_
        refine R_icmp_eq (tgt := 43) dX9_judge_37 (by decide) (fun c9 => ?_) (fun c9 => ?_)
        · have w := wp_t c9 w
          refine R_iconst (v := 0) dX9_judge_43 (by decide) ?_
          refine R_istore_n (lv' := [(3, .inl 0), (0, .inr (.inr (9, 0, 0))), (1, .inl a0), (2, .inl a1)]) dX9_judge_44 rfl (by decide) rfl ?_
          refine R_sub [1, 2, 3, 0] rfl ?_
          exact rk_X9_judge_45 hA _ 400 a0 a1 0 σ5 w
        · have w := wp_f c9 w
          refine R_bipush (v := (-12)) dX9_judge_40 (by decide) ?_
          exact R_ireturn dX9_judge_42 rfl ⟨_, rfl, wp_some w⟩
      · have w := wp_t c8 w
        refine R_bipush (v := (-11)) dX9_judge_26 (by decide) ?_
        exact R_ireturn dX9_judge_28 rfl ⟨_, rfl, wp_some w⟩
    · have w := wp_t c6 w
      refine R_iconst (v := (-1)) dX9_judge_15 (by decide) ?_
      exact R_ireturn dX9_judge_16 rfl ⟨_, rfl, wp_some w⟩
def g_X9_keep_22    (v1 : Int32) (v2 : Int32) (σ : AS) : Option (Int32 × AS) := (if inb v1 6 then (lt (sA σ 9 0 50 v1 v2) fun σ6 => (lt (sA σ6 9 0 51 v1 0) fun σ7 => some (1, σ7))) else none)
set_option maxRecDepth 100000 in
set_option maxHeartbeats 4000000 in
theorem rk_X9_keep_22 {l : Launch} {cx : CX} (hA : AD cx)    (Q : Int32 → AS → Prop) (v1 : Int32) (v2 : Int32) (σ : AS) (w : wpO (g_X9_keep_22 v1 v2 σ) Q) : RJ l cx 2 RX9 cX9_keep 3 (some .int) 22 [(0, .inr (.inr (9, 0, 0))), (1, .inl v1), (2, .inl v2)] [] σ (QI Q) := by
  unfold g_X9_keep_22 at w
  refine R_aload_n dX9_keep_22 rfl 0 rfl ?_
  refine R_getfA (k := 50) acl9 oz9_0 (by decide) fl_RX9_88 dX9_keep_23 rfl ?_
  refine R_iload_n dX9_keep_26 rfl 1 rfl ?_
  refine R_iload_n dX9_keep_27 rfl 2 rfl ?_
  obtain ⟨b5, w⟩ := wp_chk w
  refine R_iast rfl oz9_0 b5 dX9_keep_28 ?_
  refine R_nameS w ?_; clear w; intro σ6 w
  refine R_aload_n dX9_keep_29 rfl 0 rfl ?_
  refine R_getfA (k := 51) acl9 oz9_0 (by decide) fl_RX9_91 dX9_keep_30 rfl ?_
  refine R_iload_n dX9_keep_33 rfl 1 rfl ?_
  refine R_iconst (v := 0) dX9_keep_34 (by decide) ?_
  refine R_iast rfl oz9_0 b5 dX9_keep_35 ?_
  refine R_nameS w ?_; clear w; intro σ7 w
  refine R_iconst (v := 1) dX9_keep_36 (by decide) ?_
  exact R_ireturn dX9_keep_37 rfl ⟨_, rfl, wp_some w⟩
def g_X9_keep (a0 : Int32) (a1 : Int32) (σ : AS) : Option (Int32 × AS) := (bnd (g_X9_isShelf a0 σ) fun r1 σ2 => (if r1 = 0 then some ((-1), σ2) else (if a1 = (-1) then g_X9_keep_22 a0 a1 σ2 else (bnd (g_X9_isBody a1 σ2) fun r8 σ9 => (if r8 = 0 then some ((-1), σ9) else g_X9_keep_22 a0 a1 σ9)))))
set_option maxRecDepth 100000 in
set_option maxHeartbeats 4000000 in
theorem ct_X9_keep {l : Launch} {cx : CX} (hA : AD cx) (a0 : Int32) (a1 : Int32) (σ : AS) (Q : Int32 → AS → Prop) (w : wpO (g_X9_keep a0 a1 σ) Q) : AMet l cx 2 yX9_keep cX9_keep 3 (some .int) [.inr (.inr (9, 0, 0)), .inl a0, .inl a1] σ (QI Q) := by
  unfold g_X9_keep at w
  refine AMet.of (own := RX9) (by decide) rfl hA (Nat.le_of_ble_eq_true rfl) ?_
  show RJ l cx 2 RX9 cX9_keep 3 (some .int) 0 [(0, .inr (.inr (9, 0, 0))), (1, .inl a0), (2, .inl a1)] [] σ _
  refine R_iload_n dX9_keep_0 rfl 1 rfl ?_
  refine R_callSI (As := [.inl a0]) mi_X9_isShelf ml_RX9_134 rfl (Nat.le_of_ble_eq_true rfl) (by decide) dX9_keep_1 (ct_X9_isShelf hA a0 σ _ (wp_bnd w)) (fun r1 σ2 w => ?_)
  refine R_if_eq (tgt := 20) dX9_keep_4 (by decide) (fun c3 => ?_) (fun c3 => ?_)
  · have w := wp_t c3 w
    refine R_iconst (v := (-1)) dX9_keep_20 (by decide) ?_
    exact R_ireturn dX9_keep_21 rfl ⟨_, rfl, wp_some w⟩
  · have w := wp_f c3 w
    refine R_iload_n dX9_keep_7 rfl 2 rfl ?_
    refine R_iconst (v := (-1)) dX9_keep_8 (by decide) ?_
    refine R_icmp_eq (tgt := 22) dX9_keep_9 (by decide) (fun c4 => ?_) (fun c4 => ?_)
    · have w := wp_t c4 w
      refine R_sub [0, 1, 2] rfl ?_
      exact rk_X9_keep_22 hA _ a0 a1 σ2 w
    · have w := wp_f c4 w
      refine R_aload_n dX9_keep_12 rfl 0 rfl ?_
      refine R_iload_n dX9_keep_13 rfl 2 rfl ?_
      refine R_callVI (As := [.inl a1]) acl9 rfl oz9_0 mi_X9_isBody ml_RX9_356 rfl (Nat.le_of_ble_eq_true rfl) (by decide) dX9_keep_14 (ct_X9_isBody hA a1 σ2 _ (wp_bnd w)) (fun r8 σ9 w => ?_)
      refine R_if_ne (tgt := 22) dX9_keep_17 (by decide) (fun c10 => ?_) (fun c10 => ?_)
      · have w := wp_f c10 w
        refine R_sub [0, 1, 2] rfl ?_
        exact rk_X9_keep_22 hA _ a0 a1 σ9 w
      · have w := wp_t c10 w
        refine R_iconst (v := (-1)) dX9_keep_20 (by decide) ?_
        exact R_ireturn dX9_keep_21 rfl ⟨_, rfl, wp_some w⟩
def g_X9_kindOf (a0 : Int32) (σ : AS) : Option (Int32 × AS) := (if inb a0 50 then some (gA σ 9 0 45 a0, σ) else none)
set_option maxRecDepth 100000 in
set_option maxHeartbeats 4000000 in
theorem ct_X9_kindOf {l : Launch} {cx : CX} (hA : AD cx) (a0 : Int32) (σ : AS) (Q : Int32 → AS → Prop) (w : wpO (g_X9_kindOf a0 σ) Q) : AMet l cx 0 yX9_kindOf cX9_kindOf 2 (some .int) [.inr (.inr (9, 0, 0)), .inl a0] σ (QI Q) := by
  unfold g_X9_kindOf at w
  refine AMet.of (own := RX9) (by decide) rfl hA (Nat.le_of_ble_eq_true rfl) ?_
  show RJ l cx 0 RX9 cX9_kindOf 2 (some .int) 0 [(0, .inr (.inr (9, 0, 0))), (1, .inl a0)] [] σ _
  refine R_aload_n dX9_kindOf_0 rfl 0 rfl ?_
  refine R_getfA (k := 45) acl9 oz9_0 (by decide) fl_RX9_82 dX9_kindOf_1 rfl ?_
  refine R_iload_n dX9_kindOf_4 rfl 1 rfl ?_
  obtain ⟨b1, w⟩ := wp_chk w
  refine R_iald rfl oz9_0 b1 dX9_kindOf_5 ?_
  exact R_ireturn dX9_kindOf_6 rfl ⟨_, rfl, wp_some w⟩
def g_X9_law_37    : Nat → Int32 → Int32 → AS → Option (Int32 × AS)
  | 0, _, _, _ => none
  | f0 + 1, v2, v3, σ => (if v3 < v2 then (if inb v3 120 then (lt (sA σ 9 0 17 v3 (gA σ 9 0 15 v3)) fun σ9 => (g_X9_law_37 f0) v2 (v3 + 1) σ9) else none) else (lt (sF σ 9 0 18 v2) fun σ7 => some (1, σ7)))
set_option maxRecDepth 100000 in
set_option maxHeartbeats 4000000 in
theorem rk_X9_law_37 {l : Launch} {cx : CX} (hA : AD cx)    (Q : Int32 → AS → Prop) : ∀ (f0 : Nat) (v2 : Int32) (v3 : Int32) (σ : AS), wpO (g_X9_law_37 f0 v2 v3 σ) Q → RJ l cx 104 RX9 cX9_law 4 (some .int) 37 [(0, .inr (.inr (9, 0, 0))), (2, .inl v2), (3, .inl v3)] [] σ (QI Q) := by
  intro f0
  induction f0 with
  | zero => intro v2 v3 σ w; exact wp_no w
  | succ f0 ih =>
    intro v2 v3 σ w
    rw [g_X9_law_37] at w
    refine R_iload_n dX9_law_37 rfl 2 rfl ?_
    refine R_iload_n dX9_law_38 rfl 1 rfl ?_
    refine R_icmp_ge (tgt := 60) dX9_law_39 (by decide) (fun c6 => ?_) (fun c6 => ?_)
    · have w := wp_f c6 w
      refine R_aload_n dX9_law_60 rfl 0 rfl ?_
      refine R_iload_n dX9_law_61 rfl 1 rfl ?_
      refine R_putf (k := 18) (ty := .int) acl9 oz9_0 (by decide) fl_RX9_101 rfl (tyX9_ok 18 (by decide)) (Or.inl rfl) dX9_law_62 rfl ?_
      refine R_nameS w ?_; clear w; intro σ7 w
      refine R_iconst (v := 1) dX9_law_65 (by decide) ?_
      exact R_ireturn dX9_law_66 rfl ⟨_, rfl, wp_some w⟩
    · have w := wp_t c6 w
      refine R_aload_n dX9_law_42 rfl 0 rfl ?_
      refine R_getfA (k := 17) acl9 oz9_0 (by decide) fl_RX9_43 dX9_law_43 rfl ?_
      refine R_iload_n dX9_law_46 rfl 2 rfl ?_
      refine R_aload_n dX9_law_47 rfl 0 rfl ?_
      refine R_getfA (k := 15) acl9 oz9_0 (by decide) fl_RX9_40 dX9_law_48 rfl ?_
      refine R_iload_n dX9_law_51 rfl 2 rfl ?_
      obtain ⟨b8, w⟩ := wp_chk w
      refine R_iald rfl oz9_0 b8 dX9_law_52 ?_
      refine R_iast rfl oz9_0 b8 dX9_law_53 ?_
      refine R_nameS w ?_; clear w; intro σ9 w
      refine R_iinc (v := v3 + 1) (lv' := [(3, .inl (v3 + 1)), (0, .inr (.inr (9, 0, 0))), (2, .inl v2)]) dX9_law_54 2 rfl rfl (by decide) rfl ?_
      refine R_goto (tgt := 37) dX9_law_57 (by decide) ?_
      refine R_sub [1, 2, 0] rfl ?_
      exact ih v2 (v3 + 1) σ9 w
def g_X9_law (σ : AS) : Option (Int32 × AS) := (bnd (g_X9_workOut (-1) (gF σ 9 0 16) σ) fun r1 σ2 => (lt (gF σ2 9 0 16) fun x3 => (lt (sF σ2 9 0 16 0) fun σ4 => (if gF σ4 9 0 22 < 0 then g_X9_law_37 400 x3 0 σ4 else some ((-100) - (gF σ4 9 0 22), σ4)))))
set_option maxRecDepth 100000 in
set_option maxHeartbeats 4000000 in
theorem ct_X9_law {l : Launch} {cx : CX} (hA : AD cx) (σ : AS) (Q : Int32 → AS → Prop) (w : wpO (g_X9_law σ) Q) : AMet l cx 104 yX9_law cX9_law 4 (some .int) [.inr (.inr (9, 0, 0))] σ (QI Q) := by
  unfold g_X9_law at w
  refine AMet.of (own := RX9) (by decide) rfl hA (Nat.le_of_ble_eq_true rfl) ?_
  show RJ l cx 104 RX9 cX9_law 4 (some .int) 0 [(0, .inr (.inr (9, 0, 0)))] [] σ _
  refine R_aload_n dX9_law_0 rfl 0 rfl ?_
  refine R_iconst (v := (-1)) dX9_law_1 (by decide) ?_
  refine R_aload_n dX9_law_2 rfl 0 rfl ?_
  refine R_getfI (k := 16) acl9 oz9_0 (by decide) fl_RX9_173 dX9_law_3 rfl ?_
  refine R_callVI (As := [.inl (-1), .inl (gF σ 9 0 16)]) acl9 rfl oz9_0 mi_X9_workOut ml_RX9_222 rfl (Nat.le_of_ble_eq_true rfl) (by decide) dX9_law_6 (ct_X9_workOut hA (-1) (gF σ 9 0 16) σ _ (wp_bnd w)) (fun r1 σ2 w => ?_)
  refine R_istore_n (lv' := [(1, .inl r1), (0, .inr (.inr (9, 0, 0)))]) dX9_law_9 rfl (by decide) rfl ?_
  refine R_aload_n dX9_law_10 rfl 1 rfl ?_
  refine R_getfI (k := 16) acl9 oz9_0 (by decide) fl_RX9_173 dX9_law_11 rfl ?_
  refine R_nameI w ?_; clear w; intro x3 w
  refine R_istore_n (lv' := [(2, .inl x3), (1, .inl r1), (0, .inr (.inr (9, 0, 0)))]) dX9_law_14 rfl (by decide) rfl ?_
  refine R_aload_n dX9_law_15 rfl 2 rfl ?_
  refine R_iconst (v := 0) dX9_law_16 (by decide) ?_
  refine R_putf (k := 16) (ty := .int) acl9 oz9_0 (by decide) fl_RX9_173 rfl (tyX9_ok 16 (by decide)) (Or.inl rfl) dX9_law_17 rfl ?_
  refine R_nameS w ?_; clear w; intro σ4 w
  refine R_aload_n dX9_law_20 rfl 2 rfl ?_
  refine R_getfI (k := 22) acl9 oz9_0 (by decide) fl_RX9_185 dX9_law_21 rfl ?_
  refine R_if_lt (tgt := 35) dX9_law_24 (by decide) (fun c5 => ?_) (fun c5 => ?_)
  · have w := wp_t c5 w
    refine R_iconst (v := 0) dX9_law_35 (by decide) ?_
    refine R_istore_n (lv' := [(3, .inl 0), (2, .inl x3), (1, .inl r1), (0, .inr (.inr (9, 0, 0)))]) dX9_law_36 rfl (by decide) rfl ?_
    refine R_sub [3, 1, 0] rfl ?_
    exact rk_X9_law_37 hA _ 400 x3 0 σ4 w
  · have w := wp_f c5 w
    refine R_bipush (v := (-100)) dX9_law_27 (by decide) ?_
    refine R_aload_n dX9_law_29 rfl 2 rfl ?_
    refine R_getfI (k := 22) acl9 oz9_0 (by decide) fl_RX9_185 dX9_law_30 rfl ?_
    refine R_isub dX9_law_33 ?_
    exact R_ireturn dX9_law_34 rfl ⟨_, rfl, wp_some w⟩
def g_X9_led (a0 : Int32) (a1 : Int32) (σ : AS) : Option (Int32 × AS) := (if a0 < 0 then some ((-1), σ) else (if a0 / 10 < gF σ 9 0 13 then (bnd (g_X9_isRest (rmi a0 10) σ) fun r3 σ4 => (if r3 = 0 then some ((-1), σ4) else (bnd (g_X9_within a1.toInt64 0 2 σ4) fun r6 σ7 => (if r6 = 0 then some ((-1), σ7) else (if a1 = 2 then (if inb ((7 * (a0 / 10)) + (rmi a0 10)) 168 then some (gA σ7 9 0 32 ((7 * (a0 / 10)) + (rmi a0 10)), σ7) else none) else (if inb (((14 * (a0 / 10)) + (2 * (rmi a0 10))) + a1) 336 then some (gA σ7 9 0 31 (((14 * (a0 / 10)) + (2 * (rmi a0 10))) + a1), σ7) else none)))))) else some ((-1), σ)))
set_option maxRecDepth 100000 in
set_option maxHeartbeats 4000000 in
theorem ct_X9_led {l : Launch} {cx : CX} (hA : AD cx) (a0 : Int32) (a1 : Int32) (σ : AS) (Q : Int32 → AS → Prop) (w : wpO (g_X9_led a0 a1 σ) Q) : AMet l cx 2 yX9_led cX9_led 3 (some .int) [.inr (.inr (9, 0, 0)), .inl a0, .inl a1] σ (QI Q) := by
  unfold g_X9_led at w
  refine AMet.of (own := RX9) (by decide) rfl hA (Nat.le_of_ble_eq_true rfl) ?_
  show RJ l cx 2 RX9 cX9_led 3 (some .int) 0 [(0, .inr (.inr (9, 0, 0))), (1, .inl a0), (2, .inl a1)] [] σ _
  refine R_iload_n dX9_led_0 rfl 1 rfl ?_
  refine R_if_lt (tgt := 38) dX9_led_1 (by decide) (fun c1 => ?_) (fun c1 => ?_)
  · have w := wp_t c1 w
    refine R_iconst (v := (-1)) dX9_led_38 (by decide) ?_
    exact R_ireturn dX9_led_39 rfl ⟨_, rfl, wp_some w⟩
  · have w := wp_f c1 w
    refine R_iload_n dX9_led_4 rfl 1 rfl ?_
    refine R_bipush (v := 10) dX9_led_5 (by decide) ?_
    refine R_idiv dX9_led_7 (by decide) ?_
    refine R_aload_n dX9_led_8 rfl 0 rfl ?_
    refine R_getfI (k := 13) acl9 oz9_0 (by decide) fl_RX9_127 dX9_led_9 rfl ?_
    refine R_icmp_ge (tgt := 38) dX9_led_12 (by decide) (fun c2 => ?_) (fun c2 => ?_)
    · have w := wp_f c2 w
      refine R_iconst (v := (-1)) dX9_led_38 (by decide) ?_
      exact R_ireturn dX9_led_39 rfl ⟨_, rfl, wp_some w⟩
    · have w := wp_t c2 w
      refine R_aload_n dX9_led_15 rfl 0 rfl ?_
      refine R_iload_n dX9_led_16 rfl 1 rfl ?_
      refine R_bipush (v := 10) dX9_led_17 (by decide) ?_
      refine R_irem dX9_led_19 (by decide) ?_
      refine R_callVI (As := [.inl (rmi a0 10)]) acl9 rfl oz9_0 mi_X9_isRest ml_RX9_168 rfl (Nat.le_of_ble_eq_true rfl) (by decide) dX9_led_20 (ct_X9_isRest hA (rmi a0 10) σ _ (wp_bnd w)) (fun r3 σ4 w => ?_)
      refine R_if_eq (tgt := 38) dX9_led_23 (by decide) (fun c5 => ?_) (fun c5 => ?_)
      · have w := wp_t c5 w
        refine R_iconst (v := (-1)) dX9_led_38 (by decide) ?_
        exact R_ireturn dX9_led_39 rfl ⟨_, rfl, wp_some w⟩
      · have w := wp_f c5 w
        refine R_iload_n dX9_led_26 rfl 2 rfl ?_
        refine R_i2l dX9_led_27 ?_
        refine R_lconst (v := 0) dX9_led_28 (by decide) ?_
        refine R_ldc2 dX9_led_29 ck_RX9_277 ?_
        refine R_callSI (As := [.inr (.inl a1.toInt64), .inr (.inl 0), .inr (.inl 2)]) mi_X9_within ml_RX9_114 rfl (Nat.le_of_ble_eq_true rfl) (by decide) dX9_led_32 (ct_X9_within hA a1.toInt64 0 2 σ4 _ (wp_bnd w)) (fun r6 σ7 w => ?_)
        refine R_if_ne (tgt := 40) dX9_led_35 (by decide) (fun c8 => ?_) (fun c8 => ?_)
        · have w := wp_f c8 w
          refine R_iload_n dX9_led_40 rfl 2 rfl ?_
          refine R_iconst (v := 2) dX9_led_41 (by decide) ?_
          refine R_icmp_ne (tgt := 65) dX9_led_42 (by decide) (fun c9 => ?_) (fun c9 => ?_)
          · have w := wp_f c9 w
            refine R_aload_n dX9_led_65 rfl 0 rfl ?_
            refine R_getfA (k := 31) acl9 oz9_0 (by decide) fl_RX9_58 dX9_led_66 rfl ?_
            refine R_bipush (v := 14) dX9_led_69 (by decide) ?_
            refine R_iload_n dX9_led_71 rfl 1 rfl ?_
            refine R_bipush (v := 10) dX9_led_72 (by decide) ?_
            refine R_idiv dX9_led_74 (by decide) ?_
            refine R_imul dX9_led_75 ?_
            refine R_iconst (v := 2) dX9_led_76 (by decide) ?_
            refine R_iload_n dX9_led_77 rfl 1 rfl ?_
            refine R_bipush (v := 10) dX9_led_78 (by decide) ?_
            refine R_irem dX9_led_80 (by decide) ?_
            refine R_imul dX9_led_81 ?_
            refine R_iadd dX9_led_82 ?_
            refine R_iload_n dX9_led_83 rfl 2 rfl ?_
            refine R_iadd dX9_led_84 ?_
            obtain ⟨b10, w⟩ := wp_chk w
            refine R_iald rfl oz9_0 b10 dX9_led_85 ?_
            exact R_ireturn dX9_led_86 rfl ⟨_, rfl, wp_some w⟩
          · have w := wp_t c9 w
            refine R_aload_n dX9_led_45 rfl 0 rfl ?_
            refine R_getfA (k := 32) acl9 oz9_0 (by decide) fl_RX9_61 dX9_led_46 rfl ?_
            refine R_bipush (v := 7) dX9_led_49 (by decide) ?_
            refine R_iload_n dX9_led_51 rfl 1 rfl ?_
            refine R_bipush (v := 10) dX9_led_52 (by decide) ?_
            refine R_idiv dX9_led_54 (by decide) ?_
            refine R_imul dX9_led_55 ?_
            refine R_iload_n dX9_led_56 rfl 1 rfl ?_
            refine R_bipush (v := 10) dX9_led_57 (by decide) ?_
            refine R_irem dX9_led_59 (by decide) ?_
            refine R_iadd dX9_led_60 ?_
            obtain ⟨b11, w⟩ := wp_chk w
            refine R_iald rfl oz9_0 b11 dX9_led_61 ?_
            refine R_goto (tgt := 86) dX9_led_62 (by decide) ?_
            exact R_ireturn dX9_led_86 rfl ⟨_, rfl, wp_some w⟩
        · have w := wp_t c8 w
          refine R_iconst (v := (-1)) dX9_led_38 (by decide) ?_
          exact R_ireturn dX9_led_39 rfl ⟨_, rfl, wp_some w⟩
def g_X9_match_12    : Nat → Int32 → AS → Option (Int32 × AS)
  | 0, _, _ => none
  | f0 + 1, v1, σ => (if v1 < 100 then (bnd (g_X9_isAsItWas v1 σ) fun r3 σ4 => (if r3 = 0 then (g_X9_match_12 f0) (v1 + 1) σ4 else some (v1, σ4))) else some ((-2), σ))
set_option maxRecDepth 100000 in
set_option maxHeartbeats 4000000 in
theorem rk_X9_match_12 {l : Launch} {cx : CX} (hA : AD cx)    (Q : Int32 → AS → Prop) : ∀ (f0 : Nat) (v1 : Int32) (σ : AS), wpO (g_X9_match_12 f0 v1 σ) Q → RJ l cx 109 RX9 cX9_match 2 (some .int) 12 [(0, .inr (.inr (9, 0, 0))), (1, .inl v1)] [] σ (QI Q) := by
  intro f0
  induction f0 with
  | zero => intro v1 σ w; exact wp_no w
  | succ f0 ih =>
    intro v1 σ w
    rw [g_X9_match_12] at w
    refine R_iload_n dX9_match_12 rfl 1 rfl ?_
    refine R_bipush (v := 100) dX9_match_13 (by decide) ?_
    refine R_icmp_ge (tgt := 34) dX9_match_15 (by decide) (fun c2 => ?_) (fun c2 => ?_)
    · have w := wp_f c2 w
      refine R_bipush (v := (-2)) dX9_match_34 (by decide) ?_
      exact R_ireturn dX9_match_36 rfl ⟨_, rfl, wp_some w⟩
    · have w := wp_t c2 w
      refine R_aload_n dX9_match_18 rfl 0 rfl ?_
      refine R_iload_n dX9_match_19 rfl 1 rfl ?_
      refine R_callVI (As := [.inl v1]) acl9 rfl oz9_0 mi_X9_isAsItWas ml_RX9_279 rfl (Nat.le_of_ble_eq_true rfl) (by decide) dX9_match_20 (ct_X9_isAsItWas hA v1 σ _ (wp_bnd w)) (fun r3 σ4 w => ?_)
      refine R_if_eq (tgt := 28) dX9_match_23 (by decide) (fun c5 => ?_) (fun c5 => ?_)
      · have w := wp_t c5 w
        refine R_iinc (v := v1 + 1) (lv' := [(1, .inl (v1 + 1)), (0, .inr (.inr (9, 0, 0)))]) dX9_match_28 1 rfl rfl (by decide) rfl ?_
        refine R_goto (tgt := 12) dX9_match_31 (by decide) ?_
        refine R_sub [1, 0] rfl ?_
        exact ih (v1 + 1) σ4 w
      · have w := wp_f c5 w
        refine R_iload_n dX9_match_26 rfl 1 rfl ?_
        exact R_ireturn dX9_match_27 rfl ⟨_, rfl, wp_some w⟩
def g_X9_match (σ : AS) : Option (Int32 × AS) := (if gF σ 9 0 13 = 0 then some ((-5), σ) else g_X9_match_12 400 0 σ)
set_option maxRecDepth 100000 in
set_option maxHeartbeats 4000000 in
theorem ct_X9_match {l : Launch} {cx : CX} (hA : AD cx) (σ : AS) (Q : Int32 → AS → Prop) (w : wpO (g_X9_match σ) Q) : AMet l cx 109 yX9_match cX9_match 2 (some .int) [.inr (.inr (9, 0, 0))] σ (QI Q) := by
  unfold g_X9_match at w
  refine AMet.of (own := RX9) (by decide) rfl hA (Nat.le_of_ble_eq_true rfl) ?_
  show RJ l cx 109 RX9 cX9_match 2 (some .int) 0 [(0, .inr (.inr (9, 0, 0)))] [] σ _
  refine R_aload_n dX9_match_0 rfl 0 rfl ?_
  refine R_getfI (k := 13) acl9 oz9_0 (by decide) fl_RX9_127 dX9_match_1 rfl ?_
  refine R_if_ne (tgt := 10) dX9_match_4 (by decide) (fun c1 => ?_) (fun c1 => ?_)
  · have w := wp_f c1 w
    refine R_iconst (v := 0) dX9_match_10 (by decide) ?_
    refine R_istore_n (lv' := [(1, .inl 0), (0, .inr (.inr (9, 0, 0)))]) dX9_match_11 rfl (by decide) rfl ?_
    refine R_sub [1, 0] rfl ?_
    exact rk_X9_match_12 hA _ 400 0 σ w
  · have w := wp_t c1 w
    refine R_bipush (v := (-5)) dX9_match_7 (by decide) ?_
    exact R_ireturn dX9_match_9 rfl ⟨_, rfl, wp_some w⟩
def g_X9_mend_37    (v1 : Int32) (v2 : Int32) (v3 : Int32) (s0 : Int64) (s1 : Int64) (s2 : Int64) (σ : AS) : Option (Int32 × AS) := (bnd (g_X9_within s2 s1 s0 σ) fun r8 σ9 => (if r8 = 0 then some ((-1), σ9) else (bnd (g_X9_becomes ((8 * v2) + v1) v3 σ9) fun r11 σ12 => some (r11, σ12))))
set_option maxRecDepth 100000 in
set_option maxHeartbeats 4000000 in
theorem rk_X9_mend_37 {l : Launch} {cx : CX} (hA : AD cx)    (Q : Int32 → AS → Prop) (v1 : Int32) (v2 : Int32) (v3 : Int32) (s0 : Int64) (s1 : Int64) (s2 : Int64) (σ : AS) (w : wpO (g_X9_mend_37 v1 v2 v3 s0 s1 s2 σ) Q) : RJ l cx 2 RX9 cX9_mend 4 (some .int) 37 [(0, .inr (.inr (9, 0, 0))), (1, .inl v1), (2, .inl v2), (3, .inl v3)] [.inr (.inl s0), .inr (.inl s1), .inr (.inl s2)] σ (QI Q) := by
  unfold g_X9_mend_37 at w
  refine R_callSI (As := [.inr (.inl s2), .inr (.inl s1), .inr (.inl s0)]) mi_X9_within ml_RX9_114 rfl (Nat.le_of_ble_eq_true rfl) (by decide) dX9_mend_37 (ct_X9_within hA s2 s1 s0 σ _ (wp_bnd w)) (fun r8 σ9 w => ?_)
  refine R_if_ne (tgt := 45) dX9_mend_40 (by decide) (fun c10 => ?_) (fun c10 => ?_)
  · have w := wp_f c10 w
    refine R_aload_n dX9_mend_45 rfl 0 rfl ?_
    refine R_bipush (v := 8) dX9_mend_46 (by decide) ?_
    refine R_iload_n dX9_mend_48 rfl 2 rfl ?_
    refine R_imul dX9_mend_49 ?_
    refine R_iload_n dX9_mend_50 rfl 1 rfl ?_
    refine R_iadd dX9_mend_51 ?_
    refine R_iload_n dX9_mend_52 rfl 3 rfl ?_
    refine R_callVI (As := [.inl ((8 * v2) + v1), .inl v3]) acl9 rfl oz9_0 mi_X9_becomes ml_RX9_155 rfl (Nat.le_of_ble_eq_true rfl) (by decide) dX9_mend_53 (ct_X9_becomes hA ((8 * v2) + v1) v3 σ9 _ (wp_bnd w)) (fun r11 σ12 w => ?_)
    exact R_ireturn dX9_mend_56 rfl ⟨_, rfl, wp_some w⟩
  · have w := wp_t c10 w
    refine R_iconst (v := (-1)) dX9_mend_43 (by decide) ?_
    exact R_ireturn dX9_mend_44 rfl ⟨_, rfl, wp_some w⟩
def g_X9_mend (a0 : Int32) (a1 : Int32) (a2 : Int32) (σ : AS) : Option (Int32 × AS) := (bnd (g_X9_isSitter a0 σ) fun r1 σ2 => (if r1 = 0 then some ((-1), σ2) else (bnd (g_X9_within a1.toInt64 0 4 σ2) fun r4 σ5 => (if r4 = 0 then some ((-1), σ5) else (if a1 < 3 then g_X9_mend_37 a0 a1 a2 9 0 a2.toInt64 σ5 else g_X9_mend_37 a0 a1 a2 99 0 a2.toInt64 σ5)))))
set_option maxRecDepth 100000 in
set_option maxHeartbeats 4000000 in
theorem ct_X9_mend {l : Launch} {cx : CX} (hA : AD cx) (a0 : Int32) (a1 : Int32) (a2 : Int32) (σ : AS) (Q : Int32 → AS → Prop) (w : wpO (g_X9_mend a0 a1 a2 σ) Q) : AMet l cx 2 yX9_mend cX9_mend 4 (some .int) [.inr (.inr (9, 0, 0)), .inl a0, .inl a1, .inl a2] σ (QI Q) := by
  unfold g_X9_mend at w
  refine AMet.of (own := RX9) (by decide) rfl hA (Nat.le_of_ble_eq_true rfl) ?_
  show RJ l cx 2 RX9 cX9_mend 4 (some .int) 0 [(0, .inr (.inr (9, 0, 0))), (1, .inl a0), (2, .inl a1), (3, .inl a2)] [] σ _
  refine R_aload_n dX9_mend_0 rfl 0 rfl ?_
  refine R_iload_n dX9_mend_1 rfl 1 rfl ?_
  refine R_callVI (As := [.inl a0]) acl9 rfl oz9_0 mi_X9_isSitter ml_RX9_146 rfl (Nat.le_of_ble_eq_true rfl) (by decide) dX9_mend_2 (ct_X9_isSitter hA a0 σ _ (wp_bnd w)) (fun r1 σ2 w => ?_)
  refine R_if_eq (tgt := 43) dX9_mend_5 (by decide) (fun c3 => ?_) (fun c3 => ?_)
  · have w := wp_t c3 w
    refine R_iconst (v := (-1)) dX9_mend_43 (by decide) ?_
    exact R_ireturn dX9_mend_44 rfl ⟨_, rfl, wp_some w⟩
  · have w := wp_f c3 w
    refine R_iload_n dX9_mend_8 rfl 2 rfl ?_
    refine R_i2l dX9_mend_9 ?_
    refine R_lconst (v := 0) dX9_mend_10 (by decide) ?_
    refine R_ldc2 dX9_mend_11 ck_RX9_151 ?_
    refine R_callSI (As := [.inr (.inl a1.toInt64), .inr (.inl 0), .inr (.inl 4)]) mi_X9_within ml_RX9_114 rfl (Nat.le_of_ble_eq_true rfl) (by decide) dX9_mend_14 (ct_X9_within hA a1.toInt64 0 4 σ2 _ (wp_bnd w)) (fun r4 σ5 w => ?_)
    refine R_if_eq (tgt := 43) dX9_mend_17 (by decide) (fun c6 => ?_) (fun c6 => ?_)
    · have w := wp_t c6 w
      refine R_iconst (v := (-1)) dX9_mend_43 (by decide) ?_
      exact R_ireturn dX9_mend_44 rfl ⟨_, rfl, wp_some w⟩
    · have w := wp_f c6 w
      refine R_iload_n dX9_mend_20 rfl 3 rfl ?_
      refine R_i2l dX9_mend_21 ?_
      refine R_lconst (v := 0) dX9_mend_22 (by decide) ?_
      refine R_iload_n dX9_mend_23 rfl 2 rfl ?_
      refine R_iconst (v := 3) dX9_mend_24 (by decide) ?_
      refine R_icmp_ge (tgt := 34) dX9_mend_25 (by decide) (fun c7 => ?_) (fun c7 => ?_)
      · have w := wp_f c7 w
        refine R_ldc2 dX9_mend_34 ck_RX9_153 ?_
        refine R_sub [0, 1, 2, 3] rfl ?_
        exact rk_X9_mend_37 hA _ a0 a1 a2 99 0 a2.toInt64 σ5 w
      · have w := wp_t c7 w
        refine R_ldc2 dX9_mend_28 ck_RX9_122 ?_
        refine R_goto (tgt := 37) dX9_mend_31 (by decide) ?_
        refine R_sub [0, 1, 2, 3] rfl ?_
        exact rk_X9_mend_37 hA _ a0 a1 a2 9 0 a2.toInt64 σ5 w
def g_X9_of (a0 : Int32) (a1 : Int32) (σ : AS) : Option (Int32 × AS) := (bnd (g_X9_isSitter a0 σ) fun r1 σ2 => (if r1 = 0 then some ((-2000000000), σ2) else (bnd (g_X9_within a1.toInt64 0 4 σ2) fun r4 σ5 => (if r4 = 0 then (bnd (g_X9_within a1.toInt64 100 123 σ5) fun r7 σ8 => (if r7 = 0 then (if a1 = 5 then (bnd (g_X9_heldBy 9 a0 σ8) fun r15 σ16 => some (r15, σ16)) else (if a1 = 6 then (if inb a0 8 then some (gA σ8 9 0 10 a0, σ8) else none) else (if a1 = 7 then (if inb a0 8 then some (gA σ8 9 0 11 a0, σ8) else none) else some ((-2000000000), σ8)))) else (if inb (((24 * a0) + a1) - 100) 192 then some (gA σ8 9 0 8 (((24 * a0) + a1) - 100), σ8) else none))) else (if inb ((8 * a1) + a0) 40 then some (gA σ5 9 0 0 ((8 * a1) + a0), σ5) else none)))))
set_option maxRecDepth 100000 in
set_option maxHeartbeats 4000000 in
theorem ct_X9_of {l : Launch} {cx : CX} (hA : AD cx) (a0 : Int32) (a1 : Int32) (σ : AS) (Q : Int32 → AS → Prop) (w : wpO (g_X9_of a0 a1 σ) Q) : AMet l cx 2 yX9_of cX9_of 3 (some .int) [.inr (.inr (9, 0, 0)), .inl a0, .inl a1] σ (QI Q) := by
  unfold g_X9_of at w
  refine AMet.of (own := RX9) (by decide) rfl hA (Nat.le_of_ble_eq_true rfl) ?_
  show RJ l cx 2 RX9 cX9_of 3 (some .int) 0 [(0, .inr (.inr (9, 0, 0))), (1, .inl a0), (2, .inl a1)] [] σ _
  refine R_aload_n dX9_of_0 rfl 0 rfl ?_
  refine R_iload_n dX9_of_1 rfl 1 rfl ?_
  refine R_callVI (As := [.inl a0]) acl9 rfl oz9_0 mi_X9_isSitter ml_RX9_146 rfl (Nat.le_of_ble_eq_true rfl) (by decide) dX9_of_2 (ct_X9_isSitter hA a0 σ _ (wp_bnd w)) (fun r1 σ2 w => ?_)
  refine R_if_ne (tgt := 11) dX9_of_5 (by decide) (fun c3 => ?_) (fun c3 => ?_)
  · have w := wp_f c3 w
    refine R_iload_n dX9_of_11 rfl 2 rfl ?_
    refine R_i2l dX9_of_12 ?_
    refine R_lconst (v := 0) dX9_of_13 (by decide) ?_
    refine R_ldc2 dX9_of_14 ck_RX9_151 ?_
    refine R_callSI (As := [.inr (.inl a1.toInt64), .inr (.inl 0), .inr (.inl 4)]) mi_X9_within ml_RX9_114 rfl (Nat.le_of_ble_eq_true rfl) (by decide) dX9_of_17 (ct_X9_within hA a1.toInt64 0 4 σ2 _ (wp_bnd w)) (fun r4 σ5 w => ?_)
    refine R_if_eq (tgt := 35) dX9_of_20 (by decide) (fun c6 => ?_) (fun c6 => ?_)
    · have w := wp_t c6 w
      refine R_iload_n dX9_of_35 rfl 2 rfl ?_
      refine R_i2l dX9_of_36 ?_
      refine R_ldc2 dX9_of_37 ck_RX9_160 ?_
      refine R_ldc2 dX9_of_40 ck_RX9_162 ?_
      refine R_callSI (As := [.inr (.inl a1.toInt64), .inr (.inl 100), .inr (.inl 123)]) mi_X9_within ml_RX9_114 rfl (Nat.le_of_ble_eq_true rfl) (by decide) dX9_of_43 (ct_X9_within hA a1.toInt64 100 123 σ5 _ (wp_bnd w)) (fun r7 σ8 w => ?_)
      refine R_if_eq (tgt := 64) dX9_of_46 (by decide) (fun c9 => ?_) (fun c9 => ?_)
      · have w := wp_t c9 w
        refine R_iload_n dX9_of_64 rfl 2 rfl ?_
        refine R_iconst (v := 5) dX9_of_65 (by decide) ?_
        refine R_icmp_ne (tgt := 81) dX9_of_66 (by decide) (fun c10 => ?_) (fun c10 => ?_)
        · have w := wp_f c10 w
          refine R_iload_n dX9_of_81 rfl 2 rfl ?_
          refine R_bipush (v := 6) dX9_of_82 (by decide) ?_
          refine R_icmp_ne (tgt := 96) dX9_of_84 (by decide) (fun c11 => ?_) (fun c11 => ?_)
          · have w := wp_f c11 w
            refine R_iload_n dX9_of_96 rfl 2 rfl ?_
            refine R_bipush (v := 7) dX9_of_97 (by decide) ?_
            refine R_icmp_ne (tgt := 111) dX9_of_99 (by decide) (fun c12 => ?_) (fun c12 => ?_)
            · have w := wp_f c12 w
              refine R_ldc dX9_of_111 ck_RX9_159 ?_
              exact R_ireturn dX9_of_113 rfl ⟨_, rfl, wp_some w⟩
            · have w := wp_t c12 w
              refine R_aload_n dX9_of_102 rfl 0 rfl ?_
              refine R_getfA (k := 11) acl9 oz9_0 (by decide) fl_RX9_34 dX9_of_103 rfl ?_
              refine R_iload_n dX9_of_106 rfl 1 rfl ?_
              obtain ⟨b13, w⟩ := wp_chk w
              refine R_iald rfl oz9_0 b13 dX9_of_107 ?_
              refine R_goto (tgt := 113) dX9_of_108 (by decide) ?_
              exact R_ireturn dX9_of_113 rfl ⟨_, rfl, wp_some w⟩
          · have w := wp_t c11 w
            refine R_aload_n dX9_of_87 rfl 0 rfl ?_
            refine R_getfA (k := 10) acl9 oz9_0 (by decide) fl_RX9_31 dX9_of_88 rfl ?_
            refine R_iload_n dX9_of_91 rfl 1 rfl ?_
            obtain ⟨b14, w⟩ := wp_chk w
            refine R_iald rfl oz9_0 b14 dX9_of_92 ?_
            refine R_goto (tgt := 113) dX9_of_93 (by decide) ?_
            exact R_ireturn dX9_of_113 rfl ⟨_, rfl, wp_some w⟩
        · have w := wp_t c10 w
          refine R_aload_n dX9_of_69 rfl 0 rfl ?_
          refine R_aload_n dX9_of_70 rfl 0 rfl ?_
          refine R_getfA (k := 9) acl9 oz9_0 (by decide) fl_RX9_28 dX9_of_71 rfl ?_
          refine R_iload_n dX9_of_74 rfl 1 rfl ?_
          refine R_callVI (As := [.inr (.inr (9, 0, 9 + 1)), .inl a0]) acl9 rfl oz9_0 mi_X9_heldBy ml_RX9_164 rfl (Nat.le_of_ble_eq_true rfl) (by decide) dX9_of_75 (ct_X9_heldBy hA 9 rfl a0 σ8 _ (wp_bnd w)) (fun r15 σ16 w => ?_)
          refine R_goto (tgt := 113) dX9_of_78 (by decide) ?_
          exact R_ireturn dX9_of_113 rfl ⟨_, rfl, wp_some w⟩
      · have w := wp_f c9 w
        refine R_aload_n dX9_of_49 rfl 0 rfl ?_
        refine R_getfA (k := 8) acl9 oz9_0 (by decide) fl_RX9_25 dX9_of_50 rfl ?_
        refine R_bipush (v := 24) dX9_of_53 (by decide) ?_
        refine R_iload_n dX9_of_55 rfl 1 rfl ?_
        refine R_imul dX9_of_56 ?_
        refine R_iload_n dX9_of_57 rfl 2 rfl ?_
        refine R_iadd dX9_of_58 ?_
        refine R_bipush (v := 100) dX9_of_59 (by decide) ?_
        refine R_isub dX9_of_61 ?_
        obtain ⟨b17, w⟩ := wp_chk w
        refine R_iald rfl oz9_0 b17 dX9_of_62 ?_
        exact R_ireturn dX9_of_63 rfl ⟨_, rfl, wp_some w⟩
    · have w := wp_f c6 w
      refine R_aload_n dX9_of_23 rfl 0 rfl ?_
      refine R_getfA (k := 0) acl9 oz9_0 (by decide) fl_RX9_9 dX9_of_24 rfl ?_
      refine R_bipush (v := 8) dX9_of_27 (by decide) ?_
      refine R_iload_n dX9_of_29 rfl 2 rfl ?_
      refine R_imul dX9_of_30 ?_
      refine R_iload_n dX9_of_31 rfl 1 rfl ?_
      refine R_iadd dX9_of_32 ?_
      obtain ⟨b18, w⟩ := wp_chk w
      refine R_iald rfl oz9_0 b18 dX9_of_33 ?_
      exact R_ireturn dX9_of_34 rfl ⟨_, rfl, wp_some w⟩
  · have w := wp_t c3 w
    refine R_ldc dX9_of_8 ck_RX9_159 ?_
    exact R_ireturn dX9_of_10 rfl ⟨_, rfl, wp_some w⟩
def g_X9_put_37    (v5 : Int32) (σ : AS) : Option (Int32 × AS) := (if v5 = 0 then some (1, σ) else some (v5, σ))
set_option maxRecDepth 100000 in
set_option maxHeartbeats 4000000 in
theorem rk_X9_put_37 {l : Launch} {cx : CX} (hA : AD cx)    (Q : Int32 → AS → Prop) (v5 : Int32) (σ : AS) (w : wpO (g_X9_put_37 v5 σ) Q) : RJ l cx 3 RX9 cX9_put 6 (some .int) 37 [(5, .inl v5)] [] σ (QI Q) := by
  unfold g_X9_put_37 at w
  refine R_iload dX9_put_37 0 rfl ?_
  refine R_if_ne (tgt := 46) dX9_put_39 (by decide) (fun c4 => ?_) (fun c4 => ?_)
  · have w := wp_f c4 w
    refine R_iload dX9_put_46 0 rfl ?_
    exact R_ireturn dX9_put_48 rfl ⟨_, rfl, wp_some w⟩
  · have w := wp_t c4 w
    refine R_iconst (v := 1) dX9_put_42 (by decide) ?_
    refine R_goto (tgt := 48) dX9_put_43 (by decide) ?_
    exact R_ireturn dX9_put_48 rfl ⟨_, rfl, wp_some w⟩
def g_X9_put (a0 : Int32) (a1 : Int32) (a2 : Int64) (σ : AS) : Option (Int32 × AS) := (bnd (g_X9_refusal a0 a1 σ) fun r1 σ2 => (if r1 = 0 then (if inb a0 6 then (bnd (g_X9_asSort ((gA σ2 9 0 50 a0) - 50) a2 σ2) fun r6 σ7 => (if inb ((60 * a0) + a1) 360 then (lt (sL σ7 9 0 52 ((60 * a0) + a1) r6) fun σ9 => g_X9_put_37 r1 σ9) else none)) else none) else g_X9_put_37 r1 σ2))
set_option maxRecDepth 100000 in
set_option maxHeartbeats 4000000 in
theorem ct_X9_put {l : Launch} {cx : CX} (hA : AD cx) (a0 : Int32) (a1 : Int32) (a2 : Int64) (σ : AS) (Q : Int32 → AS → Prop) (w : wpO (g_X9_put a0 a1 a2 σ) Q) : AMet l cx 3 yX9_put cX9_put 6 (some .int) [.inr (.inr (9, 0, 0)), .inl a0, .inl a1, .inr (.inl a2)] σ (QI Q) := by
  unfold g_X9_put at w
  refine AMet.of (own := RX9) (by decide) rfl hA (Nat.le_of_ble_eq_true rfl) ?_
  show RJ l cx 3 RX9 cX9_put 6 (some .int) 0 [(0, .inr (.inr (9, 0, 0))), (1, .inl a0), (2, .inl a1), (3, .inr (.inl a2))] [] σ _
  refine R_aload_n dX9_put_0 rfl 0 rfl ?_
  refine R_iload_n dX9_put_1 rfl 1 rfl ?_
  refine R_iload_n dX9_put_2 rfl 2 rfl ?_
  refine R_callVI (As := [.inl a0, .inl a1]) acl9 rfl oz9_0 mi_X9_refusal ml_RX9_361 rfl (Nat.le_of_ble_eq_true rfl) (by decide) dX9_put_3 (ct_X9_refusal hA a0 a1 σ _ (wp_bnd w)) (fun r1 σ2 w => ?_)
  refine R_istore (lv' := [(5, .inl r1), (0, .inr (.inr (9, 0, 0))), (1, .inl a0), (2, .inl a1), (3, .inr (.inl a2))]) dX9_put_6 (by decide) rfl ?_
  refine R_iload dX9_put_8 0 rfl ?_
  refine R_if_ne (tgt := 37) dX9_put_10 (by decide) (fun c3 => ?_) (fun c3 => ?_)
  · have w := wp_f c3 w
    refine R_sub [0] rfl ?_
    exact rk_X9_put_37 hA _ r1 σ2 w
  · have w := wp_t c3 w
    refine R_aload_n dX9_put_13 rfl 1 rfl ?_
    refine R_getfA (k := 52) acl9 oz9_0 (by decide) fl_RX9_94 dX9_put_14 rfl ?_
    refine R_bipush (v := 60) dX9_put_17 (by decide) ?_
    refine R_iload_n dX9_put_19 rfl 2 rfl ?_
    refine R_imul dX9_put_20 ?_
    refine R_iload_n dX9_put_21 rfl 3 rfl ?_
    refine R_iadd dX9_put_22 ?_
    refine R_aload_n dX9_put_23 rfl 1 rfl ?_
    refine R_getfA (k := 50) acl9 oz9_0 (by decide) fl_RX9_88 dX9_put_24 rfl ?_
    refine R_iload_n dX9_put_27 rfl 2 rfl ?_
    obtain ⟨b5, w⟩ := wp_chk w
    refine R_iald rfl oz9_0 b5 dX9_put_28 ?_
    refine R_bipush (v := 50) dX9_put_29 (by decide) ?_
    refine R_isub dX9_put_31 ?_
    refine R_lload_n dX9_put_32 rfl 4 rfl ?_
    refine R_callSJ (As := [.inl ((gA σ2 9 0 50 a0) - 50), .inr (.inl a2)]) mi_X9_asSort ml_RX9_364 rfl (Nat.le_of_ble_eq_true rfl) (by decide) dX9_put_33 (ct_X9_asSort hA ((gA σ2 9 0 50 a0) - 50) a2 σ2 _ (wp_bnd w)) (fun r6 σ7 w => ?_)
    obtain ⟨b8, w⟩ := wp_chk w
    refine R_last rfl oz9_0 b8 dX9_put_36 ?_
    refine R_nameS w ?_; clear w; intro σ9 w
    refine R_sub [0] rfl ?_
    exact rk_X9_put_37 hA _ r1 σ9 w
def g_X9_quiet_15    : Nat → Int32 → Int32 → AS → Option (Int32 × AS)
  | 0, _, _, _ => none
  | f0 + 1, v2, v3, σ => (if v3 < 24 then (bnd (g_X9_hourGoes 33 v3 (-1) 0 σ) fun _ σ7 => (if gF σ7 9 0 27 = 0 then (g_X9_quiet_15 f0) v2 (v3 + 1) σ7 else (lt (v3 + 1) fun x9 => (g_X9_quiet_15 f0) x9 (v3 + 1) σ7))) else (if v2 < 24 then some (v2, σ) else (if gF σ 9 0 13 < 24 then some ((-2), σ) else some (v2, σ))))
set_option maxRecDepth 100000 in
set_option maxHeartbeats 4000000 in
theorem rk_X9_quiet_15 {l : Launch} {cx : CX} (hA : AD cx)    (Q : Int32 → AS → Prop) : ∀ (f0 : Nat) (v2 : Int32) (v3 : Int32) (σ : AS), wpO (g_X9_quiet_15 f0 v2 v3 σ) Q → RJ l cx 108 RX9 cX9_quiet 4 (some .int) 15 [(0, .inr (.inr (9, 0, 0))), (2, .inl v2), (3, .inl v3)] [] σ (QI Q) := by
  intro f0
  induction f0 with
  | zero => intro v2 v3 σ w; exact wp_no w
  | succ f0 ih =>
    intro v2 v3 σ w
    rw [g_X9_quiet_15] at w
    refine R_iload_n dX9_quiet_15 rfl 2 rfl ?_
    refine R_bipush (v := 24) dX9_quiet_16 (by decide) ?_
    refine R_icmp_ge (tgt := 53) dX9_quiet_18 (by decide) (fun c4 => ?_) (fun c4 => ?_)
    · have w := wp_f c4 w
      refine R_iload_n dX9_quiet_53 rfl 1 rfl ?_
      refine R_bipush (v := 24) dX9_quiet_54 (by decide) ?_
      refine R_icmp_lt (tgt := 73) dX9_quiet_56 (by decide) (fun c5 => ?_) (fun c5 => ?_)
      · have w := wp_t c5 w
        refine R_iload_n dX9_quiet_73 rfl 1 rfl ?_
        exact R_ireturn dX9_quiet_74 rfl ⟨_, rfl, wp_some w⟩
      · have w := wp_f c5 w
        refine R_aload_n dX9_quiet_59 rfl 0 rfl ?_
        refine R_getfI (k := 13) acl9 oz9_0 (by decide) fl_RX9_127 dX9_quiet_60 rfl ?_
        refine R_bipush (v := 24) dX9_quiet_63 (by decide) ?_
        refine R_icmp_ge (tgt := 73) dX9_quiet_65 (by decide) (fun c6 => ?_) (fun c6 => ?_)
        · have w := wp_f c6 w
          refine R_iload_n dX9_quiet_73 rfl 1 rfl ?_
          exact R_ireturn dX9_quiet_74 rfl ⟨_, rfl, wp_some w⟩
        · have w := wp_t c6 w
          refine R_bipush (v := (-2)) dX9_quiet_68 (by decide) ?_
          refine R_goto (tgt := 74) dX9_quiet_70 (by decide) ?_
          exact R_ireturn dX9_quiet_74 rfl ⟨_, rfl, wp_some w⟩
    · have w := wp_t c4 w
      refine R_aload_n dX9_quiet_21 rfl 0 rfl ?_
      refine R_aload_n dX9_quiet_22 rfl 0 rfl ?_
      refine R_getfA (k := 33) acl9 oz9_0 (by decide) fl_RX9_64 dX9_quiet_23 rfl ?_
      refine R_iload_n dX9_quiet_26 rfl 2 rfl ?_
      refine R_iconst (v := (-1)) dX9_quiet_27 (by decide) ?_
      refine R_iconst (v := 0) dX9_quiet_28 (by decide) ?_
      refine R_callVV (As := [.inr (.inr (9, 0, 33 + 1)), .inl v3, .inl (-1), .inl 0]) acl9 rfl oz9_0 mi_X9_hourGoes ml_RX9_271 rfl (Nat.le_of_ble_eq_true rfl) (by decide) dX9_quiet_29 (ct_X9_hourGoes hA 33 rfl v3 (-1) 0 σ _ (wp_bnd w)) (fun σ7 w => ?_)
      refine R_aload_n dX9_quiet_32 rfl 0 rfl ?_
      refine R_getfI (k := 27) acl9 oz9_0 (by decide) fl_RX9_233 dX9_quiet_33 rfl ?_
      refine R_if_eq (tgt := 45) dX9_quiet_36 (by decide) (fun c8 => ?_) (fun c8 => ?_)
      · have w := wp_t c8 w
        refine R_iload_n dX9_quiet_45 rfl 1 rfl ?_
        refine R_istore_n (lv' := [(2, .inl v2), (0, .inr (.inr (9, 0, 0))), (3, .inl v3)]) dX9_quiet_46 rfl (by decide) rfl ?_
        refine R_iinc (v := v3 + 1) (lv' := [(3, .inl (v3 + 1)), (2, .inl v2), (0, .inr (.inr (9, 0, 0)))]) dX9_quiet_47 2 rfl rfl (by decide) rfl ?_
        refine R_goto (tgt := 15) dX9_quiet_50 (by decide) ?_
        refine R_sub [2, 1, 0] rfl ?_
        exact ih v2 (v3 + 1) σ7 w
      · have w := wp_f c8 w
        refine R_iload_n dX9_quiet_39 rfl 2 rfl ?_
        refine R_iconst (v := 1) dX9_quiet_40 (by decide) ?_
        refine R_iadd dX9_quiet_41 ?_
        refine R_goto (tgt := 46) dX9_quiet_42 (by decide) ?_
        refine R_nameI w ?_; clear w; intro x9 w
        refine R_istore_n (lv' := [(2, .inl x9), (0, .inr (.inr (9, 0, 0))), (3, .inl v3)]) dX9_quiet_46 rfl (by decide) rfl ?_
        refine R_iinc (v := v3 + 1) (lv' := [(3, .inl (v3 + 1)), (2, .inl x9), (0, .inr (.inr (9, 0, 0)))]) dX9_quiet_47 2 rfl rfl (by decide) rfl ?_
        refine R_goto (tgt := 15) dX9_quiet_50 (by decide) ?_
        refine R_sub [2, 1, 0] rfl ?_
        exact ih x9 (v3 + 1) σ7 w
def g_X9_quiet (a0 : Int32) (σ : AS) : Option (Int32 × AS) := (bnd (g_X9_thinks a0 σ) fun _ σ1 => (lt (gF σ1 9 0 13) fun x2 => (lt (gF σ1 9 0 13) fun x3 => g_X9_quiet_15 400 x2 x3 σ1)))
set_option maxRecDepth 100000 in
set_option maxHeartbeats 4000000 in
theorem ct_X9_quiet {l : Launch} {cx : CX} (hA : AD cx) (a0 : Int32) (σ : AS) (Q : Int32 → AS → Prop) (w : wpO (g_X9_quiet a0 σ) Q) : AMet l cx 108 yX9_quiet cX9_quiet 4 (some .int) [.inr (.inr (9, 0, 0)), .inl a0] σ (QI Q) := by
  unfold g_X9_quiet at w
  refine AMet.of (own := RX9) (by decide) rfl hA (Nat.le_of_ble_eq_true rfl) ?_
  show RJ l cx 108 RX9 cX9_quiet 4 (some .int) 0 [(0, .inr (.inr (9, 0, 0))), (1, .inl a0)] [] σ _
  refine R_aload_n dX9_quiet_0 rfl 0 rfl ?_
  refine R_iload_n dX9_quiet_1 rfl 1 rfl ?_
  refine R_callVV (As := [.inl a0]) acl9 rfl oz9_0 mi_X9_thinks ml_RX9_282 rfl (Nat.le_of_ble_eq_true rfl) (by decide) dX9_quiet_2 (ct_X9_thinks hA a0 σ _ (wp_bnd w)) (fun σ1 w => ?_)
  refine R_aload_n dX9_quiet_5 rfl 0 rfl ?_
  refine R_getfI (k := 13) acl9 oz9_0 (by decide) fl_RX9_127 dX9_quiet_6 rfl ?_
  refine R_nameI w ?_; clear w; intro x2 w
  refine R_istore_n (lv' := [(2, .inl x2), (0, .inr (.inr (9, 0, 0))), (1, .inl a0)]) dX9_quiet_9 rfl (by decide) rfl ?_
  refine R_aload_n dX9_quiet_10 rfl 1 rfl ?_
  refine R_getfI (k := 13) acl9 oz9_0 (by decide) fl_RX9_127 dX9_quiet_11 rfl ?_
  refine R_nameI w ?_; clear w; intro x3 w
  refine R_istore_n (lv' := [(3, .inl x3), (2, .inl x2), (0, .inr (.inr (9, 0, 0))), (1, .inl a0)]) dX9_quiet_14 rfl (by decide) rfl ?_
  refine R_sub [2, 1, 0] rfl ?_
  exact rk_X9_quiet_15 hA _ 400 x2 x3 σ1 w
def g_X9_redo (σ : AS) : Option (Int32 × AS) := (if gF σ 9 0 5 = gF σ 9 0 4 then some ((-5), σ) else (if inb (gF σ 9 0 5) 40 then (if inb (gA σ 9 0 1 (gF σ 9 0 5)) 40 then (lt (sA σ 9 0 0 (gA σ 9 0 1 (gF σ 9 0 5)) (gA σ 9 0 3 (gF σ 9 0 5))) fun σ4 => (lt (sF σ4 9 0 5 ((gF σ4 9 0 5) + 1)) fun σ5 => some ((gF σ5 9 0 4) - (gF σ5 9 0 5), σ5))) else none) else none))
set_option maxRecDepth 100000 in
set_option maxHeartbeats 4000000 in
theorem ct_X9_redo {l : Launch} {cx : CX} (hA : AD cx) (σ : AS) (Q : Int32 → AS → Prop) (w : wpO (g_X9_redo σ) Q) : AMet l cx 0 yX9_redo cX9_redo 1 (some .int) [.inr (.inr (9, 0, 0))] σ (QI Q) := by
  unfold g_X9_redo at w
  refine AMet.of (own := RX9) (by decide) rfl hA (Nat.le_of_ble_eq_true rfl) ?_
  show RJ l cx 0 RX9 cX9_redo 1 (some .int) 0 [(0, .inr (.inr (9, 0, 0)))] [] σ _
  refine R_aload_n dX9_redo_0 rfl 0 rfl ?_
  refine R_getfI (k := 5) acl9 oz9_0 (by decide) fl_RX9_105 dX9_redo_1 rfl ?_
  refine R_aload_n dX9_redo_4 rfl 0 rfl ?_
  refine R_getfI (k := 4) acl9 oz9_0 (by decide) fl_RX9_108 dX9_redo_5 rfl ?_
  refine R_icmp_ne (tgt := 14) dX9_redo_8 (by decide) (fun c1 => ?_) (fun c1 => ?_)
  · have w := wp_f c1 w
    refine R_aload_n dX9_redo_14 rfl 0 rfl ?_
    refine R_getfA (k := 0) acl9 oz9_0 (by decide) fl_RX9_9 dX9_redo_15 rfl ?_
    refine R_aload_n dX9_redo_18 rfl 0 rfl ?_
    refine R_getfA (k := 1) acl9 oz9_0 (by decide) fl_RX9_13 dX9_redo_19 rfl ?_
    refine R_aload_n dX9_redo_22 rfl 0 rfl ?_
    refine R_getfI (k := 5) acl9 oz9_0 (by decide) fl_RX9_105 dX9_redo_23 rfl ?_
    obtain ⟨b2, w⟩ := wp_chk w
    refine R_iald rfl oz9_0 b2 dX9_redo_26 ?_
    refine R_aload_n dX9_redo_27 rfl 0 rfl ?_
    refine R_getfA (k := 3) acl9 oz9_0 (by decide) fl_RX9_19 dX9_redo_28 rfl ?_
    refine R_aload_n dX9_redo_31 rfl 0 rfl ?_
    refine R_getfI (k := 5) acl9 oz9_0 (by decide) fl_RX9_105 dX9_redo_32 rfl ?_
    refine R_iald rfl oz9_0 b2 dX9_redo_35 ?_
    obtain ⟨b3, w⟩ := wp_chk w
    refine R_iast rfl oz9_0 b3 dX9_redo_36 ?_
    refine R_nameS w ?_; clear w; intro σ4 w
    refine R_aload_n dX9_redo_37 rfl 0 rfl ?_
    refine R_dup dX9_redo_38 rfl ?_
    refine R_getfI (k := 5) acl9 oz9_0 (by decide) fl_RX9_105 dX9_redo_39 rfl ?_
    refine R_iconst (v := 1) dX9_redo_42 (by decide) ?_
    refine R_iadd dX9_redo_43 ?_
    refine R_putf (k := 5) (ty := .int) acl9 oz9_0 (by decide) fl_RX9_105 rfl (tyX9_ok 5 (by decide)) (Or.inl rfl) dX9_redo_44 rfl ?_
    refine R_nameS w ?_; clear w; intro σ5 w
    refine R_aload_n dX9_redo_47 rfl 0 rfl ?_
    refine R_getfI (k := 4) acl9 oz9_0 (by decide) fl_RX9_108 dX9_redo_48 rfl ?_
    refine R_aload_n dX9_redo_51 rfl 0 rfl ?_
    refine R_getfI (k := 5) acl9 oz9_0 (by decide) fl_RX9_105 dX9_redo_52 rfl ?_
    refine R_isub dX9_redo_55 ?_
    exact R_ireturn dX9_redo_56 rfl ⟨_, rfl, wp_some w⟩
  · have w := wp_t c1 w
    refine R_bipush (v := (-5)) dX9_redo_11 (by decide) ?_
    exact R_ireturn dX9_redo_13 rfl ⟨_, rfl, wp_some w⟩
def g_X9_rest (a0 : Int32) (a1 : Int32) (σ : AS) : Option (Int32 × AS) := (if a1 = 4 then (bnd (g_X9_within a0.toInt64 0 6 σ) fun r15 σ16 => (if r15 = 0 then some ((-1), σ16) else (if inb a0 7 then some (gA σ16 9 0 7 a0, σ16) else none))) else (bnd (g_X9_isRest a0 σ) fun r2 σ3 => (if r2 = 0 then some ((-1), σ3) else (if a1 = 0 then (if inb a0 7 then some (gA σ3 9 0 7 a0, σ3) else none) else (if a1 = 1 then (if inb (2 * a0) 14 then some (gA σ3 9 0 9 (2 * a0), σ3) else none) else (if a1 = 2 then (if inb ((2 * a0) + 1) 14 then some (gA σ3 9 0 9 ((2 * a0) + 1), σ3) else none) else (if a1 = 3 then (if inb a0 7 then (if inb (2 * a0) 14 then (if inb ((2 * a0) + 1) 14 then some (((gA σ3 9 0 7 a0) - (gA σ3 9 0 9 (2 * a0))) - (gA σ3 9 0 9 ((2 * a0) + 1)), σ3) else none) else none) else none) else some ((-1), σ3))))))))
set_option maxRecDepth 100000 in
set_option maxHeartbeats 4000000 in
theorem ct_X9_rest {l : Launch} {cx : CX} (hA : AD cx) (a0 : Int32) (a1 : Int32) (σ : AS) (Q : Int32 → AS → Prop) (w : wpO (g_X9_rest a0 a1 σ) Q) : AMet l cx 2 yX9_rest cX9_rest 3 (some .int) [.inr (.inr (9, 0, 0)), .inl a0, .inl a1] σ (QI Q) := by
  unfold g_X9_rest at w
  refine AMet.of (own := RX9) (by decide) rfl hA (Nat.le_of_ble_eq_true rfl) ?_
  show RJ l cx 2 RX9 cX9_rest 3 (some .int) 0 [(0, .inr (.inr (9, 0, 0))), (1, .inl a0), (2, .inl a1)] [] σ _
  refine R_iload_n dX9_rest_0 rfl 2 rfl ?_
  refine R_iconst (v := 4) dX9_rest_1 (by decide) ?_
  refine R_icmp_ne (tgt := 28) dX9_rest_2 (by decide) (fun c1 => ?_) (fun c1 => ?_)
  · have w := wp_f c1 w
    refine R_aload_n dX9_rest_28 rfl 0 rfl ?_
    refine R_iload_n dX9_rest_29 rfl 1 rfl ?_
    refine R_callVI (As := [.inl a0]) acl9 rfl oz9_0 mi_X9_isRest ml_RX9_168 rfl (Nat.le_of_ble_eq_true rfl) (by decide) dX9_rest_30 (ct_X9_isRest hA a0 σ _ (wp_bnd w)) (fun r2 σ3 w => ?_)
    refine R_if_ne (tgt := 38) dX9_rest_33 (by decide) (fun c4 => ?_) (fun c4 => ?_)
    · have w := wp_f c4 w
      refine R_iload_n dX9_rest_38 rfl 2 rfl ?_
      by_cases c5 : a1 = 0
      · have w := wp_t c5 w
        refine R_tswIn (v := 0) (tgt := 68) dX9_rest_39 c5 (by decide) (by decide) rfl (by decide) ?_
        refine R_aload_n dX9_rest_68 rfl 0 rfl ?_
        refine R_getfA (k := 7) acl9 oz9_0 (by decide) fl_RX9_22 dX9_rest_69 rfl ?_
        refine R_iload_n dX9_rest_72 rfl 1 rfl ?_
        obtain ⟨b6, w⟩ := wp_chk w
        refine R_iald rfl oz9_0 b6 dX9_rest_73 ?_
        exact R_ireturn dX9_rest_74 rfl ⟨_, rfl, wp_some w⟩
      have w := wp_f c5 w
      by_cases c7 : a1 = 1
      · have w := wp_t c7 w
        refine R_tswIn (v := 1) (tgt := 75) dX9_rest_39 c7 (by decide) (by decide) rfl (by decide) ?_
        refine R_aload_n dX9_rest_75 rfl 0 rfl ?_
        refine R_getfA (k := 9) acl9 oz9_0 (by decide) fl_RX9_28 dX9_rest_76 rfl ?_
        refine R_iconst (v := 2) dX9_rest_79 (by decide) ?_
        refine R_iload_n dX9_rest_80 rfl 1 rfl ?_
        refine R_imul dX9_rest_81 ?_
        obtain ⟨b8, w⟩ := wp_chk w
        refine R_iald rfl oz9_0 b8 dX9_rest_82 ?_
        exact R_ireturn dX9_rest_83 rfl ⟨_, rfl, wp_some w⟩
      have w := wp_f c7 w
      by_cases c9 : a1 = 2
      · have w := wp_t c9 w
        refine R_tswIn (v := 2) (tgt := 84) dX9_rest_39 c9 (by decide) (by decide) rfl (by decide) ?_
        refine R_aload_n dX9_rest_84 rfl 0 rfl ?_
        refine R_getfA (k := 9) acl9 oz9_0 (by decide) fl_RX9_28 dX9_rest_85 rfl ?_
        refine R_iconst (v := 2) dX9_rest_88 (by decide) ?_
        refine R_iload_n dX9_rest_89 rfl 1 rfl ?_
        refine R_imul dX9_rest_90 ?_
        refine R_iconst (v := 1) dX9_rest_91 (by decide) ?_
        refine R_iadd dX9_rest_92 ?_
        obtain ⟨b10, w⟩ := wp_chk w
        refine R_iald rfl oz9_0 b10 dX9_rest_93 ?_
        exact R_ireturn dX9_rest_94 rfl ⟨_, rfl, wp_some w⟩
      have w := wp_f c9 w
      by_cases c11 : a1 = 3
      · have w := wp_t c11 w
        refine R_tswIn (v := 3) (tgt := 95) dX9_rest_39 c11 (by decide) (by decide) rfl (by decide) ?_
        refine R_aload_n dX9_rest_95 rfl 0 rfl ?_
        refine R_getfA (k := 7) acl9 oz9_0 (by decide) fl_RX9_22 dX9_rest_96 rfl ?_
        refine R_iload_n dX9_rest_99 rfl 1 rfl ?_
        obtain ⟨b12, w⟩ := wp_chk w
        refine R_iald rfl oz9_0 b12 dX9_rest_100 ?_
        refine R_aload_n dX9_rest_101 rfl 0 rfl ?_
        refine R_getfA (k := 9) acl9 oz9_0 (by decide) fl_RX9_28 dX9_rest_102 rfl ?_
        refine R_iconst (v := 2) dX9_rest_105 (by decide) ?_
        refine R_iload_n dX9_rest_106 rfl 1 rfl ?_
        refine R_imul dX9_rest_107 ?_
        obtain ⟨b13, w⟩ := wp_chk w
        refine R_iald rfl oz9_0 b13 dX9_rest_108 ?_
        refine R_isub dX9_rest_109 ?_
        refine R_aload_n dX9_rest_110 rfl 0 rfl ?_
        refine R_getfA (k := 9) acl9 oz9_0 (by decide) fl_RX9_28 dX9_rest_111 rfl ?_
        refine R_iconst (v := 2) dX9_rest_114 (by decide) ?_
        refine R_iload_n dX9_rest_115 rfl 1 rfl ?_
        refine R_imul dX9_rest_116 ?_
        refine R_iconst (v := 1) dX9_rest_117 (by decide) ?_
        refine R_iadd dX9_rest_118 ?_
        obtain ⟨b14, w⟩ := wp_chk w
        refine R_iald rfl oz9_0 b14 dX9_rest_119 ?_
        refine R_isub dX9_rest_120 ?_
        exact R_ireturn dX9_rest_121 rfl ⟨_, rfl, wp_some w⟩
      have w := wp_f c11 w
      refine R_tswOut (tgt := 122) dX9_rest_39 [0, 1, 2, 3] (List.forall_mem_cons.mpr ⟨c5, (List.forall_mem_cons.mpr ⟨c7, (List.forall_mem_cons.mpr ⟨c9, (List.forall_mem_cons.mpr ⟨c11, (fun _ z => absurd z List.not_mem_nil)⟩)⟩)⟩)⟩) (by decide) (by decide) ?_
      refine R_iconst (v := (-1)) dX9_rest_122 (by decide) ?_
      exact R_ireturn dX9_rest_123 rfl ⟨_, rfl, wp_some w⟩
    · have w := wp_t c4 w
      refine R_iconst (v := (-1)) dX9_rest_36 (by decide) ?_
      exact R_ireturn dX9_rest_37 rfl ⟨_, rfl, wp_some w⟩
  · have w := wp_t c1 w
    refine R_iload_n dX9_rest_5 rfl 1 rfl ?_
    refine R_i2l dX9_rest_6 ?_
    refine R_lconst (v := 0) dX9_rest_7 (by decide) ?_
    refine R_ldc2 dX9_rest_8 ck_RX9_140 ?_
    refine R_callSI (As := [.inr (.inl a0.toInt64), .inr (.inl 0), .inr (.inl 6)]) mi_X9_within ml_RX9_114 rfl (Nat.le_of_ble_eq_true rfl) (by decide) dX9_rest_11 (ct_X9_within hA a0.toInt64 0 6 σ _ (wp_bnd w)) (fun r15 σ16 w => ?_)
    refine R_if_eq (tgt := 26) dX9_rest_14 (by decide) (fun c17 => ?_) (fun c17 => ?_)
    · have w := wp_t c17 w
      refine R_iconst (v := (-1)) dX9_rest_26 (by decide) ?_
      exact R_ireturn dX9_rest_27 rfl ⟨_, rfl, wp_some w⟩
    · have w := wp_f c17 w
      refine R_aload_n dX9_rest_17 rfl 0 rfl ?_
      refine R_getfA (k := 7) acl9 oz9_0 (by decide) fl_RX9_22 dX9_rest_18 rfl ?_
      refine R_iload_n dX9_rest_21 rfl 1 rfl ?_
      obtain ⟨b18, w⟩ := wp_chk w
      refine R_iald rfl oz9_0 b18 dX9_rest_22 ?_
      refine R_goto (tgt := 27) dX9_rest_23 (by decide) ?_
      exact R_ireturn dX9_rest_27 rfl ⟨_, rfl, wp_some w⟩
def g_X9_row_57    : Nat → Int32 → Int32 → AS → Option (Int32 × AS)
  | 0, _, _, _ => none
  | f0 + 1, v1, v4, σ => (if v4 < (60 * v1) + 60 then (if inb v4 360 then (lt (sL σ 9 0 52 v4 0) fun σ15 => (g_X9_row_57 f0) v1 (v4 + 1) σ15) else none) else some (1, σ))
set_option maxRecDepth 100000 in
set_option maxHeartbeats 4000000 in
theorem rk_X9_row_57 {l : Launch} {cx : CX} (hA : AD cx)    (Q : Int32 → AS → Prop) : ∀ (f0 : Nat) (v1 : Int32) (v4 : Int32) (σ : AS), wpO (g_X9_row_57 f0 v1 v4 σ) Q → RJ l cx 2 RX9 cX9_row 5 (some .int) 57 [(0, .inr (.inr (9, 0, 0))), (1, .inl v1), (4, .inl v4)] [] σ (QI Q) := by
  intro f0
  induction f0 with
  | zero => intro v1 v4 σ w; exact wp_no w
  | succ f0 ih =>
    intro v1 v4 σ w
    rw [g_X9_row_57] at w
    refine R_iload dX9_row_57 2 rfl ?_
    refine R_bipush (v := 60) dX9_row_59 (by decide) ?_
    refine R_iload_n dX9_row_61 rfl 1 rfl ?_
    refine R_imul dX9_row_62 ?_
    refine R_bipush (v := 60) dX9_row_63 (by decide) ?_
    refine R_iadd dX9_row_65 ?_
    refine R_icmp_ge (tgt := 83) dX9_row_66 (by decide) (fun c13 => ?_) (fun c13 => ?_)
    · have w := wp_f c13 w
      refine R_iconst (v := 1) dX9_row_83 (by decide) ?_
      exact R_ireturn dX9_row_84 rfl ⟨_, rfl, wp_some w⟩
    · have w := wp_t c13 w
      refine R_aload_n dX9_row_69 rfl 0 rfl ?_
      refine R_getfA (k := 52) acl9 oz9_0 (by decide) fl_RX9_94 dX9_row_70 rfl ?_
      refine R_iload dX9_row_73 2 rfl ?_
      refine R_lconst (v := 0) dX9_row_75 (by decide) ?_
      obtain ⟨b14, w⟩ := wp_chk w
      refine R_last rfl oz9_0 b14 dX9_row_76 ?_
      refine R_nameS w ?_; clear w; intro σ15 w
      refine R_iinc (v := v4 + 1) (lv' := [(4, .inl (v4 + 1)), (0, .inr (.inr (9, 0, 0))), (1, .inl v1)]) dX9_row_77 2 rfl rfl (by decide) rfl ?_
      refine R_goto (tgt := 57) dX9_row_80 (by decide) ?_
      refine R_sub [1, 2, 0] rfl ?_
      exact ih v1 (v4 + 1) σ15 w
def g_X9_row (a0 : Int32) (a1 : Int32) (a2 : Int32) (σ : AS) : Option (Int32 × AS) := (bnd (g_X9_isShelf a0 σ) fun r1 σ2 => (if r1 = 0 then some ((-1), σ2) else (bnd (g_X9_within a1.toInt64 0 4 σ2) fun r4 σ5 => (if r4 = 0 then some ((-1), σ5) else (if (60 : Int32) < a2 then some ((-1), σ5) else (if a2 < 0 then some ((-14), σ5) else (if inb a0 6 then (lt (sA σ5 9 0 50 a0 (50 + a1)) fun σ10 => (lt (sA σ10 9 0 51 a0 a2) fun σ11 => (lt (60 * a0) fun x12 => g_X9_row_57 400 a0 x12 σ11))) else none)))))))
set_option maxRecDepth 100000 in
set_option maxHeartbeats 4000000 in
theorem ct_X9_row {l : Launch} {cx : CX} (hA : AD cx) (a0 : Int32) (a1 : Int32) (a2 : Int32) (σ : AS) (Q : Int32 → AS → Prop) (w : wpO (g_X9_row a0 a1 a2 σ) Q) : AMet l cx 2 yX9_row cX9_row 5 (some .int) [.inr (.inr (9, 0, 0)), .inl a0, .inl a1, .inl a2] σ (QI Q) := by
  unfold g_X9_row at w
  refine AMet.of (own := RX9) (by decide) rfl hA (Nat.le_of_ble_eq_true rfl) ?_
  show RJ l cx 2 RX9 cX9_row 5 (some .int) 0 [(0, .inr (.inr (9, 0, 0))), (1, .inl a0), (2, .inl a1), (3, .inl a2)] [] σ _
  refine R_iload_n dX9_row_0 rfl 1 rfl ?_
  refine R_callSI (As := [.inl a0]) mi_X9_isShelf ml_RX9_134 rfl (Nat.le_of_ble_eq_true rfl) (by decide) dX9_row_1 (ct_X9_isShelf hA a0 σ _ (wp_bnd w)) (fun r1 σ2 w => ?_)
  refine R_if_eq (tgt := 25) dX9_row_4 (by decide) (fun c3 => ?_) (fun c3 => ?_)
  · have w := wp_t c3 w
    refine R_iconst (v := (-1)) dX9_row_25 (by decide) ?_
    exact R_ireturn dX9_row_26 rfl ⟨_, rfl, wp_some w⟩
  · have w := wp_f c3 w
    refine R_iload_n dX9_row_7 rfl 2 rfl ?_
    refine R_i2l dX9_row_8 ?_
    refine R_lconst (v := 0) dX9_row_9 (by decide) ?_
    refine R_ldc2 dX9_row_10 ck_RX9_151 ?_
    refine R_callSI (As := [.inr (.inl a1.toInt64), .inr (.inl 0), .inr (.inl 4)]) mi_X9_within ml_RX9_114 rfl (Nat.le_of_ble_eq_true rfl) (by decide) dX9_row_13 (ct_X9_within hA a1.toInt64 0 4 σ2 _ (wp_bnd w)) (fun r4 σ5 w => ?_)
    refine R_if_eq (tgt := 25) dX9_row_16 (by decide) (fun c6 => ?_) (fun c6 => ?_)
    · have w := wp_t c6 w
      refine R_iconst (v := (-1)) dX9_row_25 (by decide) ?_
      exact R_ireturn dX9_row_26 rfl ⟨_, rfl, wp_some w⟩
    · have w := wp_f c6 w
      refine R_iload_n dX9_row_19 rfl 3 rfl ?_
      refine R_bipush (v := 60) dX9_row_20 (by decide) ?_
      refine R_icmp_le (tgt := 27) dX9_row_22 (by decide) (fun c7 => ?_) (fun c7 => ?_)
      · have w := wp_f c7 w
        refine R_iload_n dX9_row_27 rfl 3 rfl ?_
        refine R_if_ge (tgt := 34) dX9_row_28 (by decide) (fun c8 => ?_) (fun c8 => ?_)
        · have w := wp_f c8 w
          refine R_aload_n dX9_row_34 rfl 0 rfl ?_
          refine R_getfA (k := 50) acl9 oz9_0 (by decide) fl_RX9_88 dX9_row_35 rfl ?_
          refine R_iload_n dX9_row_38 rfl 1 rfl ?_
          refine R_bipush (v := 50) dX9_row_39 (by decide) ?_
          refine R_iload_n dX9_row_41 rfl 2 rfl ?_
          refine R_iadd dX9_row_42 ?_
          obtain ⟨b9, w⟩ := wp_chk w
          refine R_iast rfl oz9_0 b9 dX9_row_43 ?_
          refine R_nameS w ?_; clear w; intro σ10 w
          refine R_aload_n dX9_row_44 rfl 0 rfl ?_
          refine R_getfA (k := 51) acl9 oz9_0 (by decide) fl_RX9_91 dX9_row_45 rfl ?_
          refine R_iload_n dX9_row_48 rfl 1 rfl ?_
          refine R_iload_n dX9_row_49 rfl 3 rfl ?_
          refine R_iast rfl oz9_0 b9 dX9_row_50 ?_
          refine R_nameS w ?_; clear w; intro σ11 w
          refine R_bipush (v := 60) dX9_row_51 (by decide) ?_
          refine R_iload_n dX9_row_53 rfl 1 rfl ?_
          refine R_imul dX9_row_54 ?_
          refine R_nameI w ?_; clear w; intro x12 w
          refine R_istore (lv' := [(4, .inl x12), (0, .inr (.inr (9, 0, 0))), (1, .inl a0), (2, .inl a1), (3, .inl a2)]) dX9_row_55 (by decide) rfl ?_
          refine R_sub [1, 2, 0] rfl ?_
          exact rk_X9_row_57 hA _ 400 a0 x12 σ11 w
        · have w := wp_t c8 w
          refine R_bipush (v := (-14)) dX9_row_31 (by decide) ?_
          exact R_ireturn dX9_row_33 rfl ⟨_, rfl, wp_some w⟩
      · have w := wp_t c7 w
        refine R_iconst (v := (-1)) dX9_row_25 (by decide) ?_
        exact R_ireturn dX9_row_26 rfl ⟨_, rfl, wp_some w⟩
def g_X9_seat_35    : Nat → Int32 → Int32 → Int32 → Int32 → Int32 → AS → Option (Int32 × AS)
  | 0, _, _, _, _, _, _ => none
  | f0 + 1, v1, v2, v3, v4, v5, σ => (if v5 < gF σ 9 0 6 then (if v5 = v2 then (g_X9_seat_35 f0) v1 v2 v3 v4 (v5 + 1) σ else (bnd (g_X9_swaps v2 v5 σ) fun _ σ9 => (bnd (g_X9_goesOn v1 (24 - (gF σ9 9 0 13)) σ9) fun _ σ10 => (bnd (g_X9_swaps v2 v5 σ10) fun _ σ11 => (if inb v2 8 then (if v4 < gA σ11 9 0 30 v2 then (lt (gA σ11 9 0 30 v2) fun x14 => (g_X9_seat_35 f0) v1 v2 v5 x14 (v5 + 1) σ11) else (g_X9_seat_35 f0) v1 v2 v3 v4 (v5 + 1) σ11) else none))))) else some (v3, σ))
set_option maxRecDepth 100000 in
set_option maxHeartbeats 4000000 in
theorem rk_X9_seat_35 {l : Launch} {cx : CX} (hA : AD cx)    (Q : Int32 → AS → Prop) : ∀ (f0 : Nat) (v1 : Int32) (v2 : Int32) (v3 : Int32) (v4 : Int32) (v5 : Int32) (σ : AS), wpO (g_X9_seat_35 f0 v1 v2 v3 v4 v5 σ) Q → RJ l cx 109 RX9 cX9_seat 6 (some .int) 35 [(0, .inr (.inr (9, 0, 0))), (1, .inl v1), (2, .inl v2), (3, .inl v3), (4, .inl v4), (5, .inl v5)] [] σ (QI Q) := by
  intro f0
  induction f0 with
  | zero => intro v1 v2 v3 v4 v5 σ w; exact wp_no w
  | succ f0 ih =>
    intro v1 v2 v3 v4 v5 σ w
    rw [g_X9_seat_35] at w
    refine R_iload dX9_seat_35 5 rfl ?_
    refine R_aload_n dX9_seat_37 rfl 0 rfl ?_
    refine R_getfI (k := 6) acl9 oz9_0 (by decide) fl_RX9_111 dX9_seat_38 rfl ?_
    refine R_icmp_ge (tgt := 107) dX9_seat_41 (by decide) (fun c7 => ?_) (fun c7 => ?_)
    · have w := wp_f c7 w
      refine R_iload_n dX9_seat_107 rfl 3 rfl ?_
      exact R_ireturn dX9_seat_108 rfl ⟨_, rfl, wp_some w⟩
    · have w := wp_t c7 w
      refine R_iload dX9_seat_44 5 rfl ?_
      refine R_iload_n dX9_seat_46 rfl 2 rfl ?_
      refine R_icmp_ne (tgt := 53) dX9_seat_47 (by decide) (fun c8 => ?_) (fun c8 => ?_)
      · have w := wp_f c8 w
        refine R_aload_n dX9_seat_53 rfl 0 rfl ?_
        refine R_iload_n dX9_seat_54 rfl 2 rfl ?_
        refine R_iload dX9_seat_55 5 rfl ?_
        refine R_callVV (As := [.inl v2, .inl v5]) acl9 rfl oz9_0 mi_X9_swaps ml_RX9_289 rfl (Nat.le_of_ble_eq_true rfl) (by decide) dX9_seat_57 (ct_X9_swaps hA v2 v5 σ _ (wp_bnd w)) (fun σ9 w => ?_)
        refine R_aload_n dX9_seat_60 rfl 0 rfl ?_
        refine R_iload_n dX9_seat_61 rfl 1 rfl ?_
        refine R_bipush (v := 24) dX9_seat_62 (by decide) ?_
        refine R_aload_n dX9_seat_64 rfl 0 rfl ?_
        refine R_getfI (k := 13) acl9 oz9_0 (by decide) fl_RX9_127 dX9_seat_65 rfl ?_
        refine R_isub dX9_seat_68 ?_
        refine R_callVV (As := [.inl v1, .inl (24 - (gF σ9 9 0 13))]) acl9 rfl oz9_0 mi_X9_goesOn ml_RX9_285 rfl (Nat.le_of_ble_eq_true rfl) (by decide) dX9_seat_69 (ct_X9_goesOn hA v1 (24 - (gF σ9 9 0 13)) σ9 _ (wp_bnd w)) (fun σ10 w => ?_)
        refine R_aload_n dX9_seat_72 rfl 0 rfl ?_
        refine R_iload_n dX9_seat_73 rfl 2 rfl ?_
        refine R_iload dX9_seat_74 5 rfl ?_
        refine R_callVV (As := [.inl v2, .inl v5]) acl9 rfl oz9_0 mi_X9_swaps ml_RX9_289 rfl (Nat.le_of_ble_eq_true rfl) (by decide) dX9_seat_76 (ct_X9_swaps hA v2 v5 σ10 _ (wp_bnd w)) (fun σ11 w => ?_)
        refine R_aload_n dX9_seat_79 rfl 0 rfl ?_
        refine R_getfA (k := 30) acl9 oz9_0 (by decide) fl_RX9_55 dX9_seat_80 rfl ?_
        refine R_iload_n dX9_seat_83 rfl 2 rfl ?_
        obtain ⟨b12, w⟩ := wp_chk w
        refine R_iald rfl oz9_0 b12 dX9_seat_84 ?_
        refine R_iload dX9_seat_85 4 rfl ?_
        refine R_icmp_le (tgt := 101) dX9_seat_87 (by decide) (fun c13 => ?_) (fun c13 => ?_)
        · have w := wp_f c13 w
          refine R_iinc (v := v5 + 1) (lv' := [(5, .inl (v5 + 1)), (0, .inr (.inr (9, 0, 0))), (1, .inl v1), (2, .inl v2), (3, .inl v3), (4, .inl v4)]) dX9_seat_101 5 rfl rfl (by decide) rfl ?_
          refine R_goto (tgt := 35) dX9_seat_104 (by decide) ?_
          refine R_sub [1, 2, 3, 4, 5, 0] rfl ?_
          exact ih v1 v2 v3 v4 (v5 + 1) σ11 w
        · have w := wp_t c13 w
          refine R_iload dX9_seat_90 5 rfl ?_
          refine R_istore_n (lv' := [(3, .inl v5), (0, .inr (.inr (9, 0, 0))), (1, .inl v1), (2, .inl v2), (4, .inl v4), (5, .inl v5)]) dX9_seat_92 rfl (by decide) rfl ?_
          refine R_aload_n dX9_seat_93 rfl 1 rfl ?_
          refine R_getfA (k := 30) acl9 oz9_0 (by decide) fl_RX9_55 dX9_seat_94 rfl ?_
          refine R_iload_n dX9_seat_97 rfl 3 rfl ?_
          refine R_iald rfl oz9_0 b12 dX9_seat_98 ?_
          refine R_nameI w ?_; clear w; intro x14 w
          refine R_istore (lv' := [(4, .inl x14), (3, .inl v5), (0, .inr (.inr (9, 0, 0))), (1, .inl v1), (2, .inl v2), (5, .inl v5)]) dX9_seat_99 (by decide) rfl ?_
          refine R_iinc (v := v5 + 1) (lv' := [(5, .inl (v5 + 1)), (4, .inl x14), (3, .inl v5), (0, .inr (.inr (9, 0, 0))), (1, .inl v1), (2, .inl v2)]) dX9_seat_101 5 rfl rfl (by decide) rfl ?_
          refine R_goto (tgt := 35) dX9_seat_104 (by decide) ?_
          refine R_sub [3, 4, 5, 2, 1, 0] rfl ?_
          exact ih v1 v2 v5 x14 (v5 + 1) σ11 w
      · have w := wp_t c8 w
        refine R_goto (tgt := 101) dX9_seat_50 (by decide) ?_
        refine R_iinc (v := v5 + 1) (lv' := [(5, .inl (v5 + 1)), (0, .inr (.inr (9, 0, 0))), (1, .inl v1), (2, .inl v2), (3, .inl v3), (4, .inl v4)]) dX9_seat_101 5 rfl rfl (by decide) rfl ?_
        refine R_goto (tgt := 35) dX9_seat_104 (by decide) ?_
        refine R_sub [1, 2, 3, 4, 5, 0] rfl ?_
        exact ih v1 v2 v3 v4 (v5 + 1) σ w
def g_X9_seat (a0 : Int32) (a1 : Int32) (σ : AS) : Option (Int32 × AS) := (bnd (g_X9_isSitter a1 σ) fun r1 σ2 => (if r1 = 0 then some ((-1), σ2) else (bnd (g_X9_goesOn a0 (24 - (gF σ2 9 0 13)) σ2) fun _ σ4 => (if inb a1 8 then (lt (gA σ4 9 0 30 a1) fun x6 => g_X9_seat_35 400 a0 a1 a1 x6 0 σ4) else none))))
set_option maxRecDepth 100000 in
set_option maxHeartbeats 4000000 in
theorem ct_X9_seat {l : Launch} {cx : CX} (hA : AD cx) (a0 : Int32) (a1 : Int32) (σ : AS) (Q : Int32 → AS → Prop) (w : wpO (g_X9_seat a0 a1 σ) Q) : AMet l cx 109 yX9_seat cX9_seat 6 (some .int) [.inr (.inr (9, 0, 0)), .inl a0, .inl a1] σ (QI Q) := by
  unfold g_X9_seat at w
  refine AMet.of (own := RX9) (by decide) rfl hA (Nat.le_of_ble_eq_true rfl) ?_
  show RJ l cx 109 RX9 cX9_seat 6 (some .int) 0 [(0, .inr (.inr (9, 0, 0))), (1, .inl a0), (2, .inl a1)] [] σ _
  refine R_aload_n dX9_seat_0 rfl 0 rfl ?_
  refine R_iload_n dX9_seat_1 rfl 2 rfl ?_
  refine R_callVI (As := [.inl a1]) acl9 rfl oz9_0 mi_X9_isSitter ml_RX9_146 rfl (Nat.le_of_ble_eq_true rfl) (by decide) dX9_seat_2 (ct_X9_isSitter hA a1 σ _ (wp_bnd w)) (fun r1 σ2 w => ?_)
  refine R_if_ne (tgt := 10) dX9_seat_5 (by decide) (fun c3 => ?_) (fun c3 => ?_)
  · have w := wp_f c3 w
    refine R_aload_n dX9_seat_10 rfl 0 rfl ?_
    refine R_iload_n dX9_seat_11 rfl 1 rfl ?_
    refine R_bipush (v := 24) dX9_seat_12 (by decide) ?_
    refine R_aload_n dX9_seat_14 rfl 0 rfl ?_
    refine R_getfI (k := 13) acl9 oz9_0 (by decide) fl_RX9_127 dX9_seat_15 rfl ?_
    refine R_isub dX9_seat_18 ?_
    refine R_callVV (As := [.inl a0, .inl (24 - (gF σ2 9 0 13))]) acl9 rfl oz9_0 mi_X9_goesOn ml_RX9_285 rfl (Nat.le_of_ble_eq_true rfl) (by decide) dX9_seat_19 (ct_X9_goesOn hA a0 (24 - (gF σ2 9 0 13)) σ2 _ (wp_bnd w)) (fun σ4 w => ?_)
    refine R_iload_n dX9_seat_22 rfl 2 rfl ?_
    refine R_istore_n (lv' := [(3, .inl a1), (0, .inr (.inr (9, 0, 0))), (1, .inl a0), (2, .inl a1)]) dX9_seat_23 rfl (by decide) rfl ?_
    refine R_aload_n dX9_seat_24 rfl 1 rfl ?_
    refine R_getfA (k := 30) acl9 oz9_0 (by decide) fl_RX9_55 dX9_seat_25 rfl ?_
    refine R_iload_n dX9_seat_28 rfl 3 rfl ?_
    obtain ⟨b5, w⟩ := wp_chk w
    refine R_iald rfl oz9_0 b5 dX9_seat_29 ?_
    refine R_nameI w ?_; clear w; intro x6 w
    refine R_istore (lv' := [(4, .inl x6), (3, .inl a1), (0, .inr (.inr (9, 0, 0))), (1, .inl a0), (2, .inl a1)]) dX9_seat_30 (by decide) rfl ?_
    refine R_iconst (v := 0) dX9_seat_32 (by decide) ?_
    refine R_istore (lv' := [(5, .inl 0), (4, .inl x6), (3, .inl a1), (0, .inr (.inr (9, 0, 0))), (1, .inl a0), (2, .inl a1)]) dX9_seat_33 (by decide) rfl ?_
    refine R_sub [3, 4, 5, 2, 1, 0] rfl ?_
    exact rk_X9_seat_35 hA _ 400 a0 a1 a1 x6 0 σ4 w
  · have w := wp_t c3 w
    refine R_iconst (v := (-1)) dX9_seat_8 (by decide) ?_
    exact R_ireturn dX9_seat_9 rfl ⟨_, rfl, wp_some w⟩
def g_X9_sell (a0 : Int32) (σ : AS) : Option (Int32 × AS) := (bnd (g_X9_isRest a0 σ) fun r1 σ2 => (if r1 = 0 then some ((-1), σ2) else (bnd (g_X9_looksAt a0 σ2) fun _ σ4 => (if inb ((2 * a0) + (gF σ4 9 0 34)) 14 then (lt (sA σ4 9 0 9 ((2 * a0) + (gF σ4 9 0 34)) ((gA σ4 9 0 9 ((2 * a0) + (gF σ4 9 0 34))) - (gF σ4 9 0 35))) fun σ6 => (if inb (((2 * a0) + 1) - (gF σ6 9 0 34)) 14 then (lt (sA σ6 9 0 9 (((2 * a0) + 1) - (gF σ6 9 0 34)) ((gA σ6 9 0 9 (((2 * a0) + 1) - (gF σ6 9 0 34))) + (gF σ6 9 0 35))) fun σ8 => some (gF σ8 9 0 35, σ8)) else none)) else none))))
set_option maxRecDepth 100000 in
set_option maxHeartbeats 4000000 in
theorem ct_X9_sell {l : Launch} {cx : CX} (hA : AD cx) (a0 : Int32) (σ : AS) (Q : Int32 → AS → Prop) (w : wpO (g_X9_sell a0 σ) Q) : AMet l cx 3 yX9_sell cX9_sell 2 (some .int) [.inr (.inr (9, 0, 0)), .inl a0] σ (QI Q) := by
  unfold g_X9_sell at w
  refine AMet.of (own := RX9) (by decide) rfl hA (Nat.le_of_ble_eq_true rfl) ?_
  show RJ l cx 3 RX9 cX9_sell 2 (some .int) 0 [(0, .inr (.inr (9, 0, 0))), (1, .inl a0)] [] σ _
  refine R_aload_n dX9_sell_0 rfl 0 rfl ?_
  refine R_iload_n dX9_sell_1 rfl 1 rfl ?_
  refine R_callVI (As := [.inl a0]) acl9 rfl oz9_0 mi_X9_isRest ml_RX9_168 rfl (Nat.le_of_ble_eq_true rfl) (by decide) dX9_sell_2 (ct_X9_isRest hA a0 σ _ (wp_bnd w)) (fun r1 σ2 w => ?_)
  refine R_if_ne (tgt := 10) dX9_sell_5 (by decide) (fun c3 => ?_) (fun c3 => ?_)
  · have w := wp_f c3 w
    refine R_aload_n dX9_sell_10 rfl 0 rfl ?_
    refine R_iload_n dX9_sell_11 rfl 1 rfl ?_
    refine R_callVV (As := [.inl a0]) acl9 rfl oz9_0 mi_X9_looksAt ml_RX9_311 rfl (Nat.le_of_ble_eq_true rfl) (by decide) dX9_sell_12 (ct_X9_looksAt hA a0 σ2 _ (wp_bnd w)) (fun σ4 w => ?_)
    refine R_aload_n dX9_sell_15 rfl 0 rfl ?_
    refine R_getfA (k := 9) acl9 oz9_0 (by decide) fl_RX9_28 dX9_sell_16 rfl ?_
    refine R_iconst (v := 2) dX9_sell_19 (by decide) ?_
    refine R_iload_n dX9_sell_20 rfl 1 rfl ?_
    refine R_imul dX9_sell_21 ?_
    refine R_aload_n dX9_sell_22 rfl 0 rfl ?_
    refine R_getfI (k := 34) acl9 oz9_0 (by decide) fl_RX9_302 dX9_sell_23 rfl ?_
    refine R_iadd dX9_sell_26 ?_
    refine R_dup2 dX9_sell_27 rfl rfl ?_
    obtain ⟨b5, w⟩ := wp_chk w
    refine R_iald rfl oz9_0 b5 dX9_sell_28 ?_
    refine R_aload_n dX9_sell_29 rfl 0 rfl ?_
    refine R_getfI (k := 35) acl9 oz9_0 (by decide) fl_RX9_308 dX9_sell_30 rfl ?_
    refine R_isub dX9_sell_33 ?_
    refine R_iast rfl oz9_0 b5 dX9_sell_34 ?_
    refine R_nameS w ?_; clear w; intro σ6 w
    refine R_aload_n dX9_sell_35 rfl 0 rfl ?_
    refine R_getfA (k := 9) acl9 oz9_0 (by decide) fl_RX9_28 dX9_sell_36 rfl ?_
    refine R_iconst (v := 2) dX9_sell_39 (by decide) ?_
    refine R_iload_n dX9_sell_40 rfl 1 rfl ?_
    refine R_imul dX9_sell_41 ?_
    refine R_iconst (v := 1) dX9_sell_42 (by decide) ?_
    refine R_iadd dX9_sell_43 ?_
    refine R_aload_n dX9_sell_44 rfl 0 rfl ?_
    refine R_getfI (k := 34) acl9 oz9_0 (by decide) fl_RX9_302 dX9_sell_45 rfl ?_
    refine R_isub dX9_sell_48 ?_
    refine R_dup2 dX9_sell_49 rfl rfl ?_
    obtain ⟨b7, w⟩ := wp_chk w
    refine R_iald rfl oz9_0 b7 dX9_sell_50 ?_
    refine R_aload_n dX9_sell_51 rfl 0 rfl ?_
    refine R_getfI (k := 35) acl9 oz9_0 (by decide) fl_RX9_308 dX9_sell_52 rfl ?_
    refine R_iadd dX9_sell_55 ?_
    refine R_iast rfl oz9_0 b7 dX9_sell_56 ?_
    refine R_nameS w ?_; clear w; intro σ8 w
    refine R_aload_n dX9_sell_57 rfl 0 rfl ?_
    refine R_getfI (k := 35) acl9 oz9_0 (by decide) fl_RX9_308 dX9_sell_58 rfl ?_
    exact R_ireturn dX9_sell_61 rfl ⟨_, rfl, wp_some w⟩
  · have w := wp_t c3 w
    refine R_iconst (v := (-1)) dX9_sell_8 (by decide) ?_
    exact R_ireturn dX9_sell_9 rfl ⟨_, rfl, wp_some w⟩
def g_X9_shift_150    : Nat → Int32 → Int32 → Int32 → Int32 → AS → Option (Int32 × AS)
  | 0, _, _, _, _, _ => none
  | f0 + 1, v3, v4, v5, v6, σ => (if v6 < v5 then (if inb v6 60 then (if inb (((60 * v3) + v4) + v6) 360 then (lt (sL σ 9 0 52 (((60 * v3) + v4) + v6) (gL σ 9 0 53 v6)) fun σ22 => (g_X9_shift_150 f0) v3 v4 v5 (v6 + 1) σ22) else none) else none) else some (v5, σ))
set_option maxRecDepth 100000 in
set_option maxHeartbeats 4000000 in
theorem rk_X9_shift_150 {l : Launch} {cx : CX} (hA : AD cx)    (Q : Int32 → AS → Prop) : ∀ (f0 : Nat) (v3 : Int32) (v4 : Int32) (v5 : Int32) (v6 : Int32) (σ : AS), wpO (g_X9_shift_150 f0 v3 v4 v5 v6 σ) Q → RJ l cx 2 RX9 cX9_shift 7 (some .int) 150 [(0, .inr (.inr (9, 0, 0))), (3, .inl v3), (4, .inl v4), (5, .inl v5), (6, .inl v6)] [] σ (QI Q) := by
  intro f0
  induction f0 with
  | zero => intro v3 v4 v5 v6 σ w; exact wp_no w
  | succ f0 ih =>
    intro v3 v4 v5 v6 σ w
    rw [g_X9_shift_150] at w
    refine R_iload dX9_shift_150 4 rfl ?_
    refine R_iload dX9_shift_152 3 rfl ?_
    refine R_icmp_ge (tgt := 185) dX9_shift_154 (by decide) (fun c19 => ?_) (fun c19 => ?_)
    · have w := wp_f c19 w
      refine R_iload dX9_shift_185 3 rfl ?_
      exact R_ireturn dX9_shift_187 rfl ⟨_, rfl, wp_some w⟩
    · have w := wp_t c19 w
      refine R_aload_n dX9_shift_157 rfl 0 rfl ?_
      refine R_getfA (k := 52) acl9 oz9_0 (by decide) fl_RX9_94 dX9_shift_158 rfl ?_
      refine R_bipush (v := 60) dX9_shift_161 (by decide) ?_
      refine R_iload_n dX9_shift_163 rfl 1 rfl ?_
      refine R_imul dX9_shift_164 ?_
      refine R_iload dX9_shift_165 2 rfl ?_
      refine R_iadd dX9_shift_167 ?_
      refine R_iload dX9_shift_168 4 rfl ?_
      refine R_iadd dX9_shift_170 ?_
      refine R_aload_n dX9_shift_171 rfl 0 rfl ?_
      refine R_getfA (k := 53) acl9 oz9_0 (by decide) fl_RX9_98 dX9_shift_172 rfl ?_
      refine R_iload dX9_shift_175 4 rfl ?_
      obtain ⟨b20, w⟩ := wp_chk w
      refine R_lald rfl oz9_0 b20 dX9_shift_177 ?_
      obtain ⟨b21, w⟩ := wp_chk w
      refine R_last rfl oz9_0 b21 dX9_shift_178 ?_
      refine R_nameS w ?_; clear w; intro σ22 w
      refine R_iinc (v := v6 + 1) (lv' := [(6, .inl (v6 + 1)), (0, .inr (.inr (9, 0, 0))), (3, .inl v3), (4, .inl v4), (5, .inl v5)]) dX9_shift_179 4 rfl rfl (by decide) rfl ?_
      refine R_goto (tgt := 150) dX9_shift_182 (by decide) ?_
      refine R_sub [1, 2, 3, 4, 0] rfl ?_
      exact ih v3 v4 v5 (v6 + 1) σ22 w
def g_X9_shift_113    : Nat → Int32 → Int32 → Int32 → Int32 → Int32 → Int32 → AS → Option (Int32 × AS)
  | 0, _, _, _, _, _, _, _ => none
  | f0 + 1, v1, v2, v3, v4, v5, v6, σ => (if v6 < v5 then (if inb (((60 * v1) + v2) + v6) 360 then (if inb v6 60 then (lt (sL σ 9 0 53 v6 (gL σ 9 0 52 (((60 * v1) + v2) + v6))) fun σ25 => (g_X9_shift_113 f0) v1 v2 v3 v4 v5 (v6 + 1) σ25) else none) else none) else g_X9_shift_150 400 v3 v4 v5 0 σ)
set_option maxRecDepth 100000 in
set_option maxHeartbeats 4000000 in
theorem rk_X9_shift_113 {l : Launch} {cx : CX} (hA : AD cx)    (Q : Int32 → AS → Prop) : ∀ (f0 : Nat) (v1 : Int32) (v2 : Int32) (v3 : Int32) (v4 : Int32) (v5 : Int32) (v6 : Int32) (σ : AS), wpO (g_X9_shift_113 f0 v1 v2 v3 v4 v5 v6 σ) Q → RJ l cx 2 RX9 cX9_shift 7 (some .int) 113 [(0, .inr (.inr (9, 0, 0))), (1, .inl v1), (2, .inl v2), (3, .inl v3), (4, .inl v4), (5, .inl v5), (6, .inl v6)] [] σ (QI Q) := by
  intro f0
  induction f0 with
  | zero => intro v1 v2 v3 v4 v5 v6 σ w; exact wp_no w
  | succ f0 ih =>
    intro v1 v2 v3 v4 v5 v6 σ w
    rw [g_X9_shift_113] at w
    refine R_iload dX9_shift_113 6 rfl ?_
    refine R_iload dX9_shift_115 5 rfl ?_
    refine R_icmp_ge (tgt := 147) dX9_shift_117 (by decide) (fun c18 => ?_) (fun c18 => ?_)
    · have w := wp_f c18 w
      refine R_iconst (v := 0) dX9_shift_147 (by decide) ?_
      refine R_istore (lv' := [(6, .inl 0), (0, .inr (.inr (9, 0, 0))), (1, .inl v1), (2, .inl v2), (3, .inl v3), (4, .inl v4), (5, .inl v5)]) dX9_shift_148 (by decide) rfl ?_
      refine R_sub [1, 4, 5, 6, 0] rfl ?_
      exact rk_X9_shift_150 hA _ 400 v3 v4 v5 0 σ w
    · have w := wp_t c18 w
      refine R_aload_n dX9_shift_120 rfl 0 rfl ?_
      refine R_getfA (k := 53) acl9 oz9_0 (by decide) fl_RX9_98 dX9_shift_121 rfl ?_
      refine R_iload dX9_shift_124 6 rfl ?_
      refine R_aload_n dX9_shift_126 rfl 0 rfl ?_
      refine R_getfA (k := 52) acl9 oz9_0 (by decide) fl_RX9_94 dX9_shift_127 rfl ?_
      refine R_bipush (v := 60) dX9_shift_130 (by decide) ?_
      refine R_iload_n dX9_shift_132 rfl 1 rfl ?_
      refine R_imul dX9_shift_133 ?_
      refine R_iload_n dX9_shift_134 rfl 2 rfl ?_
      refine R_iadd dX9_shift_135 ?_
      refine R_iload dX9_shift_136 6 rfl ?_
      refine R_iadd dX9_shift_138 ?_
      obtain ⟨b23, w⟩ := wp_chk w
      refine R_lald rfl oz9_0 b23 dX9_shift_139 ?_
      obtain ⟨b24, w⟩ := wp_chk w
      refine R_last rfl oz9_0 b24 dX9_shift_140 ?_
      refine R_nameS w ?_; clear w; intro σ25 w
      refine R_iinc (v := v6 + 1) (lv' := [(6, .inl (v6 + 1)), (0, .inr (.inr (9, 0, 0))), (1, .inl v1), (2, .inl v2), (3, .inl v3), (4, .inl v4), (5, .inl v5)]) dX9_shift_141 6 rfl rfl (by decide) rfl ?_
      refine R_goto (tgt := 113) dX9_shift_144 (by decide) ?_
      refine R_sub [1, 2, 3, 4, 5, 6, 0] rfl ?_
      exact ih v1 v2 v3 v4 v5 (v6 + 1) σ25 w
def g_X9_shift (a0 : Int32) (a1 : Int32) (a2 : Int32) (a3 : Int32) (a4 : Int32) (σ : AS) : Option (Int32 × AS) := (bnd (g_X9_isShelf a0 σ) fun r1 σ2 => (if r1 = 0 then some ((-1), σ2) else (bnd (g_X9_isShelf a2 σ2) fun r4 σ5 => (if r4 = 0 then some ((-1), σ5) else (if inb a0 6 then (if gA σ5 9 0 50 a0 < 0 then some ((-11), σ5) else (if inb a2 6 then (if gA σ5 9 0 50 a2 < 0 then some ((-11), σ5) else (if gA σ5 9 0 50 a0 < 50 then some ((-12), σ5) else (if gA σ5 9 0 50 a0 = gA σ5 9 0 50 a2 then (if a4 < 0 then some ((-13), σ5) else (if a1 < 0 then some ((-13), σ5) else (if a3 < 0 then some ((-13), σ5) else (if (gA σ5 9 0 51 a0) - a4 < a1 then some ((-13), σ5) else (if (gA σ5 9 0 51 a2) - a4 < a3 then some ((-13), σ5) else g_X9_shift_113 400 a0 a1 a2 a3 a4 0 σ5))))) else some ((-12), σ5)))) else none)) else none)))))
set_option maxRecDepth 100000 in
set_option maxHeartbeats 4000000 in
theorem ct_X9_shift {l : Launch} {cx : CX} (hA : AD cx) (a0 : Int32) (a1 : Int32) (a2 : Int32) (a3 : Int32) (a4 : Int32) (σ : AS) (Q : Int32 → AS → Prop) (w : wpO (g_X9_shift a0 a1 a2 a3 a4 σ) Q) : AMet l cx 2 yX9_shift cX9_shift 7 (some .int) [.inr (.inr (9, 0, 0)), .inl a0, .inl a1, .inl a2, .inl a3, .inl a4] σ (QI Q) := by
  unfold g_X9_shift at w
  refine AMet.of (own := RX9) (by decide) rfl hA (Nat.le_of_ble_eq_true rfl) ?_
  show RJ l cx 2 RX9 cX9_shift 7 (some .int) 0 [(0, .inr (.inr (9, 0, 0))), (1, .inl a0), (2, .inl a1), (3, .inl a2), (4, .inl a3), (5, .inl a4)] [] σ _
  refine R_iload_n dX9_shift_0 rfl 1 rfl ?_
  refine R_callSI (As := [.inl a0]) mi_X9_isShelf ml_RX9_134 rfl (Nat.le_of_ble_eq_true rfl) (by decide) dX9_shift_1 (ct_X9_isShelf hA a0 σ _ (wp_bnd w)) (fun r1 σ2 w => ?_)
  refine R_if_eq (tgt := 14) dX9_shift_4 (by decide) (fun c3 => ?_) (fun c3 => ?_)
  · have w := wp_t c3 w
    refine R_iconst (v := (-1)) dX9_shift_14 (by decide) ?_
    exact R_ireturn dX9_shift_15 rfl ⟨_, rfl, wp_some w⟩
  · have w := wp_f c3 w
    refine R_iload_n dX9_shift_7 rfl 3 rfl ?_
    refine R_callSI (As := [.inl a2]) mi_X9_isShelf ml_RX9_134 rfl (Nat.le_of_ble_eq_true rfl) (by decide) dX9_shift_8 (ct_X9_isShelf hA a2 σ2 _ (wp_bnd w)) (fun r4 σ5 w => ?_)
    refine R_if_ne (tgt := 16) dX9_shift_11 (by decide) (fun c6 => ?_) (fun c6 => ?_)
    · have w := wp_f c6 w
      refine R_aload_n dX9_shift_16 rfl 0 rfl ?_
      refine R_getfA (k := 50) acl9 oz9_0 (by decide) fl_RX9_88 dX9_shift_17 rfl ?_
      refine R_iload_n dX9_shift_20 rfl 1 rfl ?_
      obtain ⟨b7, w⟩ := wp_chk w
      refine R_iald rfl oz9_0 b7 dX9_shift_21 ?_
      refine R_if_lt (tgt := 34) dX9_shift_22 (by decide) (fun c8 => ?_) (fun c8 => ?_)
      · have w := wp_t c8 w
        refine R_bipush (v := (-11)) dX9_shift_34 (by decide) ?_
        exact R_ireturn dX9_shift_36 rfl ⟨_, rfl, wp_some w⟩
      · have w := wp_f c8 w
        refine R_aload_n dX9_shift_25 rfl 0 rfl ?_
        refine R_getfA (k := 50) acl9 oz9_0 (by decide) fl_RX9_88 dX9_shift_26 rfl ?_
        refine R_iload_n dX9_shift_29 rfl 3 rfl ?_
        obtain ⟨b9, w⟩ := wp_chk w
        refine R_iald rfl oz9_0 b9 dX9_shift_30 ?_
        refine R_if_ge (tgt := 37) dX9_shift_31 (by decide) (fun c10 => ?_) (fun c10 => ?_)
        · have w := wp_f c10 w
          refine R_aload_n dX9_shift_37 rfl 0 rfl ?_
          refine R_getfA (k := 50) acl9 oz9_0 (by decide) fl_RX9_88 dX9_shift_38 rfl ?_
          refine R_iload_n dX9_shift_41 rfl 1 rfl ?_
          refine R_iald rfl oz9_0 b7 dX9_shift_42 ?_
          refine R_bipush (v := 50) dX9_shift_43 (by decide) ?_
          refine R_icmp_lt (tgt := 63) dX9_shift_45 (by decide) (fun c11 => ?_) (fun c11 => ?_)
          · have w := wp_t c11 w
            refine R_bipush (v := (-12)) dX9_shift_63 (by decide) ?_
            exact R_ireturn dX9_shift_65 rfl ⟨_, rfl, wp_some w⟩
          · have w := wp_f c11 w
            refine R_aload_n dX9_shift_48 rfl 0 rfl ?_
            refine R_getfA (k := 50) acl9 oz9_0 (by decide) fl_RX9_88 dX9_shift_49 rfl ?_
            refine R_iload_n dX9_shift_52 rfl 1 rfl ?_
            refine R_iald rfl oz9_0 b7 dX9_shift_53 ?_
            refine R_aload_n dX9_shift_54 rfl 0 rfl ?_
            refine R_getfA (k := 50) acl9 oz9_0 (by decide) fl_RX9_88 dX9_shift_55 rfl ?_
            refine R_iload_n dX9_shift_58 rfl 3 rfl ?_
            refine R_iald rfl oz9_0 b9 dX9_shift_59 ?_
            refine R_icmp_eq (tgt := 66) dX9_shift_60 (by decide) (fun c12 => ?_) (fun c12 => ?_)
            · have w := wp_t c12 w
              refine R_iload dX9_shift_66 5 rfl ?_
              refine R_if_lt (tgt := 107) dX9_shift_68 (by decide) (fun c13 => ?_) (fun c13 => ?_)
              · have w := wp_t c13 w
                refine R_bipush (v := (-13)) dX9_shift_107 (by decide) ?_
                exact R_ireturn dX9_shift_109 rfl ⟨_, rfl, wp_some w⟩
              · have w := wp_f c13 w
                refine R_iload_n dX9_shift_71 rfl 2 rfl ?_
                refine R_if_lt (tgt := 107) dX9_shift_72 (by decide) (fun c14 => ?_) (fun c14 => ?_)
                · have w := wp_t c14 w
                  refine R_bipush (v := (-13)) dX9_shift_107 (by decide) ?_
                  exact R_ireturn dX9_shift_109 rfl ⟨_, rfl, wp_some w⟩
                · have w := wp_f c14 w
                  refine R_iload dX9_shift_75 4 rfl ?_
                  refine R_if_lt (tgt := 107) dX9_shift_77 (by decide) (fun c15 => ?_) (fun c15 => ?_)
                  · have w := wp_t c15 w
                    refine R_bipush (v := (-13)) dX9_shift_107 (by decide) ?_
                    exact R_ireturn dX9_shift_109 rfl ⟨_, rfl, wp_some w⟩
                  · have w := wp_f c15 w
                    refine R_iload_n dX9_shift_80 rfl 2 rfl ?_
                    refine R_aload_n dX9_shift_81 rfl 0 rfl ?_
                    refine R_getfA (k := 51) acl9 oz9_0 (by decide) fl_RX9_91 dX9_shift_82 rfl ?_
                    refine R_iload_n dX9_shift_85 rfl 1 rfl ?_
                    refine R_iald rfl oz9_0 b7 dX9_shift_86 ?_
                    refine R_iload dX9_shift_87 5 rfl ?_
                    refine R_isub dX9_shift_89 ?_
                    refine R_icmp_gt (tgt := 107) dX9_shift_90 (by decide) (fun c16 => ?_) (fun c16 => ?_)
                    · have w := wp_t c16 w
                      refine R_bipush (v := (-13)) dX9_shift_107 (by decide) ?_
                      exact R_ireturn dX9_shift_109 rfl ⟨_, rfl, wp_some w⟩
                    · have w := wp_f c16 w
                      refine R_iload dX9_shift_93 4 rfl ?_
                      refine R_aload_n dX9_shift_95 rfl 0 rfl ?_
                      refine R_getfA (k := 51) acl9 oz9_0 (by decide) fl_RX9_91 dX9_shift_96 rfl ?_
                      refine R_iload_n dX9_shift_99 rfl 3 rfl ?_
                      refine R_iald rfl oz9_0 b9 dX9_shift_100 ?_
                      refine R_iload dX9_shift_101 5 rfl ?_
                      refine R_isub dX9_shift_103 ?_
                      refine R_icmp_le (tgt := 110) dX9_shift_104 (by decide) (fun c17 => ?_) (fun c17 => ?_)
                      · have w := wp_f c17 w
                        refine R_iconst (v := 0) dX9_shift_110 (by decide) ?_
                        refine R_istore (lv' := [(6, .inl 0), (0, .inr (.inr (9, 0, 0))), (1, .inl a0), (2, .inl a1), (3, .inl a2), (4, .inl a3), (5, .inl a4)]) dX9_shift_111 (by decide) rfl ?_
                        refine R_sub [1, 2, 3, 4, 5, 6, 0] rfl ?_
                        exact rk_X9_shift_113 hA _ 400 a0 a1 a2 a3 a4 0 σ5 w
                      · have w := wp_t c17 w
                        refine R_bipush (v := (-13)) dX9_shift_107 (by decide) ?_
                        exact R_ireturn dX9_shift_109 rfl ⟨_, rfl, wp_some w⟩
            · have w := wp_f c12 w
              refine R_bipush (v := (-12)) dX9_shift_63 (by decide) ?_
              exact R_ireturn dX9_shift_65 rfl ⟨_, rfl, wp_some w⟩
        · have w := wp_t c10 w
          refine R_bipush (v := (-11)) dX9_shift_34 (by decide) ?_
          exact R_ireturn dX9_shift_36 rfl ⟨_, rfl, wp_some w⟩
    · have w := wp_t c6 w
      refine R_iconst (v := (-1)) dX9_shift_14 (by decide) ?_
      exact R_ireturn dX9_shift_15 rfl ⟨_, rfl, wp_some w⟩
def g_X9_sitter (a0 : Int32) (σ : AS) : Option (Int32 × AS) := (if a0 < 0 then some ((-1), σ) else (bnd (g_X9_isOne ((a0 / 100).toInt64) ((rmi (a0 / 10) 10).toInt64) ((rmi a0 10).toInt64) σ) fun r2 σ3 => (if r2 = 0 then some ((-1), σ3) else (if gF σ3 9 0 13 = 0 then (if gF σ3 9 0 6 = 8 then some ((-3), σ3) else (bnd (g_X9_adds (a0 / 100) (rmi (a0 / 10) 10) (rmi a0 10) σ3) fun _ σ7 => some ((gF σ7 9 0 6) - 1, σ7))) else some ((-5), σ3)))))
set_option maxRecDepth 100000 in
set_option maxHeartbeats 4000000 in
theorem ct_X9_sitter {l : Launch} {cx : CX} (hA : AD cx) (a0 : Int32) (σ : AS) (Q : Int32 → AS → Prop) (w : wpO (g_X9_sitter a0 σ) Q) : AMet l cx 2 yX9_sitter cX9_sitter 2 (some .int) [.inr (.inr (9, 0, 0)), .inl a0] σ (QI Q) := by
  unfold g_X9_sitter at w
  refine AMet.of (own := RX9) (by decide) rfl hA (Nat.le_of_ble_eq_true rfl) ?_
  show RJ l cx 2 RX9 cX9_sitter 2 (some .int) 0 [(0, .inr (.inr (9, 0, 0))), (1, .inl a0)] [] σ _
  refine R_iload_n dX9_sitter_0 rfl 1 rfl ?_
  refine R_if_lt (tgt := 28) dX9_sitter_1 (by decide) (fun c1 => ?_) (fun c1 => ?_)
  · have w := wp_t c1 w
    refine R_iconst (v := (-1)) dX9_sitter_28 (by decide) ?_
    exact R_ireturn dX9_sitter_29 rfl ⟨_, rfl, wp_some w⟩
  · have w := wp_f c1 w
    refine R_iload_n dX9_sitter_4 rfl 1 rfl ?_
    refine R_bipush (v := 100) dX9_sitter_5 (by decide) ?_
    refine R_idiv dX9_sitter_7 (by decide) ?_
    refine R_i2l dX9_sitter_8 ?_
    refine R_iload_n dX9_sitter_9 rfl 1 rfl ?_
    refine R_bipush (v := 10) dX9_sitter_10 (by decide) ?_
    refine R_idiv dX9_sitter_12 (by decide) ?_
    refine R_bipush (v := 10) dX9_sitter_13 (by decide) ?_
    refine R_irem dX9_sitter_15 (by decide) ?_
    refine R_i2l dX9_sitter_16 ?_
    refine R_iload_n dX9_sitter_17 rfl 1 rfl ?_
    refine R_bipush (v := 10) dX9_sitter_18 (by decide) ?_
    refine R_irem dX9_sitter_20 (by decide) ?_
    refine R_i2l dX9_sitter_21 ?_
    refine R_callSI (As := [.inr (.inl ((a0 / 100).toInt64)), .inr (.inl ((rmi (a0 / 10) 10).toInt64)), .inr (.inl ((rmi a0 10).toInt64))]) mi_X9_isOne ml_RX9_124 rfl (Nat.le_of_ble_eq_true rfl) (by decide) dX9_sitter_22 (ct_X9_isOne hA ((a0 / 100).toInt64) ((rmi (a0 / 10) 10).toInt64) ((rmi a0 10).toInt64) σ _ (wp_bnd w)) (fun r2 σ3 w => ?_)
    refine R_if_ne (tgt := 30) dX9_sitter_25 (by decide) (fun c4 => ?_) (fun c4 => ?_)
    · have w := wp_f c4 w
      refine R_aload_n dX9_sitter_30 rfl 0 rfl ?_
      refine R_getfI (k := 13) acl9 oz9_0 (by decide) fl_RX9_127 dX9_sitter_31 rfl ?_
      refine R_if_eq (tgt := 40) dX9_sitter_34 (by decide) (fun c5 => ?_) (fun c5 => ?_)
      · have w := wp_t c5 w
        refine R_aload_n dX9_sitter_40 rfl 0 rfl ?_
        refine R_getfI (k := 6) acl9 oz9_0 (by decide) fl_RX9_111 dX9_sitter_41 rfl ?_
        refine R_bipush (v := 8) dX9_sitter_44 (by decide) ?_
        refine R_icmp_ne (tgt := 52) dX9_sitter_46 (by decide) (fun c6 => ?_) (fun c6 => ?_)
        · have w := wp_f c6 w
          refine R_aload_n dX9_sitter_52 rfl 0 rfl ?_
          refine R_iload_n dX9_sitter_53 rfl 1 rfl ?_
          refine R_bipush (v := 100) dX9_sitter_54 (by decide) ?_
          refine R_idiv dX9_sitter_56 (by decide) ?_
          refine R_iload_n dX9_sitter_57 rfl 1 rfl ?_
          refine R_bipush (v := 10) dX9_sitter_58 (by decide) ?_
          refine R_idiv dX9_sitter_60 (by decide) ?_
          refine R_bipush (v := 10) dX9_sitter_61 (by decide) ?_
          refine R_irem dX9_sitter_63 (by decide) ?_
          refine R_iload_n dX9_sitter_64 rfl 1 rfl ?_
          refine R_bipush (v := 10) dX9_sitter_65 (by decide) ?_
          refine R_irem dX9_sitter_67 (by decide) ?_
          refine R_callVV (As := [.inl (a0 / 100), .inl (rmi (a0 / 10) 10), .inl (rmi a0 10)]) acl9 rfl oz9_0 mi_X9_adds ml_RX9_130 rfl (Nat.le_of_ble_eq_true rfl) (by decide) dX9_sitter_68 (ct_X9_adds hA (a0 / 100) (rmi (a0 / 10) 10) (rmi a0 10) σ3 _ (wp_bnd w)) (fun σ7 w => ?_)
          refine R_aload_n dX9_sitter_71 rfl 0 rfl ?_
          refine R_getfI (k := 6) acl9 oz9_0 (by decide) fl_RX9_111 dX9_sitter_72 rfl ?_
          refine R_iconst (v := 1) dX9_sitter_75 (by decide) ?_
          refine R_isub dX9_sitter_76 ?_
          exact R_ireturn dX9_sitter_77 rfl ⟨_, rfl, wp_some w⟩
        · have w := wp_t c6 w
          refine R_bipush (v := (-3)) dX9_sitter_49 (by decide) ?_
          exact R_ireturn dX9_sitter_51 rfl ⟨_, rfl, wp_some w⟩
      · have w := wp_f c5 w
        refine R_bipush (v := (-5)) dX9_sitter_37 (by decide) ?_
        exact R_ireturn dX9_sitter_39 rfl ⟨_, rfl, wp_some w⟩
    · have w := wp_t c4 w
      refine R_iconst (v := (-1)) dX9_sitter_28 (by decide) ?_
      exact R_ireturn dX9_sitter_29 rfl ⟨_, rfl, wp_some w⟩
def g_X9_sitters_177    (k79 : Int32 → Int32 → Int32 → Int32 → Int32 → AS → Option (Int32 × AS)) (v1 : Int32) (v2 : Int32) (v3 : Int32) (v4 : Int32) (v6 : Int32) (s0 : Int32) (σ : AS) : Option (Int32 × AS) := (if s0 = 0 then k79 v1 v2 v3 v4 s0 σ else (if inb v6 360 then (if inb (v6 + 1) 360 then (if inb (v6 + 2) 360 then (bnd (g_X9_adds ((gL σ 9 0 52 v6).toInt32) ((gL σ 9 0 52 (v6 + 1)).toInt32) ((gL σ 9 0 52 (v6 + 2)).toInt32) σ) fun _ σ22 => k79 v1 v2 v3 (v4 + 1) s0 σ22) else none) else none) else none))
set_option maxRecDepth 100000 in
set_option maxHeartbeats 4000000 in
theorem rk_X9_sitters_177 {l : Launch} {cx : CX} (hA : AD cx)    (Q : Int32 → AS → Prop) (k79 : Int32 → Int32 → Int32 → Int32 → Int32 → AS → Option (Int32 × AS)) (hk79 : ∀ (v1 : Int32) (v2 : Int32) (v3 : Int32) (v4 : Int32) (v5 : Int32) (σ : AS), wpO (k79 v1 v2 v3 v4 v5 σ) Q → RJ l cx 2 RX9 cX9_sitters 7 (some .int) 79 [(0, .inr (.inr (9, 0, 0))), (1, .inl v1), (2, .inl v2), (3, .inl v3), (4, .inl v4), (5, .inl v5)] [] σ (QI Q)) (v1 : Int32) (v2 : Int32) (v3 : Int32) (v4 : Int32) (v6 : Int32) (s0 : Int32) (σ : AS) (w : wpO (g_X9_sitters_177 k79 v1 v2 v3 v4 v6 s0 σ) Q) : RJ l cx 2 RX9 cX9_sitters 7 (some .int) 177 [(0, .inr (.inr (9, 0, 0))), (1, .inl v1), (2, .inl v2), (3, .inl v3), (4, .inl v4), (6, .inl v6)] [.inl s0] σ (QI Q) := by
  unfold g_X9_sitters_177 at w
  refine R_istore (lv' := [(5, .inl s0), (0, .inr (.inr (9, 0, 0))), (1, .inl v1), (2, .inl v2), (3, .inl v3), (4, .inl v4), (6, .inl v6)]) dX9_sitters_177 (by decide) rfl ?_
  refine R_iload dX9_sitters_179 0 rfl ?_
  refine R_if_eq (tgt := 219) dX9_sitters_181 (by decide) (fun c18 => ?_) (fun c18 => ?_)
  · have w := wp_t c18 w
    refine R_goto (tgt := 79) dX9_sitters_219 (by decide) ?_
    refine R_sub [1, 2, 3, 4, 5, 0] rfl ?_
    exact hk79 v1 v2 v3 v4 s0 σ w
  · have w := wp_f c18 w
    refine R_aload_n dX9_sitters_184 rfl 1 rfl ?_
    refine R_aload_n dX9_sitters_185 rfl 1 rfl ?_
    refine R_getfA (k := 52) acl9 oz9_0 (by decide) fl_RX9_94 dX9_sitters_186 rfl ?_
    refine R_iload dX9_sitters_189 6 rfl ?_
    obtain ⟨b19, w⟩ := wp_chk w
    refine R_lald rfl oz9_0 b19 dX9_sitters_191 ?_
    refine R_l2i dX9_sitters_192 ?_
    refine R_aload_n dX9_sitters_193 rfl 1 rfl ?_
    refine R_getfA (k := 52) acl9 oz9_0 (by decide) fl_RX9_94 dX9_sitters_194 rfl ?_
    refine R_iload dX9_sitters_197 6 rfl ?_
    refine R_iconst (v := 1) dX9_sitters_199 (by decide) ?_
    refine R_iadd dX9_sitters_200 ?_
    obtain ⟨b20, w⟩ := wp_chk w
    refine R_lald rfl oz9_0 b20 dX9_sitters_201 ?_
    refine R_l2i dX9_sitters_202 ?_
    refine R_aload_n dX9_sitters_203 rfl 1 rfl ?_
    refine R_getfA (k := 52) acl9 oz9_0 (by decide) fl_RX9_94 dX9_sitters_204 rfl ?_
    refine R_iload dX9_sitters_207 6 rfl ?_
    refine R_iconst (v := 2) dX9_sitters_209 (by decide) ?_
    refine R_iadd dX9_sitters_210 ?_
    obtain ⟨b21, w⟩ := wp_chk w
    refine R_lald rfl oz9_0 b21 dX9_sitters_211 ?_
    refine R_l2i dX9_sitters_212 ?_
    refine R_callVV (As := [.inl ((gL σ 9 0 52 v6).toInt32), .inl ((gL σ 9 0 52 (v6 + 1)).toInt32), .inl ((gL σ 9 0 52 (v6 + 2)).toInt32)]) acl9 rfl oz9_0 mi_X9_adds ml_RX9_130 rfl (Nat.le_of_ble_eq_true rfl) (by decide) dX9_sitters_213 (ct_X9_adds hA ((gL σ 9 0 52 v6).toInt32) ((gL σ 9 0 52 (v6 + 1)).toInt32) ((gL σ 9 0 52 (v6 + 2)).toInt32) σ _ (wp_bnd w)) (fun σ22 w => ?_)
    refine R_iinc (v := v4 + 1) (lv' := [(4, .inl (v4 + 1)), (5, .inl s0), (0, .inr (.inr (9, 0, 0))), (1, .inl v1), (2, .inl v2), (3, .inl v3), (6, .inl v6)]) dX9_sitters_216 5 rfl rfl (by decide) rfl ?_
    refine R_goto (tgt := 79) dX9_sitters_219 (by decide) ?_
    refine R_sub [2, 3, 4, 5, 0, 1] rfl ?_
    exact hk79 v1 v2 v3 (v4 + 1) s0 σ22 w
def g_X9_sitters_176    (k79 : Int32 → Int32 → Int32 → Int32 → Int32 → AS → Option (Int32 × AS)) (v1 : Int32) (v2 : Int32) (v3 : Int32) (v4 : Int32) (v6 : Int32) (σ : AS) : Option (Int32 × AS) := g_X9_sitters_177 k79 v1 v2 v3 v4 v6 0 σ
set_option maxRecDepth 100000 in
set_option maxHeartbeats 4000000 in
theorem rk_X9_sitters_176 {l : Launch} {cx : CX} (hA : AD cx)    (Q : Int32 → AS → Prop) (k79 : Int32 → Int32 → Int32 → Int32 → Int32 → AS → Option (Int32 × AS)) (hk79 : ∀ (v1 : Int32) (v2 : Int32) (v3 : Int32) (v4 : Int32) (v5 : Int32) (σ : AS), wpO (k79 v1 v2 v3 v4 v5 σ) Q → RJ l cx 2 RX9 cX9_sitters 7 (some .int) 79 [(0, .inr (.inr (9, 0, 0))), (1, .inl v1), (2, .inl v2), (3, .inl v3), (4, .inl v4), (5, .inl v5)] [] σ (QI Q)) (v1 : Int32) (v2 : Int32) (v3 : Int32) (v4 : Int32) (v6 : Int32) (σ : AS) (w : wpO (g_X9_sitters_176 k79 v1 v2 v3 v4 v6 σ) Q) : RJ l cx 2 RX9 cX9_sitters 7 (some .int) 176 [(0, .inr (.inr (9, 0, 0))), (1, .inl v1), (2, .inl v2), (3, .inl v3), (4, .inl v4), (6, .inl v6)] [] σ (QI Q) := by
  unfold g_X9_sitters_176 at w
  refine R_iconst (v := 0) dX9_sitters_176 (by decide) ?_
  refine R_sub [0, 1, 2, 3, 4, 5] rfl ?_
  exact rk_X9_sitters_177 hA _ k79 hk79 v1 v2 v3 v4 v6 0 σ w
def g_X9_sitters_121    (k79 : Int32 → Int32 → Int32 → Int32 → Int32 → AS → Option (Int32 × AS)) (v1 : Int32) (v2 : Int32) (v3 : Int32) (v4 : Int32) (s0 : Int32) (σ : AS) : Option (Int32 × AS) := (lt (((60 * v1) + v2) + (3 * v4)) fun x16 => (if s0 = 0 then g_X9_sitters_176 k79 v1 v2 v3 v4 x16 σ else (if inb x16 360 then (if inb (x16 + 1) 360 then (if inb (x16 + 2) 360 then (bnd (g_X9_isOne (gL σ 9 0 52 x16) (gL σ 9 0 52 (x16 + 1)) (gL σ 9 0 52 (x16 + 2)) σ) fun r26 σ27 => (if r26 = 0 then g_X9_sitters_176 k79 v1 v2 v3 v4 x16 σ27 else g_X9_sitters_177 k79 v1 v2 v3 v4 x16 1 σ27)) else none) else none) else none)))
set_option maxRecDepth 100000 in
set_option maxHeartbeats 4000000 in
theorem rk_X9_sitters_121 {l : Launch} {cx : CX} (hA : AD cx)    (Q : Int32 → AS → Prop) (k79 : Int32 → Int32 → Int32 → Int32 → Int32 → AS → Option (Int32 × AS)) (hk79 : ∀ (v1 : Int32) (v2 : Int32) (v3 : Int32) (v4 : Int32) (v5 : Int32) (σ : AS), wpO (k79 v1 v2 v3 v4 v5 σ) Q → RJ l cx 2 RX9 cX9_sitters 7 (some .int) 79 [(0, .inr (.inr (9, 0, 0))), (1, .inl v1), (2, .inl v2), (3, .inl v3), (4, .inl v4), (5, .inl v5)] [] σ (QI Q)) (v1 : Int32) (v2 : Int32) (v3 : Int32) (v4 : Int32) (s0 : Int32) (σ : AS) (w : wpO (g_X9_sitters_121 k79 v1 v2 v3 v4 s0 σ) Q) : RJ l cx 2 RX9 cX9_sitters 7 (some .int) 121 [(0, .inr (.inr (9, 0, 0))), (1, .inl v1), (2, .inl v2), (3, .inl v3), (4, .inl v4)] [.inl s0] σ (QI Q) := by
  unfold g_X9_sitters_121 at w
  refine R_istore (lv' := [(5, .inl s0), (0, .inr (.inr (9, 0, 0))), (1, .inl v1), (2, .inl v2), (3, .inl v3), (4, .inl v4)]) dX9_sitters_121 (by decide) rfl ?_
  refine R_bipush (v := 60) dX9_sitters_123 (by decide) ?_
  refine R_iload_n dX9_sitters_125 rfl 2 rfl ?_
  refine R_imul dX9_sitters_126 ?_
  refine R_iload_n dX9_sitters_127 rfl 3 rfl ?_
  refine R_iadd dX9_sitters_128 ?_
  refine R_iconst (v := 3) dX9_sitters_129 (by decide) ?_
  refine R_iload dX9_sitters_130 5 rfl ?_
  refine R_imul dX9_sitters_132 ?_
  refine R_iadd dX9_sitters_133 ?_
  refine R_nameI w ?_; clear w; intro x16 w
  refine R_istore (lv' := [(6, .inl x16), (5, .inl s0), (0, .inr (.inr (9, 0, 0))), (1, .inl v1), (2, .inl v2), (3, .inl v3), (4, .inl v4)]) dX9_sitters_134 (by decide) rfl ?_
  refine R_iload dX9_sitters_136 1 rfl ?_
  refine R_if_eq (tgt := 176) dX9_sitters_138 (by decide) (fun c17 => ?_) (fun c17 => ?_)
  · have w := wp_t c17 w
    refine R_sub [2, 3, 4, 5, 6, 0] rfl ?_
    exact rk_X9_sitters_176 hA _ k79 hk79 v1 v2 v3 v4 x16 σ w
  · have w := wp_f c17 w
    refine R_aload_n dX9_sitters_141 rfl 2 rfl ?_
    refine R_getfA (k := 52) acl9 oz9_0 (by decide) fl_RX9_94 dX9_sitters_142 rfl ?_
    refine R_iload dX9_sitters_145 0 rfl ?_
    obtain ⟨b23, w⟩ := wp_chk w
    refine R_lald rfl oz9_0 b23 dX9_sitters_147 ?_
    refine R_aload_n dX9_sitters_148 rfl 2 rfl ?_
    refine R_getfA (k := 52) acl9 oz9_0 (by decide) fl_RX9_94 dX9_sitters_149 rfl ?_
    refine R_iload dX9_sitters_152 0 rfl ?_
    refine R_iconst (v := 1) dX9_sitters_154 (by decide) ?_
    refine R_iadd dX9_sitters_155 ?_
    obtain ⟨b24, w⟩ := wp_chk w
    refine R_lald rfl oz9_0 b24 dX9_sitters_156 ?_
    refine R_aload_n dX9_sitters_157 rfl 2 rfl ?_
    refine R_getfA (k := 52) acl9 oz9_0 (by decide) fl_RX9_94 dX9_sitters_158 rfl ?_
    refine R_iload dX9_sitters_161 0 rfl ?_
    refine R_iconst (v := 2) dX9_sitters_163 (by decide) ?_
    refine R_iadd dX9_sitters_164 ?_
    obtain ⟨b25, w⟩ := wp_chk w
    refine R_lald rfl oz9_0 b25 dX9_sitters_165 ?_
    refine R_callSI (As := [.inr (.inl (gL σ 9 0 52 x16)), .inr (.inl (gL σ 9 0 52 (x16 + 1))), .inr (.inl (gL σ 9 0 52 (x16 + 2)))]) mi_X9_isOne ml_RX9_124 rfl (Nat.le_of_ble_eq_true rfl) (by decide) dX9_sitters_166 (ct_X9_isOne hA (gL σ 9 0 52 x16) (gL σ 9 0 52 (x16 + 1)) (gL σ 9 0 52 (x16 + 2)) σ _ (wp_bnd w)) (fun r26 σ27 w => ?_)
    refine R_if_eq (tgt := 176) dX9_sitters_169 (by decide) (fun c28 => ?_) (fun c28 => ?_)
    · have w := wp_t c28 w
      refine R_sub [2, 3, 4, 5, 6, 0] rfl ?_
      exact rk_X9_sitters_176 hA _ k79 hk79 v1 v2 v3 v4 x16 σ27 w
    · have w := wp_f c28 w
      refine R_iconst (v := 1) dX9_sitters_172 (by decide) ?_
      refine R_goto (tgt := 177) dX9_sitters_173 (by decide) ?_
      refine R_sub [2, 3, 4, 5, 6, 0] rfl ?_
      exact rk_X9_sitters_177 hA _ k79 hk79 v1 v2 v3 v4 x16 1 σ27 w
def g_X9_sitters_120    (k79 : Int32 → Int32 → Int32 → Int32 → Int32 → AS → Option (Int32 × AS)) (v1 : Int32) (v2 : Int32) (v3 : Int32) (v4 : Int32) (σ : AS) : Option (Int32 × AS) := g_X9_sitters_121 k79 v1 v2 v3 v4 0 σ
set_option maxRecDepth 100000 in
set_option maxHeartbeats 4000000 in
theorem rk_X9_sitters_120 {l : Launch} {cx : CX} (hA : AD cx)    (Q : Int32 → AS → Prop) (k79 : Int32 → Int32 → Int32 → Int32 → Int32 → AS → Option (Int32 × AS)) (hk79 : ∀ (v1 : Int32) (v2 : Int32) (v3 : Int32) (v4 : Int32) (v5 : Int32) (σ : AS), wpO (k79 v1 v2 v3 v4 v5 σ) Q → RJ l cx 2 RX9 cX9_sitters 7 (some .int) 79 [(0, .inr (.inr (9, 0, 0))), (1, .inl v1), (2, .inl v2), (3, .inl v3), (4, .inl v4), (5, .inl v5)] [] σ (QI Q)) (v1 : Int32) (v2 : Int32) (v3 : Int32) (v4 : Int32) (σ : AS) (w : wpO (g_X9_sitters_120 k79 v1 v2 v3 v4 σ) Q) : RJ l cx 2 RX9 cX9_sitters 7 (some .int) 120 [(0, .inr (.inr (9, 0, 0))), (1, .inl v1), (2, .inl v2), (3, .inl v3), (4, .inl v4)] [] σ (QI Q) := by
  unfold g_X9_sitters_120 at w
  refine R_iconst (v := 0) dX9_sitters_120 (by decide) ?_
  refine R_sub [0, 1, 2, 3, 4] rfl ?_
  exact rk_X9_sitters_121 hA _ k79 hk79 v1 v2 v3 v4 0 σ w
def g_X9_sitters_79    : Nat → Int32 → Int32 → Int32 → Int32 → Int32 → AS → Option (Int32 × AS)
  | 0, _, _, _, _, _, _ => none
  | f0 + 1, v1, v2, v3, v4, v5, σ => (if v5 = 0 then some (v4, σ) else (if v4 < v3 then (if inb v1 6 then (if ((gA σ 9 0 51 v1) - 3) - (3 * v4) < v2 then g_X9_sitters_120 (g_X9_sitters_79 f0) v1 v2 v3 v4 σ else (if gF σ 9 0 6 < 8 then g_X9_sitters_121 (g_X9_sitters_79 f0) v1 v2 v3 v4 1 σ else g_X9_sitters_120 (g_X9_sitters_79 f0) v1 v2 v3 v4 σ)) else none) else some (v4, σ)))
set_option maxRecDepth 100000 in
set_option maxHeartbeats 4000000 in
theorem rk_X9_sitters_79 {l : Launch} {cx : CX} (hA : AD cx)    (Q : Int32 → AS → Prop) : ∀ (f0 : Nat) (v1 : Int32) (v2 : Int32) (v3 : Int32) (v4 : Int32) (v5 : Int32) (σ : AS), wpO (g_X9_sitters_79 f0 v1 v2 v3 v4 v5 σ) Q → RJ l cx 2 RX9 cX9_sitters 7 (some .int) 79 [(0, .inr (.inr (9, 0, 0))), (1, .inl v1), (2, .inl v2), (3, .inl v3), (4, .inl v4), (5, .inl v5)] [] σ (QI Q) := by
  intro f0
  induction f0 with
  | zero => intro v1 v2 v3 v4 v5 σ w; exact wp_no w
  | succ f0 ih =>
    intro v1 v2 v3 v4 v5 σ w
    rw [g_X9_sitters_79] at w
    refine R_iload dX9_sitters_79 5 rfl ?_
    refine R_if_eq (tgt := 222) dX9_sitters_81 (by decide) (fun c12 => ?_) (fun c12 => ?_)
    · have w := wp_t c12 w
      refine R_iload dX9_sitters_222 4 rfl ?_
      exact R_ireturn dX9_sitters_224 rfl ⟨_, rfl, wp_some w⟩
    · have w := wp_f c12 w
      refine R_iload dX9_sitters_84 4 rfl ?_
      refine R_iload_n dX9_sitters_86 rfl 3 rfl ?_
      refine R_icmp_ge (tgt := 222) dX9_sitters_87 (by decide) (fun c13 => ?_) (fun c13 => ?_)
      · have w := wp_f c13 w
        refine R_iload dX9_sitters_222 4 rfl ?_
        exact R_ireturn dX9_sitters_224 rfl ⟨_, rfl, wp_some w⟩
      · have w := wp_t c13 w
        refine R_iload_n dX9_sitters_90 rfl 2 rfl ?_
        refine R_aload_n dX9_sitters_91 rfl 0 rfl ?_
        refine R_getfA (k := 51) acl9 oz9_0 (by decide) fl_RX9_91 dX9_sitters_92 rfl ?_
        refine R_iload_n dX9_sitters_95 rfl 1 rfl ?_
        obtain ⟨b14, w⟩ := wp_chk w
        refine R_iald rfl oz9_0 b14 dX9_sitters_96 ?_
        refine R_iconst (v := 3) dX9_sitters_97 (by decide) ?_
        refine R_isub dX9_sitters_98 ?_
        refine R_iconst (v := 3) dX9_sitters_99 (by decide) ?_
        refine R_iload dX9_sitters_100 4 rfl ?_
        refine R_imul dX9_sitters_102 ?_
        refine R_isub dX9_sitters_103 ?_
        refine R_icmp_gt (tgt := 120) dX9_sitters_104 (by decide) (fun c15 => ?_) (fun c15 => ?_)
        · have w := wp_t c15 w
          refine R_sub [0, 1, 2, 3, 4] rfl ?_
          exact rk_X9_sitters_120 hA _ (g_X9_sitters_79 f0) ih v1 v2 v3 v4 σ w
        · have w := wp_f c15 w
          refine R_aload_n dX9_sitters_107 rfl 0 rfl ?_
          refine R_getfI (k := 6) acl9 oz9_0 (by decide) fl_RX9_111 dX9_sitters_108 rfl ?_
          refine R_bipush (v := 8) dX9_sitters_111 (by decide) ?_
          refine R_icmp_ge (tgt := 120) dX9_sitters_113 (by decide) (fun c29 => ?_) (fun c29 => ?_)
          · have w := wp_f c29 w
            refine R_sub [0, 1, 2, 3, 4] rfl ?_
            exact rk_X9_sitters_120 hA _ (g_X9_sitters_79 f0) ih v1 v2 v3 v4 σ w
          · have w := wp_t c29 w
            refine R_iconst (v := 1) dX9_sitters_116 (by decide) ?_
            refine R_goto (tgt := 121) dX9_sitters_117 (by decide) ?_
            refine R_sub [0, 1, 2, 3, 4] rfl ?_
            exact rk_X9_sitters_121 hA _ (g_X9_sitters_79 f0) ih v1 v2 v3 v4 1 σ w
def g_X9_sitters_44    (v1 : Int32) (v2 : Int32) (v3 : Int32) (σ : AS) : Option (Int32 × AS) := (if gF σ 9 0 13 = 0 then (if inb v1 6 then (if gA σ 9 0 50 v1 = 50 then (if v2 < 0 then g_X9_sitters_79 400 v1 v2 v3 0 0 σ else g_X9_sitters_79 400 v1 v2 v3 0 1 σ) else g_X9_sitters_79 400 v1 v2 v3 0 0 σ) else none) else some ((-5), σ))
set_option maxRecDepth 100000 in
set_option maxHeartbeats 4000000 in
theorem rk_X9_sitters_44 {l : Launch} {cx : CX} (hA : AD cx)    (Q : Int32 → AS → Prop) (v1 : Int32) (v2 : Int32) (v3 : Int32) (σ : AS) (w : wpO (g_X9_sitters_44 v1 v2 v3 σ) Q) : RJ l cx 2 RX9 cX9_sitters 7 (some .int) 44 [(0, .inr (.inr (9, 0, 0))), (1, .inl v1), (2, .inl v2), (3, .inl v3)] [] σ (QI Q) := by
  unfold g_X9_sitters_44 at w
  refine R_aload_n dX9_sitters_44 rfl 0 rfl ?_
  refine R_getfI (k := 13) acl9 oz9_0 (by decide) fl_RX9_127 dX9_sitters_45 rfl ?_
  refine R_if_eq (tgt := 54) dX9_sitters_48 (by decide) (fun c9 => ?_) (fun c9 => ?_)
  · have w := wp_t c9 w
    refine R_iconst (v := 0) dX9_sitters_54 (by decide) ?_
    refine R_istore (lv' := [(4, .inl 0), (0, .inr (.inr (9, 0, 0))), (1, .inl v1), (2, .inl v2), (3, .inl v3)]) dX9_sitters_55 (by decide) rfl ?_
    refine R_aload_n dX9_sitters_57 rfl 1 rfl ?_
    refine R_getfA (k := 50) acl9 oz9_0 (by decide) fl_RX9_88 dX9_sitters_58 rfl ?_
    refine R_iload_n dX9_sitters_61 rfl 2 rfl ?_
    obtain ⟨b10, w⟩ := wp_chk w
    refine R_iald rfl oz9_0 b10 dX9_sitters_62 ?_
    refine R_bipush (v := 50) dX9_sitters_63 (by decide) ?_
    refine R_icmp_ne (tgt := 76) dX9_sitters_65 (by decide) (fun c11 => ?_) (fun c11 => ?_)
    · have w := wp_f c11 w
      refine R_iconst (v := 0) dX9_sitters_76 (by decide) ?_
      refine R_istore (lv' := [(5, .inl 0), (4, .inl 0), (0, .inr (.inr (9, 0, 0))), (1, .inl v1), (2, .inl v2), (3, .inl v3)]) dX9_sitters_77 (by decide) rfl ?_
      refine R_sub [2, 3, 4, 5, 1, 0] rfl ?_
      exact rk_X9_sitters_79 hA _ 400 v1 v2 v3 0 0 σ w
    · have w := wp_t c11 w
      refine R_iload_n dX9_sitters_68 rfl 3 rfl ?_
      refine R_if_lt (tgt := 76) dX9_sitters_69 (by decide) (fun c30 => ?_) (fun c30 => ?_)
      · have w := wp_t c30 w
        refine R_iconst (v := 0) dX9_sitters_76 (by decide) ?_
        refine R_istore (lv' := [(5, .inl 0), (4, .inl 0), (0, .inr (.inr (9, 0, 0))), (1, .inl v1), (2, .inl v2), (3, .inl v3)]) dX9_sitters_77 (by decide) rfl ?_
        refine R_sub [2, 3, 4, 5, 1, 0] rfl ?_
        exact rk_X9_sitters_79 hA _ 400 v1 v2 v3 0 0 σ w
      · have w := wp_f c30 w
        refine R_iconst (v := 1) dX9_sitters_72 (by decide) ?_
        refine R_goto (tgt := 77) dX9_sitters_73 (by decide) ?_
        refine R_istore (lv' := [(5, .inl 1), (4, .inl 0), (0, .inr (.inr (9, 0, 0))), (1, .inl v1), (2, .inl v2), (3, .inl v3)]) dX9_sitters_77 (by decide) rfl ?_
        refine R_sub [2, 3, 4, 5, 1, 0] rfl ?_
        exact rk_X9_sitters_79 hA _ 400 v1 v2 v3 0 1 σ w
  · have w := wp_f c9 w
    refine R_bipush (v := (-5)) dX9_sitters_51 (by decide) ?_
    exact R_ireturn dX9_sitters_53 rfl ⟨_, rfl, wp_some w⟩
def g_X9_sitters (a0 : Int32) (a1 : Int32) (a2 : Int32) (σ : AS) : Option (Int32 × AS) := (bnd (g_X9_isShelf a0 σ) fun r1 σ2 => (if r1 = 0 then some ((-1), σ2) else (bnd (g_X9_within a2.toInt64 1 8 σ2) fun r4 σ5 => (if r4 = 0 then some ((-1), σ5) else (if inb a0 6 then (if gA σ5 9 0 50 a0 < 0 then g_X9_sitters_44 a0 a1 a2 σ5 else (if gA σ5 9 0 50 a0 = 50 then g_X9_sitters_44 a0 a1 a2 σ5 else some ((-12), σ5))) else none)))))
set_option maxRecDepth 100000 in
set_option maxHeartbeats 4000000 in
theorem ct_X9_sitters {l : Launch} {cx : CX} (hA : AD cx) (a0 : Int32) (a1 : Int32) (a2 : Int32) (σ : AS) (Q : Int32 → AS → Prop) (w : wpO (g_X9_sitters a0 a1 a2 σ) Q) : AMet l cx 2 yX9_sitters cX9_sitters 7 (some .int) [.inr (.inr (9, 0, 0)), .inl a0, .inl a1, .inl a2] σ (QI Q) := by
  unfold g_X9_sitters at w
  refine AMet.of (own := RX9) (by decide) rfl hA (Nat.le_of_ble_eq_true rfl) ?_
  show RJ l cx 2 RX9 cX9_sitters 7 (some .int) 0 [(0, .inr (.inr (9, 0, 0))), (1, .inl a0), (2, .inl a1), (3, .inl a2)] [] σ _
  refine R_iload_n dX9_sitters_0 rfl 1 rfl ?_
  refine R_callSI (As := [.inl a0]) mi_X9_isShelf ml_RX9_134 rfl (Nat.le_of_ble_eq_true rfl) (by decide) dX9_sitters_1 (ct_X9_isShelf hA a0 σ _ (wp_bnd w)) (fun r1 σ2 w => ?_)
  refine R_if_eq (tgt := 19) dX9_sitters_4 (by decide) (fun c3 => ?_) (fun c3 => ?_)
  · have w := wp_t c3 w
    refine R_iconst (v := (-1)) dX9_sitters_19 (by decide) ?_
    exact R_ireturn dX9_sitters_20 rfl ⟨_, rfl, wp_some w⟩
  · have w := wp_f c3 w
    refine R_iload_n dX9_sitters_7 rfl 3 rfl ?_
    refine R_i2l dX9_sitters_8 ?_
    refine R_lconst (v := 1) dX9_sitters_9 (by decide) ?_
    refine R_ldc2 dX9_sitters_10 ck_RX9_138 ?_
    refine R_callSI (As := [.inr (.inl a2.toInt64), .inr (.inl 1), .inr (.inl 8)]) mi_X9_within ml_RX9_114 rfl (Nat.le_of_ble_eq_true rfl) (by decide) dX9_sitters_13 (ct_X9_within hA a2.toInt64 1 8 σ2 _ (wp_bnd w)) (fun r4 σ5 w => ?_)
    refine R_if_ne (tgt := 21) dX9_sitters_16 (by decide) (fun c6 => ?_) (fun c6 => ?_)
    · have w := wp_f c6 w
      refine R_aload_n dX9_sitters_21 rfl 0 rfl ?_
      refine R_getfA (k := 50) acl9 oz9_0 (by decide) fl_RX9_88 dX9_sitters_22 rfl ?_
      refine R_iload_n dX9_sitters_25 rfl 1 rfl ?_
      obtain ⟨b7, w⟩ := wp_chk w
      refine R_iald rfl oz9_0 b7 dX9_sitters_26 ?_
      refine R_if_lt (tgt := 44) dX9_sitters_27 (by decide) (fun c8 => ?_) (fun c8 => ?_)
      · have w := wp_t c8 w
        refine R_sub [0, 1, 2, 3] rfl ?_
        exact rk_X9_sitters_44 hA _ a0 a1 a2 σ5 w
      · have w := wp_f c8 w
        refine R_aload_n dX9_sitters_30 rfl 0 rfl ?_
        refine R_getfA (k := 50) acl9 oz9_0 (by decide) fl_RX9_88 dX9_sitters_31 rfl ?_
        refine R_iload_n dX9_sitters_34 rfl 1 rfl ?_
        refine R_iald rfl oz9_0 b7 dX9_sitters_35 ?_
        refine R_bipush (v := 50) dX9_sitters_36 (by decide) ?_
        refine R_icmp_eq (tgt := 44) dX9_sitters_38 (by decide) (fun c31 => ?_) (fun c31 => ?_)
        · have w := wp_t c31 w
          refine R_sub [0, 1, 2, 3] rfl ?_
          exact rk_X9_sitters_44 hA _ a0 a1 a2 σ5 w
        · have w := wp_f c31 w
          refine R_bipush (v := (-12)) dX9_sitters_41 (by decide) ?_
          exact R_ireturn dX9_sitters_43 rfl ⟨_, rfl, wp_some w⟩
    · have w := wp_t c6 w
      refine R_iconst (v := (-1)) dX9_sitters_19 (by decide) ?_
      exact R_ireturn dX9_sitters_20 rfl ⟨_, rfl, wp_some w⟩
def g_X9_strength_28    (v1 : Int32) (v2 : Int32) (v3 : Int32) (σ : AS) : Option (Int32 × AS) := (bnd (g_X9_within v3.toInt64 0 99 σ) fun r8 σ9 => (if r8 = 0 then some ((-1), σ9) else (if gF σ9 9 0 13 < 24 then (if inb ((24 * v1) + (gF σ9 9 0 13)) 192 then (if gA σ9 9 0 8 ((24 * v1) + (gF σ9 9 0 13)) < 2 then (bnd (g_X9_strengthAt 9 v1 v2 v3 (gF σ9 9 0 13) σ9) fun r14 σ15 => some (r14, σ15)) else some ((-1), σ9)) else none) else some ((-1), σ9))))
set_option maxRecDepth 100000 in
set_option maxHeartbeats 4000000 in
theorem rk_X9_strength_28 {l : Launch} {cx : CX} (hA : AD cx)    (Q : Int32 → AS → Prop) (v1 : Int32) (v2 : Int32) (v3 : Int32) (σ : AS) (w : wpO (g_X9_strength_28 v1 v2 v3 σ) Q) : RJ l cx 105 RX9 cX9_strength 4 (some .int) 28 [(0, .inr (.inr (9, 0, 0))), (1, .inl v1), (2, .inl v2), (3, .inl v3)] [] σ (QI Q) := by
  unfold g_X9_strength_28 at w
  refine R_iload_n dX9_strength_28 rfl 3 rfl ?_
  refine R_i2l dX9_strength_29 ?_
  refine R_lconst (v := 0) dX9_strength_30 (by decide) ?_
  refine R_ldc2 dX9_strength_31 ck_RX9_153 ?_
  refine R_callSI (As := [.inr (.inl v3.toInt64), .inr (.inl 0), .inr (.inl 99)]) mi_X9_within ml_RX9_114 rfl (Nat.le_of_ble_eq_true rfl) (by decide) dX9_strength_34 (ct_X9_within hA v3.toInt64 0 99 σ _ (wp_bnd w)) (fun r8 σ9 w => ?_)
  refine R_if_eq (tgt := 67) dX9_strength_37 (by decide) (fun c10 => ?_) (fun c10 => ?_)
  · have w := wp_t c10 w
    refine R_iconst (v := (-1)) dX9_strength_67 (by decide) ?_
    exact R_ireturn dX9_strength_68 rfl ⟨_, rfl, wp_some w⟩
  · have w := wp_f c10 w
    refine R_aload_n dX9_strength_40 rfl 0 rfl ?_
    refine R_getfI (k := 13) acl9 oz9_0 (by decide) fl_RX9_127 dX9_strength_41 rfl ?_
    refine R_bipush (v := 24) dX9_strength_44 (by decide) ?_
    refine R_icmp_ge (tgt := 67) dX9_strength_46 (by decide) (fun c11 => ?_) (fun c11 => ?_)
    · have w := wp_f c11 w
      refine R_iconst (v := (-1)) dX9_strength_67 (by decide) ?_
      exact R_ireturn dX9_strength_68 rfl ⟨_, rfl, wp_some w⟩
    · have w := wp_t c11 w
      refine R_aload_n dX9_strength_49 rfl 0 rfl ?_
      refine R_getfA (k := 8) acl9 oz9_0 (by decide) fl_RX9_25 dX9_strength_50 rfl ?_
      refine R_bipush (v := 24) dX9_strength_53 (by decide) ?_
      refine R_iload_n dX9_strength_55 rfl 1 rfl ?_
      refine R_imul dX9_strength_56 ?_
      refine R_aload_n dX9_strength_57 rfl 0 rfl ?_
      refine R_getfI (k := 13) acl9 oz9_0 (by decide) fl_RX9_127 dX9_strength_58 rfl ?_
      refine R_iadd dX9_strength_61 ?_
      obtain ⟨b12, w⟩ := wp_chk w
      refine R_iald rfl oz9_0 b12 dX9_strength_62 ?_
      refine R_iconst (v := 2) dX9_strength_63 (by decide) ?_
      refine R_icmp_lt (tgt := 69) dX9_strength_64 (by decide) (fun c13 => ?_) (fun c13 => ?_)
      · have w := wp_t c13 w
        refine R_aload_n dX9_strength_69 rfl 0 rfl ?_
        refine R_aload_n dX9_strength_70 rfl 0 rfl ?_
        refine R_getfA (k := 9) acl9 oz9_0 (by decide) fl_RX9_28 dX9_strength_71 rfl ?_
        refine R_iload_n dX9_strength_74 rfl 1 rfl ?_
        refine R_iload_n dX9_strength_75 rfl 2 rfl ?_
        refine R_iload_n dX9_strength_76 rfl 3 rfl ?_
        refine R_aload_n dX9_strength_77 rfl 0 rfl ?_
        refine R_getfI (k := 13) acl9 oz9_0 (by decide) fl_RX9_127 dX9_strength_78 rfl ?_
        refine R_callVI (As := [.inr (.inr (9, 0, 9 + 1)), .inl v1, .inl v2, .inl v3, .inl (gF σ9 9 0 13)]) acl9 rfl oz9_0 mi_X9_strengthAt ml_RX9_225 rfl (Nat.le_of_ble_eq_true rfl) (by decide) dX9_strength_81 (ct_X9_strengthAt hA 9 rfl v1 v2 v3 (gF σ9 9 0 13) σ9 _ (wp_bnd w)) (fun r14 σ15 w => ?_)
        exact R_ireturn dX9_strength_84 rfl ⟨_, rfl, wp_some w⟩
      · have w := wp_f c13 w
        refine R_iconst (v := (-1)) dX9_strength_67 (by decide) ?_
        exact R_ireturn dX9_strength_68 rfl ⟨_, rfl, wp_some w⟩
def g_X9_strength (a0 : Int32) (a1 : Int32) (a2 : Int32) (σ : AS) : Option (Int32 × AS) := (bnd (g_X9_isSitter a0 σ) fun r1 σ2 => (if r1 = 0 then some ((-1), σ2) else (bnd (g_X9_isRest a1 σ2) fun r4 σ5 => (if r4 = 0 then some ((-1), σ5) else (if a1 = a0 then g_X9_strength_28 a0 a1 a2 σ5 else (if a1 = a0 - 1 then g_X9_strength_28 a0 a1 a2 σ5 else some ((-1), σ5)))))))
set_option maxRecDepth 100000 in
set_option maxHeartbeats 4000000 in
theorem ct_X9_strength {l : Launch} {cx : CX} (hA : AD cx) (a0 : Int32) (a1 : Int32) (a2 : Int32) (σ : AS) (Q : Int32 → AS → Prop) (w : wpO (g_X9_strength a0 a1 a2 σ) Q) : AMet l cx 105 yX9_strength cX9_strength 4 (some .int) [.inr (.inr (9, 0, 0)), .inl a0, .inl a1, .inl a2] σ (QI Q) := by
  unfold g_X9_strength at w
  refine AMet.of (own := RX9) (by decide) rfl hA (Nat.le_of_ble_eq_true rfl) ?_
  show RJ l cx 105 RX9 cX9_strength 4 (some .int) 0 [(0, .inr (.inr (9, 0, 0))), (1, .inl a0), (2, .inl a1), (3, .inl a2)] [] σ _
  refine R_aload_n dX9_strength_0 rfl 0 rfl ?_
  refine R_iload_n dX9_strength_1 rfl 1 rfl ?_
  refine R_callVI (As := [.inl a0]) acl9 rfl oz9_0 mi_X9_isSitter ml_RX9_146 rfl (Nat.le_of_ble_eq_true rfl) (by decide) dX9_strength_2 (ct_X9_isSitter hA a0 σ _ (wp_bnd w)) (fun r1 σ2 w => ?_)
  refine R_if_eq (tgt := 67) dX9_strength_5 (by decide) (fun c3 => ?_) (fun c3 => ?_)
  · have w := wp_t c3 w
    refine R_iconst (v := (-1)) dX9_strength_67 (by decide) ?_
    exact R_ireturn dX9_strength_68 rfl ⟨_, rfl, wp_some w⟩
  · have w := wp_f c3 w
    refine R_aload_n dX9_strength_8 rfl 0 rfl ?_
    refine R_iload_n dX9_strength_9 rfl 2 rfl ?_
    refine R_callVI (As := [.inl a1]) acl9 rfl oz9_0 mi_X9_isRest ml_RX9_168 rfl (Nat.le_of_ble_eq_true rfl) (by decide) dX9_strength_10 (ct_X9_isRest hA a1 σ2 _ (wp_bnd w)) (fun r4 σ5 w => ?_)
    refine R_if_eq (tgt := 67) dX9_strength_13 (by decide) (fun c6 => ?_) (fun c6 => ?_)
    · have w := wp_t c6 w
      refine R_iconst (v := (-1)) dX9_strength_67 (by decide) ?_
      exact R_ireturn dX9_strength_68 rfl ⟨_, rfl, wp_some w⟩
    · have w := wp_f c6 w
      refine R_iload_n dX9_strength_16 rfl 2 rfl ?_
      refine R_iload_n dX9_strength_17 rfl 1 rfl ?_
      refine R_icmp_eq (tgt := 28) dX9_strength_18 (by decide) (fun c7 => ?_) (fun c7 => ?_)
      · have w := wp_t c7 w
        refine R_sub [0, 1, 2, 3] rfl ?_
        exact rk_X9_strength_28 hA _ a0 a1 a2 σ5 w
      · have w := wp_f c7 w
        refine R_iload_n dX9_strength_21 rfl 2 rfl ?_
        refine R_iload_n dX9_strength_22 rfl 1 rfl ?_
        refine R_iconst (v := 1) dX9_strength_23 (by decide) ?_
        refine R_isub dX9_strength_24 ?_
        refine R_icmp_ne (tgt := 67) dX9_strength_25 (by decide) (fun c16 => ?_) (fun c16 => ?_)
        · have w := wp_f c16 w
          refine R_iconst (v := (-1)) dX9_strength_67 (by decide) ?_
          exact R_ireturn dX9_strength_68 rfl ⟨_, rfl, wp_some w⟩
        · have w := wp_t c16 w
          refine R_sub [0, 1, 2, 3] rfl ?_
          exact rk_X9_strength_28 hA _ a0 a1 a2 σ5 w
def g_X9_taken_75    (v1 : Int32) (v2 : Int32) (v3 : Int32) (σ : AS) : Option (Int32 × AS) := (if v3 = v2 then (if inb v1 6 then (bnd (g_X9_kindOf (gA σ 9 0 50 v1) σ) fun r15 σ16 => some (r15, σ16)) else none) else some ((-12), σ))
set_option maxRecDepth 100000 in
set_option maxHeartbeats 4000000 in
theorem rk_X9_taken_75 {l : Launch} {cx : CX} (hA : AD cx)    (Q : Int32 → AS → Prop) (v1 : Int32) (v2 : Int32) (v3 : Int32) (σ : AS) (w : wpO (g_X9_taken_75 v1 v2 v3 σ) Q) : RJ l cx 2 RX9 cX9_taken 4 (some .int) 75 [(0, .inr (.inr (9, 0, 0))), (1, .inl v1), (2, .inl v2), (3, .inl v3)] [] σ (QI Q) := by
  unfold g_X9_taken_75 at w
  refine R_iload_n dX9_taken_75 rfl 3 rfl ?_
  refine R_iload_n dX9_taken_76 rfl 2 rfl ?_
  refine R_icmp_ne (tgt := 93) dX9_taken_77 (by decide) (fun c13 => ?_) (fun c13 => ?_)
  · have w := wp_f c13 w
    refine R_bipush (v := (-12)) dX9_taken_93 (by decide) ?_
    exact R_ireturn dX9_taken_95 rfl ⟨_, rfl, wp_some w⟩
  · have w := wp_t c13 w
    refine R_aload_n dX9_taken_80 rfl 0 rfl ?_
    refine R_aload_n dX9_taken_81 rfl 0 rfl ?_
    refine R_getfA (k := 50) acl9 oz9_0 (by decide) fl_RX9_88 dX9_taken_82 rfl ?_
    refine R_iload_n dX9_taken_85 rfl 1 rfl ?_
    obtain ⟨b14, w⟩ := wp_chk w
    refine R_iald rfl oz9_0 b14 dX9_taken_86 ?_
    refine R_callVI (As := [.inl (gA σ 9 0 50 v1)]) acl9 rfl oz9_0 mi_X9_kindOf ml_RX9_372 rfl (Nat.le_of_ble_eq_true rfl) (by decide) dX9_taken_87 (ct_X9_kindOf hA (gA σ 9 0 50 v1) σ _ (wp_bnd w)) (fun r15 σ16 w => ?_)
    refine R_goto (tgt := 95) dX9_taken_90 (by decide) ?_
    exact R_ireturn dX9_taken_95 rfl ⟨_, rfl, wp_some w⟩
def g_X9_taken_58    : Nat → Int32 → Int32 → Int32 → AS → Option (Int32 × AS)
  | 0, _, _, _, _ => none
  | f0 + 1, v1, v2, v3, σ => (if v3 = v2 then g_X9_taken_75 v1 v2 v3 σ else (if (0 : Int32) < v3 then (bnd (g_X9_above v3 σ) fun r18 σ19 => (g_X9_taken_58 f0) v1 v2 r18 σ19) else g_X9_taken_75 v1 v2 v3 σ))
set_option maxRecDepth 100000 in
set_option maxHeartbeats 4000000 in
theorem rk_X9_taken_58 {l : Launch} {cx : CX} (hA : AD cx)    (Q : Int32 → AS → Prop) : ∀ (f0 : Nat) (v1 : Int32) (v2 : Int32) (v3 : Int32) (σ : AS), wpO (g_X9_taken_58 f0 v1 v2 v3 σ) Q → RJ l cx 2 RX9 cX9_taken 4 (some .int) 58 [(0, .inr (.inr (9, 0, 0))), (1, .inl v1), (2, .inl v2), (3, .inl v3)] [] σ (QI Q) := by
  intro f0
  induction f0 with
  | zero => intro v1 v2 v3 σ w; exact wp_no w
  | succ f0 ih =>
    intro v1 v2 v3 σ w
    rw [g_X9_taken_58] at w
    refine R_iload_n dX9_taken_58 rfl 3 rfl ?_
    refine R_iload_n dX9_taken_59 rfl 2 rfl ?_
    refine R_icmp_eq (tgt := 75) dX9_taken_60 (by decide) (fun c12 => ?_) (fun c12 => ?_)
    · have w := wp_t c12 w
      refine R_sub [0, 1, 2, 3] rfl ?_
      exact rk_X9_taken_75 hA _ v1 v2 v3 σ w
    · have w := wp_f c12 w
      refine R_iload_n dX9_taken_63 rfl 3 rfl ?_
      refine R_if_le (tgt := 75) dX9_taken_64 (by decide) (fun c17 => ?_) (fun c17 => ?_)
      · have w := wp_f c17 w
        refine R_sub [0, 1, 2, 3] rfl ?_
        exact rk_X9_taken_75 hA _ v1 v2 v3 σ w
      · have w := wp_t c17 w
        refine R_iload_n dX9_taken_67 rfl 3 rfl ?_
        refine R_callSI (As := [.inl v3]) mi_X9_above ml_RX9_375 rfl (Nat.le_of_ble_eq_true rfl) (by decide) dX9_taken_68 (ct_X9_above hA v3 σ _ (wp_bnd w)) (fun r18 σ19 w => ?_)
        refine R_istore_n (lv' := [(3, .inl r18), (0, .inr (.inr (9, 0, 0))), (1, .inl v1), (2, .inl v2)]) dX9_taken_71 rfl (by decide) rfl ?_
        refine R_goto (tgt := 58) dX9_taken_72 (by decide) ?_
        refine R_sub [1, 2, 3, 0] rfl ?_
        exact ih v1 v2 r18 σ19 w
def g_X9_taken (a0 : Int32) (a1 : Int32) (σ : AS) : Option (Int32 × AS) := (bnd (g_X9_isShelf a0 σ) fun r1 σ2 => (if r1 = 0 then some ((-1), σ2) else (bnd (g_X9_within a1.toInt64 0 7 σ2) fun r4 σ5 => (if r4 = 0 then some ((-1), σ5) else (if inb a0 6 then (if gA σ5 9 0 50 a0 < 0 then some ((-11), σ5) else (if gA σ5 9 0 50 a0 < 50 then (bnd (g_X9_kindOf (gA σ5 9 0 50 a0) σ5) fun r10 σ11 => g_X9_taken_58 400 a0 a1 r10 σ11) else some ((-12), σ5))) else none)))))
set_option maxRecDepth 100000 in
set_option maxHeartbeats 4000000 in
theorem ct_X9_taken {l : Launch} {cx : CX} (hA : AD cx) (a0 : Int32) (a1 : Int32) (σ : AS) (Q : Int32 → AS → Prop) (w : wpO (g_X9_taken a0 a1 σ) Q) : AMet l cx 2 yX9_taken cX9_taken 4 (some .int) [.inr (.inr (9, 0, 0)), .inl a0, .inl a1] σ (QI Q) := by
  unfold g_X9_taken at w
  refine AMet.of (own := RX9) (by decide) rfl hA (Nat.le_of_ble_eq_true rfl) ?_
  show RJ l cx 2 RX9 cX9_taken 4 (some .int) 0 [(0, .inr (.inr (9, 0, 0))), (1, .inl a0), (2, .inl a1)] [] σ _
  refine R_iload_n dX9_taken_0 rfl 1 rfl ?_
  refine R_callSI (As := [.inl a0]) mi_X9_isShelf ml_RX9_134 rfl (Nat.le_of_ble_eq_true rfl) (by decide) dX9_taken_1 (ct_X9_isShelf hA a0 σ _ (wp_bnd w)) (fun r1 σ2 w => ?_)
  refine R_if_eq (tgt := 19) dX9_taken_4 (by decide) (fun c3 => ?_) (fun c3 => ?_)
  · have w := wp_t c3 w
    refine R_iconst (v := (-1)) dX9_taken_19 (by decide) ?_
    exact R_ireturn dX9_taken_20 rfl ⟨_, rfl, wp_some w⟩
  · have w := wp_f c3 w
    refine R_iload_n dX9_taken_7 rfl 2 rfl ?_
    refine R_i2l dX9_taken_8 ?_
    refine R_lconst (v := 0) dX9_taken_9 (by decide) ?_
    refine R_ldc2 dX9_taken_10 ck_RX9_330 ?_
    refine R_callSI (As := [.inr (.inl a1.toInt64), .inr (.inl 0), .inr (.inl 7)]) mi_X9_within ml_RX9_114 rfl (Nat.le_of_ble_eq_true rfl) (by decide) dX9_taken_13 (ct_X9_within hA a1.toInt64 0 7 σ2 _ (wp_bnd w)) (fun r4 σ5 w => ?_)
    refine R_if_ne (tgt := 21) dX9_taken_16 (by decide) (fun c6 => ?_) (fun c6 => ?_)
    · have w := wp_f c6 w
      refine R_aload_n dX9_taken_21 rfl 0 rfl ?_
      refine R_getfA (k := 50) acl9 oz9_0 (by decide) fl_RX9_88 dX9_taken_22 rfl ?_
      refine R_iload_n dX9_taken_25 rfl 1 rfl ?_
      obtain ⟨b7, w⟩ := wp_chk w
      refine R_iald rfl oz9_0 b7 dX9_taken_26 ?_
      refine R_if_ge (tgt := 33) dX9_taken_27 (by decide) (fun c8 => ?_) (fun c8 => ?_)
      · have w := wp_f c8 w
        refine R_aload_n dX9_taken_33 rfl 0 rfl ?_
        refine R_getfA (k := 50) acl9 oz9_0 (by decide) fl_RX9_88 dX9_taken_34 rfl ?_
        refine R_iload_n dX9_taken_37 rfl 1 rfl ?_
        refine R_iald rfl oz9_0 b7 dX9_taken_38 ?_
        refine R_bipush (v := 50) dX9_taken_39 (by decide) ?_
        refine R_icmp_lt (tgt := 47) dX9_taken_41 (by decide) (fun c9 => ?_) (fun c9 => ?_)
        · have w := wp_t c9 w
          refine R_aload_n dX9_taken_47 rfl 0 rfl ?_
          refine R_aload_n dX9_taken_48 rfl 0 rfl ?_
          refine R_getfA (k := 50) acl9 oz9_0 (by decide) fl_RX9_88 dX9_taken_49 rfl ?_
          refine R_iload_n dX9_taken_52 rfl 1 rfl ?_
          refine R_iald rfl oz9_0 b7 dX9_taken_53 ?_
          refine R_callVI (As := [.inl (gA σ5 9 0 50 a0)]) acl9 rfl oz9_0 mi_X9_kindOf ml_RX9_372 rfl (Nat.le_of_ble_eq_true rfl) (by decide) dX9_taken_54 (ct_X9_kindOf hA (gA σ5 9 0 50 a0) σ5 _ (wp_bnd w)) (fun r10 σ11 w => ?_)
          refine R_istore_n (lv' := [(3, .inl r10), (0, .inr (.inr (9, 0, 0))), (1, .inl a0), (2, .inl a1)]) dX9_taken_57 rfl (by decide) rfl ?_
          refine R_sub [1, 2, 3, 0] rfl ?_
          exact rk_X9_taken_58 hA _ 400 a0 a1 r10 σ11 w
        · have w := wp_f c9 w
          refine R_bipush (v := (-12)) dX9_taken_44 (by decide) ?_
          exact R_ireturn dX9_taken_46 rfl ⟨_, rfl, wp_some w⟩
      · have w := wp_t c8 w
        refine R_bipush (v := (-11)) dX9_taken_30 (by decide) ?_
        exact R_ireturn dX9_taken_32 rfl ⟨_, rfl, wp_some w⟩
    · have w := wp_t c6 w
      refine R_iconst (v := (-1)) dX9_taken_19 (by decide) ?_
      exact R_ireturn dX9_taken_20 rfl ⟨_, rfl, wp_some w⟩
def g_X9_then_56    (v1 : Int32) (v2 : Int32) (v3 : Int32) (v4 : Int32) (v5 : Int32) (σ : AS) : Option (Int32 × AS) := (if (24 : Int32) < (gF σ 9 0 13) + v2 then some ((-5), σ) else (bnd (g_X9_goesOn v1 v2 σ) fun _ σ7 => (if v5 = 0 then (if v4 = 0 then (bnd (g_X9_heldBy 33 v3 σ7) fun r11 σ12 => some (r11, σ12)) else (if inb v3 8 then some (gA σ7 9 0 30 v3, σ7) else none)) else some (gF σ7 9 0 26, σ7))))
set_option maxRecDepth 100000 in
set_option maxHeartbeats 4000000 in
theorem rk_X9_then_56 {l : Launch} {cx : CX} (hA : AD cx)    (Q : Int32 → AS → Prop) (v1 : Int32) (v2 : Int32) (v3 : Int32) (v4 : Int32) (v5 : Int32) (σ : AS) (w : wpO (g_X9_then_56 v1 v2 v3 v4 v5 σ) Q) : RJ l cx 109 RX9 cX9_then 6 (some .int) 56 [(0, .inr (.inr (9, 0, 0))), (1, .inl v1), (2, .inl v2), (3, .inl v3), (4, .inl v4), (5, .inl v5)] [] σ (QI Q) := by
  unfold g_X9_then_56 at w
  refine R_aload_n dX9_then_56 rfl 0 rfl ?_
  refine R_getfI (k := 13) acl9 oz9_0 (by decide) fl_RX9_127 dX9_then_57 rfl ?_
  refine R_iload_n dX9_then_60 rfl 2 rfl ?_
  refine R_iadd dX9_then_61 ?_
  refine R_bipush (v := 24) dX9_then_62 (by decide) ?_
  refine R_icmp_le (tgt := 70) dX9_then_64 (by decide) (fun c6 => ?_) (fun c6 => ?_)
  · have w := wp_f c6 w
    refine R_aload_n dX9_then_70 rfl 0 rfl ?_
    refine R_iload_n dX9_then_71 rfl 1 rfl ?_
    refine R_iload_n dX9_then_72 rfl 2 rfl ?_
    refine R_callVV (As := [.inl v1, .inl v2]) acl9 rfl oz9_0 mi_X9_goesOn ml_RX9_285 rfl (Nat.le_of_ble_eq_true rfl) (by decide) dX9_then_73 (ct_X9_goesOn hA v1 v2 σ _ (wp_bnd w)) (fun σ7 w => ?_)
    refine R_iload dX9_then_76 5 rfl ?_
    refine R_if_eq (tgt := 88) dX9_then_78 (by decide) (fun c8 => ?_) (fun c8 => ?_)
    · have w := wp_t c8 w
      refine R_iload dX9_then_88 4 rfl ?_
      refine R_if_ne (tgt := 105) dX9_then_90 (by decide) (fun c9 => ?_) (fun c9 => ?_)
      · have w := wp_f c9 w
        refine R_aload_n dX9_then_105 rfl 0 rfl ?_
        refine R_getfA (k := 30) acl9 oz9_0 (by decide) fl_RX9_55 dX9_then_106 rfl ?_
        refine R_iload_n dX9_then_109 rfl 3 rfl ?_
        obtain ⟨b10, w⟩ := wp_chk w
        refine R_iald rfl oz9_0 b10 dX9_then_110 ?_
        exact R_ireturn dX9_then_111 rfl ⟨_, rfl, wp_some w⟩
      · have w := wp_t c9 w
        refine R_aload_n dX9_then_93 rfl 0 rfl ?_
        refine R_aload_n dX9_then_94 rfl 0 rfl ?_
        refine R_getfA (k := 33) acl9 oz9_0 (by decide) fl_RX9_64 dX9_then_95 rfl ?_
        refine R_iload_n dX9_then_98 rfl 3 rfl ?_
        refine R_callVI (As := [.inr (.inr (9, 0, 33 + 1)), .inl v3]) acl9 rfl oz9_0 mi_X9_heldBy ml_RX9_164 rfl (Nat.le_of_ble_eq_true rfl) (by decide) dX9_then_99 (ct_X9_heldBy hA 33 rfl v3 σ7 _ (wp_bnd w)) (fun r11 σ12 w => ?_)
        refine R_goto (tgt := 111) dX9_then_102 (by decide) ?_
        exact R_ireturn dX9_then_111 rfl ⟨_, rfl, wp_some w⟩
    · have w := wp_f c8 w
      refine R_aload_n dX9_then_81 rfl 0 rfl ?_
      refine R_getfI (k := 26) acl9 oz9_0 (by decide) fl_RX9_244 dX9_then_82 rfl ?_
      refine R_goto (tgt := 111) dX9_then_85 (by decide) ?_
      exact R_ireturn dX9_then_111 rfl ⟨_, rfl, wp_some w⟩
  · have w := wp_t c6 w
    refine R_bipush (v := (-5)) dX9_then_67 (by decide) ?_
    exact R_ireturn dX9_then_69 rfl ⟨_, rfl, wp_some w⟩
def g_X9_then_15    (v1 : Int32) (v2 : Int32) (v3 : Int32) (v4 : Int32) (s0 : Int32) (σ : AS) : Option (Int32 × AS) := (bnd (g_X9_within v2.toInt64 0 24 σ) fun r2 σ3 => (if r2 = 0 then some ((-2000000000), σ3) else (if s0 = 0 then (bnd (g_X9_isSitter v3 σ3) fun r13 σ14 => (if r13 = 0 then some ((-2000000000), σ14) else (bnd (g_X9_within v4.toInt64 0 1 σ14) fun r16 σ17 => (if r16 = 0 then some ((-2000000000), σ17) else g_X9_then_56 v1 v2 v3 v4 s0 σ17)))) else g_X9_then_56 v1 v2 v3 v4 s0 σ3)))
set_option maxRecDepth 100000 in
set_option maxHeartbeats 4000000 in
theorem rk_X9_then_15 {l : Launch} {cx : CX} (hA : AD cx)    (Q : Int32 → AS → Prop) (v1 : Int32) (v2 : Int32) (v3 : Int32) (v4 : Int32) (s0 : Int32) (σ : AS) (w : wpO (g_X9_then_15 v1 v2 v3 v4 s0 σ) Q) : RJ l cx 109 RX9 cX9_then 6 (some .int) 15 [(0, .inr (.inr (9, 0, 0))), (1, .inl v1), (2, .inl v2), (3, .inl v3), (4, .inl v4)] [.inl s0] σ (QI Q) := by
  unfold g_X9_then_15 at w
  refine R_istore (lv' := [(5, .inl s0), (0, .inr (.inr (9, 0, 0))), (1, .inl v1), (2, .inl v2), (3, .inl v3), (4, .inl v4)]) dX9_then_15 (by decide) rfl ?_
  refine R_iload_n dX9_then_17 rfl 3 rfl ?_
  refine R_i2l dX9_then_18 ?_
  refine R_lconst (v := 0) dX9_then_19 (by decide) ?_
  refine R_ldc2 dX9_then_20 ck_RX9_265 ?_
  refine R_callSI (As := [.inr (.inl v2.toInt64), .inr (.inl 0), .inr (.inl 24)]) mi_X9_within ml_RX9_114 rfl (Nat.le_of_ble_eq_true rfl) (by decide) dX9_then_23 (ct_X9_within hA v2.toInt64 0 24 σ _ (wp_bnd w)) (fun r2 σ3 w => ?_)
  refine R_if_eq (tgt := 53) dX9_then_26 (by decide) (fun c4 => ?_) (fun c4 => ?_)
  · have w := wp_t c4 w
    refine R_ldc dX9_then_53 ck_RX9_159 ?_
    exact R_ireturn dX9_then_55 rfl ⟨_, rfl, wp_some w⟩
  · have w := wp_f c4 w
    refine R_iload dX9_then_29 0 rfl ?_
    refine R_if_ne (tgt := 56) dX9_then_31 (by decide) (fun c5 => ?_) (fun c5 => ?_)
    · have w := wp_f c5 w
      refine R_sub [1, 2, 3, 4, 5, 0] rfl ?_
      exact rk_X9_then_56 hA _ v1 v2 v3 v4 s0 σ3 w
    · have w := wp_t c5 w
      refine R_aload_n dX9_then_34 rfl 1 rfl ?_
      refine R_iload_n dX9_then_35 rfl 4 rfl ?_
      refine R_callVI (As := [.inl v3]) acl9 rfl oz9_0 mi_X9_isSitter ml_RX9_146 rfl (Nat.le_of_ble_eq_true rfl) (by decide) dX9_then_36 (ct_X9_isSitter hA v3 σ3 _ (wp_bnd w)) (fun r13 σ14 w => ?_)
      refine R_if_eq (tgt := 53) dX9_then_39 (by decide) (fun c15 => ?_) (fun c15 => ?_)
      · have w := wp_t c15 w
        refine R_ldc dX9_then_53 ck_RX9_159 ?_
        exact R_ireturn dX9_then_55 rfl ⟨_, rfl, wp_some w⟩
      · have w := wp_f c15 w
        refine R_iload dX9_then_42 5 rfl ?_
        refine R_i2l dX9_then_44 ?_
        refine R_lconst (v := 0) dX9_then_45 (by decide) ?_
        refine R_lconst (v := 1) dX9_then_46 (by decide) ?_
        refine R_callSI (As := [.inr (.inl v4.toInt64), .inr (.inl 0), .inr (.inl 1)]) mi_X9_within ml_RX9_114 rfl (Nat.le_of_ble_eq_true rfl) (by decide) dX9_then_47 (ct_X9_within hA v4.toInt64 0 1 σ14 _ (wp_bnd w)) (fun r16 σ17 w => ?_)
        refine R_if_ne (tgt := 56) dX9_then_50 (by decide) (fun c18 => ?_) (fun c18 => ?_)
        · have w := wp_f c18 w
          refine R_sub [1, 2, 3, 4, 5, 0] rfl ?_
          exact rk_X9_then_56 hA _ v1 v2 v3 v4 s0 σ17 w
        · have w := wp_t c18 w
          refine R_ldc dX9_then_53 ck_RX9_159 ?_
          exact R_ireturn dX9_then_55 rfl ⟨_, rfl, wp_some w⟩
def g_X9_then_14    (v1 : Int32) (v2 : Int32) (v3 : Int32) (v4 : Int32) (σ : AS) : Option (Int32 × AS) := g_X9_then_15 v1 v2 v3 v4 0 σ
set_option maxRecDepth 100000 in
set_option maxHeartbeats 4000000 in
theorem rk_X9_then_14 {l : Launch} {cx : CX} (hA : AD cx)    (Q : Int32 → AS → Prop) (v1 : Int32) (v2 : Int32) (v3 : Int32) (v4 : Int32) (σ : AS) (w : wpO (g_X9_then_14 v1 v2 v3 v4 σ) Q) : RJ l cx 109 RX9 cX9_then 6 (some .int) 14 [(0, .inr (.inr (9, 0, 0))), (1, .inl v1), (2, .inl v2), (3, .inl v3), (4, .inl v4)] [] σ (QI Q) := by
  unfold g_X9_then_14 at w
  refine R_iconst (v := 0) dX9_then_14 (by decide) ?_
  refine R_sub [0, 1, 2, 3, 4] rfl ?_
  exact rk_X9_then_15 hA _ v1 v2 v3 v4 0 σ w
def g_X9_then (a0 : Int32) (a1 : Int32) (a2 : Int32) (a3 : Int32) (σ : AS) : Option (Int32 × AS) := (if a2 = (-1) then (if a3 = 0 then g_X9_then_15 a0 a1 a2 a3 1 σ else g_X9_then_14 a0 a1 a2 a3 σ) else g_X9_then_14 a0 a1 a2 a3 σ)
set_option maxRecDepth 100000 in
set_option maxHeartbeats 4000000 in
theorem ct_X9_then {l : Launch} {cx : CX} (hA : AD cx) (a0 : Int32) (a1 : Int32) (a2 : Int32) (a3 : Int32) (σ : AS) (Q : Int32 → AS → Prop) (w : wpO (g_X9_then a0 a1 a2 a3 σ) Q) : AMet l cx 109 yX9_then cX9_then 6 (some .int) [.inr (.inr (9, 0, 0)), .inl a0, .inl a1, .inl a2, .inl a3] σ (QI Q) := by
  unfold g_X9_then at w
  refine AMet.of (own := RX9) (by decide) rfl hA (Nat.le_of_ble_eq_true rfl) ?_
  show RJ l cx 109 RX9 cX9_then 6 (some .int) 0 [(0, .inr (.inr (9, 0, 0))), (1, .inl a0), (2, .inl a1), (3, .inl a2), (4, .inl a3)] [] σ _
  refine R_iload_n dX9_then_0 rfl 3 rfl ?_
  refine R_iconst (v := (-1)) dX9_then_1 (by decide) ?_
  refine R_icmp_ne (tgt := 14) dX9_then_2 (by decide) (fun c1 => ?_) (fun c1 => ?_)
  · have w := wp_f c1 w
    refine R_sub [0, 1, 2, 3, 4] rfl ?_
    exact rk_X9_then_14 hA _ a0 a1 a2 a3 σ w
  · have w := wp_t c1 w
    refine R_iload dX9_then_5 4 rfl ?_
    refine R_if_ne (tgt := 14) dX9_then_7 (by decide) (fun c19 => ?_) (fun c19 => ?_)
    · have w := wp_f c19 w
      refine R_sub [0, 1, 2, 3, 4] rfl ?_
      exact rk_X9_then_14 hA _ a0 a1 a2 a3 σ w
    · have w := wp_t c19 w
      refine R_iconst (v := 1) dX9_then_10 (by decide) ?_
      refine R_goto (tgt := 15) dX9_then_11 (by decide) ?_
      refine R_sub [0, 1, 2, 3, 4] rfl ?_
      exact rk_X9_then_15 hA _ a0 a1 a2 a3 1 σ w
def g_X9_trace (a0 : Int32) (σ : AS) : Option (Int32 × AS) := (if a0 < 0 then some ((-1), σ) else (if a0 < gF σ 9 0 47 then (if a0 < 24 then (if inb a0 24 then some (gA σ 9 0 46 a0, σ) else none) else some ((-1), σ)) else some ((-1), σ)))
set_option maxRecDepth 100000 in
set_option maxHeartbeats 4000000 in
theorem ct_X9_trace {l : Launch} {cx : CX} (hA : AD cx) (a0 : Int32) (σ : AS) (Q : Int32 → AS → Prop) (w : wpO (g_X9_trace a0 σ) Q) : AMet l cx 0 yX9_trace cX9_trace 2 (some .int) [.inr (.inr (9, 0, 0)), .inl a0] σ (QI Q) := by
  unfold g_X9_trace at w
  refine AMet.of (own := RX9) (by decide) rfl hA (Nat.le_of_ble_eq_true rfl) ?_
  show RJ l cx 0 RX9 cX9_trace 2 (some .int) 0 [(0, .inr (.inr (9, 0, 0))), (1, .inl a0)] [] σ _
  refine R_iload_n dX9_trace_0 rfl 1 rfl ?_
  refine R_if_lt (tgt := 27) dX9_trace_1 (by decide) (fun c1 => ?_) (fun c1 => ?_)
  · have w := wp_t c1 w
    refine R_iconst (v := (-1)) dX9_trace_27 (by decide) ?_
    exact R_ireturn dX9_trace_28 rfl ⟨_, rfl, wp_some w⟩
  · have w := wp_f c1 w
    refine R_iload_n dX9_trace_4 rfl 1 rfl ?_
    refine R_aload_n dX9_trace_5 rfl 0 rfl ?_
    refine R_getfI (k := 47) acl9 oz9_0 (by decide) fl_RX9_332 dX9_trace_6 rfl ?_
    refine R_icmp_ge (tgt := 27) dX9_trace_9 (by decide) (fun c2 => ?_) (fun c2 => ?_)
    · have w := wp_f c2 w
      refine R_iconst (v := (-1)) dX9_trace_27 (by decide) ?_
      exact R_ireturn dX9_trace_28 rfl ⟨_, rfl, wp_some w⟩
    · have w := wp_t c2 w
      refine R_iload_n dX9_trace_12 rfl 1 rfl ?_
      refine R_bipush (v := 24) dX9_trace_13 (by decide) ?_
      refine R_icmp_ge (tgt := 27) dX9_trace_15 (by decide) (fun c3 => ?_) (fun c3 => ?_)
      · have w := wp_f c3 w
        refine R_iconst (v := (-1)) dX9_trace_27 (by decide) ?_
        exact R_ireturn dX9_trace_28 rfl ⟨_, rfl, wp_some w⟩
      · have w := wp_t c3 w
        refine R_aload_n dX9_trace_18 rfl 0 rfl ?_
        refine R_getfA (k := 46) acl9 oz9_0 (by decide) fl_RX9_85 dX9_trace_19 rfl ?_
        refine R_iload_n dX9_trace_22 rfl 1 rfl ?_
        obtain ⟨b4, w⟩ := wp_chk w
        refine R_iald rfl oz9_0 b4 dX9_trace_23 ?_
        refine R_goto (tgt := 28) dX9_trace_24 (by decide) ?_
        exact R_ireturn dX9_trace_28 rfl ⟨_, rfl, wp_some w⟩
def g_X9_undo (σ : AS) : Option (Int32 × AS) := (if gF σ 9 0 5 = 0 then some ((-5), σ) else (lt (sF σ 9 0 5 ((gF σ 9 0 5) - 1)) fun σ2 => (if inb (gF σ2 9 0 5) 40 then (if inb (gA σ2 9 0 1 (gF σ2 9 0 5)) 40 then (lt (sA σ2 9 0 0 (gA σ2 9 0 1 (gF σ2 9 0 5)) (gA σ2 9 0 2 (gF σ2 9 0 5))) fun σ5 => some (gF σ5 9 0 5, σ5)) else none) else none)))
set_option maxRecDepth 100000 in
set_option maxHeartbeats 4000000 in
theorem ct_X9_undo {l : Launch} {cx : CX} (hA : AD cx) (σ : AS) (Q : Int32 → AS → Prop) (w : wpO (g_X9_undo σ) Q) : AMet l cx 0 yX9_undo cX9_undo 1 (some .int) [.inr (.inr (9, 0, 0))] σ (QI Q) := by
  unfold g_X9_undo at w
  refine AMet.of (own := RX9) (by decide) rfl hA (Nat.le_of_ble_eq_true rfl) ?_
  show RJ l cx 0 RX9 cX9_undo 1 (some .int) 0 [(0, .inr (.inr (9, 0, 0)))] [] σ _
  refine R_aload_n dX9_undo_0 rfl 0 rfl ?_
  refine R_getfI (k := 5) acl9 oz9_0 (by decide) fl_RX9_105 dX9_undo_1 rfl ?_
  refine R_if_ne (tgt := 10) dX9_undo_4 (by decide) (fun c1 => ?_) (fun c1 => ?_)
  · have w := wp_f c1 w
    refine R_aload_n dX9_undo_10 rfl 0 rfl ?_
    refine R_dup dX9_undo_11 rfl ?_
    refine R_getfI (k := 5) acl9 oz9_0 (by decide) fl_RX9_105 dX9_undo_12 rfl ?_
    refine R_iconst (v := 1) dX9_undo_15 (by decide) ?_
    refine R_isub dX9_undo_16 ?_
    refine R_putf (k := 5) (ty := .int) acl9 oz9_0 (by decide) fl_RX9_105 rfl (tyX9_ok 5 (by decide)) (Or.inl rfl) dX9_undo_17 rfl ?_
    refine R_nameS w ?_; clear w; intro σ2 w
    refine R_aload_n dX9_undo_20 rfl 0 rfl ?_
    refine R_getfA (k := 0) acl9 oz9_0 (by decide) fl_RX9_9 dX9_undo_21 rfl ?_
    refine R_aload_n dX9_undo_24 rfl 0 rfl ?_
    refine R_getfA (k := 1) acl9 oz9_0 (by decide) fl_RX9_13 dX9_undo_25 rfl ?_
    refine R_aload_n dX9_undo_28 rfl 0 rfl ?_
    refine R_getfI (k := 5) acl9 oz9_0 (by decide) fl_RX9_105 dX9_undo_29 rfl ?_
    obtain ⟨b3, w⟩ := wp_chk w
    refine R_iald rfl oz9_0 b3 dX9_undo_32 ?_
    refine R_aload_n dX9_undo_33 rfl 0 rfl ?_
    refine R_getfA (k := 2) acl9 oz9_0 (by decide) fl_RX9_16 dX9_undo_34 rfl ?_
    refine R_aload_n dX9_undo_37 rfl 0 rfl ?_
    refine R_getfI (k := 5) acl9 oz9_0 (by decide) fl_RX9_105 dX9_undo_38 rfl ?_
    refine R_iald rfl oz9_0 b3 dX9_undo_41 ?_
    obtain ⟨b4, w⟩ := wp_chk w
    refine R_iast rfl oz9_0 b4 dX9_undo_42 ?_
    refine R_nameS w ?_; clear w; intro σ5 w
    refine R_aload_n dX9_undo_43 rfl 0 rfl ?_
    refine R_getfI (k := 5) acl9 oz9_0 (by decide) fl_RX9_105 dX9_undo_44 rfl ?_
    exact R_ireturn dX9_undo_47 rfl ⟨_, rfl, wp_some w⟩
  · have w := wp_t c1 w
    refine R_bipush (v := (-5)) dX9_undo_7 (by decide) ?_
    exact R_ireturn dX9_undo_9 rfl ⟨_, rfl, wp_some w⟩
def g_X9_wide (a0 : Int32) (a1 : Int32) (σ : AS) : Option (Int32 × AS) := (bnd (g_X9_within a0.toInt64 0 6 σ) fun r1 σ2 => (if r1 = 0 then some ((-1), σ2) else (bnd (g_X9_within a1.toInt64 0 9 σ2) fun r4 σ5 => (if r4 = 0 then some ((-1), σ5) else (if inb a0 7 then (lt (gA σ5 9 0 7 a0) fun x8 => (lt (sA σ5 9 0 7 a0 a1) fun σ9 => (bnd (g_X9_fits 9 a0 a1 σ9) fun _ σ10 => some (x8, σ10)))) else none)))))
set_option maxRecDepth 100000 in
set_option maxHeartbeats 4000000 in
theorem ct_X9_wide {l : Launch} {cx : CX} (hA : AD cx) (a0 : Int32) (a1 : Int32) (σ : AS) (Q : Int32 → AS → Prop) (w : wpO (g_X9_wide a0 a1 σ) Q) : AMet l cx 1 yX9_wide cX9_wide 4 (some .int) [.inr (.inr (9, 0, 0)), .inl a0, .inl a1] σ (QI Q) := by
  unfold g_X9_wide at w
  refine AMet.of (own := RX9) (by decide) rfl hA (Nat.le_of_ble_eq_true rfl) ?_
  show RJ l cx 1 RX9 cX9_wide 4 (some .int) 0 [(0, .inr (.inr (9, 0, 0))), (1, .inl a0), (2, .inl a1)] [] σ _
  refine R_iload_n dX9_wide_0 rfl 1 rfl ?_
  refine R_i2l dX9_wide_1 ?_
  refine R_lconst (v := 0) dX9_wide_2 (by decide) ?_
  refine R_ldc2 dX9_wide_3 ck_RX9_140 ?_
  refine R_callSI (As := [.inr (.inl a0.toInt64), .inr (.inl 0), .inr (.inl 6)]) mi_X9_within ml_RX9_114 rfl (Nat.le_of_ble_eq_true rfl) (by decide) dX9_wide_6 (ct_X9_within hA a0.toInt64 0 6 σ _ (wp_bnd w)) (fun r1 σ2 w => ?_)
  refine R_if_eq (tgt := 24) dX9_wide_9 (by decide) (fun c3 => ?_) (fun c3 => ?_)
  · have w := wp_t c3 w
    refine R_iconst (v := (-1)) dX9_wide_24 (by decide) ?_
    exact R_ireturn dX9_wide_25 rfl ⟨_, rfl, wp_some w⟩
  · have w := wp_f c3 w
    refine R_iload_n dX9_wide_12 rfl 2 rfl ?_
    refine R_i2l dX9_wide_13 ?_
    refine R_lconst (v := 0) dX9_wide_14 (by decide) ?_
    refine R_ldc2 dX9_wide_15 ck_RX9_122 ?_
    refine R_callSI (As := [.inr (.inl a1.toInt64), .inr (.inl 0), .inr (.inl 9)]) mi_X9_within ml_RX9_114 rfl (Nat.le_of_ble_eq_true rfl) (by decide) dX9_wide_18 (ct_X9_within hA a1.toInt64 0 9 σ2 _ (wp_bnd w)) (fun r4 σ5 w => ?_)
    refine R_if_ne (tgt := 26) dX9_wide_21 (by decide) (fun c6 => ?_) (fun c6 => ?_)
    · have w := wp_f c6 w
      refine R_aload_n dX9_wide_26 rfl 0 rfl ?_
      refine R_getfA (k := 7) acl9 oz9_0 (by decide) fl_RX9_22 dX9_wide_27 rfl ?_
      refine R_iload_n dX9_wide_30 rfl 1 rfl ?_
      obtain ⟨b7, w⟩ := wp_chk w
      refine R_iald rfl oz9_0 b7 dX9_wide_31 ?_
      refine R_nameI w ?_; clear w; intro x8 w
      refine R_istore_n (lv' := [(3, .inl x8), (0, .inr (.inr (9, 0, 0))), (1, .inl a0), (2, .inl a1)]) dX9_wide_32 rfl (by decide) rfl ?_
      refine R_aload_n dX9_wide_33 rfl 1 rfl ?_
      refine R_getfA (k := 7) acl9 oz9_0 (by decide) fl_RX9_22 dX9_wide_34 rfl ?_
      refine R_iload_n dX9_wide_37 rfl 2 rfl ?_
      refine R_iload_n dX9_wide_38 rfl 3 rfl ?_
      refine R_iast rfl oz9_0 b7 dX9_wide_39 ?_
      refine R_nameS w ?_; clear w; intro σ9 w
      refine R_aload_n dX9_wide_40 rfl 1 rfl ?_
      refine R_aload_n dX9_wide_41 rfl 1 rfl ?_
      refine R_getfA (k := 9) acl9 oz9_0 (by decide) fl_RX9_28 dX9_wide_42 rfl ?_
      refine R_iload_n dX9_wide_45 rfl 2 rfl ?_
      refine R_iload_n dX9_wide_46 rfl 3 rfl ?_
      refine R_callVV (As := [.inr (.inr (9, 0, 9 + 1)), .inl a0, .inl a1]) acl9 rfl oz9_0 mi_X9_fits ml_RX9_142 rfl (Nat.le_of_ble_eq_true rfl) (by decide) dX9_wide_47 (ct_X9_fits hA 9 rfl a0 a1 σ9 _ (wp_bnd w)) (fun σ10 w => ?_)
      refine R_iload_n dX9_wide_50 rfl 0 rfl ?_
      exact R_ireturn dX9_wide_51 rfl ⟨_, rfl, wp_some w⟩
    · have w := wp_t c6 w
      refine R_iconst (v := (-1)) dX9_wide_24 (by decide) ?_
      exact R_ireturn dX9_wide_25 rfl ⟨_, rfl, wp_some w⟩
def g_X9_wider_12    : Nat → Int32 → Int32 → Int32 → AS → Option (Int32 × AS)
  | 0, _, _, _, _ => none
  | f0 + 1, v1, v2, v3, σ => (if v3 < 10 then (bnd (g_X9_isCalm v1 v2 v3 σ) fun r5 σ6 => (if r5 = 0 then (g_X9_wider_12 f0) v1 v2 (v3 + 1) σ6 else some (v3, σ6))) else some ((-2), σ))
set_option maxRecDepth 100000 in
set_option maxHeartbeats 4000000 in
theorem rk_X9_wider_12 {l : Launch} {cx : CX} (hA : AD cx)    (Q : Int32 → AS → Prop) : ∀ (f0 : Nat) (v1 : Int32) (v2 : Int32) (v3 : Int32) (σ : AS), wpO (g_X9_wider_12 f0 v1 v2 v3 σ) Q → RJ l cx 109 RX9 cX9_wider 4 (some .int) 12 [(0, .inr (.inr (9, 0, 0))), (1, .inl v1), (2, .inl v2), (3, .inl v3)] [] σ (QI Q) := by
  intro f0
  induction f0 with
  | zero => intro v1 v2 v3 σ w; exact wp_no w
  | succ f0 ih =>
    intro v1 v2 v3 σ w
    rw [g_X9_wider_12] at w
    refine R_iload_n dX9_wider_12 rfl 3 rfl ?_
    refine R_bipush (v := 10) dX9_wider_13 (by decide) ?_
    refine R_icmp_ge (tgt := 36) dX9_wider_15 (by decide) (fun c4 => ?_) (fun c4 => ?_)
    · have w := wp_f c4 w
      refine R_bipush (v := (-2)) dX9_wider_36 (by decide) ?_
      exact R_ireturn dX9_wider_38 rfl ⟨_, rfl, wp_some w⟩
    · have w := wp_t c4 w
      refine R_aload_n dX9_wider_18 rfl 0 rfl ?_
      refine R_iload_n dX9_wider_19 rfl 1 rfl ?_
      refine R_iload_n dX9_wider_20 rfl 2 rfl ?_
      refine R_iload_n dX9_wider_21 rfl 3 rfl ?_
      refine R_callVI (As := [.inl v1, .inl v2, .inl v3]) acl9 rfl oz9_0 mi_X9_isCalm ml_RX9_295 rfl (Nat.le_of_ble_eq_true rfl) (by decide) dX9_wider_22 (ct_X9_isCalm hA v1 v2 v3 σ _ (wp_bnd w)) (fun r5 σ6 w => ?_)
      refine R_if_eq (tgt := 30) dX9_wider_25 (by decide) (fun c7 => ?_) (fun c7 => ?_)
      · have w := wp_t c7 w
        refine R_iinc (v := v3 + 1) (lv' := [(3, .inl (v3 + 1)), (0, .inr (.inr (9, 0, 0))), (1, .inl v1), (2, .inl v2)]) dX9_wider_30 3 rfl rfl (by decide) rfl ?_
        refine R_goto (tgt := 12) dX9_wider_33 (by decide) ?_
        refine R_sub [1, 2, 3, 0] rfl ?_
        exact ih v1 v2 (v3 + 1) σ6 w
      · have w := wp_f c7 w
        refine R_iload_n dX9_wider_28 rfl 3 rfl ?_
        exact R_ireturn dX9_wider_29 rfl ⟨_, rfl, wp_some w⟩
def g_X9_wider (a0 : Int32) (a1 : Int32) (σ : AS) : Option (Int32 × AS) := (bnd (g_X9_isRest a1 σ) fun r1 σ2 => (if r1 = 0 then some ((-1), σ2) else g_X9_wider_12 400 a0 a1 0 σ2))
set_option maxRecDepth 100000 in
set_option maxHeartbeats 4000000 in
theorem ct_X9_wider {l : Launch} {cx : CX} (hA : AD cx) (a0 : Int32) (a1 : Int32) (σ : AS) (Q : Int32 → AS → Prop) (w : wpO (g_X9_wider a0 a1 σ) Q) : AMet l cx 109 yX9_wider cX9_wider 4 (some .int) [.inr (.inr (9, 0, 0)), .inl a0, .inl a1] σ (QI Q) := by
  unfold g_X9_wider at w
  refine AMet.of (own := RX9) (by decide) rfl hA (Nat.le_of_ble_eq_true rfl) ?_
  show RJ l cx 109 RX9 cX9_wider 4 (some .int) 0 [(0, .inr (.inr (9, 0, 0))), (1, .inl a0), (2, .inl a1)] [] σ _
  refine R_aload_n dX9_wider_0 rfl 0 rfl ?_
  refine R_iload_n dX9_wider_1 rfl 2 rfl ?_
  refine R_callVI (As := [.inl a1]) acl9 rfl oz9_0 mi_X9_isRest ml_RX9_168 rfl (Nat.le_of_ble_eq_true rfl) (by decide) dX9_wider_2 (ct_X9_isRest hA a1 σ _ (wp_bnd w)) (fun r1 σ2 w => ?_)
  refine R_if_ne (tgt := 10) dX9_wider_5 (by decide) (fun c3 => ?_) (fun c3 => ?_)
  · have w := wp_f c3 w
    refine R_iconst (v := 0) dX9_wider_10 (by decide) ?_
    refine R_istore_n (lv' := [(3, .inl 0), (0, .inr (.inr (9, 0, 0))), (1, .inl a0), (2, .inl a1)]) dX9_wider_11 rfl (by decide) rfl ?_
    refine R_sub [1, 2, 3, 0] rfl ?_
    exact rk_X9_wider_12 hA _ 400 a0 a1 0 σ2 w
  · have w := wp_t c3 w
    refine R_iconst (v := (-1)) dX9_wider_8 (by decide) ?_
    exact R_ireturn dX9_wider_9 rfl ⟨_, rfl, wp_some w⟩
