def g_X5_hasPlace (o : Nat) (a0 : Int32) (σ : AS) : Option (Int32 × AS) := (if a0 < 0 then some (0, σ) else (if a0 < gF σ 5 o 1 then some (1, σ) else some (0, σ)))
set_option maxRecDepth 100000 in
set_option maxHeartbeats 4000000 in
theorem ct_X5_hasPlace {l : Launch} {cx : CX} (hA : AD cx) (o : Nat) (ho : o < am_cnt 5) (a0 : Int32) (σ : AS) (Q : Int32 → AS → Prop) (w : wpO (g_X5_hasPlace o a0 σ) Q) : AMet l cx 0 yX5_hasPlace cX5_hasPlace 2 (some .boolean) [.inr (.inr (5, o, 0)), .inl a0] σ (QI Q) := by
  unfold g_X5_hasPlace at w
  refine AMet.of (own := RX5) (by decide) rfl hA (Nat.le_of_ble_eq_true rfl) ?_
  show RJ l cx 0 RX5 cX5_hasPlace 2 (some .boolean) 0 [(0, .inr (.inr (5, o, 0))), (1, .inl a0)] [] σ _
  refine R_iload_n dX5_hasPlace_0 rfl 1 rfl ?_
  refine R_if_lt (tgt := 16) dX5_hasPlace_1 (by decide) (fun c1 => ?_) (fun c1 => ?_)
  · have w := wp_t c1 w
    refine R_iconst (v := 0) dX5_hasPlace_16 (by decide) ?_
    exact R_zreturn dX5_hasPlace_17 rfl (by decide) ⟨_, rfl, wp_some w⟩
  · have w := wp_f c1 w
    refine R_iload_n dX5_hasPlace_4 rfl 1 rfl ?_
    refine R_aload_n dX5_hasPlace_5 rfl 0 rfl ?_
    refine R_getfI (k := 1) acl5 ho (by decide) fl_RX5_15 dX5_hasPlace_6 rfl ?_
    refine R_icmp_ge (tgt := 16) dX5_hasPlace_9 (by decide) (fun c2 => ?_) (fun c2 => ?_)
    · have w := wp_f c2 w
      refine R_iconst (v := 0) dX5_hasPlace_16 (by decide) ?_
      exact R_zreturn dX5_hasPlace_17 rfl (by decide) ⟨_, rfl, wp_some w⟩
    · have w := wp_t c2 w
      refine R_iconst (v := 1) dX5_hasPlace_12 (by decide) ?_
      refine R_goto (tgt := 17) dX5_hasPlace_13 (by decide) ?_
      exact R_zreturn dX5_hasPlace_17 rfl (by decide) ⟨_, rfl, wp_some w⟩
def g_X5_at (o : Nat) (a0 : Int32) (σ : AS) : Option (Int64 × AS) := (bnd (g_X5_hasPlace o a0 σ) fun r1 σ2 => (if r1 = 0 then some (0, σ2) else (if inb a0 60 then some (gL σ2 5 o 0 a0, σ2) else none)))
set_option maxRecDepth 100000 in
set_option maxHeartbeats 4000000 in
theorem ct_X5_at {l : Launch} {cx : CX} (hA : AD cx) (o : Nat) (ho : o < am_cnt 5) (a0 : Int32) (σ : AS) (Q : Int64 → AS → Prop) (w : wpO (g_X5_at o a0 σ) Q) : AMet l cx 1 yX5_at cX5_at 2 (some .long) [.inr (.inr (5, o, 0)), .inl a0] σ (QJ Q) := by
  unfold g_X5_at at w
  refine AMet.of (own := RX5) (by decide) rfl hA (Nat.le_of_ble_eq_true rfl) ?_
  show RJ l cx 1 RX5 cX5_at 2 (some .long) 0 [(0, .inr (.inr (5, o, 0))), (1, .inl a0)] [] σ _
  refine R_aload_n dX5_at_0 rfl 0 rfl ?_
  refine R_iload_n dX5_at_1 rfl 1 rfl ?_
  refine R_callVI (As := [.inl a0]) acl5 rfl ho mi_X5_hasPlace ml_RX5_35 rfl (Nat.le_of_ble_eq_true rfl) (by decide) dX5_at_2 (ct_X5_hasPlace hA o ho a0 σ _ (wp_bnd w)) (fun r1 σ2 w => ?_)
  refine R_if_eq (tgt := 17) dX5_at_5 (by decide) (fun c3 => ?_) (fun c3 => ?_)
  · have w := wp_t c3 w
    refine R_lconst (v := 0) dX5_at_17 (by decide) ?_
    exact R_lreturn dX5_at_18 rfl ⟨_, rfl, wp_some w⟩
  · have w := wp_f c3 w
    refine R_aload_n dX5_at_8 rfl 0 rfl ?_
    refine R_getfA (k := 0) acl5 ho (by decide) fl_RX5_11 dX5_at_9 rfl ?_
    refine R_iload_n dX5_at_12 rfl 1 rfl ?_
    obtain ⟨b4, w⟩ := wp_chk w
    refine R_lald rfl ho b4 dX5_at_13 ?_
    refine R_goto (tgt := 18) dX5_at_14 (by decide) ?_
    exact R_lreturn dX5_at_18 rfl ⟨_, rfl, wp_some w⟩
def g_X5_hasPlaces (o : Nat) (a0 : Int32) (a1 : Int32) (σ : AS) : Option (Int32 × AS) := (if a0 < 0 then some (0, σ) else (if a1 < 0 then some (0, σ) else (if (gF σ 5 o 1) - a1 < a0 then some (0, σ) else some (1, σ))))
set_option maxRecDepth 100000 in
set_option maxHeartbeats 4000000 in
theorem ct_X5_hasPlaces {l : Launch} {cx : CX} (hA : AD cx) (o : Nat) (ho : o < am_cnt 5) (a0 : Int32) (a1 : Int32) (σ : AS) (Q : Int32 → AS → Prop) (w : wpO (g_X5_hasPlaces o a0 a1 σ) Q) : AMet l cx 0 yX5_hasPlaces cX5_hasPlaces 3 (some .boolean) [.inr (.inr (5, o, 0)), .inl a0, .inl a1] σ (QI Q) := by
  unfold g_X5_hasPlaces at w
  refine AMet.of (own := RX5) (by decide) rfl hA (Nat.le_of_ble_eq_true rfl) ?_
  show RJ l cx 0 RX5 cX5_hasPlaces 3 (some .boolean) 0 [(0, .inr (.inr (5, o, 0))), (1, .inl a0), (2, .inl a1)] [] σ _
  refine R_iload_n dX5_hasPlaces_0 rfl 1 rfl ?_
  refine R_if_lt (tgt := 22) dX5_hasPlaces_1 (by decide) (fun c1 => ?_) (fun c1 => ?_)
  · have w := wp_t c1 w
    refine R_iconst (v := 0) dX5_hasPlaces_22 (by decide) ?_
    exact R_zreturn dX5_hasPlaces_23 rfl (by decide) ⟨_, rfl, wp_some w⟩
  · have w := wp_f c1 w
    refine R_iload_n dX5_hasPlaces_4 rfl 2 rfl ?_
    refine R_if_lt (tgt := 22) dX5_hasPlaces_5 (by decide) (fun c2 => ?_) (fun c2 => ?_)
    · have w := wp_t c2 w
      refine R_iconst (v := 0) dX5_hasPlaces_22 (by decide) ?_
      exact R_zreturn dX5_hasPlaces_23 rfl (by decide) ⟨_, rfl, wp_some w⟩
    · have w := wp_f c2 w
      refine R_iload_n dX5_hasPlaces_8 rfl 1 rfl ?_
      refine R_aload_n dX5_hasPlaces_9 rfl 0 rfl ?_
      refine R_getfI (k := 1) acl5 ho (by decide) fl_RX5_15 dX5_hasPlaces_10 rfl ?_
      refine R_iload_n dX5_hasPlaces_13 rfl 2 rfl ?_
      refine R_isub dX5_hasPlaces_14 ?_
      refine R_icmp_gt (tgt := 22) dX5_hasPlaces_15 (by decide) (fun c3 => ?_) (fun c3 => ?_)
      · have w := wp_t c3 w
        refine R_iconst (v := 0) dX5_hasPlaces_22 (by decide) ?_
        exact R_zreturn dX5_hasPlaces_23 rfl (by decide) ⟨_, rfl, wp_some w⟩
      · have w := wp_f c3 w
        refine R_iconst (v := 1) dX5_hasPlaces_18 (by decide) ?_
        refine R_goto (tgt := 23) dX5_hasPlaces_19 (by decide) ?_
        exact R_zreturn dX5_hasPlaces_23 rfl (by decide) ⟨_, rfl, wp_some w⟩
def g_X6_become (a0 : Int32) (a1 : Int32) (a2 : Int32) (σ : AS) : Option (Unit × AS) := (bnd (g_X6_has a0 σ) fun r1 σ2 => (if r1 = 0 then some ((), σ2) else (if a1 < 0 then some ((), σ2) else (if a1 < 5 then (if inb ((a0 * 5) + a1) 40 then (lt (sA σ2 6 0 0 ((a0 * 5) + a1) a2) fun σ7 => some ((), σ7)) else none) else some ((), σ2)))))
set_option maxRecDepth 100000 in
set_option maxHeartbeats 4000000 in
theorem ct_X6_become {l : Launch} {cx : CX} (hA : AD cx) (a0 : Int32) (a1 : Int32) (a2 : Int32) (σ : AS) (Q : Unit → AS → Prop) (w : wpO (g_X6_become a0 a1 a2 σ) Q) : AMet l cx 1 yX6_become cX6_become 4 none [.inr (.inr (6, 0, 0)), .inl a0, .inl a1, .inl a2] σ (QV Q) := by
  unfold g_X6_become at w
  refine AMet.of (own := RX6) (by decide) rfl hA (Nat.le_of_ble_eq_true rfl) ?_
  show RJ l cx 1 RX6 cX6_become 4 none 0 [(0, .inr (.inr (6, 0, 0))), (1, .inl a0), (2, .inl a1), (3, .inl a2)] [] σ _
  refine R_aload_n dX6_become_0 rfl 0 rfl ?_
  refine R_iload_n dX6_become_1 rfl 1 rfl ?_
  refine R_callVI (As := [.inl a0]) acl6 rfl oz6_0 mi_X6_has ml_RX6_26 rfl (Nat.le_of_ble_eq_true rfl) (by decide) dX6_become_2 (ct_X6_has hA a0 σ _ (wp_bnd w)) (fun r1 σ2 w => ?_)
  refine R_if_eq (tgt := 17) dX6_become_5 (by decide) (fun c3 => ?_) (fun c3 => ?_)
  · have w := wp_t c3 w
    exact R_vreturn dX6_become_17 rfl ⟨rfl, wp_some w⟩
  · have w := wp_f c3 w
    refine R_iload_n dX6_become_8 rfl 2 rfl ?_
    refine R_if_lt (tgt := 17) dX6_become_9 (by decide) (fun c4 => ?_) (fun c4 => ?_)
    · have w := wp_t c4 w
      exact R_vreturn dX6_become_17 rfl ⟨rfl, wp_some w⟩
    · have w := wp_f c4 w
      refine R_iload_n dX6_become_12 rfl 2 rfl ?_
      refine R_iconst (v := 5) dX6_become_13 (by decide) ?_
      refine R_icmp_lt (tgt := 18) dX6_become_14 (by decide) (fun c5 => ?_) (fun c5 => ?_)
      · have w := wp_t c5 w
        refine R_aload_n dX6_become_18 rfl 0 rfl ?_
        refine R_getfA (k := 0) acl6 oz6_0 (by decide) fl_RX6_9 dX6_become_19 rfl ?_
        refine R_iload_n dX6_become_22 rfl 1 rfl ?_
        refine R_iconst (v := 5) dX6_become_23 (by decide) ?_
        refine R_imul dX6_become_24 ?_
        refine R_iload_n dX6_become_25 rfl 2 rfl ?_
        refine R_iadd dX6_become_26 ?_
        refine R_iload_n dX6_become_27 rfl 3 rfl ?_
        obtain ⟨b6, w⟩ := wp_chk w
        refine R_iast rfl oz6_0 b6 dX6_become_28 ?_
        refine R_nameS w ?_; clear w; intro σ7 w
        exact R_vreturn dX6_become_29 rfl ⟨rfl, wp_some w⟩
      · have w := wp_f c5 w
        exact R_vreturn dX6_become_17 rfl ⟨rfl, wp_some w⟩
def g_X6_add (a0 : Int32) (a1 : Int32) (a2 : Int32) (σ : AS) : Option (Int32 × AS) := (if gF σ 6 0 2 < 8 then (lt (sF σ 6 0 2 ((gF σ 6 0 2) + 1)) fun σ2 => (bnd (g_X6_become ((gF σ2 6 0 2) - 1) 0 a0 σ2) fun _ σ3 => (bnd (g_X6_become ((gF σ3 6 0 2) - 1) 1 a1 σ3) fun _ σ4 => (bnd (g_X6_become ((gF σ4 6 0 2) - 1) 2 a2 σ4) fun _ σ5 => some ((gF σ5 6 0 2) - 1, σ5))))) else some ((-3), σ))
set_option maxRecDepth 100000 in
set_option maxHeartbeats 4000000 in
theorem ct_X6_add {l : Launch} {cx : CX} (hA : AD cx) (a0 : Int32) (a1 : Int32) (a2 : Int32) (σ : AS) (Q : Int32 → AS → Prop) (w : wpO (g_X6_add a0 a1 a2 σ) Q) : AMet l cx 2 yX6_add cX6_add 4 (some .int) [.inr (.inr (6, 0, 0)), .inl a0, .inl a1, .inl a2] σ (QI Q) := by
  unfold g_X6_add at w
  refine AMet.of (own := RX6) (by decide) rfl hA (Nat.le_of_ble_eq_true rfl) ?_
  show RJ l cx 2 RX6 cX6_add 4 (some .int) 0 [(0, .inr (.inr (6, 0, 0))), (1, .inl a0), (2, .inl a1), (3, .inl a2)] [] σ _
  refine R_aload_n dX6_add_0 rfl 0 rfl ?_
  refine R_getfI (k := 2) acl6 oz6_0 (by decide) fl_RX6_18 dX6_add_1 rfl ?_
  refine R_bipush (v := 8) dX6_add_4 (by decide) ?_
  refine R_icmp_lt (tgt := 12) dX6_add_6 (by decide) (fun c1 => ?_) (fun c1 => ?_)
  · have w := wp_t c1 w
    refine R_aload_n dX6_add_12 rfl 0 rfl ?_
    refine R_dup dX6_add_13 rfl ?_
    refine R_getfI (k := 2) acl6 oz6_0 (by decide) fl_RX6_18 dX6_add_14 rfl ?_
    refine R_iconst (v := 1) dX6_add_17 (by decide) ?_
    refine R_iadd dX6_add_18 ?_
    refine R_putf (k := 2) (ty := .int) acl6 oz6_0 (by decide) fl_RX6_18 rfl (tyX6_ok 2 (by decide)) (Or.inl rfl) dX6_add_19 rfl ?_
    refine R_nameS w ?_; clear w; intro σ2 w
    refine R_aload_n dX6_add_22 rfl 0 rfl ?_
    refine R_aload_n dX6_add_23 rfl 0 rfl ?_
    refine R_getfI (k := 2) acl6 oz6_0 (by decide) fl_RX6_18 dX6_add_24 rfl ?_
    refine R_iconst (v := 1) dX6_add_27 (by decide) ?_
    refine R_isub dX6_add_28 ?_
    refine R_iconst (v := 0) dX6_add_29 (by decide) ?_
    refine R_iload_n dX6_add_30 rfl 1 rfl ?_
    refine R_callVV (As := [.inl ((gF σ2 6 0 2) - 1), .inl 0, .inl a0]) acl6 rfl oz6_0 mi_X6_become ml_RX6_22 rfl (Nat.le_of_ble_eq_true rfl) (by decide) dX6_add_31 (ct_X6_become hA ((gF σ2 6 0 2) - 1) 0 a0 σ2 _ (wp_bnd w)) (fun σ3 w => ?_)
    refine R_aload_n dX6_add_34 rfl 0 rfl ?_
    refine R_aload_n dX6_add_35 rfl 0 rfl ?_
    refine R_getfI (k := 2) acl6 oz6_0 (by decide) fl_RX6_18 dX6_add_36 rfl ?_
    refine R_iconst (v := 1) dX6_add_39 (by decide) ?_
    refine R_isub dX6_add_40 ?_
    refine R_iconst (v := 1) dX6_add_41 (by decide) ?_
    refine R_iload_n dX6_add_42 rfl 2 rfl ?_
    refine R_callVV (As := [.inl ((gF σ3 6 0 2) - 1), .inl 1, .inl a1]) acl6 rfl oz6_0 mi_X6_become ml_RX6_22 rfl (Nat.le_of_ble_eq_true rfl) (by decide) dX6_add_43 (ct_X6_become hA ((gF σ3 6 0 2) - 1) 1 a1 σ3 _ (wp_bnd w)) (fun σ4 w => ?_)
    refine R_aload_n dX6_add_46 rfl 0 rfl ?_
    refine R_aload_n dX6_add_47 rfl 0 rfl ?_
    refine R_getfI (k := 2) acl6 oz6_0 (by decide) fl_RX6_18 dX6_add_48 rfl ?_
    refine R_iconst (v := 1) dX6_add_51 (by decide) ?_
    refine R_isub dX6_add_52 ?_
    refine R_iconst (v := 2) dX6_add_53 (by decide) ?_
    refine R_iload_n dX6_add_54 rfl 3 rfl ?_
    refine R_callVV (As := [.inl ((gF σ4 6 0 2) - 1), .inl 2, .inl a2]) acl6 rfl oz6_0 mi_X6_become ml_RX6_22 rfl (Nat.le_of_ble_eq_true rfl) (by decide) dX6_add_55 (ct_X6_become hA ((gF σ4 6 0 2) - 1) 2 a2 σ4 _ (wp_bnd w)) (fun σ5 w => ?_)
    refine R_aload_n dX6_add_58 rfl 0 rfl ?_
    refine R_getfI (k := 2) acl6 oz6_0 (by decide) fl_RX6_18 dX6_add_59 rfl ?_
    refine R_iconst (v := 1) dX6_add_62 (by decide) ?_
    refine R_isub dX6_add_63 ?_
    exact R_ireturn dX6_add_64 rfl ⟨_, rfl, wp_some w⟩
  · have w := wp_f c1 w
    refine R_bipush (v := (-3)) dX6_add_9 (by decide) ?_
    exact R_ireturn dX6_add_11 rfl ⟨_, rfl, wp_some w⟩
def g_X8_isDigit (a0 : Int64) (σ : AS) : Option (Int32 × AS) := (if lg_cmp a0 0 < 0 then some (0, σ) else (if (0 : Int32) < lg_cmp a0 9 then some (0, σ) else some (1, σ)))
set_option maxRecDepth 100000 in
set_option maxHeartbeats 4000000 in
theorem ct_X8_isDigit {l : Launch} {cx : CX} (hA : AD cx) (a0 : Int64) (σ : AS) (Q : Int32 → AS → Prop) (w : wpO (g_X8_isDigit a0 σ) Q) : AMet l cx 0 yX8_isDigit cX8_isDigit 2 (some .boolean) [.inr (.inl a0)] σ (QI Q) := by
  unfold g_X8_isDigit at w
  refine AMet.of (own := RX8) (by decide) rfl hA (Nat.le_of_ble_eq_true rfl) ?_
  show RJ l cx 0 RX8 cX8_isDigit 2 (some .boolean) 0 [(0, .inr (.inl a0))] [] σ _
  refine R_lload_n dX8_isDigit_0 rfl 0 rfl ?_
  refine R_lconst (v := 0) dX8_isDigit_1 (by decide) ?_
  refine R_lcmp dX8_isDigit_2 ?_
  refine R_if_lt (tgt := 18) dX8_isDigit_3 (by decide) (fun c1 => ?_) (fun c1 => ?_)
  · have w := wp_t c1 w
    refine R_iconst (v := 0) dX8_isDigit_18 (by decide) ?_
    exact R_zreturn dX8_isDigit_19 rfl (by decide) ⟨_, rfl, wp_some w⟩
  · have w := wp_f c1 w
    refine R_lload_n dX8_isDigit_6 rfl 0 rfl ?_
    refine R_ldc2 dX8_isDigit_7 ck_RX8_329 ?_
    refine R_lcmp dX8_isDigit_10 ?_
    refine R_if_gt (tgt := 18) dX8_isDigit_11 (by decide) (fun c2 => ?_) (fun c2 => ?_)
    · have w := wp_t c2 w
      refine R_iconst (v := 0) dX8_isDigit_18 (by decide) ?_
      exact R_zreturn dX8_isDigit_19 rfl (by decide) ⟨_, rfl, wp_some w⟩
    · have w := wp_f c2 w
      refine R_iconst (v := 1) dX8_isDigit_14 (by decide) ?_
      refine R_goto (tgt := 19) dX8_isDigit_15 (by decide) ?_
      exact R_zreturn dX8_isDigit_19 rfl (by decide) ⟨_, rfl, wp_some w⟩
def g_X8_comesFrom (o1 : Nat) (a1 : Int32) (σ : AS) : Option (Int32 × AS) := (bnd (g_X5_hasPlaces o1 a1 3 σ) fun r1 σ2 => (if r1 = 0 then some (0, σ2) else (bnd (g_X5_at o1 a1 σ2) fun r4 σ5 => (bnd (g_X5_at o1 (a1 + 1) σ5) fun r6 σ7 => (bnd (g_X5_at o1 (a1 + 2) σ7) fun r8 σ9 => (bnd (g_X8_isDigit r4 σ9) fun r10 σ11 => (if r10 = 0 then some (0, σ11) else (bnd (g_X8_isDigit r6 σ11) fun r13 σ14 => (if r13 = 0 then some (0, σ14) else (bnd (g_X8_isDigit r8 σ14) fun r16 σ17 => (if r16 = 0 then some (0, σ17) else (bnd (g_X6_add r4.toInt32 r6.toInt32 r8.toInt32 σ17) fun r19 σ20 => (if r19 = (-3) then some (0, σ20) else some (1, σ20))))))))))))))
set_option maxRecDepth 100000 in
set_option maxHeartbeats 4000000 in
theorem ct_X8_comesFrom {l : Launch} {cx : CX} (hA : AD cx) (o1 : Nat) (ho1 : o1 < am_cnt 5) (a1 : Int32) (σ : AS) (Q : Int32 → AS → Prop) (w : wpO (g_X8_comesFrom o1 a1 σ) Q) : AMet l cx 3 yX8_comesFrom cX8_comesFrom 9 (some .boolean) [.inr (.inr (8, 0, 0)), .inr (.inr (5, o1, 0)), .inl a1] σ (QI Q) := by
  unfold g_X8_comesFrom at w
  refine AMet.of (own := RX8) (by decide) rfl hA (Nat.le_of_ble_eq_true rfl) ?_
  show RJ l cx 3 RX8 cX8_comesFrom 9 (some .boolean) 0 [(0, .inr (.inr (8, 0, 0))), (1, .inr (.inr (5, o1, 0))), (2, .inl a1)] [] σ _
  refine R_aload_n dX8_comesFrom_0 rfl 1 rfl ?_
  refine R_iload_n dX8_comesFrom_1 rfl 2 rfl ?_
  refine R_iconst (v := 3) dX8_comesFrom_2 (by decide) ?_
  refine R_callVI (As := [.inl a1, .inl 3]) acl5 rfl ho1 mi_X5_hasPlaces ml_RX8_287 rfl (Nat.le_of_ble_eq_true rfl) (by decide) dX8_comesFrom_3 (ct_X5_hasPlaces hA o1 ho1 a1 3 σ _ (wp_bnd w)) (fun r1 σ2 w => ?_)
  refine R_if_ne (tgt := 11) dX8_comesFrom_6 (by decide) (fun c3 => ?_) (fun c3 => ?_)
  · have w := wp_f c3 w
    refine R_aload_n dX8_comesFrom_11 rfl 1 rfl ?_
    refine R_iload_n dX8_comesFrom_12 rfl 2 rfl ?_
    refine R_callVJ (As := [.inl a1]) acl5 rfl ho1 mi_X5_at ml_RX8_280 rfl (Nat.le_of_ble_eq_true rfl) (by decide) dX8_comesFrom_13 (ct_X5_at hA o1 ho1 a1 σ2 _ (wp_bnd w)) (fun r4 σ5 w => ?_)
    refine R_lstore_n (lv' := [(3, .inr (.inl r4)), (0, .inr (.inr (8, 0, 0))), (1, .inr (.inr (5, o1, 0))), (2, .inl a1)]) dX8_comesFrom_16 rfl (by decide) rfl ?_
    refine R_aload_n dX8_comesFrom_17 rfl 2 rfl ?_
    refine R_iload_n dX8_comesFrom_18 rfl 3 rfl ?_
    refine R_iconst (v := 1) dX8_comesFrom_19 (by decide) ?_
    refine R_iadd dX8_comesFrom_20 ?_
    refine R_callVJ (As := [.inl (a1 + 1)]) acl5 rfl ho1 mi_X5_at ml_RX8_280 rfl (Nat.le_of_ble_eq_true rfl) (by decide) dX8_comesFrom_21 (ct_X5_at hA o1 ho1 (a1 + 1) σ5 _ (wp_bnd w)) (fun r6 σ7 w => ?_)
    refine R_lstore (lv' := [(5, .inr (.inl r6)), (3, .inr (.inl r4)), (0, .inr (.inr (8, 0, 0))), (1, .inr (.inr (5, o1, 0))), (2, .inl a1)]) dX8_comesFrom_24 (by decide) rfl ?_
    refine R_aload_n dX8_comesFrom_26 rfl 3 rfl ?_
    refine R_iload_n dX8_comesFrom_27 rfl 4 rfl ?_
    refine R_iconst (v := 2) dX8_comesFrom_28 (by decide) ?_
    refine R_iadd dX8_comesFrom_29 ?_
    refine R_callVJ (As := [.inl (a1 + 2)]) acl5 rfl ho1 mi_X5_at ml_RX8_280 rfl (Nat.le_of_ble_eq_true rfl) (by decide) dX8_comesFrom_30 (ct_X5_at hA o1 ho1 (a1 + 2) σ7 _ (wp_bnd w)) (fun r8 σ9 w => ?_)
    refine R_lstore (lv' := [(7, .inr (.inl r8)), (5, .inr (.inl r6)), (3, .inr (.inl r4)), (0, .inr (.inr (8, 0, 0))), (1, .inr (.inr (5, o1, 0))), (2, .inl a1)]) dX8_comesFrom_33 (by decide) rfl ?_
    refine R_lload_n dX8_comesFrom_35 rfl 2 rfl ?_
    refine R_callSI (As := [.inr (.inl r4)]) mi_X8_isDigit ml_RX8_325 rfl (Nat.le_of_ble_eq_true rfl) (by decide) dX8_comesFrom_36 (ct_X8_isDigit hA r4 σ9 _ (wp_bnd w)) (fun r10 σ11 w => ?_)
    refine R_if_eq (tgt := 58) dX8_comesFrom_39 (by decide) (fun c12 => ?_) (fun c12 => ?_)
    · have w := wp_t c12 w
      refine R_iconst (v := 0) dX8_comesFrom_58 (by decide) ?_
      exact R_zreturn dX8_comesFrom_59 rfl (by decide) ⟨_, rfl, wp_some w⟩
    · have w := wp_f c12 w
      refine R_lload dX8_comesFrom_42 1 rfl ?_
      refine R_callSI (As := [.inr (.inl r6)]) mi_X8_isDigit ml_RX8_325 rfl (Nat.le_of_ble_eq_true rfl) (by decide) dX8_comesFrom_44 (ct_X8_isDigit hA r6 σ11 _ (wp_bnd w)) (fun r13 σ14 w => ?_)
      refine R_if_eq (tgt := 58) dX8_comesFrom_47 (by decide) (fun c15 => ?_) (fun c15 => ?_)
      · have w := wp_t c15 w
        refine R_iconst (v := 0) dX8_comesFrom_58 (by decide) ?_
        exact R_zreturn dX8_comesFrom_59 rfl (by decide) ⟨_, rfl, wp_some w⟩
      · have w := wp_f c15 w
        refine R_lload dX8_comesFrom_50 0 rfl ?_
        refine R_callSI (As := [.inr (.inl r8)]) mi_X8_isDigit ml_RX8_325 rfl (Nat.le_of_ble_eq_true rfl) (by decide) dX8_comesFrom_52 (ct_X8_isDigit hA r8 σ14 _ (wp_bnd w)) (fun r16 σ17 w => ?_)
        refine R_if_ne (tgt := 60) dX8_comesFrom_55 (by decide) (fun c18 => ?_) (fun c18 => ?_)
        · have w := wp_f c18 w
          refine R_aload_n dX8_comesFrom_60 rfl 3 rfl ?_
          refine R_getfO (k := 0) acl8 oz8_0 (by decide) fl_RX8_10 dX8_comesFrom_61 rfl ?_
          refine R_lload_n dX8_comesFrom_64 rfl 2 rfl ?_
          refine R_l2i dX8_comesFrom_65 ?_
          refine R_lload dX8_comesFrom_66 1 rfl ?_
          refine R_l2i dX8_comesFrom_68 ?_
          refine R_lload dX8_comesFrom_69 0 rfl ?_
          refine R_l2i dX8_comesFrom_71 ?_
          refine R_callVI (As := [.inl r4.toInt32, .inl r6.toInt32, .inl r8.toInt32]) acl6 rfl oz6_0 mi_X6_add ml_RX8_84 rfl (Nat.le_of_ble_eq_true rfl) (by decide) dX8_comesFrom_72 (ct_X6_add hA r4.toInt32 r6.toInt32 r8.toInt32 σ17 _ (wp_bnd w)) (fun r19 σ20 w => ?_)
          refine R_bipush (v := (-3)) dX8_comesFrom_75 (by decide) ?_
          refine R_icmp_eq (tgt := 84) dX8_comesFrom_77 (by decide) (fun c21 => ?_) (fun c21 => ?_)
          · have w := wp_t c21 w
            refine R_iconst (v := 0) dX8_comesFrom_84 (by decide) ?_
            exact R_zreturn dX8_comesFrom_85 rfl (by decide) ⟨_, rfl, wp_some w⟩
          · have w := wp_f c21 w
            refine R_iconst (v := 1) dX8_comesFrom_80 (by decide) ?_
            refine R_goto (tgt := 85) dX8_comesFrom_81 (by decide) ?_
            exact R_zreturn dX8_comesFrom_85 rfl (by decide) ⟨_, rfl, wp_some w⟩
        · have w := wp_t c18 w
          refine R_iconst (v := 0) dX8_comesFrom_58 (by decide) ?_
          exact R_zreturn dX8_comesFrom_59 rfl (by decide) ⟨_, rfl, wp_some w⟩
  · have w := wp_t c3 w
    refine R_iconst (v := 0) dX8_comesFrom_9 (by decide) ?_
    exact R_zreturn dX8_comesFrom_10 rfl (by decide) ⟨_, rfl, wp_some w⟩
def g_X0_undoable (σ : AS) : Option (Int32 × AS) := some (gF σ 0 0 4, σ)
set_option maxRecDepth 100000 in
set_option maxHeartbeats 4000000 in
theorem ct_X0_undoable {l : Launch} {cx : CX} (hA : AD cx) (σ : AS) (Q : Int32 → AS → Prop) (w : wpO (g_X0_undoable σ) Q) : AMet l cx 0 yX0_undoable cX0_undoable 1 (some .int) [.inr (.inr (0, 0, 0))] σ (QI Q) := by
  unfold g_X0_undoable at w
  refine AMet.of (own := RX0) (by decide) rfl hA (Nat.le_of_ble_eq_true rfl) ?_
  show RJ l cx 0 RX0 cX0_undoable 1 (some .int) 0 [(0, .inr (.inr (0, 0, 0)))] [] σ _
  refine R_aload_n dX0_undoable_0 rfl 0 rfl ?_
  refine R_getfI (k := 4) acl0 oz0_0 (by decide) fl_RX0_24 dX0_undoable_1 rfl ?_
  exact R_ireturn dX0_undoable_4 rfl ⟨_, rfl, wp_some w⟩
def g_X2_number (σ : AS) : Option (Int32 × AS) := some (gF σ 2 0 2, σ)
set_option maxRecDepth 100000 in
set_option maxHeartbeats 4000000 in
theorem ct_X2_number {l : Launch} {cx : CX} (hA : AD cx) (σ : AS) (Q : Int32 → AS → Prop) (w : wpO (g_X2_number σ) Q) : AMet l cx 0 yX2_number cX2_number 1 (some .int) [.inr (.inr (2, 0, 0))] σ (QI Q) := by
  unfold g_X2_number at w
  refine AMet.of (own := RX2) (by decide) rfl hA (Nat.le_of_ble_eq_true rfl) ?_
  show RJ l cx 0 RX2 cX2_number 1 (some .int) 0 [(0, .inr (.inr (2, 0, 0)))] [] σ _
  refine R_aload_n dX2_number_0 rfl 0 rfl ?_
  refine R_getfI (k := 2) acl2 oz2_0 (by decide) fl_RX2_18 dX2_number_1 rfl ?_
  exact R_ireturn dX2_number_4 rfl ⟨_, rfl, wp_some w⟩
def g_X2_ran (σ : AS) : Option (Int32 × AS) := some (gF σ 2 0 3, σ)
set_option maxRecDepth 100000 in
set_option maxHeartbeats 4000000 in
theorem ct_X2_ran {l : Launch} {cx : CX} (hA : AD cx) (σ : AS) (Q : Int32 → AS → Prop) (w : wpO (g_X2_ran σ) Q) : AMet l cx 0 yX2_ran cX2_ran 1 (some .int) [.inr (.inr (2, 0, 0))] σ (QI Q) := by
  unfold g_X2_ran at w
  refine AMet.of (own := RX2) (by decide) rfl hA (Nat.le_of_ble_eq_true rfl) ?_
  show RJ l cx 0 RX2 cX2_ran 1 (some .int) 0 [(0, .inr (.inr (2, 0, 0)))] [] σ _
  refine R_aload_n dX2_ran_0 rfl 0 rfl ?_
  refine R_getfI (k := 3) acl2 oz2_0 (by decide) fl_RX2_22 dX2_ran_1 rfl ?_
  exact R_ireturn dX2_ran_4 rfl ⟨_, rfl, wp_some w⟩
def g_X7_length (σ : AS) : Option (Int32 × AS) := some (gF σ 7 0 1, σ)
set_option maxRecDepth 100000 in
set_option maxHeartbeats 4000000 in
theorem ct_X7_length {l : Launch} {cx : CX} (hA : AD cx) (σ : AS) (Q : Int32 → AS → Prop) (w : wpO (g_X7_length σ) Q) : AMet l cx 0 yX7_length cX7_length 1 (some .int) [.inr (.inr (7, 0, 0))] σ (QI Q) := by
  unfold g_X7_length at w
  refine AMet.of (own := RX7) (by decide) rfl hA (Nat.le_of_ble_eq_true rfl) ?_
  show RJ l cx 0 RX7 cX7_length 1 (some .int) 0 [(0, .inr (.inr (7, 0, 0)))] [] σ _
  refine R_aload_n dX7_length_0 rfl 0 rfl ?_
  refine R_getfI (k := 1) acl7 oz7_0 (by decide) fl_RX7_15 dX7_length_1 rfl ?_
  exact R_ireturn dX7_length_4 rfl ⟨_, rfl, wp_some w⟩
def g_X8_count (a0 : Int32) (σ : AS) : Option (Int32 × AS) := (if a0 = 0 then (bnd (g_X6_number σ) fun r2 σ3 => some (r2, σ3)) else (if a0 = 1 then (bnd (g_X6_rests σ) fun r5 σ6 => some (r5, σ6)) else (if a0 = 2 then some (gF σ 1 0 11, σ) else (if a0 = 3 then some (gF σ 1 0 12, σ) else (if a0 = 4 then (bnd (g_X7_length σ) fun r10 σ11 => some (r10, σ11)) else (if a0 = 5 then (bnd (g_X0_undoable σ) fun r13 σ14 => some (r13, σ14)) else (if a0 = 6 then (bnd (g_X2_number σ) fun r16 σ17 => some (r16, σ17)) else (if a0 = 7 then (bnd (g_X2_ran σ) fun r19 σ20 => some (r19, σ20)) else some ((-1), σ)))))))))
set_option maxRecDepth 100000 in
set_option maxHeartbeats 4000000 in
theorem ct_X8_count {l : Launch} {cx : CX} (hA : AD cx) (a0 : Int32) (σ : AS) (Q : Int32 → AS → Prop) (w : wpO (g_X8_count a0 σ) Q) : AMet l cx 1 yX8_count cX8_count 2 (some .int) [.inr (.inr (8, 0, 0)), .inl a0] σ (QI Q) := by
  unfold g_X8_count at w
  refine AMet.of (own := RX8) (by decide) rfl hA (Nat.le_of_ble_eq_true rfl) ?_
  show RJ l cx 1 RX8 cX8_count 2 (some .int) 0 [(0, .inr (.inr (8, 0, 0))), (1, .inl a0)] [] σ _
  refine R_iload_n dX8_count_0 rfl 1 rfl ?_
  by_cases c1 : a0 = 0
  · have w := wp_t c1 w
    refine R_tswIn (v := 0) (tgt := 48) dX8_count_1 c1 (by decide) (by decide) rfl (by decide) ?_
    refine R_aload_n dX8_count_48 rfl 0 rfl ?_
    refine R_getfO (k := 0) acl8 oz8_0 (by decide) fl_RX8_10 dX8_count_49 rfl ?_
    refine R_callVI (As := []) acl6 rfl oz6_0 mi_X6_number ml_RX8_213 rfl (Nat.le_of_ble_eq_true rfl) (by decide) dX8_count_52 (ct_X6_number hA σ _ (wp_bnd w)) (fun r2 σ3 w => ?_)
    exact R_ireturn dX8_count_55 rfl ⟨_, rfl, wp_some w⟩
  have w := wp_f c1 w
  by_cases c4 : a0 = 1
  · have w := wp_t c4 w
    refine R_tswIn (v := 1) (tgt := 56) dX8_count_1 c4 (by decide) (by decide) rfl (by decide) ?_
    refine R_aload_n dX8_count_56 rfl 0 rfl ?_
    refine R_getfO (k := 0) acl8 oz8_0 (by decide) fl_RX8_10 dX8_count_57 rfl ?_
    refine R_callVI (As := []) acl6 rfl oz6_0 mi_X6_rests ml_RX8_309 rfl (Nat.le_of_ble_eq_true rfl) (by decide) dX8_count_60 (ct_X6_rests hA σ _ (wp_bnd w)) (fun r5 σ6 w => ?_)
    exact R_ireturn dX8_count_63 rfl ⟨_, rfl, wp_some w⟩
  have w := wp_f c4 w
  by_cases c7 : a0 = 2
  · have w := wp_t c7 w
    refine R_tswIn (v := 2) (tgt := 64) dX8_count_1 c7 (by decide) (by decide) rfl (by decide) ?_
    refine R_aload_n dX8_count_64 rfl 0 rfl ?_
    refine R_getfO (k := 4) acl8 oz8_0 (by decide) fl_RX8_38 dX8_count_65 rfl ?_
    refine R_getfI (k := 11) acl1 oz1_0 (by decide) fl_RX8_80 dX8_count_68 rfl ?_
    exact R_ireturn dX8_count_71 rfl ⟨_, rfl, wp_some w⟩
  have w := wp_f c7 w
  by_cases c8 : a0 = 3
  · have w := wp_t c8 w
    refine R_tswIn (v := 3) (tgt := 72) dX8_count_1 c8 (by decide) (by decide) rfl (by decide) ?_
    refine R_aload_n dX8_count_72 rfl 0 rfl ?_
    refine R_getfO (k := 4) acl8 oz8_0 (by decide) fl_RX8_38 dX8_count_73 rfl ?_
    refine R_getfI (k := 12) acl1 oz1_0 (by decide) fl_RX8_169 dX8_count_76 rfl ?_
    exact R_ireturn dX8_count_79 rfl ⟨_, rfl, wp_some w⟩
  have w := wp_f c8 w
  by_cases c9 : a0 = 4
  · have w := wp_t c9 w
    refine R_tswIn (v := 4) (tgt := 80) dX8_count_1 c9 (by decide) (by decide) rfl (by decide) ?_
    refine R_aload_n dX8_count_80 rfl 0 rfl ?_
    refine R_getfO (k := 3) acl8 oz8_0 (by decide) fl_RX8_29 dX8_count_81 rfl ?_
    refine R_callVI (As := []) acl7 rfl oz7_0 mi_X7_length ml_RX8_312 rfl (Nat.le_of_ble_eq_true rfl) (by decide) dX8_count_84 (ct_X7_length hA σ _ (wp_bnd w)) (fun r10 σ11 w => ?_)
    exact R_ireturn dX8_count_87 rfl ⟨_, rfl, wp_some w⟩
  have w := wp_f c9 w
  by_cases c12 : a0 = 5
  · have w := wp_t c12 w
    refine R_tswIn (v := 5) (tgt := 88) dX8_count_1 c12 (by decide) (by decide) rfl (by decide) ?_
    refine R_aload_n dX8_count_88 rfl 0 rfl ?_
    refine R_getfO (k := 8) acl8 oz8_0 (by decide) fl_RX8_58 dX8_count_89 rfl ?_
    refine R_callVI (As := []) acl0 rfl oz0_0 mi_X0_undoable ml_RX8_315 rfl (Nat.le_of_ble_eq_true rfl) (by decide) dX8_count_92 (ct_X0_undoable hA σ _ (wp_bnd w)) (fun r13 σ14 w => ?_)
    exact R_ireturn dX8_count_95 rfl ⟨_, rfl, wp_some w⟩
  have w := wp_f c12 w
  by_cases c15 : a0 = 6
  · have w := wp_t c15 w
    refine R_tswIn (v := 6) (tgt := 96) dX8_count_1 c15 (by decide) (by decide) rfl (by decide) ?_
    refine R_aload_n dX8_count_96 rfl 0 rfl ?_
    refine R_getfO (k := 9) acl8 oz8_0 (by decide) fl_RX8_65 dX8_count_97 rfl ?_
    refine R_callVI (As := []) acl2 rfl oz2_0 mi_X2_number ml_RX8_318 rfl (Nat.le_of_ble_eq_true rfl) (by decide) dX8_count_100 (ct_X2_number hA σ _ (wp_bnd w)) (fun r16 σ17 w => ?_)
    exact R_ireturn dX8_count_103 rfl ⟨_, rfl, wp_some w⟩
  have w := wp_f c15 w
  by_cases c18 : a0 = 7
  · have w := wp_t c18 w
    refine R_tswIn (v := 7) (tgt := 104) dX8_count_1 c18 (by decide) (by decide) rfl (by decide) ?_
    refine R_aload_n dX8_count_104 rfl 0 rfl ?_
    refine R_getfO (k := 9) acl8 oz8_0 (by decide) fl_RX8_65 dX8_count_105 rfl ?_
    refine R_callVI (As := []) acl2 rfl oz2_0 mi_X2_ran ml_RX8_319 rfl (Nat.le_of_ble_eq_true rfl) (by decide) dX8_count_108 (ct_X2_ran hA σ _ (wp_bnd w)) (fun r19 σ20 w => ?_)
    exact R_ireturn dX8_count_111 rfl ⟨_, rfl, wp_some w⟩
  have w := wp_f c18 w
  refine R_tswOut (tgt := 112) dX8_count_1 [0, 1, 2, 3, 4, 5, 6, 7] (List.forall_mem_cons.mpr ⟨c1, (List.forall_mem_cons.mpr ⟨c4, (List.forall_mem_cons.mpr ⟨c7, (List.forall_mem_cons.mpr ⟨c8, (List.forall_mem_cons.mpr ⟨c9, (List.forall_mem_cons.mpr ⟨c12, (List.forall_mem_cons.mpr ⟨c15, (List.forall_mem_cons.mpr ⟨c18, (fun _ z => absurd z List.not_mem_nil)⟩)⟩)⟩)⟩)⟩)⟩)⟩)⟩) (by decide) (by decide) ?_
  refine R_iconst (v := (-1)) dX8_count_112 (by decide) ?_
  exact R_ireturn dX8_count_113 rfl ⟨_, rfl, wp_some w⟩
def g_X8_inchesSold (a0 : Int32) (a1 : Int32) (a2 : Int32) (a3 : Int32) (σ : AS) : Option (Int32 × AS) := (bnd (g_X6_trait a2 4 σ) fun r1 σ2 => (bnd (g_X6_trait a0 3 σ2) fun r3 σ4 => (if r3 < r1 then (bnd (g_X6_trait a2 0 σ4) fun r6 σ7 => (lt (r6 - a3) fun x8 => some (mxi 0 (mni a1 x8), σ7))) else some (0, σ4))))
set_option maxRecDepth 100000 in
set_option maxHeartbeats 4000000 in
theorem ct_X8_inchesSold {l : Launch} {cx : CX} (hA : AD cx) (a0 : Int32) (a1 : Int32) (a2 : Int32) (a3 : Int32) (σ : AS) (Q : Int32 → AS → Prop) (w : wpO (g_X8_inchesSold a0 a1 a2 a3 σ) Q) : AMet l cx 2 yX8_inchesSold cX8_inchesSold 6 (some .int) [.inr (.inr (8, 0, 0)), .inl a0, .inl a1, .inl a2, .inl a3] σ (QI Q) := by
  unfold g_X8_inchesSold at w
  refine AMet.of (own := RX8) (by decide) rfl hA (Nat.le_of_ble_eq_true rfl) ?_
  show RJ l cx 2 RX8 cX8_inchesSold 6 (some .int) 0 [(0, .inr (.inr (8, 0, 0))), (1, .inl a0), (2, .inl a1), (3, .inl a2), (4, .inl a3)] [] σ _
  refine R_aload_n dX8_inchesSold_0 rfl 0 rfl ?_
  refine R_getfO (k := 0) acl8 oz8_0 (by decide) fl_RX8_10 dX8_inchesSold_1 rfl ?_
  refine R_iload_n dX8_inchesSold_4 rfl 3 rfl ?_
  refine R_iconst (v := 4) dX8_inchesSold_5 (by decide) ?_
  refine R_callVI (As := [.inl a2, .inl 4]) acl6 rfl oz6_0 mi_X6_trait ml_RX8_114 rfl (Nat.le_of_ble_eq_true rfl) (by decide) dX8_inchesSold_6 (ct_X6_trait hA a2 4 σ _ (wp_bnd w)) (fun r1 σ2 w => ?_)
  refine R_aload_n dX8_inchesSold_9 rfl 0 rfl ?_
  refine R_getfO (k := 0) acl8 oz8_0 (by decide) fl_RX8_10 dX8_inchesSold_10 rfl ?_
  refine R_iload_n dX8_inchesSold_13 rfl 1 rfl ?_
  refine R_iconst (v := 3) dX8_inchesSold_14 (by decide) ?_
  refine R_callVI (As := [.inl a0, .inl 3]) acl6 rfl oz6_0 mi_X6_trait ml_RX8_114 rfl (Nat.le_of_ble_eq_true rfl) (by decide) dX8_inchesSold_15 (ct_X6_trait hA a0 3 σ2 _ (wp_bnd w)) (fun r3 σ4 w => ?_)
  refine R_icmp_gt (tgt := 23) dX8_inchesSold_18 (by decide) (fun c5 => ?_) (fun c5 => ?_)
  · have w := wp_t c5 w
    refine R_aload_n dX8_inchesSold_23 rfl 0 rfl ?_
    refine R_getfO (k := 0) acl8 oz8_0 (by decide) fl_RX8_10 dX8_inchesSold_24 rfl ?_
    refine R_iload_n dX8_inchesSold_27 rfl 3 rfl ?_
    refine R_iconst (v := 0) dX8_inchesSold_28 (by decide) ?_
    refine R_callVI (As := [.inl a2, .inl 0]) acl6 rfl oz6_0 mi_X6_trait ml_RX8_114 rfl (Nat.le_of_ble_eq_true rfl) (by decide) dX8_inchesSold_29 (ct_X6_trait hA a2 0 σ4 _ (wp_bnd w)) (fun r6 σ7 w => ?_)
    refine R_iload dX8_inchesSold_32 4 rfl ?_
    refine R_isub dX8_inchesSold_34 ?_
    refine R_nameI w ?_; clear w; intro x8 w
    refine R_istore (lv' := [(5, .inl x8), (0, .inr (.inr (8, 0, 0))), (1, .inl a0), (2, .inl a1), (3, .inl a2), (4, .inl a3)]) dX8_inchesSold_35 (by decide) rfl ?_
    refine R_iconst (v := 0) dX8_inchesSold_37 (by decide) ?_
    refine R_iload_n dX8_inchesSold_38 rfl 3 rfl ?_
    refine R_iload dX8_inchesSold_39 0 rfl ?_
    refine R_mmin ml_RX8_344 (by decide) (Nat.le_of_ble_eq_true rfl) dX8_inchesSold_41 ?_
    refine R_mmax ml_RX8_351 (by decide) (Nat.le_of_ble_eq_true rfl) dX8_inchesSold_44 ?_
    exact R_ireturn dX8_inchesSold_47 rfl ⟨_, rfl, wp_some w⟩
  · have w := wp_f c5 w
    refine R_iconst (v := 0) dX8_inchesSold_21 (by decide) ?_
    exact R_ireturn dX8_inchesSold_22 rfl ⟨_, rfl, wp_some w⟩
def g_X8_soldByLeft (a0 : Int32) (σ : AS) : Option (Int32 × AS) := (if inb a0 7 then (bnd (g_X8_inchesSold a0 (gA σ 1 0 3 a0) (a0 + 1) (gA σ 1 0 4 a0) σ) fun r2 σ3 => (if (0 : Int32) < r2 then some (r2, σ3) else (bnd (g_X8_inchesSold (a0 + 1) (gA σ3 1 0 4 a0) a0 (gA σ3 1 0 3 a0) σ3) fun r5 σ6 => some (-r5, σ6)))) else none)
set_option maxRecDepth 100000 in
set_option maxHeartbeats 4000000 in
theorem ct_X8_soldByLeft {l : Launch} {cx : CX} (hA : AD cx) (a0 : Int32) (σ : AS) (Q : Int32 → AS → Prop) (w : wpO (g_X8_soldByLeft a0 σ) Q) : AMet l cx 3 yX8_soldByLeft cX8_soldByLeft 3 (some .int) [.inr (.inr (8, 0, 0)), .inl a0] σ (QI Q) := by
  unfold g_X8_soldByLeft at w
  refine AMet.of (own := RX8) (by decide) rfl hA (Nat.le_of_ble_eq_true rfl) ?_
  show RJ l cx 3 RX8 cX8_soldByLeft 3 (some .int) 0 [(0, .inr (.inr (8, 0, 0))), (1, .inl a0)] [] σ _
  refine R_aload_n dX8_soldByLeft_0 rfl 0 rfl ?_
  refine R_iload_n dX8_soldByLeft_1 rfl 1 rfl ?_
  refine R_aload_n dX8_soldByLeft_2 rfl 0 rfl ?_
  refine R_getfO (k := 4) acl8 oz8_0 (by decide) fl_RX8_38 dX8_soldByLeft_3 rfl ?_
  refine R_getfA (k := 3) acl1 oz1_0 (by decide) fl_RX8_153 dX8_soldByLeft_6 rfl ?_
  refine R_iload_n dX8_soldByLeft_9 rfl 1 rfl ?_
  obtain ⟨b1, w⟩ := wp_chk w
  refine R_iald rfl oz1_0 b1 dX8_soldByLeft_10 ?_
  refine R_iload_n dX8_soldByLeft_11 rfl 1 rfl ?_
  refine R_iconst (v := 1) dX8_soldByLeft_12 (by decide) ?_
  refine R_iadd dX8_soldByLeft_13 ?_
  refine R_aload_n dX8_soldByLeft_14 rfl 0 rfl ?_
  refine R_getfO (k := 4) acl8 oz8_0 (by decide) fl_RX8_38 dX8_soldByLeft_15 rfl ?_
  refine R_getfA (k := 4) acl1 oz1_0 (by decide) fl_RX8_156 dX8_soldByLeft_18 rfl ?_
  refine R_iload_n dX8_soldByLeft_21 rfl 1 rfl ?_
  refine R_iald rfl oz1_0 b1 dX8_soldByLeft_22 ?_
  refine R_callVI (As := [.inl a0, .inl (gA σ 1 0 3 a0), .inl (a0 + 1), .inl (gA σ 1 0 4 a0)]) acl8 rfl oz8_0 mi_X8_inchesSold ml_RX8_347 rfl (Nat.le_of_ble_eq_true rfl) (by decide) dX8_soldByLeft_23 (ct_X8_inchesSold hA a0 (gA σ 1 0 3 a0) (a0 + 1) (gA σ 1 0 4 a0) σ _ (wp_bnd w)) (fun r2 σ3 w => ?_)
  refine R_istore_n (lv' := [(2, .inl r2), (0, .inr (.inr (8, 0, 0))), (1, .inl a0)]) dX8_soldByLeft_26 rfl (by decide) rfl ?_
  refine R_iload_n dX8_soldByLeft_27 rfl 0 rfl ?_
  refine R_if_le (tgt := 33) dX8_soldByLeft_28 (by decide) (fun c4 => ?_) (fun c4 => ?_)
  · have w := wp_f c4 w
    refine R_aload_n dX8_soldByLeft_33 rfl 1 rfl ?_
    refine R_iload_n dX8_soldByLeft_34 rfl 2 rfl ?_
    refine R_iconst (v := 1) dX8_soldByLeft_35 (by decide) ?_
    refine R_iadd dX8_soldByLeft_36 ?_
    refine R_aload_n dX8_soldByLeft_37 rfl 1 rfl ?_
    refine R_getfO (k := 4) acl8 oz8_0 (by decide) fl_RX8_38 dX8_soldByLeft_38 rfl ?_
    refine R_getfA (k := 4) acl1 oz1_0 (by decide) fl_RX8_156 dX8_soldByLeft_41 rfl ?_
    refine R_iload_n dX8_soldByLeft_44 rfl 2 rfl ?_
    refine R_iald rfl oz1_0 b1 dX8_soldByLeft_45 ?_
    refine R_iload_n dX8_soldByLeft_46 rfl 2 rfl ?_
    refine R_aload_n dX8_soldByLeft_47 rfl 1 rfl ?_
    refine R_getfO (k := 4) acl8 oz8_0 (by decide) fl_RX8_38 dX8_soldByLeft_48 rfl ?_
    refine R_getfA (k := 3) acl1 oz1_0 (by decide) fl_RX8_153 dX8_soldByLeft_51 rfl ?_
    refine R_iload_n dX8_soldByLeft_54 rfl 2 rfl ?_
    refine R_iald rfl oz1_0 b1 dX8_soldByLeft_55 ?_
    refine R_callVI (As := [.inl (a0 + 1), .inl (gA σ3 1 0 4 a0), .inl a0, .inl (gA σ3 1 0 3 a0)]) acl8 rfl oz8_0 mi_X8_inchesSold ml_RX8_347 rfl (Nat.le_of_ble_eq_true rfl) (by decide) dX8_soldByLeft_56 (ct_X8_inchesSold hA (a0 + 1) (gA σ3 1 0 4 a0) a0 (gA σ3 1 0 3 a0) σ3 _ (wp_bnd w)) (fun r5 σ6 w => ?_)
    refine R_ineg dX8_soldByLeft_59 ?_
    exact R_ireturn dX8_soldByLeft_60 rfl ⟨_, rfl, wp_some w⟩
  · have w := wp_t c4 w
    refine R_iload_n dX8_soldByLeft_31 rfl 0 rfl ?_
    exact R_ireturn dX8_soldByLeft_32 rfl ⟨_, rfl, wp_some w⟩
def g_X8_deals_53    (v2 : Int32) (v3 : Int32) (v4 : Int32) (s0 : Int32) (σ : AS) : Option (Int32 × AS) := (bnd (g_X6_trait v4 3 σ) fun r10 σ11 => (bnd (g_X6_trait s0 4 σ11) fun r12 σ13 => (if v2 = 0 then some ((abi v3) * (r12 - r10), σ13) else (if v2 = 1 then some (abi v3, σ13) else some (v3 * ((r12 + r10) / 2), σ13)))))
set_option maxRecDepth 100000 in
set_option maxHeartbeats 4000000 in
theorem rk_X8_deals_53 {l : Launch} {cx : CX} (hA : AD cx)    (Q : Int32 → AS → Prop) (v2 : Int32) (v3 : Int32) (v4 : Int32) (s0 : Int32) (σ : AS) (w : wpO (g_X8_deals_53 v2 v3 v4 s0 σ) Q) : RJ l cx 4 RX8 cX8_deals 8 (some .int) 53 [(0, .inr (.inr (8, 0, 0))), (2, .inl v2), (3, .inl v3), (4, .inl v4)] [.inl s0] σ (QI Q) := by
  unfold g_X8_deals_53 at w
  refine R_istore (lv' := [(5, .inl s0), (0, .inr (.inr (8, 0, 0))), (2, .inl v2), (3, .inl v3), (4, .inl v4)]) dX8_deals_53 (by decide) rfl ?_
  refine R_aload_n dX8_deals_55 rfl 1 rfl ?_
  refine R_getfO (k := 0) acl8 oz8_0 (by decide) fl_RX8_10 dX8_deals_56 rfl ?_
  refine R_iload dX8_deals_59 4 rfl ?_
  refine R_iconst (v := 3) dX8_deals_61 (by decide) ?_
  refine R_callVI (As := [.inl v4, .inl 3]) acl6 rfl oz6_0 mi_X6_trait ml_RX8_114 rfl (Nat.le_of_ble_eq_true rfl) (by decide) dX8_deals_62 (ct_X6_trait hA v4 3 σ _ (wp_bnd w)) (fun r10 σ11 w => ?_)
  refine R_istore (lv' := [(6, .inl r10), (5, .inl s0), (0, .inr (.inr (8, 0, 0))), (2, .inl v2), (3, .inl v3), (4, .inl v4)]) dX8_deals_65 (by decide) rfl ?_
  refine R_aload_n dX8_deals_67 rfl 2 rfl ?_
  refine R_getfO (k := 0) acl8 oz8_0 (by decide) fl_RX8_10 dX8_deals_68 rfl ?_
  refine R_iload dX8_deals_71 1 rfl ?_
  refine R_iconst (v := 4) dX8_deals_73 (by decide) ?_
  refine R_callVI (As := [.inl s0, .inl 4]) acl6 rfl oz6_0 mi_X6_trait ml_RX8_114 rfl (Nat.le_of_ble_eq_true rfl) (by decide) dX8_deals_74 (ct_X6_trait hA s0 4 σ11 _ (wp_bnd w)) (fun r12 σ13 w => ?_)
  refine R_istore (lv' := [(7, .inl r12), (6, .inl r10), (5, .inl s0), (0, .inr (.inr (8, 0, 0))), (2, .inl v2), (3, .inl v3), (4, .inl v4)]) dX8_deals_77 (by decide) rfl ?_
  refine R_iload_n dX8_deals_79 rfl 4 rfl ?_
  by_cases c14 : v2 = 0
  · have w := wp_t c14 w
    refine R_lswIn (v := 0) (tgt := 108) dX8_deals_80 (by decide) c14 rfl (by decide) ?_
    refine R_iload_n dX8_deals_108 rfl 5 rfl ?_
    refine R_mabs ml_RX8_236 (by decide) (Nat.le_of_ble_eq_true rfl) dX8_deals_109 ?_
    refine R_iload dX8_deals_112 0 rfl ?_
    refine R_iload dX8_deals_114 1 rfl ?_
    refine R_isub dX8_deals_116 ?_
    refine R_imul dX8_deals_117 ?_
    exact R_ireturn dX8_deals_118 rfl ⟨_, rfl, wp_some w⟩
  have w := wp_f c14 w
  by_cases c15 : v2 = 1
  · have w := wp_t c15 w
    refine R_lswIn (v := 1) (tgt := 119) dX8_deals_80 (by decide) c15 rfl (by decide) ?_
    refine R_iload_n dX8_deals_119 rfl 5 rfl ?_
    refine R_mabs ml_RX8_236 (by decide) (Nat.le_of_ble_eq_true rfl) dX8_deals_120 ?_
    exact R_ireturn dX8_deals_123 rfl ⟨_, rfl, wp_some w⟩
  have w := wp_f c15 w
  refine R_lswOut (tgt := 124) dX8_deals_80 (by decide) [0, 1] (List.forall_mem_cons.mpr ⟨c14, (List.forall_mem_cons.mpr ⟨c15, (fun _ z => absurd z List.not_mem_nil)⟩)⟩) rfl (by decide) ?_
  refine R_iload_n dX8_deals_124 rfl 5 rfl ?_
  refine R_iload dX8_deals_125 0 rfl ?_
  refine R_iload dX8_deals_127 1 rfl ?_
  refine R_iadd dX8_deals_129 ?_
  refine R_iconst (v := 2) dX8_deals_130 (by decide) ?_
  refine R_idiv dX8_deals_131 (by decide) ?_
  refine R_imul dX8_deals_132 ?_
  exact R_ireturn dX8_deals_133 rfl ⟨_, rfl, wp_some w⟩
def g_X8_deals_40    (v1 : Int32) (v2 : Int32) (v3 : Int32) (s0 : Int32) (σ : AS) : Option (Int32 × AS) := (if (0 : Int32) < v3 then g_X8_deals_53 v2 v3 s0 (v1 + 1) σ else g_X8_deals_53 v2 v3 s0 v1 σ)
set_option maxRecDepth 100000 in
set_option maxHeartbeats 4000000 in
theorem rk_X8_deals_40 {l : Launch} {cx : CX} (hA : AD cx)    (Q : Int32 → AS → Prop) (v1 : Int32) (v2 : Int32) (v3 : Int32) (s0 : Int32) (σ : AS) (w : wpO (g_X8_deals_40 v1 v2 v3 s0 σ) Q) : RJ l cx 4 RX8 cX8_deals 8 (some .int) 40 [(0, .inr (.inr (8, 0, 0))), (1, .inl v1), (2, .inl v2), (3, .inl v3)] [.inl s0] σ (QI Q) := by
  unfold g_X8_deals_40 at w
  refine R_istore (lv' := [(4, .inl s0), (0, .inr (.inr (8, 0, 0))), (1, .inl v1), (2, .inl v2), (3, .inl v3)]) dX8_deals_40 (by decide) rfl ?_
  refine R_iload_n dX8_deals_42 rfl 4 rfl ?_
  refine R_if_le (tgt := 52) dX8_deals_43 (by decide) (fun c9 => ?_) (fun c9 => ?_)
  · have w := wp_f c9 w
    refine R_iload_n dX8_deals_52 rfl 2 rfl ?_
    refine R_sub [1, 3, 4, 0] rfl ?_
    exact rk_X8_deals_53 hA _ v2 v3 s0 v1 σ w
  · have w := wp_t c9 w
    refine R_iload_n dX8_deals_46 rfl 2 rfl ?_
    refine R_iconst (v := 1) dX8_deals_47 (by decide) ?_
    refine R_iadd dX8_deals_48 ?_
    refine R_goto (tgt := 53) dX8_deals_49 (by decide) ?_
    refine R_sub [1, 3, 4, 0] rfl ?_
    exact rk_X8_deals_53 hA _ v2 v3 s0 (v1 + 1) σ w
def g_X8_deals (a0 : Int32) (a1 : Int32) (σ : AS) : Option (Int32 × AS) := (bnd (g_X6_hasRest a0 σ) fun r1 σ2 => (if r1 = 0 then some ((-2000000000), σ2) else (if a1 < 0 then some ((-2000000000), σ2) else (if (2 : Int32) < a1 then some ((-2000000000), σ2) else (bnd (g_X8_soldByLeft a0 σ2) fun r6 σ7 => (if (0 : Int32) < r6 then g_X8_deals_40 a0 a1 r6 a0 σ7 else g_X8_deals_40 a0 a1 r6 (a0 + 1) σ7))))))
set_option maxRecDepth 100000 in
set_option maxHeartbeats 4000000 in
theorem ct_X8_deals {l : Launch} {cx : CX} (hA : AD cx) (a0 : Int32) (a1 : Int32) (σ : AS) (Q : Int32 → AS → Prop) (w : wpO (g_X8_deals a0 a1 σ) Q) : AMet l cx 4 yX8_deals cX8_deals 8 (some .int) [.inr (.inr (8, 0, 0)), .inl a0, .inl a1] σ (QI Q) := by
  unfold g_X8_deals at w
  refine AMet.of (own := RX8) (by decide) rfl hA (Nat.le_of_ble_eq_true rfl) ?_
  show RJ l cx 4 RX8 cX8_deals 8 (some .int) 0 [(0, .inr (.inr (8, 0, 0))), (1, .inl a0), (2, .inl a1)] [] σ _
  refine R_aload_n dX8_deals_0 rfl 0 rfl ?_
  refine R_getfO (k := 0) acl8 oz8_0 (by decide) fl_RX8_10 dX8_deals_1 rfl ?_
  refine R_iload_n dX8_deals_4 rfl 1 rfl ?_
  refine R_callVI (As := [.inl a0]) acl6 rfl oz6_0 mi_X6_hasRest ml_RX8_150 rfl (Nat.le_of_ble_eq_true rfl) (by decide) dX8_deals_5 (ct_X6_hasRest hA a0 σ _ (wp_bnd w)) (fun r1 σ2 w => ?_)
  refine R_if_eq (tgt := 20) dX8_deals_8 (by decide) (fun c3 => ?_) (fun c3 => ?_)
  · have w := wp_t c3 w
    refine R_ldc dX8_deals_20 ck_RX8_124 ?_
    exact R_ireturn dX8_deals_22 rfl ⟨_, rfl, wp_some w⟩
  · have w := wp_f c3 w
    refine R_iload_n dX8_deals_11 rfl 2 rfl ?_
    refine R_if_lt (tgt := 20) dX8_deals_12 (by decide) (fun c4 => ?_) (fun c4 => ?_)
    · have w := wp_t c4 w
      refine R_ldc dX8_deals_20 ck_RX8_124 ?_
      exact R_ireturn dX8_deals_22 rfl ⟨_, rfl, wp_some w⟩
    · have w := wp_f c4 w
      refine R_iload_n dX8_deals_15 rfl 2 rfl ?_
      refine R_iconst (v := 2) dX8_deals_16 (by decide) ?_
      refine R_icmp_le (tgt := 23) dX8_deals_17 (by decide) (fun c5 => ?_) (fun c5 => ?_)
      · have w := wp_f c5 w
        refine R_aload_n dX8_deals_23 rfl 0 rfl ?_
        refine R_iload_n dX8_deals_24 rfl 1 rfl ?_
        refine R_callVI (As := [.inl a0]) acl8 rfl oz8_0 mi_X8_soldByLeft ml_RX8_233 rfl (Nat.le_of_ble_eq_true rfl) (by decide) dX8_deals_25 (ct_X8_soldByLeft hA a0 σ2 _ (wp_bnd w)) (fun r6 σ7 w => ?_)
        refine R_istore_n (lv' := [(3, .inl r6), (0, .inr (.inr (8, 0, 0))), (1, .inl a0), (2, .inl a1)]) dX8_deals_28 rfl (by decide) rfl ?_
        refine R_iload_n dX8_deals_29 rfl 0 rfl ?_
        refine R_if_le (tgt := 37) dX8_deals_30 (by decide) (fun c8 => ?_) (fun c8 => ?_)
        · have w := wp_f c8 w
          refine R_iload_n dX8_deals_37 rfl 2 rfl ?_
          refine R_iconst (v := 1) dX8_deals_38 (by decide) ?_
          refine R_iadd dX8_deals_39 ?_
          refine R_sub [1, 2, 3, 0] rfl ?_
          exact rk_X8_deals_40 hA _ a0 a1 r6 (a0 + 1) σ7 w
        · have w := wp_t c8 w
          refine R_iload_n dX8_deals_33 rfl 2 rfl ?_
          refine R_goto (tgt := 40) dX8_deals_34 (by decide) ?_
          refine R_sub [1, 2, 3, 0] rfl ?_
          exact rk_X8_deals_40 hA _ a0 a1 r6 a0 σ7 w
      · have w := wp_t c5 w
        refine R_ldc dX8_deals_20 ck_RX8_124 ?_
        exact R_ireturn dX8_deals_22 rfl ⟨_, rfl, wp_some w⟩
def g_X5_isRow (o : Nat) (σ : AS) : Option (Int32 × AS) := (if gF σ 5 o 2 < 0 then some (0, σ) else some (1, σ))
set_option maxRecDepth 100000 in
set_option maxHeartbeats 4000000 in
theorem ct_X5_isRow {l : Launch} {cx : CX} (hA : AD cx) (o : Nat) (ho : o < am_cnt 5) (σ : AS) (Q : Int32 → AS → Prop) (w : wpO (g_X5_isRow o σ) Q) : AMet l cx 0 yX5_isRow cX5_isRow 1 (some .boolean) [.inr (.inr (5, o, 0))] σ (QI Q) := by
  unfold g_X5_isRow at w
  refine AMet.of (own := RX5) (by decide) rfl hA (Nat.le_of_ble_eq_true rfl) ?_
  show RJ l cx 0 RX5 cX5_isRow 1 (some .boolean) 0 [(0, .inr (.inr (5, o, 0)))] [] σ _
  refine R_aload_n dX5_isRow_0 rfl 0 rfl ?_
  refine R_getfI (k := 2) acl5 ho (by decide) fl_RX5_19 dX5_isRow_1 rfl ?_
  refine R_if_lt (tgt := 11) dX5_isRow_4 (by decide) (fun c1 => ?_) (fun c1 => ?_)
  · have w := wp_t c1 w
    refine R_iconst (v := 0) dX5_isRow_11 (by decide) ?_
    exact R_zreturn dX5_isRow_12 rfl (by decide) ⟨_, rfl, wp_some w⟩
  · have w := wp_f c1 w
    refine R_iconst (v := 1) dX5_isRow_7 (by decide) ?_
    refine R_goto (tgt := 12) dX5_isRow_8 (by decide) ?_
    exact R_zreturn dX5_isRow_12 rfl (by decide) ⟨_, rfl, wp_some w⟩
def g_X8_isShelf (a0 : Int32) (σ : AS) : Option (Int32 × AS) := (if a0 < 0 then some (0, σ) else (if a0 < 6 then some (1, σ) else some (0, σ)))
set_option maxRecDepth 100000 in
set_option maxHeartbeats 4000000 in
theorem ct_X8_isShelf {l : Launch} {cx : CX} (hA : AD cx) (a0 : Int32) (σ : AS) (Q : Int32 → AS → Prop) (w : wpO (g_X8_isShelf a0 σ) Q) : AMet l cx 0 yX8_isShelf cX8_isShelf 1 (some .boolean) [.inl a0] σ (QI Q) := by
  unfold g_X8_isShelf at w
  refine AMet.of (own := RX8) (by decide) rfl hA (Nat.le_of_ble_eq_true rfl) ?_
  show RJ l cx 0 RX8 cX8_isShelf 1 (some .boolean) 0 [(0, .inl a0)] [] σ _
  refine R_iload_n dX8_isShelf_0 rfl 0 rfl ?_
  refine R_if_lt (tgt := 14) dX8_isShelf_1 (by decide) (fun c1 => ?_) (fun c1 => ?_)
  · have w := wp_t c1 w
    refine R_iconst (v := 0) dX8_isShelf_14 (by decide) ?_
    exact R_zreturn dX8_isShelf_15 rfl (by decide) ⟨_, rfl, wp_some w⟩
  · have w := wp_f c1 w
    refine R_iload_n dX8_isShelf_4 rfl 0 rfl ?_
    refine R_bipush (v := 6) dX8_isShelf_5 (by decide) ?_
    refine R_icmp_ge (tgt := 14) dX8_isShelf_7 (by decide) (fun c2 => ?_) (fun c2 => ?_)
    · have w := wp_f c2 w
      refine R_iconst (v := 0) dX8_isShelf_14 (by decide) ?_
      exact R_zreturn dX8_isShelf_15 rfl (by decide) ⟨_, rfl, wp_some w⟩
    · have w := wp_t c2 w
      refine R_iconst (v := 1) dX8_isShelf_10 (by decide) ?_
      refine R_goto (tgt := 15) dX8_isShelf_11 (by decide) ?_
      exact R_zreturn dX8_isShelf_15 rfl (by decide) ⟨_, rfl, wp_some w⟩
def g_X8_refusalAt (a0 : Int32) (a1 : Int32) (σ : AS) : Option (Int32 × AS) := (bnd (g_X8_isShelf a0 σ) fun r1 σ2 => (if r1 = 0 then some ((-1), σ2) else (if inb a0 6 then (if gF σ2 5 a0.toNatClampNeg 2 = (-2) then some ((-11), σ2) else (bnd (g_X5_isRow a0.toNatClampNeg σ2) fun r6 σ7 => (if r6 = 0 then some ((-12), σ7) else (bnd (g_X5_hasPlace a0.toNatClampNeg a1 σ7) fun r9 σ10 => (if r9 = 0 then some ((-13), σ10) else some (0, σ10)))))) else none)))
set_option maxRecDepth 100000 in
set_option maxHeartbeats 4000000 in
theorem ct_X8_refusalAt {l : Launch} {cx : CX} (hA : AD cx) (a0 : Int32) (a1 : Int32) (σ : AS) (Q : Int32 → AS → Prop) (w : wpO (g_X8_refusalAt a0 a1 σ) Q) : AMet l cx 1 yX8_refusalAt cX8_refusalAt 4 (some .int) [.inr (.inr (8, 0, 0)), .inl a0, .inl a1] σ (QI Q) := by
  unfold g_X8_refusalAt at w
  refine AMet.of (own := RX8) (by decide) rfl hA (Nat.le_of_ble_eq_true rfl) ?_
  show RJ l cx 1 RX8 cX8_refusalAt 4 (some .int) 0 [(0, .inr (.inr (8, 0, 0))), (1, .inl a0), (2, .inl a1)] [] σ _
  refine R_iload_n dX8_refusalAt_0 rfl 1 rfl ?_
  refine R_callSI (As := [.inl a0]) mi_X8_isShelf ml_RX8_88 rfl (Nat.le_of_ble_eq_true rfl) (by decide) dX8_refusalAt_1 (ct_X8_isShelf hA a0 σ _ (wp_bnd w)) (fun r1 σ2 w => ?_)
  refine R_if_ne (tgt := 9) dX8_refusalAt_4 (by decide) (fun c3 => ?_) (fun c3 => ?_)
  · have w := wp_f c3 w
    refine R_aload_n dX8_refusalAt_9 rfl 0 rfl ?_
    refine R_getfA (k := 10) acl8 oz8_0 (by decide) fl_RX8_71 dX8_refusalAt_10 rfl ?_
    refine R_iload_n dX8_refusalAt_13 rfl 1 rfl ?_
    obtain ⟨b4, w⟩ := wp_chk w
    refine R_aald rfl oz8_0 b4 dX8_refusalAt_14 ?_
    refine R_astore_n (lv' := [(3, .inr (.inr (5, a0.toNatClampNeg, 0))), (0, .inr (.inr (8, 0, 0))), (1, .inl a0), (2, .inl a1)]) dX8_refusalAt_15 rfl (by decide) rfl ?_
    refine R_aload_n dX8_refusalAt_16 rfl 0 rfl ?_
    refine R_getfI (k := 2) acl5 b4.2 (by decide) fl_RX8_92 dX8_refusalAt_17 rfl ?_
    refine R_bipush (v := (-2)) dX8_refusalAt_20 (by decide) ?_
    refine R_icmp_ne (tgt := 28) dX8_refusalAt_22 (by decide) (fun c5 => ?_) (fun c5 => ?_)
    · have w := wp_f c5 w
      refine R_aload_n dX8_refusalAt_28 rfl 0 rfl ?_
      refine R_callVI (As := []) acl5 rfl b4.2 mi_X5_isRow ml_RX8_284 rfl (Nat.le_of_ble_eq_true rfl) (by decide) dX8_refusalAt_29 (ct_X5_isRow hA a0.toNatClampNeg b4.2 σ2 _ (wp_bnd w)) (fun r6 σ7 w => ?_)
      refine R_if_ne (tgt := 38) dX8_refusalAt_32 (by decide) (fun c8 => ?_) (fun c8 => ?_)
      · have w := wp_f c8 w
        refine R_aload_n dX8_refusalAt_38 rfl 0 rfl ?_
        refine R_iload_n dX8_refusalAt_39 rfl 3 rfl ?_
        refine R_callVI (As := [.inl a1]) acl5 rfl b4.2 mi_X5_hasPlace ml_RX8_322 rfl (Nat.le_of_ble_eq_true rfl) (by decide) dX8_refusalAt_40 (ct_X5_hasPlace hA a0.toNatClampNeg b4.2 a1 σ7 _ (wp_bnd w)) (fun r9 σ10 w => ?_)
        refine R_if_eq (tgt := 50) dX8_refusalAt_43 (by decide) (fun c11 => ?_) (fun c11 => ?_)
        · have w := wp_t c11 w
          refine R_bipush (v := (-13)) dX8_refusalAt_50 (by decide) ?_
          exact R_ireturn dX8_refusalAt_52 rfl ⟨_, rfl, wp_some w⟩
        · have w := wp_f c11 w
          refine R_iconst (v := 0) dX8_refusalAt_46 (by decide) ?_
          refine R_goto (tgt := 52) dX8_refusalAt_47 (by decide) ?_
          exact R_ireturn dX8_refusalAt_52 rfl ⟨_, rfl, wp_some w⟩
      · have w := wp_t c8 w
        refine R_bipush (v := (-12)) dX8_refusalAt_35 (by decide) ?_
        exact R_ireturn dX8_refusalAt_37 rfl ⟨_, rfl, wp_some w⟩
    · have w := wp_t c5 w
      refine R_bipush (v := (-11)) dX8_refusalAt_25 (by decide) ?_
      exact R_ireturn dX8_refusalAt_27 rfl ⟨_, rfl, wp_some w⟩
  · have w := wp_t c3 w
    refine R_iconst (v := (-1)) dX8_refusalAt_7 (by decide) ?_
    exact R_ireturn dX8_refusalAt_8 rfl ⟨_, rfl, wp_some w⟩
def g_X8_element (a0 : Int32) (a1 : Int32) (σ : AS) : Option (Int64 × AS) := (bnd (g_X8_refusalAt a0 a1 σ) fun r1 σ2 => (if r1 = 0 then (if inb a0 6 then (bnd (g_X5_at a0.toNatClampNeg a1 σ2) fun r5 σ6 => some (r5, σ6)) else none) else some ((-9223372036854775808), σ2)))
set_option maxRecDepth 100000 in
set_option maxHeartbeats 4000000 in
theorem ct_X8_element {l : Launch} {cx : CX} (hA : AD cx) (a0 : Int32) (a1 : Int32) (σ : AS) (Q : Int64 → AS → Prop) (w : wpO (g_X8_element a0 a1 σ) Q) : AMet l cx 2 yX8_element cX8_element 3 (some .long) [.inr (.inr (8, 0, 0)), .inl a0, .inl a1] σ (QJ Q) := by
  unfold g_X8_element at w
  refine AMet.of (own := RX8) (by decide) rfl hA (Nat.le_of_ble_eq_true rfl) ?_
  show RJ l cx 2 RX8 cX8_element 3 (some .long) 0 [(0, .inr (.inr (8, 0, 0))), (1, .inl a0), (2, .inl a1)] [] σ _
  refine R_aload_n dX8_element_0 rfl 0 rfl ?_
  refine R_iload_n dX8_element_1 rfl 1 rfl ?_
  refine R_iload_n dX8_element_2 rfl 2 rfl ?_
  refine R_callVI (As := [.inl a0, .inl a1]) acl8 rfl oz8_0 mi_X8_refusalAt ml_RX8_269 rfl (Nat.le_of_ble_eq_true rfl) (by decide) dX8_element_3 (ct_X8_refusalAt hA a0 a1 σ _ (wp_bnd w)) (fun r1 σ2 w => ?_)
  refine R_if_eq (tgt := 13) dX8_element_6 (by decide) (fun c3 => ?_) (fun c3 => ?_)
  · have w := wp_t c3 w
    refine R_aload_n dX8_element_13 rfl 0 rfl ?_
    refine R_getfA (k := 10) acl8 oz8_0 (by decide) fl_RX8_71 dX8_element_14 rfl ?_
    refine R_iload_n dX8_element_17 rfl 1 rfl ?_
    obtain ⟨b4, w⟩ := wp_chk w
    refine R_aald rfl oz8_0 b4 dX8_element_18 ?_
    refine R_iload_n dX8_element_19 rfl 2 rfl ?_
    refine R_callVJ (As := [.inl a1]) acl5 rfl b4.2 mi_X5_at ml_RX8_280 rfl (Nat.le_of_ble_eq_true rfl) (by decide) dX8_element_20 (ct_X5_at hA a0.toNatClampNeg b4.2 a1 σ2 _ (wp_bnd w)) (fun r5 σ6 w => ?_)
    exact R_lreturn dX8_element_23 rfl ⟨_, rfl, wp_some w⟩
  · have w := wp_f c3 w
    refine R_ldc2 dX8_element_9 ck_RX8_278 ?_
    exact R_lreturn dX8_element_12 rfl ⟨_, rfl, wp_some w⟩
def g_X7_add (a0 : Int32) (σ : AS) : Option (Int32 × AS) := (if gF σ 7 0 1 < 120 then (if inb (gF σ 7 0 1) 120 then (lt (sA σ 7 0 0 (gF σ 7 0 1) a0) fun σ3 => (lt (sF σ3 7 0 1 ((gF σ3 7 0 1) + 1)) fun σ4 => some (gF σ4 7 0 1, σ4))) else none) else some ((-3), σ))
set_option maxRecDepth 100000 in
set_option maxHeartbeats 4000000 in
theorem ct_X7_add {l : Launch} {cx : CX} (hA : AD cx) (a0 : Int32) (σ : AS) (Q : Int32 → AS → Prop) (w : wpO (g_X7_add a0 σ) Q) : AMet l cx 0 yX7_add cX7_add 2 (some .int) [.inr (.inr (7, 0, 0)), .inl a0] σ (QI Q) := by
  unfold g_X7_add at w
  refine AMet.of (own := RX7) (by decide) rfl hA (Nat.le_of_ble_eq_true rfl) ?_
  show RJ l cx 0 RX7 cX7_add 2 (some .int) 0 [(0, .inr (.inr (7, 0, 0))), (1, .inl a0)] [] σ _
  refine R_aload_n dX7_add_0 rfl 0 rfl ?_
  refine R_getfI (k := 1) acl7 oz7_0 (by decide) fl_RX7_15 dX7_add_1 rfl ?_
  refine R_bipush (v := 120) dX7_add_4 (by decide) ?_
  refine R_icmp_lt (tgt := 12) dX7_add_6 (by decide) (fun c1 => ?_) (fun c1 => ?_)
  · have w := wp_t c1 w
    refine R_aload_n dX7_add_12 rfl 0 rfl ?_
    refine R_getfA (k := 0) acl7 oz7_0 (by decide) fl_RX7_11 dX7_add_13 rfl ?_
    refine R_aload_n dX7_add_16 rfl 0 rfl ?_
    refine R_getfI (k := 1) acl7 oz7_0 (by decide) fl_RX7_15 dX7_add_17 rfl ?_
    refine R_iload_n dX7_add_20 rfl 1 rfl ?_
    obtain ⟨b2, w⟩ := wp_chk w
    refine R_iast rfl oz7_0 b2 dX7_add_21 ?_
    refine R_nameS w ?_; clear w; intro σ3 w
    refine R_aload_n dX7_add_22 rfl 0 rfl ?_
    refine R_dup dX7_add_23 rfl ?_
    refine R_getfI (k := 1) acl7 oz7_0 (by decide) fl_RX7_15 dX7_add_24 rfl ?_
    refine R_iconst (v := 1) dX7_add_27 (by decide) ?_
    refine R_iadd dX7_add_28 ?_
    refine R_putf (k := 1) (ty := .int) acl7 oz7_0 (by decide) fl_RX7_15 rfl (tyX7_ok 1 (by decide)) (Or.inl rfl) dX7_add_29 rfl ?_
    refine R_nameS w ?_; clear w; intro σ4 w
    refine R_aload_n dX7_add_32 rfl 0 rfl ?_
    refine R_getfI (k := 1) acl7 oz7_0 (by decide) fl_RX7_15 dX7_add_33 rfl ?_
    exact R_ireturn dX7_add_36 rfl ⟨_, rfl, wp_some w⟩
  · have w := wp_f c1 w
    refine R_bipush (v := (-3)) dX7_add_9 (by decide) ?_
    exact R_ireturn dX7_add_11 rfl ⟨_, rfl, wp_some w⟩
def g_X8_feed (a0 : Int32) (σ : AS) : Option (Int32 × AS) := (if a0 < 0 then some ((-1), σ) else (if (255 : Int32) < a0 then some ((-1), σ) else (bnd (g_X7_add a0 σ) fun r3 σ4 => some (r3, σ4))))
set_option maxRecDepth 100000 in
set_option maxHeartbeats 4000000 in
theorem ct_X8_feed {l : Launch} {cx : CX} (hA : AD cx) (a0 : Int32) (σ : AS) (Q : Int32 → AS → Prop) (w : wpO (g_X8_feed a0 σ) Q) : AMet l cx 1 yX8_feed cX8_feed 2 (some .int) [.inr (.inr (8, 0, 0)), .inl a0] σ (QI Q) := by
  unfold g_X8_feed at w
  refine AMet.of (own := RX8) (by decide) rfl hA (Nat.le_of_ble_eq_true rfl) ?_
  show RJ l cx 1 RX8 cX8_feed 2 (some .int) 0 [(0, .inr (.inr (8, 0, 0))), (1, .inl a0)] [] σ _
  refine R_iload_n dX8_feed_0 rfl 1 rfl ?_
  refine R_if_lt (tgt := 11) dX8_feed_1 (by decide) (fun c1 => ?_) (fun c1 => ?_)
  · have w := wp_t c1 w
    refine R_iconst (v := (-1)) dX8_feed_11 (by decide) ?_
    exact R_ireturn dX8_feed_12 rfl ⟨_, rfl, wp_some w⟩
  · have w := wp_f c1 w
    refine R_iload_n dX8_feed_4 rfl 1 rfl ?_
    refine R_sipush (v := 255) dX8_feed_5 (by decide) ?_
    refine R_icmp_le (tgt := 13) dX8_feed_8 (by decide) (fun c2 => ?_) (fun c2 => ?_)
    · have w := wp_f c2 w
      refine R_aload_n dX8_feed_13 rfl 0 rfl ?_
      refine R_getfO (k := 3) acl8 oz8_0 (by decide) fl_RX8_29 dX8_feed_14 rfl ?_
      refine R_iload_n dX8_feed_17 rfl 1 rfl ?_
      refine R_callVI (As := [.inl a0]) acl7 rfl oz7_0 mi_X7_add ml_RX8_138 rfl (Nat.le_of_ble_eq_true rfl) (by decide) dX8_feed_18 (ct_X7_add hA a0 σ _ (wp_bnd w)) (fun r3 σ4 w => ?_)
      exact R_ireturn dX8_feed_21 rfl ⟨_, rfl, wp_some w⟩
    · have w := wp_t c2 w
      refine R_iconst (v := (-1)) dX8_feed_11 (by decide) ?_
      exact R_ireturn dX8_feed_12 rfl ⟨_, rfl, wp_some w⟩
def g_X4_write (o1 : Nat) (σ : AS) : Option (Unit × AS) := (lt (((gF σ 1 o1 11) - 1) * 7) fun x1 => (if x1 < 0 then some ((), σ) else (if Int32.ofNat 168 < x1 + 7 then some ((), σ) else (if cpy_ok 0 x1 7 7 168 then (lt (cpyA σ 1 o1 3 4 0 0 0 x1 7) fun σ5 => (if cpy_ok 0 x1 7 7 168 then (lt (cpyA σ5 1 o1 4 4 0 1 0 x1 7) fun σ7 => (if cpy_ok 0 x1 7 7 168 then (lt (cpyA σ7 1 o1 5 4 0 2 0 x1 7) fun σ9 => some ((), σ9)) else none)) else none)) else none))))
set_option maxRecDepth 100000 in
set_option maxHeartbeats 4000000 in
theorem ct_X4_write {l : Launch} {cx : CX} (hA : AD cx) (o1 : Nat) (ho1 : o1 < am_cnt 1) (σ : AS) (Q : Unit → AS → Prop) (w : wpO (g_X4_write o1 σ) Q) : AMet l cx 2 yX4_write cX4_write 3 none [.inr (.inr (4, 0, 0)), .inr (.inr (1, o1, 0))] σ (QV Q) := by
  unfold g_X4_write at w
  refine AMet.of (own := RX4) (by decide) rfl hA (Nat.le_of_ble_eq_true rfl) ?_
  show RJ l cx 2 RX4 cX4_write 3 none 0 [(0, .inr (.inr (4, 0, 0))), (1, .inr (.inr (1, o1, 0)))] [] σ _
  refine R_aload_n dX4_write_0 rfl 1 rfl ?_
  refine R_getfI (k := 11) acl1 ho1 (by decide) fl_RX4_21 dX4_write_1 rfl ?_
  refine R_iconst (v := 1) dX4_write_4 (by decide) ?_
  refine R_isub dX4_write_5 ?_
  refine R_bipush (v := 7) dX4_write_6 (by decide) ?_
  refine R_imul dX4_write_8 ?_
  refine R_nameI w ?_; clear w; intro x1 w
  refine R_istore_n (lv' := [(2, .inl x1), (0, .inr (.inr (4, 0, 0))), (1, .inr (.inr (1, o1, 0)))]) dX4_write_9 rfl (by decide) rfl ?_
  refine R_iload_n dX4_write_10 rfl 0 rfl ?_
  refine R_if_lt (tgt := 26) dX4_write_11 (by decide) (fun c2 => ?_) (fun c2 => ?_)
  · have w := wp_t c2 w
    exact R_vreturn dX4_write_26 rfl ⟨rfl, wp_some w⟩
  · have w := wp_f c2 w
    refine R_iload_n dX4_write_14 rfl 0 rfl ?_
    refine R_bipush (v := 7) dX4_write_15 (by decide) ?_
    refine R_iadd dX4_write_17 ?_
    refine R_aload_n dX4_write_18 rfl 1 rfl ?_
    refine R_getfA (k := 0) acl4 oz4_0 (by decide) fl_RX4_9 dX4_write_19 rfl ?_
    refine R_alenI rfl oz4_0 dX4_write_22 ?_
    refine R_icmp_le (tgt := 27) dX4_write_23 (by decide) (fun c3 => ?_) (fun c3 => ?_)
    · have w := wp_f c3 w
      refine R_aload_n dX4_write_27 rfl 2 rfl ?_
      refine R_getfA (k := 3) acl1 ho1 (by decide) fl_RX4_27 dX4_write_28 rfl ?_
      refine R_iconst (v := 0) dX4_write_31 (by decide) ?_
      refine R_aload_n dX4_write_32 rfl 1 rfl ?_
      refine R_getfA (k := 0) acl4 oz4_0 (by decide) fl_RX4_9 dX4_write_33 rfl ?_
      refine R_iload_n dX4_write_36 rfl 0 rfl ?_
      refine R_bipush (v := 7) dX4_write_37 (by decide) ?_
      obtain ⟨b4, w⟩ := wp_chk w
      refine R_copyA rfl rfl ho1 oz4_0 b4 ml_RX4_28 (by decide) (Nat.le_of_ble_eq_true rfl) dX4_write_39 ?_
      refine R_nameS w ?_; clear w; intro σ5 w
      refine R_aload_n dX4_write_42 rfl 2 rfl ?_
      refine R_getfA (k := 4) acl1 ho1 (by decide) fl_RX4_34 dX4_write_43 rfl ?_
      refine R_iconst (v := 0) dX4_write_46 (by decide) ?_
      refine R_aload_n dX4_write_47 rfl 1 rfl ?_
      refine R_getfA (k := 1) acl4 oz4_0 (by decide) fl_RX4_15 dX4_write_48 rfl ?_
      refine R_iload_n dX4_write_51 rfl 0 rfl ?_
      refine R_bipush (v := 7) dX4_write_52 (by decide) ?_
      obtain ⟨b6, w⟩ := wp_chk w
      refine R_copyA rfl rfl ho1 oz4_0 b6 ml_RX4_28 (by decide) (Nat.le_of_ble_eq_true rfl) dX4_write_54 ?_
      refine R_nameS w ?_; clear w; intro σ7 w
      refine R_aload_n dX4_write_57 rfl 2 rfl ?_
      refine R_getfA (k := 5) acl1 ho1 (by decide) fl_RX4_35 dX4_write_58 rfl ?_
      refine R_iconst (v := 0) dX4_write_61 (by decide) ?_
      refine R_aload_n dX4_write_62 rfl 1 rfl ?_
      refine R_getfA (k := 2) acl4 oz4_0 (by decide) fl_RX4_18 dX4_write_63 rfl ?_
      refine R_iload_n dX4_write_66 rfl 0 rfl ?_
      refine R_bipush (v := 7) dX4_write_67 (by decide) ?_
      obtain ⟨b8, w⟩ := wp_chk w
      refine R_copyA rfl rfl ho1 oz4_0 b8 ml_RX4_28 (by decide) (Nat.le_of_ble_eq_true rfl) dX4_write_69 ?_
      refine R_nameS w ?_; clear w; intro σ9 w
      exact R_vreturn dX4_write_72 rfl ⟨rfl, wp_some w⟩
    · have w := wp_t c3 w
      exact R_vreturn dX4_write_26 rfl ⟨rfl, wp_some w⟩
def g_X8_go_49    : Nat → Int32 → Int32 → Int32 → AS → Option (Int32 × AS)
  | 0, _, _, _, _ => none
  | f0 + 1, v2, v3, v4, σ => (if v4 < v2 then (bnd (g_X1_passHours 0 1 σ) fun _ σ7 => (bnd (g_X4_write 0 σ7) fun _ σ8 => (g_X8_go_49 f0) v2 v3 (v4 + 1) σ8)) else some ((gF σ 1 0 12) - v3, σ))
set_option maxRecDepth 100000 in
set_option maxHeartbeats 4000000 in
theorem rk_X8_go_49 {l : Launch} {cx : CX} (hA : AD cx)    (Q : Int32 → AS → Prop) : ∀ (f0 : Nat) (v2 : Int32) (v3 : Int32) (v4 : Int32) (σ : AS), wpO (g_X8_go_49 f0 v2 v3 v4 σ) Q → RJ l cx 7 RX8 cX8_go 5 (some .int) 49 [(0, .inr (.inr (8, 0, 0))), (2, .inl v2), (3, .inl v3), (4, .inl v4)] [] σ (QI Q) := by
  intro f0
  induction f0 with
  | zero => intro v2 v3 v4 σ w; exact wp_no w
  | succ f0 ih =>
    intro v2 v3 v4 σ w
    rw [g_X8_go_49] at w
    refine R_iload dX8_go_49 3 rfl ?_
    refine R_iload_n dX8_go_51 rfl 1 rfl ?_
    refine R_icmp_ge (tgt := 80) dX8_go_52 (by decide) (fun c6 => ?_) (fun c6 => ?_)
    · have w := wp_f c6 w
      refine R_aload_n dX8_go_80 rfl 0 rfl ?_
      refine R_getfO (k := 4) acl8 oz8_0 (by decide) fl_RX8_38 dX8_go_81 rfl ?_
      refine R_getfI (k := 12) acl1 oz1_0 (by decide) fl_RX8_169 dX8_go_84 rfl ?_
      refine R_iload_n dX8_go_87 rfl 2 rfl ?_
      refine R_isub dX8_go_88 ?_
      exact R_ireturn dX8_go_89 rfl ⟨_, rfl, wp_some w⟩
    · have w := wp_t c6 w
      refine R_aload_n dX8_go_55 rfl 0 rfl ?_
      refine R_getfO (k := 4) acl8 oz8_0 (by decide) fl_RX8_38 dX8_go_56 rfl ?_
      refine R_iconst (v := 1) dX8_go_59 (by decide) ?_
      refine R_callVV (As := [.inl 1]) acl1 rfl oz1_0 mi_X1_passHours ml_RX8_175 rfl (Nat.le_of_ble_eq_true rfl) (by decide) dX8_go_60 (ct_X1_passHours hA 0 oz1_0 1 σ _ (wp_bnd w)) (fun σ7 w => ?_)
      refine R_aload_n dX8_go_63 rfl 0 rfl ?_
      refine R_getfO (k := 7) acl8 oz8_0 (by decide) fl_RX8_51 dX8_go_64 rfl ?_
      refine R_aload_n dX8_go_67 rfl 0 rfl ?_
      refine R_getfO (k := 4) acl8 oz8_0 (by decide) fl_RX8_38 dX8_go_68 rfl ?_
      refine R_callVV (As := [.inr (.inr (1, 0, 0))]) acl4 rfl oz4_0 mi_X4_write ml_RX8_179 rfl (Nat.le_of_ble_eq_true rfl) (by decide) dX8_go_71 (ct_X4_write hA 0 oz1_0 σ7 _ (wp_bnd w)) (fun σ8 w => ?_)
      refine R_iinc (v := v4 + 1) (lv' := [(4, .inl (v4 + 1)), (0, .inr (.inr (8, 0, 0))), (2, .inl v2), (3, .inl v3)]) dX8_go_74 3 rfl rfl (by decide) rfl ?_
      refine R_goto (tgt := 49) dX8_go_77 (by decide) ?_
      refine R_sub [1, 2, 3, 0] rfl ?_
      exact ih v2 v3 (v4 + 1) σ8 w
def g_X8_go (a0 : Int32) (a1 : Int32) (σ : AS) : Option (Int32 × AS) := (if a1 < 1 then some ((-1), σ) else (if (24 : Int32) < a1 then some ((-1), σ) else (if 24 - (gF σ 1 0 11) < a1 then some ((-5), σ) else (lt (gF σ 1 0 12) fun x4 => (lt (sF σ 1 0 13 a0) fun σ5 => g_X8_go_49 400 a1 x4 0 σ5)))))
set_option maxRecDepth 100000 in
set_option maxHeartbeats 4000000 in
theorem ct_X8_go {l : Launch} {cx : CX} (hA : AD cx) (a0 : Int32) (a1 : Int32) (σ : AS) (Q : Int32 → AS → Prop) (w : wpO (g_X8_go a0 a1 σ) Q) : AMet l cx 7 yX8_go cX8_go 5 (some .int) [.inr (.inr (8, 0, 0)), .inl a0, .inl a1] σ (QI Q) := by
  unfold g_X8_go at w
  refine AMet.of (own := RX8) (by decide) rfl hA (Nat.le_of_ble_eq_true rfl) ?_
  show RJ l cx 7 RX8 cX8_go 5 (some .int) 0 [(0, .inr (.inr (8, 0, 0))), (1, .inl a0), (2, .inl a1)] [] σ _
  refine R_iload_n dX8_go_0 rfl 2 rfl ?_
  refine R_iconst (v := 1) dX8_go_1 (by decide) ?_
  refine R_icmp_lt (tgt := 11) dX8_go_2 (by decide) (fun c1 => ?_) (fun c1 => ?_)
  · have w := wp_t c1 w
    refine R_iconst (v := (-1)) dX8_go_11 (by decide) ?_
    exact R_ireturn dX8_go_12 rfl ⟨_, rfl, wp_some w⟩
  · have w := wp_f c1 w
    refine R_iload_n dX8_go_5 rfl 2 rfl ?_
    refine R_bipush (v := 24) dX8_go_6 (by decide) ?_
    refine R_icmp_le (tgt := 13) dX8_go_8 (by decide) (fun c2 => ?_) (fun c2 => ?_)
    · have w := wp_f c2 w
      refine R_iload_n dX8_go_13 rfl 2 rfl ?_
      refine R_bipush (v := 24) dX8_go_14 (by decide) ?_
      refine R_aload_n dX8_go_16 rfl 0 rfl ?_
      refine R_getfO (k := 4) acl8 oz8_0 (by decide) fl_RX8_38 dX8_go_17 rfl ?_
      refine R_getfI (k := 11) acl1 oz1_0 (by decide) fl_RX8_80 dX8_go_20 rfl ?_
      refine R_isub dX8_go_23 ?_
      refine R_icmp_le (tgt := 30) dX8_go_24 (by decide) (fun c3 => ?_) (fun c3 => ?_)
      · have w := wp_f c3 w
        refine R_aload_n dX8_go_30 rfl 0 rfl ?_
        refine R_getfO (k := 4) acl8 oz8_0 (by decide) fl_RX8_38 dX8_go_31 rfl ?_
        refine R_getfI (k := 12) acl1 oz1_0 (by decide) fl_RX8_169 dX8_go_34 rfl ?_
        refine R_nameI w ?_; clear w; intro x4 w
        refine R_istore_n (lv' := [(3, .inl x4), (0, .inr (.inr (8, 0, 0))), (1, .inl a0), (2, .inl a1)]) dX8_go_37 rfl (by decide) rfl ?_
        refine R_aload_n dX8_go_38 rfl 1 rfl ?_
        refine R_getfO (k := 4) acl8 oz8_0 (by decide) fl_RX8_38 dX8_go_39 rfl ?_
        refine R_iload_n dX8_go_42 rfl 2 rfl ?_
        refine R_putf (k := 13) (ty := .int) acl1 oz1_0 (by decide) fl_RX8_172 rfl (tyX1_ok 13 (by decide)) (Or.inl rfl) dX8_go_43 rfl ?_
        refine R_nameS w ?_; clear w; intro σ5 w
        refine R_iconst (v := 0) dX8_go_46 (by decide) ?_
        refine R_istore (lv' := [(4, .inl 0), (3, .inl x4), (0, .inr (.inr (8, 0, 0))), (1, .inl a0), (2, .inl a1)]) dX8_go_47 (by decide) rfl ?_
        refine R_sub [2, 4, 1, 0] rfl ?_
        exact rk_X8_go_49 hA _ 400 a1 x4 0 σ5 w
      · have w := wp_t c3 w
        refine R_bipush (v := (-5)) dX8_go_27 (by decide) ?_
        exact R_ireturn dX8_go_29 rfl ⟨_, rfl, wp_some w⟩
    · have w := wp_t c2 w
      refine R_iconst (v := (-1)) dX8_go_11 (by decide) ?_
      exact R_ireturn dX8_go_12 rfl ⟨_, rfl, wp_some w⟩
def g_X6_tell (a0 : Int32) (a1 : Int32) (a2 : Int32) (σ : AS) : Option (Unit × AS) := (bnd (g_X6_has a0 σ) fun r1 σ2 => (if r1 = 0 then some ((), σ2) else (if a1 < 0 then some ((), σ2) else (if a1 < 24 then (if inb ((a0 * 24) + a1) 192 then (lt (sA σ2 6 0 1 ((a0 * 24) + a1) a2) fun σ7 => some ((), σ7)) else none) else some ((), σ2)))))
set_option maxRecDepth 100000 in
set_option maxHeartbeats 4000000 in
theorem ct_X6_tell {l : Launch} {cx : CX} (hA : AD cx) (a0 : Int32) (a1 : Int32) (a2 : Int32) (σ : AS) (Q : Unit → AS → Prop) (w : wpO (g_X6_tell a0 a1 a2 σ) Q) : AMet l cx 1 yX6_tell cX6_tell 4 none [.inr (.inr (6, 0, 0)), .inl a0, .inl a1, .inl a2] σ (QV Q) := by
  unfold g_X6_tell at w
  refine AMet.of (own := RX6) (by decide) rfl hA (Nat.le_of_ble_eq_true rfl) ?_
  show RJ l cx 1 RX6 cX6_tell 4 none 0 [(0, .inr (.inr (6, 0, 0))), (1, .inl a0), (2, .inl a1), (3, .inl a2)] [] σ _
  refine R_aload_n dX6_tell_0 rfl 0 rfl ?_
  refine R_iload_n dX6_tell_1 rfl 1 rfl ?_
  refine R_callVI (As := [.inl a0]) acl6 rfl oz6_0 mi_X6_has ml_RX6_26 rfl (Nat.le_of_ble_eq_true rfl) (by decide) dX6_tell_2 (ct_X6_has hA a0 σ _ (wp_bnd w)) (fun r1 σ2 w => ?_)
  refine R_if_eq (tgt := 18) dX6_tell_5 (by decide) (fun c3 => ?_) (fun c3 => ?_)
  · have w := wp_t c3 w
    exact R_vreturn dX6_tell_18 rfl ⟨rfl, wp_some w⟩
  · have w := wp_f c3 w
    refine R_iload_n dX6_tell_8 rfl 2 rfl ?_
    refine R_if_lt (tgt := 18) dX6_tell_9 (by decide) (fun c4 => ?_) (fun c4 => ?_)
    · have w := wp_t c4 w
      exact R_vreturn dX6_tell_18 rfl ⟨rfl, wp_some w⟩
    · have w := wp_f c4 w
      refine R_iload_n dX6_tell_12 rfl 2 rfl ?_
      refine R_bipush (v := 24) dX6_tell_13 (by decide) ?_
      refine R_icmp_lt (tgt := 19) dX6_tell_15 (by decide) (fun c5 => ?_) (fun c5 => ?_)
      · have w := wp_t c5 w
        refine R_aload_n dX6_tell_19 rfl 0 rfl ?_
        refine R_getfA (k := 1) acl6 oz6_0 (by decide) fl_RX6_15 dX6_tell_20 rfl ?_
        refine R_iload_n dX6_tell_23 rfl 1 rfl ?_
        refine R_bipush (v := 24) dX6_tell_24 (by decide) ?_
        refine R_imul dX6_tell_26 ?_
        refine R_iload_n dX6_tell_27 rfl 2 rfl ?_
        refine R_iadd dX6_tell_28 ?_
        refine R_iload_n dX6_tell_29 rfl 3 rfl ?_
        obtain ⟨b6, w⟩ := wp_chk w
        refine R_iast rfl oz6_0 b6 dX6_tell_30 ?_
        refine R_nameS w ?_; clear w; intro σ7 w
        exact R_vreturn dX6_tell_31 rfl ⟨rfl, wp_some w⟩
      · have w := wp_f c5 w
        exact R_vreturn dX6_tell_18 rfl ⟨rfl, wp_some w⟩
def g_X8_hours_73    : Nat → Int32 → Int32 → Int32 → Int32 → Int32 → AS → Option (Int32 × AS)
  | 0, _, _, _, _, _, _ => none
  | f0 + 1, v1, v3, v4, v5, v6, σ => (if v5 < v6 then some ((v5 - v4) + 1, σ) else (bnd (g_X6_tell v1 v6 v3 σ) fun _ σ13 => (g_X8_hours_73 f0) v1 v3 v4 v5 (v6 + 1) σ13))
set_option maxRecDepth 100000 in
set_option maxHeartbeats 4000000 in
theorem rk_X8_hours_73 {l : Launch} {cx : CX} (hA : AD cx)    (Q : Int32 → AS → Prop) : ∀ (f0 : Nat) (v1 : Int32) (v3 : Int32) (v4 : Int32) (v5 : Int32) (v6 : Int32) (σ : AS), wpO (g_X8_hours_73 f0 v1 v3 v4 v5 v6 σ) Q → RJ l cx 2 RX8 cX8_hours 7 (some .int) 73 [(0, .inr (.inr (8, 0, 0))), (1, .inl v1), (3, .inl v3), (4, .inl v4), (5, .inl v5), (6, .inl v6)] [] σ (QI Q) := by
  intro f0
  induction f0 with
  | zero => intro v1 v3 v4 v5 v6 σ w; exact wp_no w
  | succ f0 ih =>
    intro v1 v3 v4 v5 v6 σ w
    rw [g_X8_hours_73] at w
    refine R_iload dX8_hours_73 5 rfl ?_
    refine R_iload dX8_hours_75 4 rfl ?_
    refine R_icmp_gt (tgt := 97) dX8_hours_77 (by decide) (fun c12 => ?_) (fun c12 => ?_)
    · have w := wp_t c12 w
      refine R_iload dX8_hours_97 4 rfl ?_
      refine R_iload dX8_hours_99 3 rfl ?_
      refine R_isub dX8_hours_101 ?_
      refine R_iconst (v := 1) dX8_hours_102 (by decide) ?_
      refine R_iadd dX8_hours_103 ?_
      exact R_ireturn dX8_hours_104 rfl ⟨_, rfl, wp_some w⟩
    · have w := wp_f c12 w
      refine R_aload_n dX8_hours_80 rfl 0 rfl ?_
      refine R_getfO (k := 0) acl8 oz8_0 (by decide) fl_RX8_10 dX8_hours_81 rfl ?_
      refine R_iload_n dX8_hours_84 rfl 1 rfl ?_
      refine R_iload dX8_hours_85 5 rfl ?_
      refine R_iload_n dX8_hours_87 rfl 2 rfl ?_
      refine R_callVV (As := [.inl v1, .inl v6, .inl v3]) acl6 rfl oz6_0 mi_X6_tell ml_RX8_110 rfl (Nat.le_of_ble_eq_true rfl) (by decide) dX8_hours_88 (ct_X6_tell hA v1 v6 v3 σ _ (wp_bnd w)) (fun σ13 w => ?_)
      refine R_iinc (v := v6 + 1) (lv' := [(6, .inl (v6 + 1)), (0, .inr (.inr (8, 0, 0))), (1, .inl v1), (3, .inl v3), (4, .inl v4), (5, .inl v5)]) dX8_hours_91 5 rfl rfl (by decide) rfl ?_
      refine R_goto (tgt := 73) dX8_hours_94 (by decide) ?_
      refine R_sub [1, 2, 3, 4, 5, 0] rfl ?_
      exact ih v1 v3 v4 v5 (v6 + 1) σ13 w
def g_X8_hours (a0 : Int32) (a1 : Int32) (a2 : Int32) (σ : AS) : Option (Int32 × AS) := (lt (a1 / 100) fun x1 => (lt (rmi a1 100) fun x2 => (bnd (g_X6_has a0 σ) fun r3 σ4 => (if r3 = 0 then some ((-1), σ4) else (if a1 < 0 then some ((-1), σ4) else (if x2 < x1 then some ((-1), σ4) else (if x2 < 24 then (if a2 < 0 then some ((-1), σ4) else (if (3 : Int32) < a2 then some ((-1), σ4) else (if x1 < gF σ4 1 0 11 then some ((-5), σ4) else g_X8_hours_73 400 a0 a2 x1 x2 x1 σ4))) else some ((-1), σ4))))))))
set_option maxRecDepth 100000 in
set_option maxHeartbeats 4000000 in
theorem ct_X8_hours {l : Launch} {cx : CX} (hA : AD cx) (a0 : Int32) (a1 : Int32) (a2 : Int32) (σ : AS) (Q : Int32 → AS → Prop) (w : wpO (g_X8_hours a0 a1 a2 σ) Q) : AMet l cx 2 yX8_hours cX8_hours 7 (some .int) [.inr (.inr (8, 0, 0)), .inl a0, .inl a1, .inl a2] σ (QI Q) := by
  unfold g_X8_hours at w
  refine AMet.of (own := RX8) (by decide) rfl hA (Nat.le_of_ble_eq_true rfl) ?_
  show RJ l cx 2 RX8 cX8_hours 7 (some .int) 0 [(0, .inr (.inr (8, 0, 0))), (1, .inl a0), (2, .inl a1), (3, .inl a2)] [] σ _
  refine R_iload_n dX8_hours_0 rfl 2 rfl ?_
  refine R_bipush (v := 100) dX8_hours_1 (by decide) ?_
  refine R_idiv dX8_hours_3 (by decide) ?_
  refine R_nameI w ?_; clear w; intro x1 w
  refine R_istore (lv' := [(4, .inl x1), (0, .inr (.inr (8, 0, 0))), (1, .inl a0), (2, .inl a1), (3, .inl a2)]) dX8_hours_4 (by decide) rfl ?_
  refine R_iload_n dX8_hours_6 rfl 3 rfl ?_
  refine R_bipush (v := 100) dX8_hours_7 (by decide) ?_
  refine R_irem dX8_hours_9 (by decide) ?_
  refine R_nameI w ?_; clear w; intro x2 w
  refine R_istore (lv' := [(5, .inl x2), (4, .inl x1), (0, .inr (.inr (8, 0, 0))), (1, .inl a0), (2, .inl a1), (3, .inl a2)]) dX8_hours_10 (by decide) rfl ?_
  refine R_aload_n dX8_hours_12 rfl 2 rfl ?_
  refine R_getfO (k := 0) acl8 oz8_0 (by decide) fl_RX8_10 dX8_hours_13 rfl ?_
  refine R_iload_n dX8_hours_16 rfl 3 rfl ?_
  refine R_callVI (As := [.inl a0]) acl6 rfl oz6_0 mi_X6_has ml_RX8_107 rfl (Nat.le_of_ble_eq_true rfl) (by decide) dX8_hours_17 (ct_X6_has hA a0 σ _ (wp_bnd w)) (fun r3 σ4 w => ?_)
  refine R_if_eq (tgt := 41) dX8_hours_20 (by decide) (fun c5 => ?_) (fun c5 => ?_)
  · have w := wp_t c5 w
    refine R_iconst (v := (-1)) dX8_hours_41 (by decide) ?_
    exact R_ireturn dX8_hours_42 rfl ⟨_, rfl, wp_some w⟩
  · have w := wp_f c5 w
    refine R_iload_n dX8_hours_23 rfl 4 rfl ?_
    refine R_if_lt (tgt := 41) dX8_hours_24 (by decide) (fun c6 => ?_) (fun c6 => ?_)
    · have w := wp_t c6 w
      refine R_iconst (v := (-1)) dX8_hours_41 (by decide) ?_
      exact R_ireturn dX8_hours_42 rfl ⟨_, rfl, wp_some w⟩
    · have w := wp_f c6 w
      refine R_iload dX8_hours_27 0 rfl ?_
      refine R_iload dX8_hours_29 1 rfl ?_
      refine R_icmp_lt (tgt := 41) dX8_hours_31 (by decide) (fun c7 => ?_) (fun c7 => ?_)
      · have w := wp_t c7 w
        refine R_iconst (v := (-1)) dX8_hours_41 (by decide) ?_
        exact R_ireturn dX8_hours_42 rfl ⟨_, rfl, wp_some w⟩
      · have w := wp_f c7 w
        refine R_iload dX8_hours_34 0 rfl ?_
        refine R_bipush (v := 24) dX8_hours_36 (by decide) ?_
        refine R_icmp_lt (tgt := 43) dX8_hours_38 (by decide) (fun c8 => ?_) (fun c8 => ?_)
        · have w := wp_t c8 w
          refine R_iload_n dX8_hours_43 rfl 5 rfl ?_
          refine R_if_lt (tgt := 52) dX8_hours_44 (by decide) (fun c9 => ?_) (fun c9 => ?_)
          · have w := wp_t c9 w
            refine R_iconst (v := (-1)) dX8_hours_52 (by decide) ?_
            exact R_ireturn dX8_hours_53 rfl ⟨_, rfl, wp_some w⟩
          · have w := wp_f c9 w
            refine R_iload_n dX8_hours_47 rfl 5 rfl ?_
            refine R_iconst (v := 3) dX8_hours_48 (by decide) ?_
            refine R_icmp_le (tgt := 54) dX8_hours_49 (by decide) (fun c10 => ?_) (fun c10 => ?_)
            · have w := wp_f c10 w
              refine R_iload dX8_hours_54 1 rfl ?_
              refine R_aload_n dX8_hours_56 rfl 2 rfl ?_
              refine R_getfO (k := 4) acl8 oz8_0 (by decide) fl_RX8_38 dX8_hours_57 rfl ?_
              refine R_getfI (k := 11) acl1 oz1_0 (by decide) fl_RX8_80 dX8_hours_60 rfl ?_
              refine R_icmp_ge (tgt := 69) dX8_hours_63 (by decide) (fun c11 => ?_) (fun c11 => ?_)
              · have w := wp_f c11 w
                refine R_iload dX8_hours_69 1 rfl ?_
                refine R_istore (lv' := [(6, .inl x1), (5, .inl x2), (4, .inl x1), (0, .inr (.inr (8, 0, 0))), (1, .inl a0), (2, .inl a1), (3, .inl a2)]) dX8_hours_71 (by decide) rfl ?_
                refine R_sub [3, 4, 6, 2, 1, 0] rfl ?_
                exact rk_X8_hours_73 hA _ 400 a0 a2 x1 x2 x1 σ4 w
              · have w := wp_t c11 w
                refine R_bipush (v := (-5)) dX8_hours_66 (by decide) ?_
                exact R_ireturn dX8_hours_68 rfl ⟨_, rfl, wp_some w⟩
            · have w := wp_t c10 w
              refine R_iconst (v := (-1)) dX8_hours_52 (by decide) ?_
              exact R_ireturn dX8_hours_53 rfl ⟨_, rfl, wp_some w⟩
        · have w := wp_f c8 w
          refine R_iconst (v := (-1)) dX8_hours_41 (by decide) ?_
          exact R_ireturn dX8_hours_42 rfl ⟨_, rfl, wp_some w⟩
def g_X8_image (σ : AS) : Option (Int32 × AS) := (bnd (g_X1_becomeAs 2 0 σ) fun _ σ1 => (lt (sF σ1 8 0 11 1) fun σ2 => some (gF σ2 1 0 11, σ2)))
set_option maxRecDepth 100000 in
set_option maxHeartbeats 4000000 in
theorem ct_X8_image {l : Launch} {cx : CX} (hA : AD cx) (σ : AS) (Q : Int32 → AS → Prop) (w : wpO (g_X8_image σ) Q) : AMet l cx 3 yX8_image cX8_image 1 (some .int) [.inr (.inr (8, 0, 0))] σ (QI Q) := by
  unfold g_X8_image at w
  refine AMet.of (own := RX8) (by decide) rfl hA (Nat.le_of_ble_eq_true rfl) ?_
  show RJ l cx 3 RX8 cX8_image 1 (some .int) 0 [(0, .inr (.inr (8, 0, 0)))] [] σ _
  refine R_aload_n dX8_image_0 rfl 0 rfl ?_
  refine R_getfO (k := 6) acl8 oz8_0 (by decide) fl_RX8_45 dX8_image_1 rfl ?_
  refine R_aload_n dX8_image_4 rfl 0 rfl ?_
  refine R_getfO (k := 4) acl8 oz8_0 (by decide) fl_RX8_38 dX8_image_5 rfl ?_
  refine R_callVV (As := [.inr (.inr (1, 0, 0))]) acl1 rfl oz1_2 mi_X1_becomeAs ml_RX8_241 rfl (Nat.le_of_ble_eq_true rfl) (by decide) dX8_image_8 (ct_X1_becomeAs hA 2 oz1_2 0 oz1_0 σ _ (wp_bnd w)) (fun σ1 w => ?_)
  refine R_aload_n dX8_image_11 rfl 0 rfl ?_
  refine R_iconst (v := 1) dX8_image_12 (by decide) ?_
  refine R_putf (k := 11) (ty := .boolean) acl8 oz8_0 (by decide) fl_RX8_75 rfl (tyX8_ok 11 (by decide)) (Or.inr ⟨rfl, by decide⟩) dX8_image_13 rfl ?_
  refine R_nameS w ?_; clear w; intro σ2 w
  refine R_aload_n dX8_image_16 rfl 0 rfl ?_
  refine R_getfO (k := 4) acl8 oz8_0 (by decide) fl_RX8_38 dX8_image_17 rfl ?_
  refine R_getfI (k := 11) acl1 oz1_0 (by decide) fl_RX8_80 dX8_image_20 rfl ?_
  exact R_ireturn dX8_image_23 rfl ⟨_, rfl, wp_some w⟩
def g_X8_isPeaceful_30    : Nat → Int32 → Int32 → AS → Option (Int32 × AS)
  | 0, _, _, _ => none
  | f0 + 1, v2, v4, σ => (if v4 < 24 then (bnd (g_X1_passHours 1 1 σ) fun _ σ5 => (if inb v2 7 then (if gA σ5 1 1 5 v2 = 0 then (g_X8_isPeaceful_30 f0) v2 (v4 + 1) σ5 else some (0, σ5)) else none)) else some (1, σ))
set_option maxRecDepth 100000 in
set_option maxHeartbeats 4000000 in
theorem rk_X8_isPeaceful_30 {l : Launch} {cx : CX} (hA : AD cx)    (Q : Int32 → AS → Prop) : ∀ (f0 : Nat) (v2 : Int32) (v4 : Int32) (σ : AS), wpO (g_X8_isPeaceful_30 f0 v2 v4 σ) Q → RJ l cx 7 RX8 cX8_isPeaceful 5 (some .boolean) 30 [(0, .inr (.inr (8, 0, 0))), (2, .inl v2), (4, .inl v4)] [] σ (QI Q) := by
  intro f0
  induction f0 with
  | zero => intro v2 v4 σ w; exact wp_no w
  | succ f0 ih =>
    intro v2 v4 σ w
    rw [g_X8_isPeaceful_30] at w
    refine R_iload dX8_isPeaceful_30 2 rfl ?_
    refine R_bipush (v := 24) dX8_isPeaceful_32 (by decide) ?_
    refine R_icmp_ge (tgt := 65) dX8_isPeaceful_34 (by decide) (fun c4 => ?_) (fun c4 => ?_)
    · have w := wp_f c4 w
      refine R_iconst (v := 1) dX8_isPeaceful_65 (by decide) ?_
      exact R_zreturn dX8_isPeaceful_66 rfl (by decide) ⟨_, rfl, wp_some w⟩
    · have w := wp_t c4 w
      refine R_aload_n dX8_isPeaceful_37 rfl 0 rfl ?_
      refine R_getfO (k := 5) acl8 oz8_0 (by decide) fl_RX8_42 dX8_isPeaceful_38 rfl ?_
      refine R_iconst (v := 1) dX8_isPeaceful_41 (by decide) ?_
      refine R_callVV (As := [.inl 1]) acl1 rfl oz1_1 mi_X1_passHours ml_RX8_175 rfl (Nat.le_of_ble_eq_true rfl) (by decide) dX8_isPeaceful_42 (ct_X1_passHours hA 1 oz1_1 1 σ _ (wp_bnd w)) (fun σ5 w => ?_)
      refine R_aload_n dX8_isPeaceful_45 rfl 0 rfl ?_
      refine R_getfO (k := 5) acl8 oz8_0 (by decide) fl_RX8_42 dX8_isPeaceful_46 rfl ?_
      refine R_getfA (k := 5) acl1 oz1_1 (by decide) fl_RX8_341 dX8_isPeaceful_49 rfl ?_
      refine R_iload_n dX8_isPeaceful_52 rfl 1 rfl ?_
      obtain ⟨b6, w⟩ := wp_chk w
      refine R_iald rfl oz1_1 b6 dX8_isPeaceful_53 ?_
      refine R_if_eq (tgt := 59) dX8_isPeaceful_54 (by decide) (fun c7 => ?_) (fun c7 => ?_)
      · have w := wp_t c7 w
        refine R_iinc (v := v4 + 1) (lv' := [(4, .inl (v4 + 1)), (0, .inr (.inr (8, 0, 0))), (2, .inl v2)]) dX8_isPeaceful_59 2 rfl rfl (by decide) rfl ?_
        refine R_goto (tgt := 30) dX8_isPeaceful_62 (by decide) ?_
        refine R_sub [1, 2, 0] rfl ?_
        exact ih v2 (v4 + 1) σ5 w
      · have w := wp_f c7 w
        refine R_iconst (v := 0) dX8_isPeaceful_57 (by decide) ?_
        exact R_zreturn dX8_isPeaceful_58 rfl (by decide) ⟨_, rfl, wp_some w⟩
def g_X8_isPeaceful (a0 : Int32) (a1 : Int32) (a2 : Int32) (σ : AS) : Option (Int32 × AS) := (bnd (g_X1_begin 1 0 a0 σ) fun _ σ1 => (bnd (g_X1_fit 1 a1 a2 σ1) fun _ σ2 => (lt (gF σ2 1 0 11) fun x3 => g_X8_isPeaceful_30 400 a1 x3 σ2)))
set_option maxRecDepth 100000 in
set_option maxHeartbeats 4000000 in
theorem ct_X8_isPeaceful {l : Launch} {cx : CX} (hA : AD cx) (a0 : Int32) (a1 : Int32) (a2 : Int32) (σ : AS) (Q : Int32 → AS → Prop) (w : wpO (g_X8_isPeaceful a0 a1 a2 σ) Q) : AMet l cx 7 yX8_isPeaceful cX8_isPeaceful 5 (some .boolean) [.inr (.inr (8, 0, 0)), .inl a0, .inl a1, .inl a2] σ (QI Q) := by
  unfold g_X8_isPeaceful at w
  refine AMet.of (own := RX8) (by decide) rfl hA (Nat.le_of_ble_eq_true rfl) ?_
  show RJ l cx 7 RX8 cX8_isPeaceful 5 (some .boolean) 0 [(0, .inr (.inr (8, 0, 0))), (1, .inl a0), (2, .inl a1), (3, .inl a2)] [] σ _
  refine R_aload_n dX8_isPeaceful_0 rfl 0 rfl ?_
  refine R_getfO (k := 5) acl8 oz8_0 (by decide) fl_RX8_42 dX8_isPeaceful_1 rfl ?_
  refine R_aload_n dX8_isPeaceful_4 rfl 0 rfl ?_
  refine R_getfO (k := 4) acl8 oz8_0 (by decide) fl_RX8_38 dX8_isPeaceful_5 rfl ?_
  refine R_iload_n dX8_isPeaceful_8 rfl 1 rfl ?_
  refine R_callVV (As := [.inr (.inr (1, 0, 0)), .inl a0]) acl1 rfl oz1_1 mi_X1_begin ml_RX8_203 rfl (Nat.le_of_ble_eq_true rfl) (by decide) dX8_isPeaceful_9 (ct_X1_begin hA 1 oz1_1 0 oz1_0 a0 σ _ (wp_bnd w)) (fun σ1 w => ?_)
  refine R_aload_n dX8_isPeaceful_12 rfl 0 rfl ?_
  refine R_getfO (k := 5) acl8 oz8_0 (by decide) fl_RX8_42 dX8_isPeaceful_13 rfl ?_
  refine R_iload_n dX8_isPeaceful_16 rfl 2 rfl ?_
  refine R_iload_n dX8_isPeaceful_17 rfl 3 rfl ?_
  refine R_callVV (As := [.inl a1, .inl a2]) acl1 rfl oz1_1 mi_X1_fit ml_RX8_103 rfl (Nat.le_of_ble_eq_true rfl) (by decide) dX8_isPeaceful_18 (ct_X1_fit hA 1 oz1_1 a1 a2 σ1 _ (wp_bnd w)) (fun σ2 w => ?_)
  refine R_aload_n dX8_isPeaceful_21 rfl 0 rfl ?_
  refine R_getfO (k := 4) acl8 oz8_0 (by decide) fl_RX8_38 dX8_isPeaceful_22 rfl ?_
  refine R_getfI (k := 11) acl1 oz1_0 (by decide) fl_RX8_80 dX8_isPeaceful_25 rfl ?_
  refine R_nameI w ?_; clear w; intro x3 w
  refine R_istore (lv' := [(4, .inl x3), (0, .inr (.inr (8, 0, 0))), (1, .inl a0), (2, .inl a1), (3, .inl a2)]) dX8_isPeaceful_28 (by decide) rfl ?_
  refine R_sub [1, 3, 0] rfl ?_
  exact rk_X8_isPeaceful_30 hA _ 400 a1 x3 σ2 w
def g_X8_isToldElse (o1 : Nat) (a1 : Int32) (a2 : Int32) (σ : AS) : Option (Int32 × AS) := (bnd (g_X5_hasPlace o1 a1 σ) fun r1 σ2 => (if r1 = 0 then some (0, σ2) else (bnd (g_X5_at o1 a1 σ2) fun r4 σ5 => (if lg_cmp r4 a2.toInt64 = 0 then some (0, σ5) else some (1, σ5)))))
set_option maxRecDepth 100000 in
set_option maxHeartbeats 4000000 in
theorem ct_X8_isToldElse {l : Launch} {cx : CX} (hA : AD cx) (o1 : Nat) (ho1 : o1 < am_cnt 5) (a1 : Int32) (a2 : Int32) (σ : AS) (Q : Int32 → AS → Prop) (w : wpO (g_X8_isToldElse o1 a1 a2 σ) Q) : AMet l cx 2 yX8_isToldElse cX8_isToldElse 3 (some .boolean) [.inr (.inr (5, o1, 0)), .inl a1, .inl a2] σ (QI Q) := by
  unfold g_X8_isToldElse at w
  refine AMet.of (own := RX8) (by decide) rfl hA (Nat.le_of_ble_eq_true rfl) ?_
  show RJ l cx 2 RX8 cX8_isToldElse 3 (some .boolean) 0 [(0, .inr (.inr (5, o1, 0))), (1, .inl a1), (2, .inl a2)] [] σ _
  refine R_aload_n dX8_isToldElse_0 rfl 0 rfl ?_
  refine R_iload_n dX8_isToldElse_1 rfl 1 rfl ?_
  refine R_callVI (As := [.inl a1]) acl5 rfl ho1 mi_X5_hasPlace ml_RX8_322 rfl (Nat.le_of_ble_eq_true rfl) (by decide) dX8_isToldElse_2 (ct_X5_hasPlace hA o1 ho1 a1 σ _ (wp_bnd w)) (fun r1 σ2 w => ?_)
  refine R_if_eq (tgt := 23) dX8_isToldElse_5 (by decide) (fun c3 => ?_) (fun c3 => ?_)
  · have w := wp_t c3 w
    refine R_iconst (v := 0) dX8_isToldElse_23 (by decide) ?_
    exact R_zreturn dX8_isToldElse_24 rfl (by decide) ⟨_, rfl, wp_some w⟩
  · have w := wp_f c3 w
    refine R_aload_n dX8_isToldElse_8 rfl 0 rfl ?_
    refine R_iload_n dX8_isToldElse_9 rfl 1 rfl ?_
    refine R_callVJ (As := [.inl a1]) acl5 rfl ho1 mi_X5_at ml_RX8_280 rfl (Nat.le_of_ble_eq_true rfl) (by decide) dX8_isToldElse_10 (ct_X5_at hA o1 ho1 a1 σ2 _ (wp_bnd w)) (fun r4 σ5 w => ?_)
    refine R_iload_n dX8_isToldElse_13 rfl 2 rfl ?_
    refine R_i2l dX8_isToldElse_14 ?_
    refine R_lcmp dX8_isToldElse_15 ?_
    refine R_if_eq (tgt := 23) dX8_isToldElse_16 (by decide) (fun c6 => ?_) (fun c6 => ?_)
    · have w := wp_t c6 w
      refine R_iconst (v := 0) dX8_isToldElse_23 (by decide) ?_
      exact R_zreturn dX8_isToldElse_24 rfl (by decide) ⟨_, rfl, wp_some w⟩
    · have w := wp_f c6 w
      refine R_iconst (v := 1) dX8_isToldElse_19 (by decide) ?_
      refine R_goto (tgt := 24) dX8_isToldElse_20 (by decide) ?_
      exact R_zreturn dX8_isToldElse_24 rfl (by decide) ⟨_, rfl, wp_some w⟩
def g_X4_isWithin (a0 : Int32) (a1 : Int32) (σ : AS) : Option (Int32 × AS) := (if a0 < 0 then some (0, σ) else (if a0 < 24 then (if a1 < 0 then some (0, σ) else (if a1 < 7 then some (1, σ) else some (0, σ))) else some (0, σ)))
set_option maxRecDepth 100000 in
set_option maxHeartbeats 4000000 in
theorem ct_X4_isWithin {l : Launch} {cx : CX} (hA : AD cx) (a0 : Int32) (a1 : Int32) (σ : AS) (Q : Int32 → AS → Prop) (w : wpO (g_X4_isWithin a0 a1 σ) Q) : AMet l cx 0 yX4_isWithin cX4_isWithin 2 (some .boolean) [.inl a0, .inl a1] σ (QI Q) := by
  unfold g_X4_isWithin at w
  refine AMet.of (own := RX4) (by decide) rfl hA (Nat.le_of_ble_eq_true rfl) ?_
  show RJ l cx 0 RX4 cX4_isWithin 2 (some .boolean) 0 [(0, .inl a0), (1, .inl a1)] [] σ _
  refine R_iload_n dX4_isWithin_0 rfl 0 rfl ?_
  refine R_if_lt (tgt := 24) dX4_isWithin_1 (by decide) (fun c1 => ?_) (fun c1 => ?_)
  · have w := wp_t c1 w
    refine R_iconst (v := 0) dX4_isWithin_24 (by decide) ?_
    exact R_zreturn dX4_isWithin_25 rfl (by decide) ⟨_, rfl, wp_some w⟩
  · have w := wp_f c1 w
    refine R_iload_n dX4_isWithin_4 rfl 0 rfl ?_
    refine R_bipush (v := 24) dX4_isWithin_5 (by decide) ?_
    refine R_icmp_ge (tgt := 24) dX4_isWithin_7 (by decide) (fun c2 => ?_) (fun c2 => ?_)
    · have w := wp_f c2 w
      refine R_iconst (v := 0) dX4_isWithin_24 (by decide) ?_
      exact R_zreturn dX4_isWithin_25 rfl (by decide) ⟨_, rfl, wp_some w⟩
    · have w := wp_t c2 w
      refine R_iload_n dX4_isWithin_10 rfl 1 rfl ?_
      refine R_if_lt (tgt := 24) dX4_isWithin_11 (by decide) (fun c3 => ?_) (fun c3 => ?_)
      · have w := wp_t c3 w
        refine R_iconst (v := 0) dX4_isWithin_24 (by decide) ?_
        exact R_zreturn dX4_isWithin_25 rfl (by decide) ⟨_, rfl, wp_some w⟩
      · have w := wp_f c3 w
        refine R_iload_n dX4_isWithin_14 rfl 1 rfl ?_
        refine R_bipush (v := 7) dX4_isWithin_15 (by decide) ?_
        refine R_icmp_ge (tgt := 24) dX4_isWithin_17 (by decide) (fun c4 => ?_) (fun c4 => ?_)
        · have w := wp_f c4 w
          refine R_iconst (v := 0) dX4_isWithin_24 (by decide) ?_
          exact R_zreturn dX4_isWithin_25 rfl (by decide) ⟨_, rfl, wp_some w⟩
        · have w := wp_t c4 w
          refine R_iconst (v := 1) dX4_isWithin_20 (by decide) ?_
          refine R_goto (tgt := 25) dX4_isWithin_21 (by decide) ?_
          exact R_zreturn dX4_isWithin_25 rfl (by decide) ⟨_, rfl, wp_some w⟩
def g_X4_leftOf (a0 : Int32) (a1 : Int32) (σ : AS) : Option (Int32 × AS) := (bnd (g_X4_isWithin a0 a1 σ) fun r1 σ2 => (if r1 = 0 then some (0, σ2) else (if inb ((a0 * 7) + a1) 168 then some (gA σ2 4 0 0 ((a0 * 7) + a1), σ2) else none)))
set_option maxRecDepth 100000 in
set_option maxHeartbeats 4000000 in
theorem ct_X4_leftOf {l : Launch} {cx : CX} (hA : AD cx) (a0 : Int32) (a1 : Int32) (σ : AS) (Q : Int32 → AS → Prop) (w : wpO (g_X4_leftOf a0 a1 σ) Q) : AMet l cx 1 yX4_leftOf cX4_leftOf 3 (some .int) [.inr (.inr (4, 0, 0)), .inl a0, .inl a1] σ (QI Q) := by
  unfold g_X4_leftOf at w
  refine AMet.of (own := RX4) (by decide) rfl hA (Nat.le_of_ble_eq_true rfl) ?_
  show RJ l cx 1 RX4 cX4_leftOf 3 (some .int) 0 [(0, .inr (.inr (4, 0, 0))), (1, .inl a0), (2, .inl a1)] [] σ _
  refine R_iload_n dX4_leftOf_0 rfl 1 rfl ?_
  refine R_iload_n dX4_leftOf_1 rfl 2 rfl ?_
  refine R_callSI (As := [.inl a0, .inl a1]) mi_X4_isWithin ml_RX4_46 rfl (Nat.le_of_ble_eq_true rfl) (by decide) dX4_leftOf_2 (ct_X4_isWithin hA a0 a1 σ _ (wp_bnd w)) (fun r1 σ2 w => ?_)
  refine R_if_eq (tgt := 22) dX4_leftOf_5 (by decide) (fun c3 => ?_) (fun c3 => ?_)
  · have w := wp_t c3 w
    refine R_iconst (v := 0) dX4_leftOf_22 (by decide) ?_
    exact R_ireturn dX4_leftOf_23 rfl ⟨_, rfl, wp_some w⟩
  · have w := wp_f c3 w
    refine R_aload_n dX4_leftOf_8 rfl 0 rfl ?_
    refine R_getfA (k := 0) acl4 oz4_0 (by decide) fl_RX4_9 dX4_leftOf_9 rfl ?_
    refine R_iload_n dX4_leftOf_12 rfl 1 rfl ?_
    refine R_bipush (v := 7) dX4_leftOf_13 (by decide) ?_
    refine R_imul dX4_leftOf_15 ?_
    refine R_iload_n dX4_leftOf_16 rfl 2 rfl ?_
    refine R_iadd dX4_leftOf_17 ?_
    obtain ⟨b4, w⟩ := wp_chk w
    refine R_iald rfl oz4_0 b4 dX4_leftOf_18 ?_
    refine R_goto (tgt := 23) dX4_leftOf_19 (by decide) ?_
    exact R_ireturn dX4_leftOf_23 rfl ⟨_, rfl, wp_some w⟩
def g_X4_rightOf (a0 : Int32) (a1 : Int32) (σ : AS) : Option (Int32 × AS) := (bnd (g_X4_isWithin a0 a1 σ) fun r1 σ2 => (if r1 = 0 then some (0, σ2) else (if inb ((a0 * 7) + a1) 168 then some (gA σ2 4 0 1 ((a0 * 7) + a1), σ2) else none)))
set_option maxRecDepth 100000 in
set_option maxHeartbeats 4000000 in
theorem ct_X4_rightOf {l : Launch} {cx : CX} (hA : AD cx) (a0 : Int32) (a1 : Int32) (σ : AS) (Q : Int32 → AS → Prop) (w : wpO (g_X4_rightOf a0 a1 σ) Q) : AMet l cx 1 yX4_rightOf cX4_rightOf 3 (some .int) [.inr (.inr (4, 0, 0)), .inl a0, .inl a1] σ (QI Q) := by
  unfold g_X4_rightOf at w
  refine AMet.of (own := RX4) (by decide) rfl hA (Nat.le_of_ble_eq_true rfl) ?_
  show RJ l cx 1 RX4 cX4_rightOf 3 (some .int) 0 [(0, .inr (.inr (4, 0, 0))), (1, .inl a0), (2, .inl a1)] [] σ _
  refine R_iload_n dX4_rightOf_0 rfl 1 rfl ?_
  refine R_iload_n dX4_rightOf_1 rfl 2 rfl ?_
  refine R_callSI (As := [.inl a0, .inl a1]) mi_X4_isWithin ml_RX4_46 rfl (Nat.le_of_ble_eq_true rfl) (by decide) dX4_rightOf_2 (ct_X4_isWithin hA a0 a1 σ _ (wp_bnd w)) (fun r1 σ2 w => ?_)
  refine R_if_eq (tgt := 22) dX4_rightOf_5 (by decide) (fun c3 => ?_) (fun c3 => ?_)
  · have w := wp_t c3 w
    refine R_iconst (v := 0) dX4_rightOf_22 (by decide) ?_
    exact R_ireturn dX4_rightOf_23 rfl ⟨_, rfl, wp_some w⟩
  · have w := wp_f c3 w
    refine R_aload_n dX4_rightOf_8 rfl 0 rfl ?_
    refine R_getfA (k := 1) acl4 oz4_0 (by decide) fl_RX4_15 dX4_rightOf_9 rfl ?_
    refine R_iload_n dX4_rightOf_12 rfl 1 rfl ?_
    refine R_bipush (v := 7) dX4_rightOf_13 (by decide) ?_
    refine R_imul dX4_rightOf_15 ?_
    refine R_iload_n dX4_rightOf_16 rfl 2 rfl ?_
    refine R_iadd dX4_rightOf_17 ?_
    obtain ⟨b4, w⟩ := wp_chk w
    refine R_iald rfl oz4_0 b4 dX4_rightOf_18 ?_
    refine R_goto (tgt := 23) dX4_rightOf_19 (by decide) ?_
    exact R_ireturn dX4_rightOf_23 rfl ⟨_, rfl, wp_some w⟩
def g_X8_judge_52   (p3 : Nat) : Nat → Int32 → Int32 → AS → Option (Int32 × AS)
  | 0, _, _, _ => none
  | f0 + 1, v2, v4, σ => (if v4 < gF σ 1 0 11 then (bnd (g_X4_leftOf v4 v2 σ) fun r11 σ12 => (bnd (g_X8_isToldElse p3 (2 * v4) r11 σ12) fun r13 σ14 => (if r13 = 0 then (bnd (g_X4_rightOf v4 v2 σ14) fun r16 σ17 => (bnd (g_X8_isToldElse p3 ((2 * v4) + 1) r16 σ17) fun r18 σ19 => (if r18 = 0 then (g_X8_judge_52 p3 f0) v2 (v4 + 1) σ19 else some (v4, σ19)))) else some (v4, σ14)))) else some ((-2), σ))
set_option maxRecDepth 100000 in
set_option maxHeartbeats 4000000 in
theorem rk_X8_judge_52 {l : Launch} {cx : CX} (hA : AD cx)   (p3 : Nat) (hp3 : p3 < am_cnt 5) (Q : Int32 → AS → Prop) : ∀ (f0 : Nat) (v2 : Int32) (v4 : Int32) (σ : AS), wpO (g_X8_judge_52 p3 f0 v2 v4 σ) Q → RJ l cx 3 RX8 cX8_judge 5 (some .int) 52 [(0, .inr (.inr (8, 0, 0))), (2, .inl v2), (3, .inr (.inr (5, p3, 0))), (4, .inl v4)] [] σ (QI Q) := by
  intro f0
  induction f0 with
  | zero => intro v2 v4 σ w; exact wp_no w
  | succ f0 ih =>
    intro v2 v4 σ w
    rw [g_X8_judge_52] at w
    refine R_iload dX8_judge_52 3 rfl ?_
    refine R_aload_n dX8_judge_54 rfl 0 rfl ?_
    refine R_getfO (k := 4) acl8 oz8_0 (by decide) fl_RX8_38 dX8_judge_55 rfl ?_
    refine R_getfI (k := 11) acl1 oz1_0 (by decide) fl_RX8_80 dX8_judge_58 rfl ?_
    refine R_icmp_ge (tgt := 120) dX8_judge_61 (by decide) (fun c10 => ?_) (fun c10 => ?_)
    · have w := wp_f c10 w
      refine R_bipush (v := (-2)) dX8_judge_120 (by decide) ?_
      exact R_ireturn dX8_judge_122 rfl ⟨_, rfl, wp_some w⟩
    · have w := wp_t c10 w
      refine R_aload_n dX8_judge_64 rfl 2 rfl ?_
      refine R_iconst (v := 2) dX8_judge_65 (by decide) ?_
      refine R_iload dX8_judge_66 3 rfl ?_
      refine R_imul dX8_judge_68 ?_
      refine R_aload_n dX8_judge_69 rfl 0 rfl ?_
      refine R_getfO (k := 7) acl8 oz8_0 (by decide) fl_RX8_51 dX8_judge_70 rfl ?_
      refine R_iload dX8_judge_73 3 rfl ?_
      refine R_iload_n dX8_judge_75 rfl 1 rfl ?_
      refine R_callVI (As := [.inl v4, .inl v2]) acl4 rfl oz4_0 mi_X4_leftOf ml_RX8_183 rfl (Nat.le_of_ble_eq_true rfl) (by decide) dX8_judge_76 (ct_X4_leftOf hA v4 v2 σ _ (wp_bnd w)) (fun r11 σ12 w => ?_)
      refine R_callSI (As := [.inr (.inr (5, p3, 0)), .inl (2 * v4), .inl r11]) mi_X8_isToldElse ml_RX8_192 rfl (Nat.le_of_ble_eq_true rfl) (by decide) dX8_judge_79 (ct_X8_isToldElse hA p3 hp3 (2 * v4) r11 σ12 _ (wp_bnd w)) (fun r13 σ14 w => ?_)
      refine R_if_eq (tgt := 88) dX8_judge_82 (by decide) (fun c15 => ?_) (fun c15 => ?_)
      · have w := wp_t c15 w
        refine R_aload_n dX8_judge_88 rfl 2 rfl ?_
        refine R_iconst (v := 2) dX8_judge_89 (by decide) ?_
        refine R_iload dX8_judge_90 3 rfl ?_
        refine R_imul dX8_judge_92 ?_
        refine R_iconst (v := 1) dX8_judge_93 (by decide) ?_
        refine R_iadd dX8_judge_94 ?_
        refine R_aload_n dX8_judge_95 rfl 0 rfl ?_
        refine R_getfO (k := 7) acl8 oz8_0 (by decide) fl_RX8_51 dX8_judge_96 rfl ?_
        refine R_iload dX8_judge_99 3 rfl ?_
        refine R_iload_n dX8_judge_101 rfl 1 rfl ?_
        refine R_callVI (As := [.inl v4, .inl v2]) acl4 rfl oz4_0 mi_X4_rightOf ml_RX8_186 rfl (Nat.le_of_ble_eq_true rfl) (by decide) dX8_judge_102 (ct_X4_rightOf hA v4 v2 σ14 _ (wp_bnd w)) (fun r16 σ17 w => ?_)
        refine R_callSI (As := [.inr (.inr (5, p3, 0)), .inl ((2 * v4) + 1), .inl r16]) mi_X8_isToldElse ml_RX8_192 rfl (Nat.le_of_ble_eq_true rfl) (by decide) dX8_judge_105 (ct_X8_isToldElse hA p3 hp3 ((2 * v4) + 1) r16 σ17 _ (wp_bnd w)) (fun r18 σ19 w => ?_)
        refine R_if_eq (tgt := 114) dX8_judge_108 (by decide) (fun c20 => ?_) (fun c20 => ?_)
        · have w := wp_t c20 w
          refine R_iinc (v := v4 + 1) (lv' := [(4, .inl (v4 + 1)), (0, .inr (.inr (8, 0, 0))), (2, .inl v2), (3, .inr (.inr (5, p3, 0)))]) dX8_judge_114 3 rfl rfl (by decide) rfl ?_
          refine R_goto (tgt := 52) dX8_judge_117 (by decide) ?_
          refine R_sub [1, 2, 3, 0] rfl ?_
          exact ih v2 (v4 + 1) σ19 w
        · have w := wp_f c20 w
          refine R_iload dX8_judge_111 3 rfl ?_
          exact R_ireturn dX8_judge_113 rfl ⟨_, rfl, wp_some w⟩
      · have w := wp_f c15 w
        refine R_iload dX8_judge_85 3 rfl ?_
        exact R_ireturn dX8_judge_87 rfl ⟨_, rfl, wp_some w⟩
def g_X8_judge (a0 : Int32) (a1 : Int32) (σ : AS) : Option (Int32 × AS) := (bnd (g_X8_isShelf a0 σ) fun r1 σ2 => (if r1 = 0 then some ((-1), σ2) else (bnd (g_X6_hasRest a1 σ2) fun r4 σ5 => (if r4 = 0 then some ((-1), σ5) else (if inb a0 6 then (if gF σ5 5 a0.toNatClampNeg 2 = (-2) then some ((-11), σ5) else (if gF σ5 5 a0.toNatClampNeg 2 = 0 then g_X8_judge_52 a0.toNatClampNeg 400 a1 0 σ5 else some ((-12), σ5))) else none)))))
set_option maxRecDepth 100000 in
set_option maxHeartbeats 4000000 in
theorem ct_X8_judge {l : Launch} {cx : CX} (hA : AD cx) (a0 : Int32) (a1 : Int32) (σ : AS) (Q : Int32 → AS → Prop) (w : wpO (g_X8_judge a0 a1 σ) Q) : AMet l cx 3 yX8_judge cX8_judge 5 (some .int) [.inr (.inr (8, 0, 0)), .inl a0, .inl a1] σ (QI Q) := by
  unfold g_X8_judge at w
  refine AMet.of (own := RX8) (by decide) rfl hA (Nat.le_of_ble_eq_true rfl) ?_
  show RJ l cx 3 RX8 cX8_judge 5 (some .int) 0 [(0, .inr (.inr (8, 0, 0))), (1, .inl a0), (2, .inl a1)] [] σ _
  refine R_iload_n dX8_judge_0 rfl 1 rfl ?_
  refine R_callSI (As := [.inl a0]) mi_X8_isShelf ml_RX8_88 rfl (Nat.le_of_ble_eq_true rfl) (by decide) dX8_judge_1 (ct_X8_isShelf hA a0 σ _ (wp_bnd w)) (fun r1 σ2 w => ?_)
  refine R_if_eq (tgt := 18) dX8_judge_4 (by decide) (fun c3 => ?_) (fun c3 => ?_)
  · have w := wp_t c3 w
    refine R_iconst (v := (-1)) dX8_judge_18 (by decide) ?_
    exact R_ireturn dX8_judge_19 rfl ⟨_, rfl, wp_some w⟩
  · have w := wp_f c3 w
    refine R_aload_n dX8_judge_7 rfl 0 rfl ?_
    refine R_getfO (k := 0) acl8 oz8_0 (by decide) fl_RX8_10 dX8_judge_8 rfl ?_
    refine R_iload_n dX8_judge_11 rfl 2 rfl ?_
    refine R_callVI (As := [.inl a1]) acl6 rfl oz6_0 mi_X6_hasRest ml_RX8_150 rfl (Nat.le_of_ble_eq_true rfl) (by decide) dX8_judge_12 (ct_X6_hasRest hA a1 σ2 _ (wp_bnd w)) (fun r4 σ5 w => ?_)
    refine R_if_ne (tgt := 20) dX8_judge_15 (by decide) (fun c6 => ?_) (fun c6 => ?_)
    · have w := wp_f c6 w
      refine R_aload_n dX8_judge_20 rfl 0 rfl ?_
      refine R_getfA (k := 10) acl8 oz8_0 (by decide) fl_RX8_71 dX8_judge_21 rfl ?_
      refine R_iload_n dX8_judge_24 rfl 1 rfl ?_
      obtain ⟨b7, w⟩ := wp_chk w
      refine R_aald rfl oz8_0 b7 dX8_judge_25 ?_
      refine R_astore_n (lv' := [(3, .inr (.inr (5, a0.toNatClampNeg, 0))), (0, .inr (.inr (8, 0, 0))), (1, .inl a0), (2, .inl a1)]) dX8_judge_26 rfl (by decide) rfl ?_
      refine R_aload_n dX8_judge_27 rfl 0 rfl ?_
      refine R_getfI (k := 2) acl5 b7.2 (by decide) fl_RX8_92 dX8_judge_28 rfl ?_
      refine R_bipush (v := (-2)) dX8_judge_31 (by decide) ?_
      refine R_icmp_ne (tgt := 39) dX8_judge_33 (by decide) (fun c8 => ?_) (fun c8 => ?_)
      · have w := wp_f c8 w
        refine R_aload_n dX8_judge_39 rfl 0 rfl ?_
        refine R_getfI (k := 2) acl5 b7.2 (by decide) fl_RX8_92 dX8_judge_40 rfl ?_
        refine R_if_eq (tgt := 49) dX8_judge_43 (by decide) (fun c9 => ?_) (fun c9 => ?_)
        · have w := wp_t c9 w
          refine R_iconst (v := 0) dX8_judge_49 (by decide) ?_
          refine R_istore (lv' := [(4, .inl 0), (3, .inr (.inr (5, a0.toNatClampNeg, 0))), (0, .inr (.inr (8, 0, 0))), (1, .inl a0), (2, .inl a1)]) dX8_judge_50 (by decide) rfl ?_
          refine R_sub [2, 4, 1, 0] rfl ?_
          exact rk_X8_judge_52 hA a0.toNatClampNeg b7.2 _ 400 a1 0 σ5 w
        · have w := wp_f c9 w
          refine R_bipush (v := (-12)) dX8_judge_46 (by decide) ?_
          exact R_ireturn dX8_judge_48 rfl ⟨_, rfl, wp_some w⟩
      · have w := wp_t c8 w
        refine R_bipush (v := (-11)) dX8_judge_36 (by decide) ?_
        exact R_ireturn dX8_judge_38 rfl ⟨_, rfl, wp_some w⟩
    · have w := wp_t c6 w
      refine R_iconst (v := (-1)) dX8_judge_18 (by decide) ?_
      exact R_ireturn dX8_judge_19 rfl ⟨_, rfl, wp_some w⟩
def g_X5_become (o : Nat) (a0 : Int32) (a1 : Int32) (a2 : Int32) (σ : AS) : Option (Unit × AS) := (lt (sF σ 5 o 2 a0) fun σ1 => (lt (sF σ1 5 o 1 a1) fun σ2 => (lt (sF σ2 5 o 3 a2) fun σ3 => some ((), σ3))))
set_option maxRecDepth 100000 in
set_option maxHeartbeats 4000000 in
theorem ct_X5_become {l : Launch} {cx : CX} (hA : AD cx) (o : Nat) (ho : o < am_cnt 5) (a0 : Int32) (a1 : Int32) (a2 : Int32) (σ : AS) (Q : Unit → AS → Prop) (w : wpO (g_X5_become o a0 a1 a2 σ) Q) : AMet l cx 0 yX5_become cX5_become 4 none [.inr (.inr (5, o, 0)), .inl a0, .inl a1, .inl a2] σ (QV Q) := by
  unfold g_X5_become at w
  refine AMet.of (own := RX5) (by decide) rfl hA (Nat.le_of_ble_eq_true rfl) ?_
  show RJ l cx 0 RX5 cX5_become 4 none 0 [(0, .inr (.inr (5, o, 0))), (1, .inl a0), (2, .inl a1), (3, .inl a2)] [] σ _
  refine R_aload_n dX5_become_0 rfl 0 rfl ?_
  refine R_iload_n dX5_become_1 rfl 1 rfl ?_
  refine R_putf (k := 2) (ty := .int) acl5 ho (by decide) fl_RX5_19 rfl (tyX5_ok 2 (by decide)) (Or.inl rfl) dX5_become_2 rfl ?_
  refine R_nameS w ?_; clear w; intro σ1 w
  refine R_aload_n dX5_become_5 rfl 0 rfl ?_
  refine R_iload_n dX5_become_6 rfl 2 rfl ?_
  refine R_putf (k := 1) (ty := .int) acl5 ho (by decide) fl_RX5_15 rfl (tyX5_ok 1 (by decide)) (Or.inl rfl) dX5_become_7 rfl ?_
  refine R_nameS w ?_; clear w; intro σ2 w
  refine R_aload_n dX5_become_10 rfl 0 rfl ?_
  refine R_iload_n dX5_become_11 rfl 3 rfl ?_
  refine R_putf (k := 3) (ty := .int) acl5 ho (by decide) fl_RX5_22 rfl (tyX5_ok 3 (by decide)) (Or.inl rfl) dX5_become_12 rfl ?_
  refine R_nameS w ?_; clear w; intro σ3 w
  exact R_vreturn dX5_become_15 rfl ⟨rfl, wp_some w⟩
def g_X5_clear (o : Nat) (σ : AS) : Option (Unit × AS) := (bnd (g_X5_become o (-2) 0 (-1) σ) fun _ σ1 => some ((), σ1))
set_option maxRecDepth 100000 in
set_option maxHeartbeats 4000000 in
theorem ct_X5_clear {l : Launch} {cx : CX} (hA : AD cx) (o : Nat) (ho : o < am_cnt 5) (σ : AS) (Q : Unit → AS → Prop) (w : wpO (g_X5_clear o σ) Q) : AMet l cx 1 yX5_clear cX5_clear 1 none [.inr (.inr (5, o, 0))] σ (QV Q) := by
  unfold g_X5_clear at w
  refine AMet.of (own := RX5) (by decide) rfl hA (Nat.le_of_ble_eq_true rfl) ?_
  show RJ l cx 1 RX5 cX5_clear 1 none 0 [(0, .inr (.inr (5, o, 0)))] [] σ _
  refine R_aload_n dX5_clear_0 rfl 0 rfl ?_
  refine R_bipush (v := (-2)) dX5_clear_1 (by decide) ?_
  refine R_iconst (v := 0) dX5_clear_3 (by decide) ?_
  refine R_iconst (v := (-1)) dX5_clear_4 (by decide) ?_
  refine R_callVV (As := [.inl (-2), .inl 0, .inl (-1)]) acl5 rfl ho mi_X5_become ml_RX5_25 rfl (Nat.le_of_ble_eq_true rfl) (by decide) dX5_clear_5 (ct_X5_become hA o ho (-2) 0 (-1) σ _ (wp_bnd w)) (fun σ1 w => ?_)
  exact R_vreturn dX5_clear_8 rfl ⟨rfl, wp_some w⟩
def g_X5_hold (o : Nat) (a0 : Int32) (σ : AS) : Option (Unit × AS) := (bnd (g_X5_become o (-1) 0 a0 σ) fun _ σ1 => some ((), σ1))
set_option maxRecDepth 100000 in
set_option maxHeartbeats 4000000 in
theorem ct_X5_hold {l : Launch} {cx : CX} (hA : AD cx) (o : Nat) (ho : o < am_cnt 5) (a0 : Int32) (σ : AS) (Q : Unit → AS → Prop) (w : wpO (g_X5_hold o a0 σ) Q) : AMet l cx 1 yX5_hold cX5_hold 2 none [.inr (.inr (5, o, 0)), .inl a0] σ (QV Q) := by
  unfold g_X5_hold at w
  refine AMet.of (own := RX5) (by decide) rfl hA (Nat.le_of_ble_eq_true rfl) ?_
  show RJ l cx 1 RX5 cX5_hold 2 none 0 [(0, .inr (.inr (5, o, 0))), (1, .inl a0)] [] σ _
  refine R_aload_n dX5_hold_0 rfl 0 rfl ?_
  refine R_iconst (v := (-1)) dX5_hold_1 (by decide) ?_
  refine R_iconst (v := 0) dX5_hold_2 (by decide) ?_
  refine R_iload_n dX5_hold_3 rfl 1 rfl ?_
  refine R_callVV (As := [.inl (-1), .inl 0, .inl a0]) acl5 rfl ho mi_X5_become ml_RX5_25 rfl (Nat.le_of_ble_eq_true rfl) (by decide) dX5_hold_4 (ct_X5_become hA o ho (-1) 0 a0 σ _ (wp_bnd w)) (fun σ1 w => ?_)
  exact R_vreturn dX5_hold_7 rfl ⟨rfl, wp_some w⟩
def g_X8_keep_25    (v1 : Int32) (v2 : Int32) (σ : AS) : Option (Int32 × AS) := (if v2 = (-1) then (if inb v1 6 then (bnd (g_X5_clear v1.toNatClampNeg σ) fun _ σ9 => some (1, σ9)) else none) else (if inb v1 6 then (bnd (g_X5_hold v1.toNatClampNeg v2 σ) fun _ σ7 => some (1, σ7)) else none))
set_option maxRecDepth 100000 in
set_option maxHeartbeats 4000000 in
theorem rk_X8_keep_25 {l : Launch} {cx : CX} (hA : AD cx)    (Q : Int32 → AS → Prop) (v1 : Int32) (v2 : Int32) (σ : AS) (w : wpO (g_X8_keep_25 v1 v2 σ) Q) : RJ l cx 2 RX8 cX8_keep 3 (some .int) 25 [(0, .inr (.inr (8, 0, 0))), (1, .inl v1), (2, .inl v2)] [] σ (QI Q) := by
  unfold g_X8_keep_25 at w
  refine R_iload_n dX8_keep_25 rfl 2 rfl ?_
  refine R_iconst (v := (-1)) dX8_keep_26 (by decide) ?_
  refine R_icmp_ne (tgt := 42) dX8_keep_27 (by decide) (fun c5 => ?_) (fun c5 => ?_)
  · have w := wp_f c5 w
    refine R_aload_n dX8_keep_42 rfl 0 rfl ?_
    refine R_getfA (k := 10) acl8 oz8_0 (by decide) fl_RX8_71 dX8_keep_43 rfl ?_
    refine R_iload_n dX8_keep_46 rfl 1 rfl ?_
    obtain ⟨b6, w⟩ := wp_chk w
    refine R_aald rfl oz8_0 b6 dX8_keep_47 ?_
    refine R_iload_n dX8_keep_48 rfl 2 rfl ?_
    refine R_callVV (As := [.inl v2]) acl5 rfl b6.2 mi_X5_hold ml_RX8_263 rfl (Nat.le_of_ble_eq_true rfl) (by decide) dX8_keep_49 (ct_X5_hold hA v1.toNatClampNeg b6.2 v2 σ _ (wp_bnd w)) (fun σ7 w => ?_)
    refine R_iconst (v := 1) dX8_keep_52 (by decide) ?_
    exact R_ireturn dX8_keep_53 rfl ⟨_, rfl, wp_some w⟩
  · have w := wp_t c5 w
    refine R_aload_n dX8_keep_30 rfl 0 rfl ?_
    refine R_getfA (k := 10) acl8 oz8_0 (by decide) fl_RX8_71 dX8_keep_31 rfl ?_
    refine R_iload_n dX8_keep_34 rfl 1 rfl ?_
    obtain ⟨b8, w⟩ := wp_chk w
    refine R_aald rfl oz8_0 b8 dX8_keep_35 ?_
    refine R_callVV (As := []) acl5 rfl b8.2 mi_X5_clear ml_RX8_262 rfl (Nat.le_of_ble_eq_true rfl) (by decide) dX8_keep_36 (ct_X5_clear hA v1.toNatClampNeg b8.2 σ _ (wp_bnd w)) (fun σ9 w => ?_)
    refine R_goto (tgt := 52) dX8_keep_39 (by decide) ?_
    refine R_iconst (v := 1) dX8_keep_52 (by decide) ?_
    exact R_ireturn dX8_keep_53 rfl ⟨_, rfl, wp_some w⟩
def g_X8_keep (a0 : Int32) (a1 : Int32) (σ : AS) : Option (Int32 × AS) := (bnd (g_X8_isShelf a0 σ) fun r1 σ2 => (if r1 = 0 then some ((-1), σ2) else (if a1 = (-1) then g_X8_keep_25 a0 a1 σ2 else (bnd (g_X2_has a1 σ2) fun r10 σ11 => (if r10 = 0 then some ((-1), σ11) else g_X8_keep_25 a0 a1 σ11)))))
set_option maxRecDepth 100000 in
set_option maxHeartbeats 4000000 in
theorem ct_X8_keep {l : Launch} {cx : CX} (hA : AD cx) (a0 : Int32) (a1 : Int32) (σ : AS) (Q : Int32 → AS → Prop) (w : wpO (g_X8_keep a0 a1 σ) Q) : AMet l cx 2 yX8_keep cX8_keep 3 (some .int) [.inr (.inr (8, 0, 0)), .inl a0, .inl a1] σ (QI Q) := by
  unfold g_X8_keep at w
  refine AMet.of (own := RX8) (by decide) rfl hA (Nat.le_of_ble_eq_true rfl) ?_
  show RJ l cx 2 RX8 cX8_keep 3 (some .int) 0 [(0, .inr (.inr (8, 0, 0))), (1, .inl a0), (2, .inl a1)] [] σ _
  refine R_iload_n dX8_keep_0 rfl 1 rfl ?_
  refine R_callSI (As := [.inl a0]) mi_X8_isShelf ml_RX8_88 rfl (Nat.le_of_ble_eq_true rfl) (by decide) dX8_keep_1 (ct_X8_isShelf hA a0 σ _ (wp_bnd w)) (fun r1 σ2 w => ?_)
  refine R_if_eq (tgt := 23) dX8_keep_4 (by decide) (fun c3 => ?_) (fun c3 => ?_)
  · have w := wp_t c3 w
    refine R_iconst (v := (-1)) dX8_keep_23 (by decide) ?_
    exact R_ireturn dX8_keep_24 rfl ⟨_, rfl, wp_some w⟩
  · have w := wp_f c3 w
    refine R_iload_n dX8_keep_7 rfl 2 rfl ?_
    refine R_iconst (v := (-1)) dX8_keep_8 (by decide) ?_
    refine R_icmp_eq (tgt := 25) dX8_keep_9 (by decide) (fun c4 => ?_) (fun c4 => ?_)
    · have w := wp_t c4 w
      refine R_sub [0, 1, 2] rfl ?_
      exact rk_X8_keep_25 hA _ a0 a1 σ2 w
    · have w := wp_f c4 w
      refine R_aload_n dX8_keep_12 rfl 0 rfl ?_
      refine R_getfO (k := 9) acl8 oz8_0 (by decide) fl_RX8_65 dX8_keep_13 rfl ?_
      refine R_iload_n dX8_keep_16 rfl 2 rfl ?_
      refine R_callVI (As := [.inl a1]) acl2 rfl oz2_0 mi_X2_has ml_RX8_261 rfl (Nat.le_of_ble_eq_true rfl) (by decide) dX8_keep_17 (ct_X2_has hA a1 σ2 _ (wp_bnd w)) (fun r10 σ11 w => ?_)
      refine R_if_ne (tgt := 25) dX8_keep_20 (by decide) (fun c12 => ?_) (fun c12 => ?_)
      · have w := wp_f c12 w
        refine R_sub [0, 1, 2] rfl ?_
        exact rk_X8_keep_25 hA _ a0 a1 σ11 w
      · have w := wp_t c12 w
        refine R_iconst (v := (-1)) dX8_keep_23 (by decide) ?_
        exact R_ireturn dX8_keep_24 rfl ⟨_, rfl, wp_some w⟩
def g_X3_become (o : Nat) (o1 : Nat) (σ : AS) : Option (Unit × AS) := (lt (cpyA σ 3 o1 0 3 o 0 0 0 128) fun σ1 => (lt (cpyA σ1 3 o1 1 3 o 1 0 0 128) fun σ2 => (lt (sF σ2 3 o 4 (gF σ2 3 o1 4)) fun σ3 => some ((), σ3))))
set_option maxRecDepth 100000 in
set_option maxHeartbeats 4000000 in
theorem ct_X3_become {l : Launch} {cx : CX} (hA : AD cx) (o : Nat) (ho : o < am_cnt 3) (o1 : Nat) (ho1 : o1 < am_cnt 3) (σ : AS) (Q : Unit → AS → Prop) (w : wpO (g_X3_become o o1 σ) Q) : AMet l cx 2 yX3_become cX3_become 2 none [.inr (.inr (3, o, 0)), .inr (.inr (3, o1, 0))] σ (QV Q) := by
  unfold g_X3_become at w
  refine AMet.of (own := RX3) (by decide) rfl hA (Nat.le_of_ble_eq_true rfl) ?_
  show RJ l cx 2 RX3 cX3_become 2 none 0 [(0, .inr (.inr (3, o, 0))), (1, .inr (.inr (3, o1, 0)))] [] σ _
  refine R_aload_n dX3_become_0 rfl 1 rfl ?_
  refine R_getfA (k := 0) acl3 ho1 (by decide) fl_RX3_9 dX3_become_1 rfl ?_
  refine R_iconst (v := 0) dX3_become_4 (by decide) ?_
  refine R_aload_n dX3_become_5 rfl 0 rfl ?_
  refine R_getfA (k := 0) acl3 ho (by decide) fl_RX3_9 dX3_become_6 rfl ?_
  refine R_iconst (v := 0) dX3_become_9 (by decide) ?_
  refine R_sipush (v := 128) dX3_become_10 (by decide) ?_
  refine R_copyA rfl rfl ho1 ho (by decide) ml_RX3_29 (by decide) (Nat.le_of_ble_eq_true rfl) dX3_become_13 ?_
  refine R_nameS w ?_; clear w; intro σ1 w
  refine R_aload_n dX3_become_16 rfl 1 rfl ?_
  refine R_getfA (k := 1) acl3 ho1 (by decide) fl_RX3_13 dX3_become_17 rfl ?_
  refine R_iconst (v := 0) dX3_become_20 (by decide) ?_
  refine R_aload_n dX3_become_21 rfl 0 rfl ?_
  refine R_getfA (k := 1) acl3 ho (by decide) fl_RX3_13 dX3_become_22 rfl ?_
  refine R_iconst (v := 0) dX3_become_25 (by decide) ?_
  refine R_sipush (v := 128) dX3_become_26 (by decide) ?_
  refine R_copyA rfl rfl ho1 ho (by decide) ml_RX3_29 (by decide) (Nat.le_of_ble_eq_true rfl) dX3_become_29 ?_
  refine R_nameS w ?_; clear w; intro σ2 w
  refine R_aload_n dX3_become_32 rfl 0 rfl ?_
  refine R_aload_n dX3_become_33 rfl 1 rfl ?_
  refine R_getfI (k := 4) acl3 ho1 (by decide) fl_RX3_22 dX3_become_34 rfl ?_
  refine R_putf (k := 4) (ty := .int) acl3 ho (by decide) fl_RX3_22 rfl (tyX3_ok 4 (by decide)) (Or.inl rfl) dX3_become_37 rfl ?_
  refine R_nameS w ?_; clear w; intro σ3 w
  exact R_vreturn dX3_become_40 rfl ⟨rfl, wp_some w⟩
def g_X7_clear (σ : AS) : Option (Unit × AS) := (lt (sF σ 7 0 1 0) fun σ1 => some ((), σ1))
set_option maxRecDepth 100000 in
set_option maxHeartbeats 4000000 in
theorem ct_X7_clear {l : Launch} {cx : CX} (hA : AD cx) (σ : AS) (Q : Unit → AS → Prop) (w : wpO (g_X7_clear σ) Q) : AMet l cx 0 yX7_clear cX7_clear 1 none [.inr (.inr (7, 0, 0))] σ (QV Q) := by
  unfold g_X7_clear at w
  refine AMet.of (own := RX7) (by decide) rfl hA (Nat.le_of_ble_eq_true rfl) ?_
  show RJ l cx 0 RX7 cX7_clear 1 none 0 [(0, .inr (.inr (7, 0, 0)))] [] σ _
  refine R_aload_n dX7_clear_0 rfl 0 rfl ?_
  refine R_iconst (v := 0) dX7_clear_1 (by decide) ?_
  refine R_putf (k := 1) (ty := .int) acl7 oz7_0 (by decide) fl_RX7_15 rfl (tyX7_ok 1 (by decide)) (Or.inl rfl) dX7_clear_2 rfl ?_
  refine R_nameS w ?_; clear w; intro σ1 w
  exact R_vreturn dX7_clear_5 rfl ⟨rfl, wp_some w⟩
def g_X3_clear (o : Nat) (σ : AS) : Option (Unit × AS) := (lt (sF σ 3 o 4 0) fun σ1 => some ((), σ1))
set_option maxRecDepth 100000 in
set_option maxHeartbeats 4000000 in
theorem ct_X3_clear {l : Launch} {cx : CX} (hA : AD cx) (o : Nat) (ho : o < am_cnt 3) (σ : AS) (Q : Unit → AS → Prop) (w : wpO (g_X3_clear o σ) Q) : AMet l cx 0 yX3_clear cX3_clear 1 none [.inr (.inr (3, o, 0))] σ (QV Q) := by
  unfold g_X3_clear at w
  refine AMet.of (own := RX3) (by decide) rfl hA (Nat.le_of_ble_eq_true rfl) ?_
  show RJ l cx 0 RX3 cX3_clear 1 none 0 [(0, .inr (.inr (3, o, 0)))] [] σ _
  refine R_aload_n dX3_clear_0 rfl 0 rfl ?_
  refine R_iconst (v := 0) dX3_clear_1 (by decide) ?_
  refine R_putf (k := 4) (ty := .int) acl3 ho (by decide) fl_RX3_22 rfl (tyX3_ok 4 (by decide)) (Or.inl rfl) dX3_clear_2 rfl ?_
  refine R_nameS w ?_; clear w; intro σ1 w
  exact R_vreturn dX3_clear_5 rfl ⟨rfl, wp_some w⟩
def g_X7_fail (σ : AS) : Option (Unit × AS) := (if gF σ 7 0 3 < 0 then (lt (sF σ 7 0 3 (gF σ 7 0 2)) fun σ2 => some ((), σ2)) else some ((), σ))
set_option maxRecDepth 100000 in
set_option maxHeartbeats 4000000 in
theorem ct_X7_fail {l : Launch} {cx : CX} (hA : AD cx) (σ : AS) (Q : Unit → AS → Prop) (w : wpO (g_X7_fail σ) Q) : AMet l cx 0 yX7_fail cX7_fail 1 none [.inr (.inr (7, 0, 0))] σ (QV Q) := by
  unfold g_X7_fail at w
  refine AMet.of (own := RX7) (by decide) rfl hA (Nat.le_of_ble_eq_true rfl) ?_
  show RJ l cx 0 RX7 cX7_fail 1 none 0 [(0, .inr (.inr (7, 0, 0)))] [] σ _
  refine R_aload_n dX7_fail_0 rfl 0 rfl ?_
  refine R_getfI (k := 3) acl7 oz7_0 (by decide) fl_RX7_22 dX7_fail_1 rfl ?_
  refine R_if_ge (tgt := 15) dX7_fail_4 (by decide) (fun c1 => ?_) (fun c1 => ?_)
  · have w := wp_f c1 w
    exact R_vreturn dX7_fail_15 rfl ⟨rfl, wp_some w⟩
  · have w := wp_t c1 w
    refine R_aload_n dX7_fail_7 rfl 0 rfl ?_
    refine R_aload_n dX7_fail_8 rfl 0 rfl ?_
    refine R_getfI (k := 2) acl7 oz7_0 (by decide) fl_RX7_19 dX7_fail_9 rfl ?_
    refine R_putf (k := 3) (ty := .int) acl7 oz7_0 (by decide) fl_RX7_22 rfl (tyX7_ok 3 (by decide)) (Or.inl rfl) dX7_fail_12 rfl ?_
    refine R_nameS w ?_; clear w; intro σ2 w
    exact R_vreturn dX7_fail_15 rfl ⟨rfl, wp_some w⟩
def g_X7_next (σ : AS) : Option (Int32 × AS) := (if gF σ 7 0 2 < gF σ 7 0 1 then (if inb (gF σ 7 0 2) 120 then some (gA σ 7 0 0 (gF σ 7 0 2), σ) else none) else some ((-1), σ))
set_option maxRecDepth 100000 in
set_option maxHeartbeats 4000000 in
theorem ct_X7_next {l : Launch} {cx : CX} (hA : AD cx) (σ : AS) (Q : Int32 → AS → Prop) (w : wpO (g_X7_next σ) Q) : AMet l cx 0 yX7_next cX7_next 1 (some .int) [.inr (.inr (7, 0, 0))] σ (QI Q) := by
  unfold g_X7_next at w
  refine AMet.of (own := RX7) (by decide) rfl hA (Nat.le_of_ble_eq_true rfl) ?_
  show RJ l cx 0 RX7 cX7_next 1 (some .int) 0 [(0, .inr (.inr (7, 0, 0)))] [] σ _
  refine R_aload_n dX7_next_0 rfl 0 rfl ?_
  refine R_getfI (k := 2) acl7 oz7_0 (by decide) fl_RX7_19 dX7_next_1 rfl ?_
  refine R_aload_n dX7_next_4 rfl 0 rfl ?_
  refine R_getfI (k := 1) acl7 oz7_0 (by decide) fl_RX7_15 dX7_next_5 rfl ?_
  refine R_icmp_ge (tgt := 23) dX7_next_8 (by decide) (fun c1 => ?_) (fun c1 => ?_)
  · have w := wp_f c1 w
    refine R_iconst (v := (-1)) dX7_next_23 (by decide) ?_
    exact R_ireturn dX7_next_24 rfl ⟨_, rfl, wp_some w⟩
  · have w := wp_t c1 w
    refine R_aload_n dX7_next_11 rfl 0 rfl ?_
    refine R_getfA (k := 0) acl7 oz7_0 (by decide) fl_RX7_11 dX7_next_12 rfl ?_
    refine R_aload_n dX7_next_15 rfl 0 rfl ?_
    refine R_getfI (k := 2) acl7 oz7_0 (by decide) fl_RX7_19 dX7_next_16 rfl ?_
    obtain ⟨b2, w⟩ := wp_chk w
    refine R_iald rfl oz7_0 b2 dX7_next_19 ?_
    refine R_goto (tgt := 24) dX7_next_20 (by decide) ?_
    exact R_ireturn dX7_next_24 rfl ⟨_, rfl, wp_some w⟩
def g_X3_add (o : Nat) (a0 : Int32) (a1 : Int32) (σ : AS) : Option (Unit × AS) := (if gF σ 3 o 4 < 128 then (if inb (gF σ 3 o 4) 128 then (lt (sA σ 3 o 0 (gF σ 3 o 4) a0) fun σ3 => (if inb (gF σ3 3 o 4) 128 then (lt (sA σ3 3 o 1 (gF σ3 3 o 4) a1) fun σ5 => (lt (sF σ5 3 o 4 ((gF σ5 3 o 4) + 1)) fun σ6 => some ((), σ6))) else none)) else none) else some ((), σ))
set_option maxRecDepth 100000 in
set_option maxHeartbeats 4000000 in
theorem ct_X3_add {l : Launch} {cx : CX} (hA : AD cx) (o : Nat) (ho : o < am_cnt 3) (a0 : Int32) (a1 : Int32) (σ : AS) (Q : Unit → AS → Prop) (w : wpO (g_X3_add o a0 a1 σ) Q) : AMet l cx 0 yX3_add cX3_add 3 none [.inr (.inr (3, o, 0)), .inl a0, .inl a1] σ (QV Q) := by
  unfold g_X3_add at w
  refine AMet.of (own := RX3) (by decide) rfl hA (Nat.le_of_ble_eq_true rfl) ?_
  show RJ l cx 0 RX3 cX3_add 3 none 0 [(0, .inr (.inr (3, o, 0))), (1, .inl a0), (2, .inl a1)] [] σ _
  refine R_aload_n dX3_add_0 rfl 0 rfl ?_
  refine R_getfI (k := 4) acl3 ho (by decide) fl_RX3_22 dX3_add_1 rfl ?_
  refine R_sipush (v := 128) dX3_add_4 (by decide) ?_
  refine R_icmp_lt (tgt := 11) dX3_add_7 (by decide) (fun c1 => ?_) (fun c1 => ?_)
  · have w := wp_t c1 w
    refine R_aload_n dX3_add_11 rfl 0 rfl ?_
    refine R_getfA (k := 0) acl3 ho (by decide) fl_RX3_9 dX3_add_12 rfl ?_
    refine R_aload_n dX3_add_15 rfl 0 rfl ?_
    refine R_getfI (k := 4) acl3 ho (by decide) fl_RX3_22 dX3_add_16 rfl ?_
    refine R_iload_n dX3_add_19 rfl 1 rfl ?_
    obtain ⟨b2, w⟩ := wp_chk w
    refine R_iast rfl ho b2 dX3_add_20 ?_
    refine R_nameS w ?_; clear w; intro σ3 w
    refine R_aload_n dX3_add_21 rfl 0 rfl ?_
    refine R_getfA (k := 1) acl3 ho (by decide) fl_RX3_13 dX3_add_22 rfl ?_
    refine R_aload_n dX3_add_25 rfl 0 rfl ?_
    refine R_getfI (k := 4) acl3 ho (by decide) fl_RX3_22 dX3_add_26 rfl ?_
    refine R_iload_n dX3_add_29 rfl 2 rfl ?_
    obtain ⟨b4, w⟩ := wp_chk w
    refine R_iast rfl ho b4 dX3_add_30 ?_
    refine R_nameS w ?_; clear w; intro σ5 w
    refine R_aload_n dX3_add_31 rfl 0 rfl ?_
    refine R_dup dX3_add_32 rfl ?_
    refine R_getfI (k := 4) acl3 ho (by decide) fl_RX3_22 dX3_add_33 rfl ?_
    refine R_iconst (v := 1) dX3_add_36 (by decide) ?_
    refine R_iadd dX3_add_37 ?_
    refine R_putf (k := 4) (ty := .int) acl3 ho (by decide) fl_RX3_22 rfl (tyX3_ok 4 (by decide)) (Or.inl rfl) dX3_add_38 rfl ?_
    refine R_nameS w ?_; clear w; intro σ6 w
    exact R_vreturn dX3_add_41 rfl ⟨rfl, wp_some w⟩
  · have w := wp_f c1 w
    exact R_vreturn dX3_add_10 rfl ⟨rfl, wp_some w⟩
def g_X3_leadOn (o : Nat) (a0 : Int32) (σ : AS) : Option (Unit × AS) := (if a0 < 0 then some ((), σ) else (if a0 < gF σ 3 o 4 then (if inb a0 128 then (lt (sA σ 3 o 1 a0 (gF σ 3 o 4)) fun σ4 => some ((), σ4)) else none) else some ((), σ)))
set_option maxRecDepth 100000 in
set_option maxHeartbeats 4000000 in
theorem ct_X3_leadOn {l : Launch} {cx : CX} (hA : AD cx) (o : Nat) (ho : o < am_cnt 3) (a0 : Int32) (σ : AS) (Q : Unit → AS → Prop) (w : wpO (g_X3_leadOn o a0 σ) Q) : AMet l cx 0 yX3_leadOn cX3_leadOn 2 none [.inr (.inr (3, o, 0)), .inl a0] σ (QV Q) := by
  unfold g_X3_leadOn at w
  refine AMet.of (own := RX3) (by decide) rfl hA (Nat.le_of_ble_eq_true rfl) ?_
  show RJ l cx 0 RX3 cX3_leadOn 2 none 0 [(0, .inr (.inr (3, o, 0))), (1, .inl a0)] [] σ _
  refine R_iload_n dX3_leadOn_0 rfl 1 rfl ?_
  refine R_if_lt (tgt := 22) dX3_leadOn_1 (by decide) (fun c1 => ?_) (fun c1 => ?_)
  · have w := wp_t c1 w
    exact R_vreturn dX3_leadOn_22 rfl ⟨rfl, wp_some w⟩
  · have w := wp_f c1 w
    refine R_iload_n dX3_leadOn_4 rfl 1 rfl ?_
    refine R_aload_n dX3_leadOn_5 rfl 0 rfl ?_
    refine R_getfI (k := 4) acl3 ho (by decide) fl_RX3_22 dX3_leadOn_6 rfl ?_
    refine R_icmp_ge (tgt := 22) dX3_leadOn_9 (by decide) (fun c2 => ?_) (fun c2 => ?_)
    · have w := wp_f c2 w
      exact R_vreturn dX3_leadOn_22 rfl ⟨rfl, wp_some w⟩
    · have w := wp_t c2 w
      refine R_aload_n dX3_leadOn_12 rfl 0 rfl ?_
      refine R_getfA (k := 1) acl3 ho (by decide) fl_RX3_13 dX3_leadOn_13 rfl ?_
      refine R_iload_n dX3_leadOn_16 rfl 1 rfl ?_
      refine R_aload_n dX3_leadOn_17 rfl 0 rfl ?_
      refine R_getfI (k := 4) acl3 ho (by decide) fl_RX3_22 dX3_leadOn_18 rfl ?_
      obtain ⟨b3, w⟩ := wp_chk w
      refine R_iast rfl ho b3 dX3_leadOn_21 ?_
      refine R_nameS w ?_; clear w; intro σ4 w
      exact R_vreturn dX3_leadOn_22 rfl ⟨rfl, wp_some w⟩
def g_X3_steps (o : Nat) (σ : AS) : Option (Int32 × AS) := some (gF σ 3 o 4, σ)
set_option maxRecDepth 100000 in
set_option maxHeartbeats 4000000 in
theorem ct_X3_steps {l : Launch} {cx : CX} (hA : AD cx) (o : Nat) (ho : o < am_cnt 3) (σ : AS) (Q : Int32 → AS → Prop) (w : wpO (g_X3_steps o σ) Q) : AMet l cx 0 yX3_steps cX3_steps 1 (some .int) [.inr (.inr (3, o, 0))] σ (QI Q) := by
  unfold g_X3_steps at w
  refine AMet.of (own := RX3) (by decide) rfl hA (Nat.le_of_ble_eq_true rfl) ?_
  show RJ l cx 0 RX3 cX3_steps 1 (some .int) 0 [(0, .inr (.inr (3, o, 0)))] [] σ _
  refine R_aload_n dX3_steps_0 rfl 0 rfl ?_
  refine R_getfI (k := 4) acl3 ho (by decide) fl_RX3_22 dX3_steps_1 rfl ?_
  exact R_ireturn dX3_steps_4 rfl ⟨_, rfl, wp_some w⟩
def g_X7_tightnessOf (a0 : Int32) (σ : AS) : Option (Int32 × AS) := (if a0 = 37 then some (4, σ) else (if a0 = 38 then some (1, σ) else (if a0 = 42 then some (4, σ) else (if a0 = 43 then some (3, σ) else (if a0 = 45 then some (3, σ) else (if a0 = 47 then some (4, σ) else (if a0 = 60 then some (2, σ) else (if a0 = 61 then some (2, σ) else (if a0 = 62 then some (2, σ) else (if a0 = 124 then some (0, σ) else some ((-1), σ)))))))))))
set_option maxRecDepth 100000 in
set_option maxHeartbeats 4000000 in
theorem ct_X7_tightnessOf {l : Launch} {cx : CX} (hA : AD cx) (a0 : Int32) (σ : AS) (Q : Int32 → AS → Prop) (w : wpO (g_X7_tightnessOf a0 σ) Q) : AMet l cx 0 yX7_tightnessOf cX7_tightnessOf 1 (some .int) [.inl a0] σ (QI Q) := by
  unfold g_X7_tightnessOf at w
  refine AMet.of (own := RX7) (by decide) rfl hA (Nat.le_of_ble_eq_true rfl) ?_
  show RJ l cx 0 RX7 cX7_tightnessOf 1 (some .int) 0 [(0, .inl a0)] [] σ _
  refine R_iload_n dX7_tightnessOf_0 rfl 0 rfl ?_
  by_cases c1 : a0 = 37
  · have w := wp_t c1 w
    refine R_lswIn (v := 37) (tgt := 100) dX7_tightnessOf_1 (by decide) c1 rfl (by decide) ?_
    refine R_iconst (v := 4) dX7_tightnessOf_100 (by decide) ?_
    exact R_ireturn dX7_tightnessOf_101 rfl ⟨_, rfl, wp_some w⟩
  have w := wp_f c1 w
  by_cases c2 : a0 = 38
  · have w := wp_t c2 w
    refine R_lswIn (v := 38) (tgt := 94) dX7_tightnessOf_1 (by decide) c2 rfl (by decide) ?_
    refine R_iconst (v := 1) dX7_tightnessOf_94 (by decide) ?_
    exact R_ireturn dX7_tightnessOf_95 rfl ⟨_, rfl, wp_some w⟩
  have w := wp_f c2 w
  by_cases c3 : a0 = 42
  · have w := wp_t c3 w
    refine R_lswIn (v := 42) (tgt := 100) dX7_tightnessOf_1 (by decide) c3 rfl (by decide) ?_
    refine R_iconst (v := 4) dX7_tightnessOf_100 (by decide) ?_
    exact R_ireturn dX7_tightnessOf_101 rfl ⟨_, rfl, wp_some w⟩
  have w := wp_f c3 w
  by_cases c4 : a0 = 43
  · have w := wp_t c4 w
    refine R_lswIn (v := 43) (tgt := 98) dX7_tightnessOf_1 (by decide) c4 rfl (by decide) ?_
    refine R_iconst (v := 3) dX7_tightnessOf_98 (by decide) ?_
    exact R_ireturn dX7_tightnessOf_99 rfl ⟨_, rfl, wp_some w⟩
  have w := wp_f c4 w
  by_cases c5 : a0 = 45
  · have w := wp_t c5 w
    refine R_lswIn (v := 45) (tgt := 98) dX7_tightnessOf_1 (by decide) c5 rfl (by decide) ?_
    refine R_iconst (v := 3) dX7_tightnessOf_98 (by decide) ?_
    exact R_ireturn dX7_tightnessOf_99 rfl ⟨_, rfl, wp_some w⟩
  have w := wp_f c5 w
  by_cases c6 : a0 = 47
  · have w := wp_t c6 w
    refine R_lswIn (v := 47) (tgt := 100) dX7_tightnessOf_1 (by decide) c6 rfl (by decide) ?_
    refine R_iconst (v := 4) dX7_tightnessOf_100 (by decide) ?_
    exact R_ireturn dX7_tightnessOf_101 rfl ⟨_, rfl, wp_some w⟩
  have w := wp_f c6 w
  by_cases c7 : a0 = 60
  · have w := wp_t c7 w
    refine R_lswIn (v := 60) (tgt := 96) dX7_tightnessOf_1 (by decide) c7 rfl (by decide) ?_
    refine R_iconst (v := 2) dX7_tightnessOf_96 (by decide) ?_
    exact R_ireturn dX7_tightnessOf_97 rfl ⟨_, rfl, wp_some w⟩
  have w := wp_f c7 w
  by_cases c8 : a0 = 61
  · have w := wp_t c8 w
    refine R_lswIn (v := 61) (tgt := 96) dX7_tightnessOf_1 (by decide) c8 rfl (by decide) ?_
    refine R_iconst (v := 2) dX7_tightnessOf_96 (by decide) ?_
    exact R_ireturn dX7_tightnessOf_97 rfl ⟨_, rfl, wp_some w⟩
  have w := wp_f c8 w
  by_cases c9 : a0 = 62
  · have w := wp_t c9 w
    refine R_lswIn (v := 62) (tgt := 96) dX7_tightnessOf_1 (by decide) c9 rfl (by decide) ?_
    refine R_iconst (v := 2) dX7_tightnessOf_96 (by decide) ?_
    exact R_ireturn dX7_tightnessOf_97 rfl ⟨_, rfl, wp_some w⟩
  have w := wp_f c9 w
  by_cases c10 : a0 = 124
  · have w := wp_t c10 w
    refine R_lswIn (v := 124) (tgt := 92) dX7_tightnessOf_1 (by decide) c10 rfl (by decide) ?_
    refine R_iconst (v := 0) dX7_tightnessOf_92 (by decide) ?_
    exact R_ireturn dX7_tightnessOf_93 rfl ⟨_, rfl, wp_some w⟩
  have w := wp_f c10 w
  refine R_lswOut (tgt := 102) dX7_tightnessOf_1 (by decide) [37, 38, 42, 43, 45, 47, 60, 61, 62, 124] (List.forall_mem_cons.mpr ⟨c1, (List.forall_mem_cons.mpr ⟨c2, (List.forall_mem_cons.mpr ⟨c3, (List.forall_mem_cons.mpr ⟨c4, (List.forall_mem_cons.mpr ⟨c5, (List.forall_mem_cons.mpr ⟨c6, (List.forall_mem_cons.mpr ⟨c7, (List.forall_mem_cons.mpr ⟨c8, (List.forall_mem_cons.mpr ⟨c9, (List.forall_mem_cons.mpr ⟨c10, (fun _ z => absurd z List.not_mem_nil)⟩)⟩)⟩)⟩)⟩)⟩)⟩)⟩)⟩)⟩) rfl (by decide) ?_
  refine R_iconst (v := (-1)) dX7_tightnessOf_102 (by decide) ?_
  exact R_ireturn dX7_tightnessOf_103 rfl ⟨_, rfl, wp_some w⟩
def g_X7_nameOf (a0 : Int32) (σ : AS) : Option (Int32 × AS) := (if a0 = 99 then some (7, σ) else (if a0 = 100 then some ((-1), σ) else (if a0 = 101 then some ((-1), σ) else (if a0 = 102 then some ((-1), σ) else (if a0 = 103 then some ((-1), σ) else (if a0 = 104 then some (8, σ) else (if a0 = 105 then some (3, σ) else (if a0 = 106 then some (4, σ) else (if a0 = 107 then some ((-1), σ) else (if a0 = 108 then some ((-1), σ) else (if a0 = 109 then some (6, σ) else (if a0 = 110 then some ((-1), σ) else (if a0 = 111 then some ((-1), σ) else (if a0 = 112 then some (1, σ) else (if a0 = 113 then some ((-1), σ) else (if a0 = 114 then some (2, σ) else (if a0 = 115 then some (0, σ) else (if a0 = 116 then some ((-1), σ) else (if a0 = 117 then some ((-1), σ) else (if a0 = 118 then some ((-1), σ) else (if a0 = 119 then some ((-1), σ) else (if a0 = 120 then some ((-1), σ) else (if a0 = 121 then some ((-1), σ) else (if a0 = 122 then some (5, σ) else some ((-1), σ)))))))))))))))))))))))))
set_option maxRecDepth 100000 in
set_option maxHeartbeats 4000000 in
theorem ct_X7_nameOf {l : Launch} {cx : CX} (hA : AD cx) (a0 : Int32) (σ : AS) (Q : Int32 → AS → Prop) (w : wpO (g_X7_nameOf a0 σ) Q) : AMet l cx 0 yX7_nameOf cX7_nameOf 1 (some .int) [.inl a0] σ (QI Q) := by
  unfold g_X7_nameOf at w
  refine AMet.of (own := RX7) (by decide) rfl hA (Nat.le_of_ble_eq_true rfl) ?_
  show RJ l cx 0 RX7 cX7_nameOf 1 (some .int) 0 [(0, .inl a0)] [] σ _
  refine R_iload_n dX7_nameOf_0 rfl 0 rfl ?_
  by_cases c1 : a0 = 99
  · have w := wp_t c1 w
    refine R_tswIn (v := 99) (tgt := 127) dX7_nameOf_1 c1 (by decide) (by decide) rfl (by decide) ?_
    refine R_bipush (v := 7) dX7_nameOf_127 (by decide) ?_
    exact R_ireturn dX7_nameOf_129 rfl ⟨_, rfl, wp_some w⟩
  have w := wp_f c1 w
  by_cases c2 : a0 = 100
  · have w := wp_t c2 w
    refine R_tswIn (v := 100) (tgt := 133) dX7_nameOf_1 c2 (by decide) (by decide) rfl (by decide) ?_
    refine R_iconst (v := (-1)) dX7_nameOf_133 (by decide) ?_
    exact R_ireturn dX7_nameOf_134 rfl ⟨_, rfl, wp_some w⟩
  have w := wp_f c2 w
  by_cases c3 : a0 = 101
  · have w := wp_t c3 w
    refine R_tswIn (v := 101) (tgt := 133) dX7_nameOf_1 c3 (by decide) (by decide) rfl (by decide) ?_
    refine R_iconst (v := (-1)) dX7_nameOf_133 (by decide) ?_
    exact R_ireturn dX7_nameOf_134 rfl ⟨_, rfl, wp_some w⟩
  have w := wp_f c3 w
  by_cases c4 : a0 = 102
  · have w := wp_t c4 w
    refine R_tswIn (v := 102) (tgt := 133) dX7_nameOf_1 c4 (by decide) (by decide) rfl (by decide) ?_
    refine R_iconst (v := (-1)) dX7_nameOf_133 (by decide) ?_
    exact R_ireturn dX7_nameOf_134 rfl ⟨_, rfl, wp_some w⟩
  have w := wp_f c4 w
  by_cases c5 : a0 = 103
  · have w := wp_t c5 w
    refine R_tswIn (v := 103) (tgt := 133) dX7_nameOf_1 c5 (by decide) (by decide) rfl (by decide) ?_
    refine R_iconst (v := (-1)) dX7_nameOf_133 (by decide) ?_
    exact R_ireturn dX7_nameOf_134 rfl ⟨_, rfl, wp_some w⟩
  have w := wp_f c5 w
  by_cases c6 : a0 = 104
  · have w := wp_t c6 w
    refine R_tswIn (v := 104) (tgt := 130) dX7_nameOf_1 c6 (by decide) (by decide) rfl (by decide) ?_
    refine R_bipush (v := 8) dX7_nameOf_130 (by decide) ?_
    exact R_ireturn dX7_nameOf_132 rfl ⟨_, rfl, wp_some w⟩
  have w := wp_f c6 w
  by_cases c7 : a0 = 105
  · have w := wp_t c7 w
    refine R_tswIn (v := 105) (tgt := 118) dX7_nameOf_1 c7 (by decide) (by decide) rfl (by decide) ?_
    refine R_iconst (v := 3) dX7_nameOf_118 (by decide) ?_
    exact R_ireturn dX7_nameOf_119 rfl ⟨_, rfl, wp_some w⟩
  have w := wp_f c7 w
  by_cases c8 : a0 = 106
  · have w := wp_t c8 w
    refine R_tswIn (v := 106) (tgt := 120) dX7_nameOf_1 c8 (by decide) (by decide) rfl (by decide) ?_
    refine R_iconst (v := 4) dX7_nameOf_120 (by decide) ?_
    exact R_ireturn dX7_nameOf_121 rfl ⟨_, rfl, wp_some w⟩
  have w := wp_f c8 w
  by_cases c9 : a0 = 107
  · have w := wp_t c9 w
    refine R_tswIn (v := 107) (tgt := 133) dX7_nameOf_1 c9 (by decide) (by decide) rfl (by decide) ?_
    refine R_iconst (v := (-1)) dX7_nameOf_133 (by decide) ?_
    exact R_ireturn dX7_nameOf_134 rfl ⟨_, rfl, wp_some w⟩
  have w := wp_f c9 w
  by_cases c10 : a0 = 108
  · have w := wp_t c10 w
    refine R_tswIn (v := 108) (tgt := 133) dX7_nameOf_1 c10 (by decide) (by decide) rfl (by decide) ?_
    refine R_iconst (v := (-1)) dX7_nameOf_133 (by decide) ?_
    exact R_ireturn dX7_nameOf_134 rfl ⟨_, rfl, wp_some w⟩
  have w := wp_f c10 w
  by_cases c11 : a0 = 109
  · have w := wp_t c11 w
    refine R_tswIn (v := 109) (tgt := 124) dX7_nameOf_1 c11 (by decide) (by decide) rfl (by decide) ?_
    refine R_bipush (v := 6) dX7_nameOf_124 (by decide) ?_
    exact R_ireturn dX7_nameOf_126 rfl ⟨_, rfl, wp_some w⟩
  have w := wp_f c11 w
  by_cases c12 : a0 = 110
  · have w := wp_t c12 w
    refine R_tswIn (v := 110) (tgt := 133) dX7_nameOf_1 c12 (by decide) (by decide) rfl (by decide) ?_
    refine R_iconst (v := (-1)) dX7_nameOf_133 (by decide) ?_
    exact R_ireturn dX7_nameOf_134 rfl ⟨_, rfl, wp_some w⟩
  have w := wp_f c12 w
  by_cases c13 : a0 = 111
  · have w := wp_t c13 w
    refine R_tswIn (v := 111) (tgt := 133) dX7_nameOf_1 c13 (by decide) (by decide) rfl (by decide) ?_
    refine R_iconst (v := (-1)) dX7_nameOf_133 (by decide) ?_
    exact R_ireturn dX7_nameOf_134 rfl ⟨_, rfl, wp_some w⟩
  have w := wp_f c13 w
  by_cases c14 : a0 = 112
  · have w := wp_t c14 w
    refine R_tswIn (v := 112) (tgt := 114) dX7_nameOf_1 c14 (by decide) (by decide) rfl (by decide) ?_
    refine R_iconst (v := 1) dX7_nameOf_114 (by decide) ?_
    exact R_ireturn dX7_nameOf_115 rfl ⟨_, rfl, wp_some w⟩
  have w := wp_f c14 w
  by_cases c15 : a0 = 113
  · have w := wp_t c15 w
    refine R_tswIn (v := 113) (tgt := 133) dX7_nameOf_1 c15 (by decide) (by decide) rfl (by decide) ?_
    refine R_iconst (v := (-1)) dX7_nameOf_133 (by decide) ?_
    exact R_ireturn dX7_nameOf_134 rfl ⟨_, rfl, wp_some w⟩
  have w := wp_f c15 w
  by_cases c16 : a0 = 114
  · have w := wp_t c16 w
    refine R_tswIn (v := 114) (tgt := 116) dX7_nameOf_1 c16 (by decide) (by decide) rfl (by decide) ?_
    refine R_iconst (v := 2) dX7_nameOf_116 (by decide) ?_
    exact R_ireturn dX7_nameOf_117 rfl ⟨_, rfl, wp_some w⟩
  have w := wp_f c16 w
  by_cases c17 : a0 = 115
  · have w := wp_t c17 w
    refine R_tswIn (v := 115) (tgt := 112) dX7_nameOf_1 c17 (by decide) (by decide) rfl (by decide) ?_
    refine R_iconst (v := 0) dX7_nameOf_112 (by decide) ?_
    exact R_ireturn dX7_nameOf_113 rfl ⟨_, rfl, wp_some w⟩
  have w := wp_f c17 w
  by_cases c18 : a0 = 116
  · have w := wp_t c18 w
    refine R_tswIn (v := 116) (tgt := 133) dX7_nameOf_1 c18 (by decide) (by decide) rfl (by decide) ?_
    refine R_iconst (v := (-1)) dX7_nameOf_133 (by decide) ?_
    exact R_ireturn dX7_nameOf_134 rfl ⟨_, rfl, wp_some w⟩
  have w := wp_f c18 w
  by_cases c19 : a0 = 117
  · have w := wp_t c19 w
    refine R_tswIn (v := 117) (tgt := 133) dX7_nameOf_1 c19 (by decide) (by decide) rfl (by decide) ?_
    refine R_iconst (v := (-1)) dX7_nameOf_133 (by decide) ?_
    exact R_ireturn dX7_nameOf_134 rfl ⟨_, rfl, wp_some w⟩
  have w := wp_f c19 w
  by_cases c20 : a0 = 118
  · have w := wp_t c20 w
    refine R_tswIn (v := 118) (tgt := 133) dX7_nameOf_1 c20 (by decide) (by decide) rfl (by decide) ?_
    refine R_iconst (v := (-1)) dX7_nameOf_133 (by decide) ?_
    exact R_ireturn dX7_nameOf_134 rfl ⟨_, rfl, wp_some w⟩
  have w := wp_f c20 w
  by_cases c21 : a0 = 119
  · have w := wp_t c21 w
    refine R_tswIn (v := 119) (tgt := 133) dX7_nameOf_1 c21 (by decide) (by decide) rfl (by decide) ?_
    refine R_iconst (v := (-1)) dX7_nameOf_133 (by decide) ?_
    exact R_ireturn dX7_nameOf_134 rfl ⟨_, rfl, wp_some w⟩
  have w := wp_f c21 w
  by_cases c22 : a0 = 120
  · have w := wp_t c22 w
    refine R_tswIn (v := 120) (tgt := 133) dX7_nameOf_1 c22 (by decide) (by decide) rfl (by decide) ?_
    refine R_iconst (v := (-1)) dX7_nameOf_133 (by decide) ?_
    exact R_ireturn dX7_nameOf_134 rfl ⟨_, rfl, wp_some w⟩
  have w := wp_f c22 w
  by_cases c23 : a0 = 121
  · have w := wp_t c23 w
    refine R_tswIn (v := 121) (tgt := 133) dX7_nameOf_1 c23 (by decide) (by decide) rfl (by decide) ?_
    refine R_iconst (v := (-1)) dX7_nameOf_133 (by decide) ?_
    exact R_ireturn dX7_nameOf_134 rfl ⟨_, rfl, wp_some w⟩
  have w := wp_f c23 w
  by_cases c24 : a0 = 122
  · have w := wp_t c24 w
    refine R_tswIn (v := 122) (tgt := 122) dX7_nameOf_1 c24 (by decide) (by decide) rfl (by decide) ?_
    refine R_iconst (v := 5) dX7_nameOf_122 (by decide) ?_
    exact R_ireturn dX7_nameOf_123 rfl ⟨_, rfl, wp_some w⟩
  have w := wp_f c24 w
  refine R_tswOut (tgt := 133) dX7_nameOf_1 [99, 100, 101, 102, 103, 104, 105, 106, 107, 108, 109, 110, 111, 112, 113, 114, 115, 116, 117, 118, 119, 120, 121, 122] (List.forall_mem_cons.mpr ⟨c1, (List.forall_mem_cons.mpr ⟨c2, (List.forall_mem_cons.mpr ⟨c3, (List.forall_mem_cons.mpr ⟨c4, (List.forall_mem_cons.mpr ⟨c5, (List.forall_mem_cons.mpr ⟨c6, (List.forall_mem_cons.mpr ⟨c7, (List.forall_mem_cons.mpr ⟨c8, (List.forall_mem_cons.mpr ⟨c9, (List.forall_mem_cons.mpr ⟨c10, (List.forall_mem_cons.mpr ⟨c11, (List.forall_mem_cons.mpr ⟨c12, (List.forall_mem_cons.mpr ⟨c13, (List.forall_mem_cons.mpr ⟨c14, (List.forall_mem_cons.mpr ⟨c15, (List.forall_mem_cons.mpr ⟨c16, (List.forall_mem_cons.mpr ⟨c17, (List.forall_mem_cons.mpr ⟨c18, (List.forall_mem_cons.mpr ⟨c19, (List.forall_mem_cons.mpr ⟨c20, (List.forall_mem_cons.mpr ⟨c21, (List.forall_mem_cons.mpr ⟨c22, (List.forall_mem_cons.mpr ⟨c23, (List.forall_mem_cons.mpr ⟨c24, (fun _ z => absurd z List.not_mem_nil)⟩)⟩)⟩)⟩)⟩)⟩)⟩)⟩)⟩)⟩)⟩)⟩)⟩)⟩)⟩)⟩)⟩)⟩)⟩)⟩)⟩)⟩)⟩)⟩) (by decide) (by decide) ?_
  refine R_iconst (v := (-1)) dX7_nameOf_133 (by decide) ?_
  exact R_ireturn dX7_nameOf_134 rfl ⟨_, rfl, wp_some w⟩
def g_X7_readNumber_52    (v2 : Int32) (σ : AS) : Option (Unit × AS) := (bnd (g_X3_add 1 35 v2 σ) fun _ σ2 => some ((), σ2))
set_option maxRecDepth 100000 in
set_option maxHeartbeats 4000000 in
theorem rk_X7_readNumber_52 {l : Launch} {cx : CX} (hA : AD cx)    (Q : Unit → AS → Prop) (v2 : Int32) (σ : AS) (w : wpO (g_X7_readNumber_52 v2 σ) Q) : RJ l cx 1 RX7 cX7_readNumber 4 none 52 [(1, .inr (.inr (3, 1, 0))), (2, .inl v2)] [] σ (QV Q) := by
  unfold g_X7_readNumber_52 at w
  refine R_aload_n dX7_readNumber_52 rfl 0 rfl ?_
  refine R_bipush (v := 35) dX7_readNumber_53 (by decide) ?_
  refine R_iload_n dX7_readNumber_55 rfl 1 rfl ?_
  refine R_callVV (As := [.inl 35, .inl v2]) acl3 rfl oz3_1 mi_X3_add ml_RX7_45 rfl (Nat.le_of_ble_eq_true rfl) (by decide) dX7_readNumber_56 (ct_X3_add hA 1 oz3_1 35 v2 σ _ (wp_bnd w)) (fun σ2 w => ?_)
  exact R_vreturn dX7_readNumber_59 rfl ⟨rfl, wp_some w⟩
def g_X7_readNumber_4    : Nat → Int32 → Int32 → AS → Option (Unit × AS)
  | 0, _, _, _ => none
  | f0 + 1, v2, v3, σ => (if v3 < 4 then (bnd (g_X7_next σ) fun r3 σ4 => (bnd (g_X8_isDigit ((r3 - 48).toInt64) σ4) fun r5 σ6 => (if r5 = 0 then g_X7_readNumber_52 v2 σ6 else (bnd (g_X7_next σ6) fun r8 σ9 => (lt (((10 * v2) + r8) - 48) fun x10 => (lt (sF σ9 7 0 2 ((gF σ9 7 0 2) + 1)) fun σ11 => (g_X7_readNumber_4 f0) x10 (v3 + 1) σ11)))))) else g_X7_readNumber_52 v2 σ)
set_option maxRecDepth 100000 in
set_option maxHeartbeats 4000000 in
theorem rk_X7_readNumber_4 {l : Launch} {cx : CX} (hA : AD cx)    (Q : Unit → AS → Prop) : ∀ (f0 : Nat) (v2 : Int32) (v3 : Int32) (σ : AS), wpO (g_X7_readNumber_4 f0 v2 v3 σ) Q → RJ l cx 1 RX7 cX7_readNumber 4 none 4 [(0, .inr (.inr (7, 0, 0))), (1, .inr (.inr (3, 1, 0))), (2, .inl v2), (3, .inl v3)] [] σ (QV Q) := by
  intro f0
  induction f0 with
  | zero => intro v2 v3 σ w; exact wp_no w
  | succ f0 ih =>
    intro v2 v3 σ w
    rw [g_X7_readNumber_4] at w
    refine R_iload_n dX7_readNumber_4 rfl 3 rfl ?_
    refine R_iconst (v := 4) dX7_readNumber_5 (by decide) ?_
    refine R_icmp_ge (tgt := 52) dX7_readNumber_6 (by decide) (fun c1 => ?_) (fun c1 => ?_)
    · have w := wp_f c1 w
      refine R_sub [1, 2] rfl ?_
      exact rk_X7_readNumber_52 hA _ v2 σ w
    · have w := wp_t c1 w
      refine R_aload_n dX7_readNumber_9 rfl 0 rfl ?_
      refine R_callVI (As := []) acl7 rfl oz7_0 mi_X7_next ml_RX7_34 rfl (Nat.le_of_ble_eq_true rfl) (by decide) dX7_readNumber_10 (ct_X7_next hA σ _ (wp_bnd w)) (fun r3 σ4 w => ?_)
      refine R_bipush (v := 48) dX7_readNumber_13 (by decide) ?_
      refine R_isub dX7_readNumber_15 ?_
      refine R_i2l dX7_readNumber_16 ?_
      refine R_callNI (As := [.inr (.inl ((r3 - 48).toInt64))]) rfl mi_X8_isDigit rfl (Nat.le_of_ble_eq_true rfl) (by decide) dX7_readNumber_17 (ct_X8_isDigit hA ((r3 - 48).toInt64) σ4 _ (wp_bnd w)) (fun r5 σ6 w => ?_)
      refine R_if_eq (tgt := 52) dX7_readNumber_20 (by decide) (fun c7 => ?_) (fun c7 => ?_)
      · have w := wp_t c7 w
        refine R_sub [1, 2] rfl ?_
        exact rk_X7_readNumber_52 hA _ v2 σ6 w
      · have w := wp_f c7 w
        refine R_bipush (v := 10) dX7_readNumber_23 (by decide) ?_
        refine R_iload_n dX7_readNumber_25 rfl 2 rfl ?_
        refine R_imul dX7_readNumber_26 ?_
        refine R_aload_n dX7_readNumber_27 rfl 0 rfl ?_
        refine R_callVI (As := []) acl7 rfl oz7_0 mi_X7_next ml_RX7_34 rfl (Nat.le_of_ble_eq_true rfl) (by decide) dX7_readNumber_28 (ct_X7_next hA σ6 _ (wp_bnd w)) (fun r8 σ9 w => ?_)
        refine R_iadd dX7_readNumber_31 ?_
        refine R_bipush (v := 48) dX7_readNumber_32 (by decide) ?_
        refine R_isub dX7_readNumber_34 ?_
        refine R_nameI w ?_; clear w; intro x10 w
        refine R_istore_n (lv' := [(2, .inl x10), (0, .inr (.inr (7, 0, 0))), (1, .inr (.inr (3, 1, 0))), (3, .inl v3)]) dX7_readNumber_35 rfl (by decide) rfl ?_
        refine R_aload_n dX7_readNumber_36 rfl 1 rfl ?_
        refine R_dup dX7_readNumber_37 rfl ?_
        refine R_getfI (k := 2) acl7 oz7_0 (by decide) fl_RX7_19 dX7_readNumber_38 rfl ?_
        refine R_iconst (v := 1) dX7_readNumber_41 (by decide) ?_
        refine R_iadd dX7_readNumber_42 ?_
        refine R_putf (k := 2) (ty := .int) acl7 oz7_0 (by decide) fl_RX7_19 rfl (tyX7_ok 2 (by decide)) (Or.inl rfl) dX7_readNumber_43 rfl ?_
        refine R_nameS w ?_; clear w; intro σ11 w
        refine R_iinc (v := v3 + 1) (lv' := [(3, .inl (v3 + 1)), (2, .inl x10), (0, .inr (.inr (7, 0, 0))), (1, .inr (.inr (3, 1, 0)))]) dX7_readNumber_46 3 rfl rfl (by decide) rfl ?_
        refine R_goto (tgt := 4) dX7_readNumber_49 (by decide) ?_
        refine R_sub [2, 3, 1, 0] rfl ?_
        exact ih x10 (v3 + 1) σ11 w
def g_X7_readNumber (σ : AS) : Option (Unit × AS) := g_X7_readNumber_4 400 0 0 σ
set_option maxRecDepth 100000 in
set_option maxHeartbeats 4000000 in
theorem ct_X7_readNumber {l : Launch} {cx : CX} (hA : AD cx) (σ : AS) (Q : Unit → AS → Prop) (w : wpO (g_X7_readNumber σ) Q) : AMet l cx 1 yX7_readNumber cX7_readNumber 4 none [.inr (.inr (7, 0, 0)), .inr (.inr (3, 1, 0))] σ (QV Q) := by
  unfold g_X7_readNumber at w
  refine AMet.of (own := RX7) (by decide) rfl hA (Nat.le_of_ble_eq_true rfl) ?_
  show RJ l cx 1 RX7 cX7_readNumber 4 none 0 [(0, .inr (.inr (7, 0, 0))), (1, .inr (.inr (3, 1, 0)))] [] σ _
  refine R_iconst (v := 0) dX7_readNumber_0 (by decide) ?_
  refine R_istore_n (lv' := [(2, .inl 0), (0, .inr (.inr (7, 0, 0))), (1, .inr (.inr (3, 1, 0)))]) dX7_readNumber_1 rfl (by decide) rfl ?_
  refine R_iconst (v := 0) dX7_readNumber_2 (by decide) ?_
  refine R_istore_n (lv' := [(3, .inl 0), (2, .inl 0), (0, .inr (.inr (7, 0, 0))), (1, .inr (.inr (3, 1, 0)))]) dX7_readNumber_3 rfl (by decide) rfl ?_
  refine R_sub [2, 3, 1, 0] rfl ?_
  exact rk_X7_readNumber_4 hA _ 400 0 0 σ w
abbrev GT1 : Type := (Int32 → Int32 → AS → Option (Unit × AS)) × (Int32 → AS → Option (Unit × AS)) × (Int32 → Int32 → AS → Option (Unit × AS))
abbrev GC1 (l : Launch) (cx : CX) (f : Nat) (rc : GT1) : Prop := (∀ (a1 : Int32) (a2 : Int32) (σ : AS) (Q : Unit → AS → Prop), wpO (rc.1 a1 a2 σ) Q → AMet l cx (f + 2) yX7_readPart cX7_readPart 7 none [.inr (.inr (7, 0, 0)), .inr (.inr (3, 1, 0)), .inl a1, .inl a2] σ (QV Q)) ∧ (∀ (a1 : Int32) (σ : AS) (Q : Unit → AS → Prop), wpO (rc.2.1 a1 σ) Q → AMet l cx (f + 2) yX7_readOne cX7_readOne 5 none [.inr (.inr (7, 0, 0)), .inr (.inr (3, 1, 0)), .inl a1] σ (QV Q)) ∧ (∀ (a1 : Int32) (a2 : Int32) (σ : AS) (Q : Unit → AS → Prop), wpO (rc.2.2 a1 a2 σ) Q → AMet l cx (f + 2) yX7_readOpened cX7_readOpened 4 none [.inr (.inr (7, 0, 0)), .inr (.inr (3, 1, 0)), .inl a1, .inl a2] σ (QV Q))
def g_X7_readPart_37 (rc : GT1)   : Nat → Int32 → Int32 → Int32 → Int32 → AS → Option (Unit × AS)
  | 0, _, _, _, _, _ => none
  | f0 + 1, v2, v3, v4, v5, σ => (if v5 < v4 then (if gF σ 7 0 3 < 0 then (bnd (g_X7_next σ) fun r6 σ7 => (bnd (g_X7_tightnessOf r6 σ7) fun r8 σ9 => (if r8 = v2 then (bnd (g_X7_next σ9) fun r11 σ12 => (lt (sF σ12 7 0 2 ((gF σ12 7 0 2) + 1)) fun σ13 => (bnd (rc.1 (v2 + 1) v3 σ13) fun _ σ14 => (bnd (g_X3_add 1 r11 0 σ14) fun _ σ15 => (g_X7_readPart_37 rc f0) v2 v3 v4 (v5 + 1) σ15)))) else some ((), σ9)))) else some ((), σ)) else some ((), σ))
set_option maxRecDepth 100000 in
set_option maxHeartbeats 4000000 in
theorem rk_X7_readPart_37 {l : Launch} {cx : CX} (hA : AD cx) {f : Nat} (rc : GT1) (hrc : GC1 l cx f rc)   (Q : Unit → AS → Prop) : ∀ (f0 : Nat) (v2 : Int32) (v3 : Int32) (v4 : Int32) (v5 : Int32) (σ : AS), wpO (g_X7_readPart_37 rc f0 v2 v3 v4 v5 σ) Q → RJ l cx (f + 1 + 2) RX7 cX7_readPart 7 none 37 [(0, .inr (.inr (7, 0, 0))), (1, .inr (.inr (3, 1, 0))), (2, .inl v2), (3, .inl v3), (4, .inl v4), (5, .inl v5)] [] σ (QV Q) := by
  intro f0
  induction f0 with
  | zero => intro v2 v3 v4 v5 σ w; exact wp_no w
  | succ f0 ih =>
    intro v2 v3 v4 v5 σ w
    rw [g_X7_readPart_37] at w
    refine R_iload dX7_readPart_37 5 rfl ?_
    refine R_iload dX7_readPart_39 4 rfl ?_
    refine R_icmp_ge (tgt := 100) dX7_readPart_41 (by decide) (fun c4 => ?_) (fun c4 => ?_)
    · have w := wp_f c4 w
      exact R_vreturn dX7_readPart_100 rfl ⟨rfl, wp_some w⟩
    · have w := wp_t c4 w
      refine R_aload_n dX7_readPart_44 rfl 0 rfl ?_
      refine R_getfI (k := 3) acl7 oz7_0 (by decide) fl_RX7_22 dX7_readPart_45 rfl ?_
      refine R_if_ge (tgt := 100) dX7_readPart_48 (by decide) (fun c5 => ?_) (fun c5 => ?_)
      · have w := wp_f c5 w
        exact R_vreturn dX7_readPart_100 rfl ⟨rfl, wp_some w⟩
      · have w := wp_t c5 w
        refine R_aload_n dX7_readPart_51 rfl 0 rfl ?_
        refine R_callVI (As := []) acl7 rfl oz7_0 mi_X7_next ml_RX7_34 rfl (Nat.le_of_ble_eq_true rfl) (am_hle 1) dX7_readPart_52 (ct_X7_next hA σ _ (wp_bnd w)) (fun r6 σ7 w => ?_)
        refine R_callSI (As := [.inl r6]) mi_X7_tightnessOf ml_RX7_60 rfl (Nat.le_of_ble_eq_true rfl) (am_hle 1) dX7_readPart_55 (ct_X7_tightnessOf hA r6 σ7 _ (wp_bnd w)) (fun r8 σ9 w => ?_)
        refine R_iload_n dX7_readPart_58 rfl 2 rfl ?_
        refine R_icmp_ne (tgt := 100) dX7_readPart_59 (by decide) (fun c10 => ?_) (fun c10 => ?_)
        · have w := wp_f c10 w
          exact R_vreturn dX7_readPart_100 rfl ⟨rfl, wp_some w⟩
        · have w := wp_t c10 w
          refine R_aload_n dX7_readPart_62 rfl 0 rfl ?_
          refine R_callVI (As := []) acl7 rfl oz7_0 mi_X7_next ml_RX7_34 rfl (Nat.le_of_ble_eq_true rfl) (am_hle 1) dX7_readPart_63 (ct_X7_next hA σ9 _ (wp_bnd w)) (fun r11 σ12 w => ?_)
          refine R_istore (lv' := [(6, .inl r11), (0, .inr (.inr (7, 0, 0))), (1, .inr (.inr (3, 1, 0))), (2, .inl v2), (3, .inl v3), (4, .inl v4), (5, .inl v5)]) dX7_readPart_66 (by decide) rfl ?_
          refine R_aload_n dX7_readPart_68 rfl 1 rfl ?_
          refine R_dup dX7_readPart_69 rfl ?_
          refine R_getfI (k := 2) acl7 oz7_0 (by decide) fl_RX7_19 dX7_readPart_70 rfl ?_
          refine R_iconst (v := 1) dX7_readPart_73 (by decide) ?_
          refine R_iadd dX7_readPart_74 ?_
          refine R_putf (k := 2) (ty := .int) acl7 oz7_0 (by decide) fl_RX7_19 rfl (tyX7_ok 2 (by decide)) (Or.inl rfl) dX7_readPart_75 rfl ?_
          refine R_nameS w ?_; clear w; intro σ13 w
          refine R_aload_n dX7_readPart_78 rfl 1 rfl ?_
          refine R_aload_n dX7_readPart_79 rfl 2 rfl ?_
          refine R_iload_n dX7_readPart_80 rfl 3 rfl ?_
          refine R_iconst (v := 1) dX7_readPart_81 (by decide) ?_
          refine R_iadd dX7_readPart_82 ?_
          refine R_iload_n dX7_readPart_83 rfl 4 rfl ?_
          refine R_callVV (As := [.inr (.inr (3, 1, 0)), .inl (v2 + 1), .inl v3]) acl7 rfl oz7_0 mi_X7_readPart ml_RX7_41 rfl (Nat.le_of_ble_eq_true rfl) (Nat.le_refl _) dX7_readPart_84 (hrc.1 (v2 + 1) v3 σ13 _ (wp_bnd w)) (fun σ14 w => ?_)
          refine R_aload_n dX7_readPart_87 rfl 2 rfl ?_
          refine R_iload dX7_readPart_88 0 rfl ?_
          refine R_iconst (v := 0) dX7_readPart_90 (by decide) ?_
          refine R_callVV (As := [.inl r11, .inl 0]) acl3 rfl oz3_1 mi_X3_add ml_RX7_45 rfl (Nat.le_of_ble_eq_true rfl) (am_hle 1) dX7_readPart_91 (ct_X3_add hA 1 oz3_1 r11 0 σ14 _ (wp_bnd w)) (fun σ15 w => ?_)
          refine R_iinc (v := v5 + 1) (lv' := [(5, .inl (v5 + 1)), (6, .inl r11), (0, .inr (.inr (7, 0, 0))), (1, .inr (.inr (3, 1, 0))), (2, .inl v2), (3, .inl v3), (4, .inl v4)]) dX7_readPart_94 6 rfl rfl (by decide) rfl ?_
          refine R_goto (tgt := 37) dX7_readPart_97 (by decide) ?_
          refine R_sub [2, 3, 4, 5, 6, 0] rfl ?_
          exact ih v2 v3 v4 (v5 + 1) σ15 w
def gb_X7_readPart (rc : GT1) (a1 : Int32) (a2 : Int32) (σ : AS) : Option (Unit × AS) := (if (4 : Int32) < a1 then (bnd (rc.2.1 a2 σ) fun _ σ16 => some ((), σ16)) else (bnd (rc.1 (a1 + 1) a2 σ) fun _ σ2 => (if a1 = 2 then g_X7_readPart_37 rc 400 a1 a2 1 0 σ2 else g_X7_readPart_37 rc 400 a1 a2 120 0 σ2)))
set_option maxRecDepth 100000 in
set_option maxHeartbeats 4000000 in
theorem cb_X7_readPart {l : Launch} {cx : CX} (hA : AD cx) {f : Nat} (rc : GT1) (hrc : GC1 l cx f rc) (a1 : Int32) (a2 : Int32) (σ : AS) (Q : Unit → AS → Prop) (w : wpO (gb_X7_readPart rc a1 a2 σ) Q) : AMet l cx (f + 1 + 2) yX7_readPart cX7_readPart 7 none [.inr (.inr (7, 0, 0)), .inr (.inr (3, 1, 0)), .inl a1, .inl a2] σ (QV Q) := by
  unfold gb_X7_readPart at w
  refine AMet.of (own := RX7) (by decide) rfl hA (Nat.le_of_ble_eq_true rfl) ?_
  show RJ l cx (f + 1 + 2) RX7 cX7_readPart 7 none 0 [(0, .inr (.inr (7, 0, 0))), (1, .inr (.inr (3, 1, 0))), (2, .inl a1), (3, .inl a2)] [] σ _
  refine R_iload_n dX7_readPart_0 rfl 2 rfl ?_
  refine R_iconst (v := 4) dX7_readPart_1 (by decide) ?_
  refine R_icmp_le (tgt := 12) dX7_readPart_2 (by decide) (fun c1 => ?_) (fun c1 => ?_)
  · have w := wp_f c1 w
    refine R_aload_n dX7_readPart_12 rfl 0 rfl ?_
    refine R_aload_n dX7_readPart_13 rfl 1 rfl ?_
    refine R_iload_n dX7_readPart_14 rfl 2 rfl ?_
    refine R_iconst (v := 1) dX7_readPart_15 (by decide) ?_
    refine R_iadd dX7_readPart_16 ?_
    refine R_iload_n dX7_readPart_17 rfl 3 rfl ?_
    refine R_callVV (As := [.inr (.inr (3, 1, 0)), .inl (a1 + 1), .inl a2]) acl7 rfl oz7_0 mi_X7_readPart ml_RX7_41 rfl (Nat.le_of_ble_eq_true rfl) (Nat.le_refl _) dX7_readPart_18 (hrc.1 (a1 + 1) a2 σ _ (wp_bnd w)) (fun σ2 w => ?_)
    refine R_iload_n dX7_readPart_21 rfl 2 rfl ?_
    refine R_iconst (v := 2) dX7_readPart_22 (by decide) ?_
    refine R_icmp_ne (tgt := 30) dX7_readPart_23 (by decide) (fun c3 => ?_) (fun c3 => ?_)
    · have w := wp_f c3 w
      refine R_bipush (v := 120) dX7_readPart_30 (by decide) ?_
      refine R_istore (lv' := [(4, .inl 120), (0, .inr (.inr (7, 0, 0))), (1, .inr (.inr (3, 1, 0))), (2, .inl a1), (3, .inl a2)]) dX7_readPart_32 (by decide) rfl ?_
      refine R_iconst (v := 0) dX7_readPart_34 (by decide) ?_
      refine R_istore (lv' := [(5, .inl 0), (4, .inl 120), (0, .inr (.inr (7, 0, 0))), (1, .inr (.inr (3, 1, 0))), (2, .inl a1), (3, .inl a2)]) dX7_readPart_35 (by decide) rfl ?_
      refine R_sub [2, 3, 4, 5, 1, 0] rfl ?_
      exact rk_X7_readPart_37 hA rc hrc _ 400 a1 a2 120 0 σ2 w
    · have w := wp_t c3 w
      refine R_iconst (v := 1) dX7_readPart_26 (by decide) ?_
      refine R_goto (tgt := 32) dX7_readPart_27 (by decide) ?_
      refine R_istore (lv' := [(4, .inl 1), (0, .inr (.inr (7, 0, 0))), (1, .inr (.inr (3, 1, 0))), (2, .inl a1), (3, .inl a2)]) dX7_readPart_32 (by decide) rfl ?_
      refine R_iconst (v := 0) dX7_readPart_34 (by decide) ?_
      refine R_istore (lv' := [(5, .inl 0), (4, .inl 1), (0, .inr (.inr (7, 0, 0))), (1, .inr (.inr (3, 1, 0))), (2, .inl a1), (3, .inl a2)]) dX7_readPart_35 (by decide) rfl ?_
      refine R_sub [2, 3, 4, 5, 1, 0] rfl ?_
      exact rk_X7_readPart_37 hA rc hrc _ 400 a1 a2 1 0 σ2 w
  · have w := wp_t c1 w
    refine R_aload_n dX7_readPart_5 rfl 0 rfl ?_
    refine R_aload_n dX7_readPart_6 rfl 1 rfl ?_
    refine R_iload_n dX7_readPart_7 rfl 3 rfl ?_
    refine R_callVV (As := [.inr (.inr (3, 1, 0)), .inl a2]) acl7 rfl oz7_0 mi_X7_readOne ml_RX7_56 rfl (Nat.le_of_ble_eq_true rfl) (Nat.le_refl _) dX7_readPart_8 (hrc.2.1 a2 σ _ (wp_bnd w)) (fun σ16 w => ?_)
    exact R_vreturn dX7_readPart_11 rfl ⟨rfl, wp_some w⟩
def g_X7_readOne_120 (rc : GT1)    (σ : AS) : Option (Unit × AS) := (bnd (g_X7_fail σ) fun _ σ12 => some ((), σ12))
set_option maxRecDepth 100000 in
set_option maxHeartbeats 4000000 in
theorem rk_X7_readOne_120 {l : Launch} {cx : CX} (hA : AD cx) {f : Nat} (rc : GT1) (hrc : GC1 l cx f rc)   (Q : Unit → AS → Prop)  (σ : AS) (w : wpO (g_X7_readOne_120 rc  σ) Q) : RJ l cx (f + 1 + 2) RX7 cX7_readOne 5 none 120 [(0, .inr (.inr (7, 0, 0)))] [] σ (QV Q) := by
  unfold g_X7_readOne_120 at w
  refine R_aload_n dX7_readOne_120 rfl 0 rfl ?_
  refine R_callVV (As := []) acl7 rfl oz7_0 mi_X7_fail ml_RX7_38 rfl (Nat.le_of_ble_eq_true rfl) (am_hle 1) dX7_readOne_121 (ct_X7_fail hA σ _ (wp_bnd w)) (fun σ12 w => ?_)
  exact R_vreturn dX7_readOne_124 rfl ⟨rfl, wp_some w⟩
def g_X7_readOne_28 (rc : GT1)   (v2 : Int32) (v3 : Int32) (s0 : Int32) (σ : AS) : Option (Unit × AS) := (if gF σ 7 0 3 < 0 then (bnd (g_X8_isDigit ((v3 - 48).toInt64) σ) fun r5 σ6 => (if r5 = 0 then (bnd (g_X7_nameOf v3 σ6) fun r8 σ9 => (if r8 < 0 then (if s0 = 0 then g_X7_readOne_120 rc σ9 else (if v2 < 6 then (lt (sF σ9 7 0 2 ((gF σ9 7 0 2) + 1)) fun σ14 => (bnd (rc.2.2 v3 (v2 + 1) σ14) fun _ σ15 => some ((), σ15))) else g_X7_readOne_120 rc σ9)) else (bnd (g_X7_nameOf v3 σ9) fun r16 σ17 => (bnd (g_X3_add 1 110 r16 σ17) fun _ σ18 => (lt (sF σ18 7 0 2 ((gF σ18 7 0 2) + 1)) fun σ19 => some ((), σ19)))))) else (bnd (g_X7_readNumber σ6) fun _ σ20 => some ((), σ20)))) else some ((), σ))
set_option maxRecDepth 100000 in
set_option maxHeartbeats 4000000 in
theorem rk_X7_readOne_28 {l : Launch} {cx : CX} (hA : AD cx) {f : Nat} (rc : GT1) (hrc : GC1 l cx f rc)   (Q : Unit → AS → Prop) (v2 : Int32) (v3 : Int32) (s0 : Int32) (σ : AS) (w : wpO (g_X7_readOne_28 rc v2 v3 s0 σ) Q) : RJ l cx (f + 1 + 2) RX7 cX7_readOne 5 none 28 [(0, .inr (.inr (7, 0, 0))), (1, .inr (.inr (3, 1, 0))), (2, .inl v2), (3, .inl v3)] [.inl s0] σ (QV Q) := by
  unfold g_X7_readOne_28 at w
  refine R_istore (lv' := [(4, .inl s0), (0, .inr (.inr (7, 0, 0))), (1, .inr (.inr (3, 1, 0))), (2, .inl v2), (3, .inl v3)]) dX7_readOne_28 (by decide) rfl ?_
  refine R_aload_n dX7_readOne_30 rfl 1 rfl ?_
  refine R_getfI (k := 3) acl7 oz7_0 (by decide) fl_RX7_22 dX7_readOne_31 rfl ?_
  refine R_if_lt (tgt := 38) dX7_readOne_34 (by decide) (fun c4 => ?_) (fun c4 => ?_)
  · have w := wp_t c4 w
    refine R_iload_n dX7_readOne_38 rfl 4 rfl ?_
    refine R_bipush (v := 48) dX7_readOne_39 (by decide) ?_
    refine R_isub dX7_readOne_41 ?_
    refine R_i2l dX7_readOne_42 ?_
    refine R_callNI (As := [.inr (.inl ((v3 - 48).toInt64))]) rfl mi_X8_isDigit rfl (Nat.le_of_ble_eq_true rfl) (am_hle 1) dX7_readOne_43 (ct_X8_isDigit hA ((v3 - 48).toInt64) σ _ (wp_bnd w)) (fun r5 σ6 w => ?_)
    refine R_if_eq (tgt := 57) dX7_readOne_46 (by decide) (fun c7 => ?_) (fun c7 => ?_)
    · have w := wp_t c7 w
      refine R_iload_n dX7_readOne_57 rfl 4 rfl ?_
      refine R_callSI (As := [.inl v3]) mi_X7_nameOf ml_RX7_71 rfl (Nat.le_of_ble_eq_true rfl) (am_hle 1) dX7_readOne_58 (ct_X7_nameOf hA v3 σ6 _ (wp_bnd w)) (fun r8 σ9 w => ?_)
      refine R_if_lt (tgt := 87) dX7_readOne_61 (by decide) (fun c10 => ?_) (fun c10 => ?_)
      · have w := wp_t c10 w
        refine R_iload dX7_readOne_87 0 rfl ?_
        refine R_if_eq (tgt := 120) dX7_readOne_89 (by decide) (fun c11 => ?_) (fun c11 => ?_)
        · have w := wp_t c11 w
          refine R_sub [1] rfl ?_
          exact rk_X7_readOne_120 hA rc hrc _ σ9 w
        · have w := wp_f c11 w
          refine R_iload_n dX7_readOne_92 rfl 3 rfl ?_
          refine R_bipush (v := 6) dX7_readOne_93 (by decide) ?_
          refine R_icmp_ge (tgt := 120) dX7_readOne_95 (by decide) (fun c13 => ?_) (fun c13 => ?_)
          · have w := wp_f c13 w
            refine R_sub [1] rfl ?_
            exact rk_X7_readOne_120 hA rc hrc _ σ9 w
          · have w := wp_t c13 w
            refine R_aload_n dX7_readOne_98 rfl 1 rfl ?_
            refine R_dup dX7_readOne_99 rfl ?_
            refine R_getfI (k := 2) acl7 oz7_0 (by decide) fl_RX7_19 dX7_readOne_100 rfl ?_
            refine R_iconst (v := 1) dX7_readOne_103 (by decide) ?_
            refine R_iadd dX7_readOne_104 ?_
            refine R_putf (k := 2) (ty := .int) acl7 oz7_0 (by decide) fl_RX7_19 rfl (tyX7_ok 2 (by decide)) (Or.inl rfl) dX7_readOne_105 rfl ?_
            refine R_nameS w ?_; clear w; intro σ14 w
            refine R_aload_n dX7_readOne_108 rfl 1 rfl ?_
            refine R_aload_n dX7_readOne_109 rfl 2 rfl ?_
            refine R_iload_n dX7_readOne_110 rfl 4 rfl ?_
            refine R_iload_n dX7_readOne_111 rfl 3 rfl ?_
            refine R_iconst (v := 1) dX7_readOne_112 (by decide) ?_
            refine R_iadd dX7_readOne_113 ?_
            refine R_callVV (As := [.inr (.inr (3, 1, 0)), .inl v3, .inl (v2 + 1)]) acl7 rfl oz7_0 mi_X7_readOpened ml_RX7_74 rfl (Nat.le_of_ble_eq_true rfl) (Nat.le_refl _) dX7_readOne_114 (hrc.2.2 v3 (v2 + 1) σ14 _ (wp_bnd w)) (fun σ15 w => ?_)
            refine R_goto (tgt := 124) dX7_readOne_117 (by decide) ?_
            exact R_vreturn dX7_readOne_124 rfl ⟨rfl, wp_some w⟩
      · have w := wp_f c10 w
        refine R_aload_n dX7_readOne_64 rfl 2 rfl ?_
        refine R_bipush (v := 110) dX7_readOne_65 (by decide) ?_
        refine R_iload_n dX7_readOne_67 rfl 4 rfl ?_
        refine R_callSI (As := [.inl v3]) mi_X7_nameOf ml_RX7_71 rfl (Nat.le_of_ble_eq_true rfl) (am_hle 1) dX7_readOne_68 (ct_X7_nameOf hA v3 σ9 _ (wp_bnd w)) (fun r16 σ17 w => ?_)
        refine R_callVV (As := [.inl 110, .inl r16]) acl3 rfl oz3_1 mi_X3_add ml_RX7_45 rfl (Nat.le_of_ble_eq_true rfl) (am_hle 1) dX7_readOne_71 (ct_X3_add hA 1 oz3_1 110 r16 σ17 _ (wp_bnd w)) (fun σ18 w => ?_)
        refine R_aload_n dX7_readOne_74 rfl 1 rfl ?_
        refine R_dup dX7_readOne_75 rfl ?_
        refine R_getfI (k := 2) acl7 oz7_0 (by decide) fl_RX7_19 dX7_readOne_76 rfl ?_
        refine R_iconst (v := 1) dX7_readOne_79 (by decide) ?_
        refine R_iadd dX7_readOne_80 ?_
        refine R_putf (k := 2) (ty := .int) acl7 oz7_0 (by decide) fl_RX7_19 rfl (tyX7_ok 2 (by decide)) (Or.inl rfl) dX7_readOne_81 rfl ?_
        refine R_nameS w ?_; clear w; intro σ19 w
        refine R_goto (tgt := 124) dX7_readOne_84 (by decide) ?_
        exact R_vreturn dX7_readOne_124 rfl ⟨rfl, wp_some w⟩
    · have w := wp_f c7 w
      refine R_aload_n dX7_readOne_49 rfl 1 rfl ?_
      refine R_aload_n dX7_readOne_50 rfl 2 rfl ?_
      refine R_callVV (As := [.inr (.inr (3, 1, 0))]) acl7 rfl oz7_0 mi_X7_readNumber ml_RX7_68 rfl (Nat.le_of_ble_eq_true rfl) (am_hle 2) dX7_readOne_51 (ct_X7_readNumber hA σ6 _ (wp_bnd w)) (fun σ20 w => ?_)
      refine R_goto (tgt := 124) dX7_readOne_54 (by decide) ?_
      exact R_vreturn dX7_readOne_124 rfl ⟨rfl, wp_some w⟩
  · have w := wp_f c4 w
    exact R_vreturn dX7_readOne_37 rfl ⟨rfl, wp_some w⟩
def g_X7_readOne_23 (rc : GT1)   (v2 : Int32) (v3 : Int32) (σ : AS) : Option (Unit × AS) := g_X7_readOne_28 rc v2 v3 1 σ
set_option maxRecDepth 100000 in
set_option maxHeartbeats 4000000 in
theorem rk_X7_readOne_23 {l : Launch} {cx : CX} (hA : AD cx) {f : Nat} (rc : GT1) (hrc : GC1 l cx f rc)   (Q : Unit → AS → Prop) (v2 : Int32) (v3 : Int32) (σ : AS) (w : wpO (g_X7_readOne_23 rc v2 v3 σ) Q) : RJ l cx (f + 1 + 2) RX7 cX7_readOne 5 none 23 [(0, .inr (.inr (7, 0, 0))), (1, .inr (.inr (3, 1, 0))), (2, .inl v2), (3, .inl v3)] [] σ (QV Q) := by
  unfold g_X7_readOne_23 at w
  refine R_iconst (v := 1) dX7_readOne_23 (by decide) ?_
  refine R_goto (tgt := 28) dX7_readOne_24 (by decide) ?_
  refine R_sub [0, 1, 2, 3] rfl ?_
  exact rk_X7_readOne_28 hA rc hrc _ v2 v3 1 σ w
def gb_X7_readOne (rc : GT1) (a1 : Int32) (σ : AS) : Option (Unit × AS) := (bnd (g_X7_next σ) fun r1 σ2 => (if r1 = 40 then g_X7_readOne_23 rc a1 r1 σ2 else (if r1 = 33 then g_X7_readOne_23 rc a1 r1 σ2 else (if r1 = 45 then g_X7_readOne_23 rc a1 r1 σ2 else g_X7_readOne_28 rc a1 r1 0 σ2))))
set_option maxRecDepth 100000 in
set_option maxHeartbeats 4000000 in
theorem cb_X7_readOne {l : Launch} {cx : CX} (hA : AD cx) {f : Nat} (rc : GT1) (hrc : GC1 l cx f rc) (a1 : Int32) (σ : AS) (Q : Unit → AS → Prop) (w : wpO (gb_X7_readOne rc a1 σ) Q) : AMet l cx (f + 1 + 2) yX7_readOne cX7_readOne 5 none [.inr (.inr (7, 0, 0)), .inr (.inr (3, 1, 0)), .inl a1] σ (QV Q) := by
  unfold gb_X7_readOne at w
  refine AMet.of (own := RX7) (by decide) rfl hA (Nat.le_of_ble_eq_true rfl) ?_
  show RJ l cx (f + 1 + 2) RX7 cX7_readOne 5 none 0 [(0, .inr (.inr (7, 0, 0))), (1, .inr (.inr (3, 1, 0))), (2, .inl a1)] [] σ _
  refine R_aload_n dX7_readOne_0 rfl 0 rfl ?_
  refine R_callVI (As := []) acl7 rfl oz7_0 mi_X7_next ml_RX7_34 rfl (Nat.le_of_ble_eq_true rfl) (am_hle 1) dX7_readOne_1 (ct_X7_next hA σ _ (wp_bnd w)) (fun r1 σ2 w => ?_)
  refine R_istore_n (lv' := [(3, .inl r1), (0, .inr (.inr (7, 0, 0))), (1, .inr (.inr (3, 1, 0))), (2, .inl a1)]) dX7_readOne_4 rfl (by decide) rfl ?_
  refine R_iload_n dX7_readOne_5 rfl 0 rfl ?_
  refine R_bipush (v := 40) dX7_readOne_6 (by decide) ?_
  refine R_icmp_eq (tgt := 23) dX7_readOne_8 (by decide) (fun c3 => ?_) (fun c3 => ?_)
  · have w := wp_t c3 w
    refine R_sub [1, 2, 3, 0] rfl ?_
    exact rk_X7_readOne_23 hA rc hrc _ a1 r1 σ2 w
  · have w := wp_f c3 w
    refine R_iload_n dX7_readOne_11 rfl 0 rfl ?_
    refine R_bipush (v := 33) dX7_readOne_12 (by decide) ?_
    refine R_icmp_eq (tgt := 23) dX7_readOne_14 (by decide) (fun c21 => ?_) (fun c21 => ?_)
    · have w := wp_t c21 w
      refine R_sub [1, 2, 3, 0] rfl ?_
      exact rk_X7_readOne_23 hA rc hrc _ a1 r1 σ2 w
    · have w := wp_f c21 w
      refine R_iload_n dX7_readOne_17 rfl 0 rfl ?_
      refine R_bipush (v := 45) dX7_readOne_18 (by decide) ?_
      refine R_icmp_ne (tgt := 27) dX7_readOne_20 (by decide) (fun c22 => ?_) (fun c22 => ?_)
      · have w := wp_f c22 w
        refine R_iconst (v := 0) dX7_readOne_27 (by decide) ?_
        refine R_sub [1, 2, 3, 0] rfl ?_
        exact rk_X7_readOne_28 hA rc hrc _ a1 r1 0 σ2 w
      · have w := wp_t c22 w
        refine R_sub [1, 2, 3, 0] rfl ?_
        exact rk_X7_readOne_23 hA rc hrc _ a1 r1 σ2 w
def g_X7_readOpened_26 (rc : GT1)   (s0 : Int32) (σ : AS) : Option (Unit × AS) := (bnd (g_X3_add 1 s0 0 σ) fun _ σ10 => some ((), σ10))
set_option maxRecDepth 100000 in
set_option maxHeartbeats 4000000 in
theorem rk_X7_readOpened_26 {l : Launch} {cx : CX} (hA : AD cx) {f : Nat} (rc : GT1) (hrc : GC1 l cx f rc)   (Q : Unit → AS → Prop) (s0 : Int32) (σ : AS) (w : wpO (g_X7_readOpened_26 rc s0 σ) Q) : RJ l cx (f + 1 + 2) RX7 cX7_readOpened 4 none 26 [] [.inl s0, .inr (.inr (3, 1, 0))] σ (QV Q) := by
  unfold g_X7_readOpened_26 at w
  refine R_iconst (v := 0) dX7_readOpened_26 (by decide) ?_
  refine R_callVV (As := [.inl s0, .inl 0]) acl3 rfl oz3_1 mi_X3_add ml_RX7_45 rfl (Nat.le_of_ble_eq_true rfl) (am_hle 1) dX7_readOpened_27 (ct_X3_add hA 1 oz3_1 s0 0 σ _ (wp_bnd w)) (fun σ10 w => ?_)
  exact R_vreturn dX7_readOpened_30 rfl ⟨rfl, wp_some w⟩
def gb_X7_readOpened (rc : GT1) (a1 : Int32) (a2 : Int32) (σ : AS) : Option (Unit × AS) := (if a1 = 40 then (bnd (rc.1 0 a2 σ) fun _ σ2 => (bnd (g_X7_next σ2) fun r3 σ4 => (if r3 = 41 then (lt (sF σ4 7 0 2 ((gF σ4 7 0 2) + 1)) fun σ7 => some ((), σ7)) else (bnd (g_X7_fail σ4) fun _ σ6 => some ((), σ6))))) else (bnd (rc.2.1 a2 σ) fun _ σ8 => (if a1 = 33 then g_X7_readOpened_26 rc 33 σ8 else g_X7_readOpened_26 rc 126 σ8)))
set_option maxRecDepth 100000 in
set_option maxHeartbeats 4000000 in
theorem cb_X7_readOpened {l : Launch} {cx : CX} (hA : AD cx) {f : Nat} (rc : GT1) (hrc : GC1 l cx f rc) (a1 : Int32) (a2 : Int32) (σ : AS) (Q : Unit → AS → Prop) (w : wpO (gb_X7_readOpened rc a1 a2 σ) Q) : AMet l cx (f + 1 + 2) yX7_readOpened cX7_readOpened 4 none [.inr (.inr (7, 0, 0)), .inr (.inr (3, 1, 0)), .inl a1, .inl a2] σ (QV Q) := by
  unfold gb_X7_readOpened at w
  refine AMet.of (own := RX7) (by decide) rfl hA (Nat.le_of_ble_eq_true rfl) ?_
  show RJ l cx (f + 1 + 2) RX7 cX7_readOpened 4 none 0 [(0, .inr (.inr (7, 0, 0))), (1, .inr (.inr (3, 1, 0))), (2, .inl a1), (3, .inl a2)] [] σ _
  refine R_iload_n dX7_readOpened_0 rfl 2 rfl ?_
  refine R_bipush (v := 40) dX7_readOpened_1 (by decide) ?_
  refine R_icmp_eq (tgt := 31) dX7_readOpened_3 (by decide) (fun c1 => ?_) (fun c1 => ?_)
  · have w := wp_t c1 w
    refine R_aload_n dX7_readOpened_31 rfl 0 rfl ?_
    refine R_aload_n dX7_readOpened_32 rfl 1 rfl ?_
    refine R_iconst (v := 0) dX7_readOpened_33 (by decide) ?_
    refine R_iload_n dX7_readOpened_34 rfl 3 rfl ?_
    refine R_callVV (As := [.inr (.inr (3, 1, 0)), .inl 0, .inl a2]) acl7 rfl oz7_0 mi_X7_readPart ml_RX7_41 rfl (Nat.le_of_ble_eq_true rfl) (Nat.le_refl _) dX7_readOpened_35 (hrc.1 0 a2 σ _ (wp_bnd w)) (fun σ2 w => ?_)
    refine R_aload_n dX7_readOpened_38 rfl 0 rfl ?_
    refine R_callVI (As := []) acl7 rfl oz7_0 mi_X7_next ml_RX7_34 rfl (Nat.le_of_ble_eq_true rfl) (am_hle 1) dX7_readOpened_39 (ct_X7_next hA σ2 _ (wp_bnd w)) (fun r3 σ4 w => ?_)
    refine R_bipush (v := 41) dX7_readOpened_42 (by decide) ?_
    refine R_icmp_ne (tgt := 60) dX7_readOpened_44 (by decide) (fun c5 => ?_) (fun c5 => ?_)
    · have w := wp_f c5 w
      refine R_aload_n dX7_readOpened_60 rfl 0 rfl ?_
      refine R_callVV (As := []) acl7 rfl oz7_0 mi_X7_fail ml_RX7_38 rfl (Nat.le_of_ble_eq_true rfl) (am_hle 1) dX7_readOpened_61 (ct_X7_fail hA σ4 _ (wp_bnd w)) (fun σ6 w => ?_)
      exact R_vreturn dX7_readOpened_64 rfl ⟨rfl, wp_some w⟩
    · have w := wp_t c5 w
      refine R_aload_n dX7_readOpened_47 rfl 0 rfl ?_
      refine R_dup dX7_readOpened_48 rfl ?_
      refine R_getfI (k := 2) acl7 oz7_0 (by decide) fl_RX7_19 dX7_readOpened_49 rfl ?_
      refine R_iconst (v := 1) dX7_readOpened_52 (by decide) ?_
      refine R_iadd dX7_readOpened_53 ?_
      refine R_putf (k := 2) (ty := .int) acl7 oz7_0 (by decide) fl_RX7_19 rfl (tyX7_ok 2 (by decide)) (Or.inl rfl) dX7_readOpened_54 rfl ?_
      refine R_nameS w ?_; clear w; intro σ7 w
      refine R_goto (tgt := 64) dX7_readOpened_57 (by decide) ?_
      exact R_vreturn dX7_readOpened_64 rfl ⟨rfl, wp_some w⟩
  · have w := wp_f c1 w
    refine R_aload_n dX7_readOpened_6 rfl 0 rfl ?_
    refine R_aload_n dX7_readOpened_7 rfl 1 rfl ?_
    refine R_iload_n dX7_readOpened_8 rfl 3 rfl ?_
    refine R_callVV (As := [.inr (.inr (3, 1, 0)), .inl a2]) acl7 rfl oz7_0 mi_X7_readOne ml_RX7_56 rfl (Nat.le_of_ble_eq_true rfl) (Nat.le_refl _) dX7_readOpened_9 (hrc.2.1 a2 σ _ (wp_bnd w)) (fun σ8 w => ?_)
    refine R_aload_n dX7_readOpened_12 rfl 1 rfl ?_
    refine R_iload_n dX7_readOpened_13 rfl 2 rfl ?_
    refine R_bipush (v := 33) dX7_readOpened_14 (by decide) ?_
    refine R_icmp_ne (tgt := 24) dX7_readOpened_16 (by decide) (fun c9 => ?_) (fun c9 => ?_)
    · have w := wp_f c9 w
      refine R_bipush (v := 126) dX7_readOpened_24 (by decide) ?_
      refine R_sub [] rfl ?_
      exact rk_X7_readOpened_26 hA rc hrc _ 126 σ8 w
    · have w := wp_t c9 w
      refine R_bipush (v := 33) dX7_readOpened_19 (by decide) ?_
      refine R_goto (tgt := 26) dX7_readOpened_21 (by decide) ?_
      refine R_sub [] rfl ?_
      exact rk_X7_readOpened_26 hA rc hrc _ 33 σ8 w
def gr1 : Nat → GT1
  | 0 => ((fun _ _ _ => none), (fun _ _ => none), (fun _ _ _ => none))
  | f + 1 => (gb_X7_readPart (gr1 f), gb_X7_readOne (gr1 f), gb_X7_readOpened (gr1 f))
set_option maxRecDepth 100000 in
set_option maxHeartbeats 4000000 in
theorem gc1 {l : Launch} {cx : CX} (hA : AD cx) : ∀ f, GC1 l cx f (gr1 f)
  | 0 => ⟨(fun a1 a2 σ Q w => wp_no w), (fun a1 σ Q w => wp_no w), (fun a1 a2 σ Q w => wp_no w)⟩
  | f + 1 => by
    have ih := gc1 (l := l) hA f
    have e : ∀ b : Nat, f + 1 + b = f + 1 + b := fun _ => rfl
    exact ⟨(fun a1 a2 σ Q w => cb_X7_readPart hA (gr1 f) ih a1 a2 σ Q w), (fun a1 σ Q w => cb_X7_readOne hA (gr1 f) ih a1 σ Q w), (fun a1 a2 σ Q w => cb_X7_readOpened hA (gr1 f) ih a1 a2 σ Q w)⟩
def g_X7_readPart (a1 : Int32) (a2 : Int32) (σ : AS) : Option (Unit × AS) := (gr1 100).1 a1 a2 σ
set_option maxRecDepth 100000 in
set_option maxHeartbeats 4000000 in
theorem ct_X7_readPart {l : Launch} {cx : CX} (hA : AD cx) (a1 : Int32) (a2 : Int32) (σ : AS) (Q : Unit → AS → Prop) (w : wpO (g_X7_readPart a1 a2 σ) Q) : AMet l cx 102 yX7_readPart cX7_readPart 7 none [.inr (.inr (7, 0, 0)), .inr (.inr (3, 1, 0)), .inl a1, .inl a2] σ (QV Q) := (gc1 hA 100).1 a1 a2 σ Q w
def g_X7_readOne (a1 : Int32) (σ : AS) : Option (Unit × AS) := (gr1 100).2.1 a1 σ
set_option maxRecDepth 100000 in
set_option maxHeartbeats 4000000 in
theorem ct_X7_readOne {l : Launch} {cx : CX} (hA : AD cx) (a1 : Int32) (σ : AS) (Q : Unit → AS → Prop) (w : wpO (g_X7_readOne a1 σ) Q) : AMet l cx 102 yX7_readOne cX7_readOne 5 none [.inr (.inr (7, 0, 0)), .inr (.inr (3, 1, 0)), .inl a1] σ (QV Q) := (gc1 hA 100).2.1 a1 σ Q w
def g_X7_readOpened (a1 : Int32) (a2 : Int32) (σ : AS) : Option (Unit × AS) := (gr1 100).2.2 a1 a2 σ
set_option maxRecDepth 100000 in
set_option maxHeartbeats 4000000 in
theorem ct_X7_readOpened {l : Launch} {cx : CX} (hA : AD cx) (a1 : Int32) (a2 : Int32) (σ : AS) (Q : Unit → AS → Prop) (w : wpO (g_X7_readOpened a1 a2 σ) Q) : AMet l cx 102 yX7_readOpened cX7_readOpened 4 none [.inr (.inr (7, 0, 0)), .inr (.inr (3, 1, 0)), .inl a1, .inl a2] σ (QV Q) := (gc1 hA 100).2.2 a1 a2 σ Q w
def g_X7_readLine (σ : AS) : Option (Unit × AS) := (bnd (g_X7_readPart 0 0 σ) fun _ σ1 => (bnd (g_X7_next σ1) fun r2 σ3 => (if r2 = 63 then (bnd (g_X3_steps 1 σ3) fun r5 σ6 => (bnd (g_X3_add 1 63 0 σ6) fun _ σ7 => (lt (sF σ7 7 0 2 ((gF σ7 7 0 2) + 1)) fun σ8 => (bnd (g_X7_readPart 0 0 σ8) fun _ σ9 => (bnd (g_X3_add 1 59 0 σ9) fun _ σ10 => (bnd (g_X3_leadOn 1 r5 σ10) fun _ σ11 => some ((), σ11))))))) else (bnd (g_X3_add 1 59 0 σ3) fun _ σ12 => some ((), σ12)))))
set_option maxRecDepth 100000 in
set_option maxHeartbeats 4000000 in
theorem ct_X7_readLine {l : Launch} {cx : CX} (hA : AD cx) (σ : AS) (Q : Unit → AS → Prop) (w : wpO (g_X7_readLine σ) Q) : AMet l cx 103 yX7_readLine cX7_readLine 3 none [.inr (.inr (7, 0, 0)), .inr (.inr (3, 1, 0))] σ (QV Q) := by
  unfold g_X7_readLine at w
  refine AMet.of (own := RX7) (by decide) rfl hA (Nat.le_of_ble_eq_true rfl) ?_
  show RJ l cx 103 RX7 cX7_readLine 3 none 0 [(0, .inr (.inr (7, 0, 0))), (1, .inr (.inr (3, 1, 0)))] [] σ _
  refine R_aload_n dX7_readLine_0 rfl 0 rfl ?_
  refine R_aload_n dX7_readLine_1 rfl 1 rfl ?_
  refine R_iconst (v := 0) dX7_readLine_2 (by decide) ?_
  refine R_iconst (v := 0) dX7_readLine_3 (by decide) ?_
  refine R_callVV (As := [.inr (.inr (3, 1, 0)), .inl 0, .inl 0]) acl7 rfl oz7_0 mi_X7_readPart ml_RX7_41 rfl (Nat.le_of_ble_eq_true rfl) (by decide) dX7_readLine_4 (ct_X7_readPart hA 0 0 σ _ (wp_bnd w)) (fun σ1 w => ?_)
  refine R_aload_n dX7_readLine_7 rfl 0 rfl ?_
  refine R_callVI (As := []) acl7 rfl oz7_0 mi_X7_next ml_RX7_34 rfl (Nat.le_of_ble_eq_true rfl) (by decide) dX7_readLine_8 (ct_X7_next hA σ1 _ (wp_bnd w)) (fun r2 σ3 w => ?_)
  refine R_bipush (v := 63) dX7_readLine_11 (by decide) ?_
  refine R_icmp_eq (tgt := 24) dX7_readLine_13 (by decide) (fun c4 => ?_) (fun c4 => ?_)
  · have w := wp_t c4 w
    refine R_aload_n dX7_readLine_24 rfl 1 rfl ?_
    refine R_callVI (As := []) acl3 rfl oz3_1 mi_X3_steps ml_RX7_49 rfl (Nat.le_of_ble_eq_true rfl) (by decide) dX7_readLine_25 (ct_X3_steps hA 1 oz3_1 σ3 _ (wp_bnd w)) (fun r5 σ6 w => ?_)
    refine R_istore_n (lv' := [(2, .inl r5), (0, .inr (.inr (7, 0, 0))), (1, .inr (.inr (3, 1, 0)))]) dX7_readLine_28 rfl (by decide) rfl ?_
    refine R_aload_n dX7_readLine_29 rfl 2 rfl ?_
    refine R_bipush (v := 63) dX7_readLine_30 (by decide) ?_
    refine R_iconst (v := 0) dX7_readLine_32 (by decide) ?_
    refine R_callVV (As := [.inl 63, .inl 0]) acl3 rfl oz3_1 mi_X3_add ml_RX7_45 rfl (Nat.le_of_ble_eq_true rfl) (by decide) dX7_readLine_33 (ct_X3_add hA 1 oz3_1 63 0 σ6 _ (wp_bnd w)) (fun σ7 w => ?_)
    refine R_aload_n dX7_readLine_36 rfl 1 rfl ?_
    refine R_dup dX7_readLine_37 rfl ?_
    refine R_getfI (k := 2) acl7 oz7_0 (by decide) fl_RX7_19 dX7_readLine_38 rfl ?_
    refine R_iconst (v := 1) dX7_readLine_41 (by decide) ?_
    refine R_iadd dX7_readLine_42 ?_
    refine R_putf (k := 2) (ty := .int) acl7 oz7_0 (by decide) fl_RX7_19 rfl (tyX7_ok 2 (by decide)) (Or.inl rfl) dX7_readLine_43 rfl ?_
    refine R_nameS w ?_; clear w; intro σ8 w
    refine R_aload_n dX7_readLine_46 rfl 1 rfl ?_
    refine R_aload_n dX7_readLine_47 rfl 2 rfl ?_
    refine R_iconst (v := 0) dX7_readLine_48 (by decide) ?_
    refine R_iconst (v := 0) dX7_readLine_49 (by decide) ?_
    refine R_callVV (As := [.inr (.inr (3, 1, 0)), .inl 0, .inl 0]) acl7 rfl oz7_0 mi_X7_readPart ml_RX7_41 rfl (Nat.le_of_ble_eq_true rfl) (by decide) dX7_readLine_50 (ct_X7_readPart hA 0 0 σ8 _ (wp_bnd w)) (fun σ9 w => ?_)
    refine R_aload_n dX7_readLine_53 rfl 2 rfl ?_
    refine R_bipush (v := 59) dX7_readLine_54 (by decide) ?_
    refine R_iconst (v := 0) dX7_readLine_56 (by decide) ?_
    refine R_callVV (As := [.inl 59, .inl 0]) acl3 rfl oz3_1 mi_X3_add ml_RX7_45 rfl (Nat.le_of_ble_eq_true rfl) (by decide) dX7_readLine_57 (ct_X3_add hA 1 oz3_1 59 0 σ9 _ (wp_bnd w)) (fun σ10 w => ?_)
    refine R_aload_n dX7_readLine_60 rfl 2 rfl ?_
    refine R_iload_n dX7_readLine_61 rfl 0 rfl ?_
    refine R_callVV (As := [.inl r5]) acl3 rfl oz3_1 mi_X3_leadOn ml_RX7_52 rfl (Nat.le_of_ble_eq_true rfl) (by decide) dX7_readLine_62 (ct_X3_leadOn hA 1 oz3_1 r5 σ10 _ (wp_bnd w)) (fun σ11 w => ?_)
    exact R_vreturn dX7_readLine_65 rfl ⟨rfl, wp_some w⟩
  · have w := wp_f c4 w
    refine R_aload_n dX7_readLine_16 rfl 1 rfl ?_
    refine R_bipush (v := 59) dX7_readLine_17 (by decide) ?_
    refine R_iconst (v := 0) dX7_readLine_19 (by decide) ?_
    refine R_callVV (As := [.inl 59, .inl 0]) acl3 rfl oz3_1 mi_X3_add ml_RX7_45 rfl (Nat.le_of_ble_eq_true rfl) (by decide) dX7_readLine_20 (ct_X3_add hA 1 oz3_1 59 0 σ3 _ (wp_bnd w)) (fun σ12 w => ?_)
    exact R_vreturn dX7_readLine_23 rfl ⟨rfl, wp_some w⟩
def g_X7_readInto_64     (σ : AS) : Option (Int32 × AS) := (if gF σ 7 0 2 < gF σ 7 0 1 then (bnd (g_X7_fail σ) fun _ σ7 => some (gF σ7 7 0 3, σ7)) else some (gF σ 7 0 3, σ))
set_option maxRecDepth 100000 in
set_option maxHeartbeats 4000000 in
theorem rk_X7_readInto_64 {l : Launch} {cx : CX} (hA : AD cx)    (Q : Int32 → AS → Prop)  (σ : AS) (w : wpO (g_X7_readInto_64  σ) Q) : RJ l cx 104 RX7 cX7_readInto 3 (some .int) 64 [(0, .inr (.inr (7, 0, 0)))] [] σ (QI Q) := by
  unfold g_X7_readInto_64 at w
  refine R_aload_n dX7_readInto_64 rfl 0 rfl ?_
  refine R_getfI (k := 2) acl7 oz7_0 (by decide) fl_RX7_19 dX7_readInto_65 rfl ?_
  refine R_aload_n dX7_readInto_68 rfl 0 rfl ?_
  refine R_getfI (k := 1) acl7 oz7_0 (by decide) fl_RX7_15 dX7_readInto_69 rfl ?_
  refine R_icmp_ge (tgt := 79) dX7_readInto_72 (by decide) (fun c6 => ?_) (fun c6 => ?_)
  · have w := wp_f c6 w
    refine R_aload_n dX7_readInto_79 rfl 0 rfl ?_
    refine R_getfI (k := 3) acl7 oz7_0 (by decide) fl_RX7_22 dX7_readInto_80 rfl ?_
    exact R_ireturn dX7_readInto_83 rfl ⟨_, rfl, wp_some w⟩
  · have w := wp_t c6 w
    refine R_aload_n dX7_readInto_75 rfl 0 rfl ?_
    refine R_callVV (As := []) acl7 rfl oz7_0 mi_X7_fail ml_RX7_38 rfl (Nat.le_of_ble_eq_true rfl) (by decide) dX7_readInto_76 (ct_X7_fail hA σ _ (wp_bnd w)) (fun σ7 w => ?_)
    refine R_aload_n dX7_readInto_79 rfl 0 rfl ?_
    refine R_getfI (k := 3) acl7 oz7_0 (by decide) fl_RX7_22 dX7_readInto_80 rfl ?_
    exact R_ireturn dX7_readInto_83 rfl ⟨_, rfl, wp_some w⟩
def g_X7_readInto_21    : Nat → Int32 → AS → Option (Int32 × AS)
  | 0, _, _ => none
  | f0 + 1, v2, σ => (if v2 < 120 then (if gF σ 7 0 3 < 0 then (bnd (g_X7_next σ) fun r9 σ10 => (if r9 = 59 then (lt (sF σ10 7 0 2 ((gF σ10 7 0 2) + 1)) fun σ12 => (bnd (g_X7_readLine σ12) fun _ σ13 => (g_X7_readInto_21 f0) (v2 + 1) σ13)) else g_X7_readInto_64 σ10)) else g_X7_readInto_64 σ) else g_X7_readInto_64 σ)
set_option maxRecDepth 100000 in
set_option maxHeartbeats 4000000 in
theorem rk_X7_readInto_21 {l : Launch} {cx : CX} (hA : AD cx)    (Q : Int32 → AS → Prop) : ∀ (f0 : Nat) (v2 : Int32) (σ : AS), wpO (g_X7_readInto_21 f0 v2 σ) Q → RJ l cx 104 RX7 cX7_readInto 3 (some .int) 21 [(0, .inr (.inr (7, 0, 0))), (1, .inr (.inr (3, 1, 0))), (2, .inl v2)] [] σ (QI Q) := by
  intro f0
  induction f0 with
  | zero => intro v2 σ w; exact wp_no w
  | succ f0 ih =>
    intro v2 σ w
    rw [g_X7_readInto_21] at w
    refine R_iload_n dX7_readInto_21 rfl 2 rfl ?_
    refine R_bipush (v := 120) dX7_readInto_22 (by decide) ?_
    refine R_icmp_ge (tgt := 64) dX7_readInto_24 (by decide) (fun c5 => ?_) (fun c5 => ?_)
    · have w := wp_f c5 w
      refine R_sub [0] rfl ?_
      exact rk_X7_readInto_64 hA _ σ w
    · have w := wp_t c5 w
      refine R_aload_n dX7_readInto_27 rfl 0 rfl ?_
      refine R_getfI (k := 3) acl7 oz7_0 (by decide) fl_RX7_22 dX7_readInto_28 rfl ?_
      refine R_if_ge (tgt := 64) dX7_readInto_31 (by decide) (fun c8 => ?_) (fun c8 => ?_)
      · have w := wp_f c8 w
        refine R_sub [0] rfl ?_
        exact rk_X7_readInto_64 hA _ σ w
      · have w := wp_t c8 w
        refine R_aload_n dX7_readInto_34 rfl 0 rfl ?_
        refine R_callVI (As := []) acl7 rfl oz7_0 mi_X7_next ml_RX7_34 rfl (Nat.le_of_ble_eq_true rfl) (by decide) dX7_readInto_35 (ct_X7_next hA σ _ (wp_bnd w)) (fun r9 σ10 w => ?_)
        refine R_bipush (v := 59) dX7_readInto_38 (by decide) ?_
        refine R_icmp_ne (tgt := 64) dX7_readInto_40 (by decide) (fun c11 => ?_) (fun c11 => ?_)
        · have w := wp_f c11 w
          refine R_sub [0] rfl ?_
          exact rk_X7_readInto_64 hA _ σ10 w
        · have w := wp_t c11 w
          refine R_aload_n dX7_readInto_43 rfl 0 rfl ?_
          refine R_dup dX7_readInto_44 rfl ?_
          refine R_getfI (k := 2) acl7 oz7_0 (by decide) fl_RX7_19 dX7_readInto_45 rfl ?_
          refine R_iconst (v := 1) dX7_readInto_48 (by decide) ?_
          refine R_iadd dX7_readInto_49 ?_
          refine R_putf (k := 2) (ty := .int) acl7 oz7_0 (by decide) fl_RX7_19 rfl (tyX7_ok 2 (by decide)) (Or.inl rfl) dX7_readInto_50 rfl ?_
          refine R_nameS w ?_; clear w; intro σ12 w
          refine R_aload_n dX7_readInto_53 rfl 0 rfl ?_
          refine R_aload_n dX7_readInto_54 rfl 1 rfl ?_
          refine R_callVV (As := [.inr (.inr (3, 1, 0))]) acl7 rfl oz7_0 mi_X7_readLine ml_RX7_30 rfl (Nat.le_of_ble_eq_true rfl) (by decide) dX7_readInto_55 (ct_X7_readLine hA σ12 _ (wp_bnd w)) (fun σ13 w => ?_)
          refine R_iinc (v := v2 + 1) (lv' := [(2, .inl (v2 + 1)), (0, .inr (.inr (7, 0, 0))), (1, .inr (.inr (3, 1, 0)))]) dX7_readInto_58 2 rfl rfl (by decide) rfl ?_
          refine R_goto (tgt := 21) dX7_readInto_61 (by decide) ?_
          refine R_sub [1, 2, 0] rfl ?_
          exact ih (v2 + 1) σ13 w
def g_X7_readInto (σ : AS) : Option (Int32 × AS) := (bnd (g_X3_clear 1 σ) fun _ σ1 => (lt (sF σ1 7 0 2 0) fun σ2 => (lt (sF σ2 7 0 3 (-1)) fun σ3 => (bnd (g_X7_readLine σ3) fun _ σ4 => g_X7_readInto_21 400 0 σ4))))
set_option maxRecDepth 100000 in
set_option maxHeartbeats 4000000 in
theorem ct_X7_readInto {l : Launch} {cx : CX} (hA : AD cx) (σ : AS) (Q : Int32 → AS → Prop) (w : wpO (g_X7_readInto σ) Q) : AMet l cx 104 yX7_readInto cX7_readInto 3 (some .int) [.inr (.inr (7, 0, 0)), .inr (.inr (3, 1, 0))] σ (QI Q) := by
  unfold g_X7_readInto at w
  refine AMet.of (own := RX7) (by decide) rfl hA (Nat.le_of_ble_eq_true rfl) ?_
  show RJ l cx 104 RX7 cX7_readInto 3 (some .int) 0 [(0, .inr (.inr (7, 0, 0))), (1, .inr (.inr (3, 1, 0)))] [] σ _
  refine R_aload_n dX7_readInto_0 rfl 1 rfl ?_
  refine R_callVV (As := []) acl3 rfl oz3_1 mi_X3_clear ml_RX7_25 rfl (Nat.le_of_ble_eq_true rfl) (by decide) dX7_readInto_1 (ct_X3_clear hA 1 oz3_1 σ _ (wp_bnd w)) (fun σ1 w => ?_)
  refine R_aload_n dX7_readInto_4 rfl 0 rfl ?_
  refine R_iconst (v := 0) dX7_readInto_5 (by decide) ?_
  refine R_putf (k := 2) (ty := .int) acl7 oz7_0 (by decide) fl_RX7_19 rfl (tyX7_ok 2 (by decide)) (Or.inl rfl) dX7_readInto_6 rfl ?_
  refine R_nameS w ?_; clear w; intro σ2 w
  refine R_aload_n dX7_readInto_9 rfl 0 rfl ?_
  refine R_iconst (v := (-1)) dX7_readInto_10 (by decide) ?_
  refine R_putf (k := 3) (ty := .int) acl7 oz7_0 (by decide) fl_RX7_22 rfl (tyX7_ok 3 (by decide)) (Or.inl rfl) dX7_readInto_11 rfl ?_
  refine R_nameS w ?_; clear w; intro σ3 w
  refine R_aload_n dX7_readInto_14 rfl 0 rfl ?_
  refine R_aload_n dX7_readInto_15 rfl 1 rfl ?_
  refine R_callVV (As := [.inr (.inr (3, 1, 0))]) acl7 rfl oz7_0 mi_X7_readLine ml_RX7_30 rfl (Nat.le_of_ble_eq_true rfl) (by decide) dX7_readInto_16 (ct_X7_readLine hA σ3 _ (wp_bnd w)) (fun σ4 w => ?_)
  refine R_iconst (v := 0) dX7_readInto_19 (by decide) ?_
  refine R_istore_n (lv' := [(2, .inl 0), (0, .inr (.inr (7, 0, 0))), (1, .inr (.inr (3, 1, 0)))]) dX7_readInto_20 rfl (by decide) rfl ?_
  refine R_sub [1, 2, 0] rfl ?_
  exact rk_X7_readInto_21 hA _ 400 0 σ4 w
def g_X8_law (σ : AS) : Option (Int32 × AS) := (bnd (g_X7_readInto σ) fun r1 σ2 => (bnd (g_X7_clear σ2) fun _ σ3 => (if r1 < 0 then (bnd (g_X3_become 0 1 σ3) fun _ σ5 => some (1, σ5)) else some ((-100) - r1, σ3))))
set_option maxRecDepth 100000 in
set_option maxHeartbeats 4000000 in
theorem ct_X8_law {l : Launch} {cx : CX} (hA : AD cx) (σ : AS) (Q : Int32 → AS → Prop) (w : wpO (g_X8_law σ) Q) : AMet l cx 105 yX8_law cX8_law 2 (some .int) [.inr (.inr (8, 0, 0))] σ (QI Q) := by
  unfold g_X8_law at w
  refine AMet.of (own := RX8) (by decide) rfl hA (Nat.le_of_ble_eq_true rfl) ?_
  show RJ l cx 105 RX8 cX8_law 2 (some .int) 0 [(0, .inr (.inr (8, 0, 0)))] [] σ _
  refine R_aload_n dX8_law_0 rfl 0 rfl ?_
  refine R_getfO (k := 3) acl8 oz8_0 (by decide) fl_RX8_29 dX8_law_1 rfl ?_
  refine R_aload_n dX8_law_4 rfl 0 rfl ?_
  refine R_getfO (k := 2) acl8 oz8_0 (by decide) fl_RX8_23 dX8_law_5 rfl ?_
  refine R_callVI (As := [.inr (.inr (3, 1, 0))]) acl7 rfl oz7_0 mi_X7_readInto ml_RX8_140 rfl (Nat.le_of_ble_eq_true rfl) (by decide) dX8_law_8 (ct_X7_readInto hA σ _ (wp_bnd w)) (fun r1 σ2 w => ?_)
  refine R_istore_n (lv' := [(1, .inl r1), (0, .inr (.inr (8, 0, 0)))]) dX8_law_11 rfl (by decide) rfl ?_
  refine R_aload_n dX8_law_12 rfl 1 rfl ?_
  refine R_getfO (k := 3) acl8 oz8_0 (by decide) fl_RX8_29 dX8_law_13 rfl ?_
  refine R_callVV (As := []) acl7 rfl oz7_0 mi_X7_clear ml_RX8_144 rfl (Nat.le_of_ble_eq_true rfl) (by decide) dX8_law_16 (ct_X7_clear hA σ2 _ (wp_bnd w)) (fun σ3 w => ?_)
  refine R_iload_n dX8_law_19 rfl 0 rfl ?_
  refine R_if_lt (tgt := 28) dX8_law_20 (by decide) (fun c4 => ?_) (fun c4 => ?_)
  · have w := wp_t c4 w
    refine R_aload_n dX8_law_28 rfl 1 rfl ?_
    refine R_getfO (k := 1) acl8 oz8_0 (by decide) fl_RX8_19 dX8_law_29 rfl ?_
    refine R_aload_n dX8_law_32 rfl 1 rfl ?_
    refine R_getfO (k := 2) acl8 oz8_0 (by decide) fl_RX8_23 dX8_law_33 rfl ?_
    refine R_callVV (As := [.inr (.inr (3, 1, 0))]) acl3 rfl oz3_0 mi_X3_become ml_RX8_147 rfl (Nat.le_of_ble_eq_true rfl) (by decide) dX8_law_36 (ct_X3_become hA 0 oz3_0 1 oz3_1 σ3 _ (wp_bnd w)) (fun σ5 w => ?_)
    refine R_iconst (v := 1) dX8_law_39 (by decide) ?_
    exact R_ireturn dX8_law_40 rfl ⟨_, rfl, wp_some w⟩
  · have w := wp_f c4 w
    refine R_bipush (v := (-100)) dX8_law_23 (by decide) ?_
    refine R_iload_n dX8_law_25 rfl 0 rfl ?_
    refine R_isub dX8_law_26 ?_
    exact R_ireturn dX8_law_27 rfl ⟨_, rfl, wp_some w⟩
def g_X4_fightOf (a0 : Int32) (a1 : Int32) (σ : AS) : Option (Int32 × AS) := (bnd (g_X4_isWithin a0 a1 σ) fun r1 σ2 => (if r1 = 0 then some (0, σ2) else (if inb ((a0 * 7) + a1) 168 then some (gA σ2 4 0 2 ((a0 * 7) + a1), σ2) else none)))
set_option maxRecDepth 100000 in
set_option maxHeartbeats 4000000 in
theorem ct_X4_fightOf {l : Launch} {cx : CX} (hA : AD cx) (a0 : Int32) (a1 : Int32) (σ : AS) (Q : Int32 → AS → Prop) (w : wpO (g_X4_fightOf a0 a1 σ) Q) : AMet l cx 1 yX4_fightOf cX4_fightOf 3 (some .int) [.inr (.inr (4, 0, 0)), .inl a0, .inl a1] σ (QI Q) := by
  unfold g_X4_fightOf at w
  refine AMet.of (own := RX4) (by decide) rfl hA (Nat.le_of_ble_eq_true rfl) ?_
  show RJ l cx 1 RX4 cX4_fightOf 3 (some .int) 0 [(0, .inr (.inr (4, 0, 0))), (1, .inl a0), (2, .inl a1)] [] σ _
  refine R_iload_n dX4_fightOf_0 rfl 1 rfl ?_
  refine R_iload_n dX4_fightOf_1 rfl 2 rfl ?_
  refine R_callSI (As := [.inl a0, .inl a1]) mi_X4_isWithin ml_RX4_46 rfl (Nat.le_of_ble_eq_true rfl) (by decide) dX4_fightOf_2 (ct_X4_isWithin hA a0 a1 σ _ (wp_bnd w)) (fun r1 σ2 w => ?_)
  refine R_if_eq (tgt := 22) dX4_fightOf_5 (by decide) (fun c3 => ?_) (fun c3 => ?_)
  · have w := wp_t c3 w
    refine R_iconst (v := 0) dX4_fightOf_22 (by decide) ?_
    exact R_ireturn dX4_fightOf_23 rfl ⟨_, rfl, wp_some w⟩
  · have w := wp_f c3 w
    refine R_aload_n dX4_fightOf_8 rfl 0 rfl ?_
    refine R_getfA (k := 2) acl4 oz4_0 (by decide) fl_RX4_18 dX4_fightOf_9 rfl ?_
    refine R_iload_n dX4_fightOf_12 rfl 1 rfl ?_
    refine R_bipush (v := 7) dX4_fightOf_13 (by decide) ?_
    refine R_imul dX4_fightOf_15 ?_
    refine R_iload_n dX4_fightOf_16 rfl 2 rfl ?_
    refine R_iadd dX4_fightOf_17 ?_
    obtain ⟨b4, w⟩ := wp_chk w
    refine R_iald rfl oz4_0 b4 dX4_fightOf_18 ?_
    refine R_goto (tgt := 23) dX4_fightOf_19 (by decide) ?_
    exact R_ireturn dX4_fightOf_23 rfl ⟨_, rfl, wp_some w⟩
def g_X8_led (a0 : Int32) (a1 : Int32) (σ : AS) : Option (Int32 × AS) := (if a0 < 0 then some ((-1), σ) else (if a0 / 10 < gF σ 1 0 11 then (bnd (g_X6_hasRest (rmi a0 10) σ) fun r3 σ4 => (if r3 = 0 then some ((-1), σ4) else (if a1 = 0 then (bnd (g_X4_leftOf (a0 / 10) (rmi a0 10) σ4) fun r7 σ8 => some (r7, σ8)) else (if a1 = 1 then (bnd (g_X4_rightOf (a0 / 10) (rmi a0 10) σ4) fun r10 σ11 => some (r10, σ11)) else (if a1 = 2 then (bnd (g_X4_fightOf (a0 / 10) (rmi a0 10) σ4) fun r13 σ14 => some (r13, σ14)) else some ((-1), σ4)))))) else some ((-1), σ)))
set_option maxRecDepth 100000 in
set_option maxHeartbeats 4000000 in
theorem ct_X8_led {l : Launch} {cx : CX} (hA : AD cx) (a0 : Int32) (a1 : Int32) (σ : AS) (Q : Int32 → AS → Prop) (w : wpO (g_X8_led a0 a1 σ) Q) : AMet l cx 2 yX8_led cX8_led 3 (some .int) [.inr (.inr (8, 0, 0)), .inl a0, .inl a1] σ (QI Q) := by
  unfold g_X8_led at w
  refine AMet.of (own := RX8) (by decide) rfl hA (Nat.le_of_ble_eq_true rfl) ?_
  show RJ l cx 2 RX8 cX8_led 3 (some .int) 0 [(0, .inr (.inr (8, 0, 0))), (1, .inl a0), (2, .inl a1)] [] σ _
  refine R_iload_n dX8_led_0 rfl 1 rfl ?_
  refine R_if_lt (tgt := 32) dX8_led_1 (by decide) (fun c1 => ?_) (fun c1 => ?_)
  · have w := wp_t c1 w
    refine R_iconst (v := (-1)) dX8_led_32 (by decide) ?_
    exact R_ireturn dX8_led_33 rfl ⟨_, rfl, wp_some w⟩
  · have w := wp_f c1 w
    refine R_iload_n dX8_led_4 rfl 1 rfl ?_
    refine R_bipush (v := 10) dX8_led_5 (by decide) ?_
    refine R_idiv dX8_led_7 (by decide) ?_
    refine R_aload_n dX8_led_8 rfl 0 rfl ?_
    refine R_getfO (k := 4) acl8 oz8_0 (by decide) fl_RX8_38 dX8_led_9 rfl ?_
    refine R_getfI (k := 11) acl1 oz1_0 (by decide) fl_RX8_80 dX8_led_12 rfl ?_
    refine R_icmp_ge (tgt := 32) dX8_led_15 (by decide) (fun c2 => ?_) (fun c2 => ?_)
    · have w := wp_f c2 w
      refine R_iconst (v := (-1)) dX8_led_32 (by decide) ?_
      exact R_ireturn dX8_led_33 rfl ⟨_, rfl, wp_some w⟩
    · have w := wp_t c2 w
      refine R_aload_n dX8_led_18 rfl 0 rfl ?_
      refine R_getfO (k := 0) acl8 oz8_0 (by decide) fl_RX8_10 dX8_led_19 rfl ?_
      refine R_iload_n dX8_led_22 rfl 1 rfl ?_
      refine R_bipush (v := 10) dX8_led_23 (by decide) ?_
      refine R_irem dX8_led_25 (by decide) ?_
      refine R_callVI (As := [.inl (rmi a0 10)]) acl6 rfl oz6_0 mi_X6_hasRest ml_RX8_150 rfl (Nat.le_of_ble_eq_true rfl) (by decide) dX8_led_26 (ct_X6_hasRest hA (rmi a0 10) σ _ (wp_bnd w)) (fun r3 σ4 w => ?_)
      refine R_if_ne (tgt := 34) dX8_led_29 (by decide) (fun c5 => ?_) (fun c5 => ?_)
      · have w := wp_f c5 w
        refine R_iload_n dX8_led_34 rfl 2 rfl ?_
        by_cases c6 : a1 = 0
        · have w := wp_t c6 w
          refine R_tswIn (v := 0) (tgt := 60) dX8_led_35 c6 (by decide) (by decide) rfl (by decide) ?_
          refine R_aload_n dX8_led_60 rfl 0 rfl ?_
          refine R_getfO (k := 7) acl8 oz8_0 (by decide) fl_RX8_51 dX8_led_61 rfl ?_
          refine R_iload_n dX8_led_64 rfl 1 rfl ?_
          refine R_bipush (v := 10) dX8_led_65 (by decide) ?_
          refine R_idiv dX8_led_67 (by decide) ?_
          refine R_iload_n dX8_led_68 rfl 1 rfl ?_
          refine R_bipush (v := 10) dX8_led_69 (by decide) ?_
          refine R_irem dX8_led_71 (by decide) ?_
          refine R_callVI (As := [.inl (a0 / 10), .inl (rmi a0 10)]) acl4 rfl oz4_0 mi_X4_leftOf ml_RX8_183 rfl (Nat.le_of_ble_eq_true rfl) (by decide) dX8_led_72 (ct_X4_leftOf hA (a0 / 10) (rmi a0 10) σ4 _ (wp_bnd w)) (fun r7 σ8 w => ?_)
          exact R_ireturn dX8_led_75 rfl ⟨_, rfl, wp_some w⟩
        have w := wp_f c6 w
        by_cases c9 : a1 = 1
        · have w := wp_t c9 w
          refine R_tswIn (v := 1) (tgt := 76) dX8_led_35 c9 (by decide) (by decide) rfl (by decide) ?_
          refine R_aload_n dX8_led_76 rfl 0 rfl ?_
          refine R_getfO (k := 7) acl8 oz8_0 (by decide) fl_RX8_51 dX8_led_77 rfl ?_
          refine R_iload_n dX8_led_80 rfl 1 rfl ?_
          refine R_bipush (v := 10) dX8_led_81 (by decide) ?_
          refine R_idiv dX8_led_83 (by decide) ?_
          refine R_iload_n dX8_led_84 rfl 1 rfl ?_
          refine R_bipush (v := 10) dX8_led_85 (by decide) ?_
          refine R_irem dX8_led_87 (by decide) ?_
          refine R_callVI (As := [.inl (a0 / 10), .inl (rmi a0 10)]) acl4 rfl oz4_0 mi_X4_rightOf ml_RX8_186 rfl (Nat.le_of_ble_eq_true rfl) (by decide) dX8_led_88 (ct_X4_rightOf hA (a0 / 10) (rmi a0 10) σ4 _ (wp_bnd w)) (fun r10 σ11 w => ?_)
          exact R_ireturn dX8_led_91 rfl ⟨_, rfl, wp_some w⟩
        have w := wp_f c9 w
        by_cases c12 : a1 = 2
        · have w := wp_t c12 w
          refine R_tswIn (v := 2) (tgt := 92) dX8_led_35 c12 (by decide) (by decide) rfl (by decide) ?_
          refine R_aload_n dX8_led_92 rfl 0 rfl ?_
          refine R_getfO (k := 7) acl8 oz8_0 (by decide) fl_RX8_51 dX8_led_93 rfl ?_
          refine R_iload_n dX8_led_96 rfl 1 rfl ?_
          refine R_bipush (v := 10) dX8_led_97 (by decide) ?_
          refine R_idiv dX8_led_99 (by decide) ?_
          refine R_iload_n dX8_led_100 rfl 1 rfl ?_
          refine R_bipush (v := 10) dX8_led_101 (by decide) ?_
          refine R_irem dX8_led_103 (by decide) ?_
          refine R_callVI (As := [.inl (a0 / 10), .inl (rmi a0 10)]) acl4 rfl oz4_0 mi_X4_fightOf ml_RX8_189 rfl (Nat.le_of_ble_eq_true rfl) (by decide) dX8_led_104 (ct_X4_fightOf hA (a0 / 10) (rmi a0 10) σ4 _ (wp_bnd w)) (fun r13 σ14 w => ?_)
          exact R_ireturn dX8_led_107 rfl ⟨_, rfl, wp_some w⟩
        have w := wp_f c12 w
        refine R_tswOut (tgt := 108) dX8_led_35 [0, 1, 2] (List.forall_mem_cons.mpr ⟨c6, (List.forall_mem_cons.mpr ⟨c9, (List.forall_mem_cons.mpr ⟨c12, (fun _ z => absurd z List.not_mem_nil)⟩)⟩)⟩) (by decide) (by decide) ?_
        refine R_iconst (v := (-1)) dX8_led_108 (by decide) ?_
        exact R_ireturn dX8_led_109 rfl ⟨_, rfl, wp_some w⟩
      · have w := wp_t c5 w
        refine R_iconst (v := (-1)) dX8_led_32 (by decide) ?_
        exact R_ireturn dX8_led_33 rfl ⟨_, rfl, wp_some w⟩
def g_X3_hearsCoughs_2  (o : Nat)  : Nat → Int32 → AS → Option (Int32 × AS)
  | 0, _, _ => none
  | f0 + 1, v1, σ => (if v1 < gF σ 3 o 4 then (if inb v1 128 then (if gA σ 3 o 0 v1 = 110 then (if gA σ 3 o 1 v1 = 7 then some (1, σ) else (g_X3_hearsCoughs_2 o f0) (v1 + 1) σ) else (g_X3_hearsCoughs_2 o f0) (v1 + 1) σ) else none) else some (0, σ))
set_option maxRecDepth 100000 in
set_option maxHeartbeats 4000000 in
theorem rk_X3_hearsCoughs_2 {l : Launch} {cx : CX} (hA : AD cx)  (o : Nat) (ho : o < am_cnt 3)  (Q : Int32 → AS → Prop) : ∀ (f0 : Nat) (v1 : Int32) (σ : AS), wpO (g_X3_hearsCoughs_2 o f0 v1 σ) Q → RJ l cx 0 RX3 cX3_hearsCoughs 2 (some .boolean) 2 [(0, .inr (.inr (3, o, 0))), (1, .inl v1)] [] σ (QI Q) := by
  intro f0
  induction f0 with
  | zero => intro v1 σ w; exact wp_no w
  | succ f0 ih =>
    intro v1 σ w
    rw [g_X3_hearsCoughs_2] at w
    refine R_iload_n dX3_hearsCoughs_2 rfl 1 rfl ?_
    refine R_aload_n dX3_hearsCoughs_3 rfl 0 rfl ?_
    refine R_getfI (k := 4) acl3 ho (by decide) fl_RX3_22 dX3_hearsCoughs_4 rfl ?_
    refine R_icmp_ge (tgt := 40) dX3_hearsCoughs_7 (by decide) (fun c1 => ?_) (fun c1 => ?_)
    · have w := wp_f c1 w
      refine R_iconst (v := 0) dX3_hearsCoughs_40 (by decide) ?_
      exact R_zreturn dX3_hearsCoughs_41 rfl (by decide) ⟨_, rfl, wp_some w⟩
    · have w := wp_t c1 w
      refine R_aload_n dX3_hearsCoughs_10 rfl 0 rfl ?_
      refine R_getfA (k := 0) acl3 ho (by decide) fl_RX3_9 dX3_hearsCoughs_11 rfl ?_
      refine R_iload_n dX3_hearsCoughs_14 rfl 1 rfl ?_
      obtain ⟨b2, w⟩ := wp_chk w
      refine R_iald rfl ho b2 dX3_hearsCoughs_15 ?_
      refine R_bipush (v := 110) dX3_hearsCoughs_16 (by decide) ?_
      refine R_icmp_ne (tgt := 34) dX3_hearsCoughs_18 (by decide) (fun c3 => ?_) (fun c3 => ?_)
      · have w := wp_f c3 w
        refine R_iinc (v := v1 + 1) (lv' := [(1, .inl (v1 + 1)), (0, .inr (.inr (3, o, 0)))]) dX3_hearsCoughs_34 1 rfl rfl (by decide) rfl ?_
        refine R_goto (tgt := 2) dX3_hearsCoughs_37 (by decide) ?_
        refine R_sub [1, 0] rfl ?_
        exact ih (v1 + 1) σ w
      · have w := wp_t c3 w
        refine R_aload_n dX3_hearsCoughs_21 rfl 0 rfl ?_
        refine R_getfA (k := 1) acl3 ho (by decide) fl_RX3_13 dX3_hearsCoughs_22 rfl ?_
        refine R_iload_n dX3_hearsCoughs_25 rfl 1 rfl ?_
        refine R_iald rfl ho b2 dX3_hearsCoughs_26 ?_
        refine R_bipush (v := 7) dX3_hearsCoughs_27 (by decide) ?_
        refine R_icmp_ne (tgt := 34) dX3_hearsCoughs_29 (by decide) (fun c4 => ?_) (fun c4 => ?_)
        · have w := wp_f c4 w
          refine R_iinc (v := v1 + 1) (lv' := [(1, .inl (v1 + 1)), (0, .inr (.inr (3, o, 0)))]) dX3_hearsCoughs_34 1 rfl rfl (by decide) rfl ?_
          refine R_goto (tgt := 2) dX3_hearsCoughs_37 (by decide) ?_
          refine R_sub [1, 0] rfl ?_
          exact ih (v1 + 1) σ w
        · have w := wp_t c4 w
          refine R_iconst (v := 1) dX3_hearsCoughs_32 (by decide) ?_
          exact R_zreturn dX3_hearsCoughs_33 rfl (by decide) ⟨_, rfl, wp_some w⟩
def g_X3_hearsCoughs (o : Nat) (σ : AS) : Option (Int32 × AS) := g_X3_hearsCoughs_2 o 400 0 σ
set_option maxRecDepth 100000 in
set_option maxHeartbeats 4000000 in
theorem ct_X3_hearsCoughs {l : Launch} {cx : CX} (hA : AD cx) (o : Nat) (ho : o < am_cnt 3) (σ : AS) (Q : Int32 → AS → Prop) (w : wpO (g_X3_hearsCoughs o σ) Q) : AMet l cx 0 yX3_hearsCoughs cX3_hearsCoughs 2 (some .boolean) [.inr (.inr (3, o, 0))] σ (QI Q) := by
  unfold g_X3_hearsCoughs at w
  refine AMet.of (own := RX3) (by decide) rfl hA (Nat.le_of_ble_eq_true rfl) ?_
  show RJ l cx 0 RX3 cX3_hearsCoughs 2 (some .boolean) 0 [(0, .inr (.inr (3, o, 0)))] [] σ _
  refine R_iconst (v := 0) dX3_hearsCoughs_0 (by decide) ?_
  refine R_istore_n (lv' := [(1, .inl 0), (0, .inr (.inr (3, o, 0)))]) dX3_hearsCoughs_1 rfl (by decide) rfl ?_
  refine R_sub [1, 0] rfl ?_
  exact rk_X3_hearsCoughs_2 hA o ho _ 400 0 σ w
def g_X1_beginAnew (o : Nat) (o1 : Nat) (a1 : Int32) (σ : AS) : Option (Unit × AS) := (bnd (g_X1_begin o o1 a1 σ) fun _ σ1 => (lt (filA σ1 1 o 3 7 0) fun σ2 => (lt (filA σ2 1 o 4 7 0) fun σ3 => (lt (sF σ3 1 o 11 0) fun σ4 => (lt (sF σ4 1 o 14 0) fun σ5 => some ((), σ5))))))
set_option maxRecDepth 100000 in
set_option maxHeartbeats 4000000 in
theorem ct_X1_beginAnew {l : Launch} {cx : CX} (hA : AD cx) (o : Nat) (ho : o < am_cnt 1) (o1 : Nat) (ho1 : o1 < am_cnt 1) (a1 : Int32) (σ : AS) (Q : Unit → AS → Prop) (w : wpO (g_X1_beginAnew o o1 a1 σ) Q) : AMet l cx 3 yX1_beginAnew cX1_beginAnew 3 none [.inr (.inr (1, o, 0)), .inr (.inr (1, o1, 0)), .inl a1] σ (QV Q) := by
  unfold g_X1_beginAnew at w
  refine AMet.of (own := RX1) (by decide) rfl hA (Nat.le_of_ble_eq_true rfl) ?_
  show RJ l cx 3 RX1 cX1_beginAnew 3 none 0 [(0, .inr (.inr (1, o, 0))), (1, .inr (.inr (1, o1, 0))), (2, .inl a1)] [] σ _
  refine R_aload_n dX1_beginAnew_0 rfl 0 rfl ?_
  refine R_aload_n dX1_beginAnew_1 rfl 1 rfl ?_
  refine R_iload_n dX1_beginAnew_2 rfl 2 rfl ?_
  refine R_callVV (As := [.inr (.inr (1, o1, 0)), .inl a1]) acl1 rfl ho mi_X1_begin ml_RX1_73 rfl (Nat.le_of_ble_eq_true rfl) (by decide) dX1_beginAnew_3 (ct_X1_begin hA o ho o1 ho1 a1 σ _ (wp_bnd w)) (fun σ1 w => ?_)
  refine R_aload_n dX1_beginAnew_6 rfl 0 rfl ?_
  refine R_getfA (k := 3) acl1 ho (by decide) fl_RX1_15 dX1_beginAnew_7 rfl ?_
  refine R_iconst (v := 0) dX1_beginAnew_10 (by decide) ?_
  refine R_callSV (As := [.inr (.inr (1, o, 3 + 1)), .inl 0]) mi_J7_fill_53178 ml_RX1_61 rfl (Nat.le_of_ble_eq_true rfl) (by decide) dX1_beginAnew_11 (ct_filA hA rfl ho (by decide) w) (fun σ2 w => ?_)
  refine R_aload_n dX1_beginAnew_14 rfl 0 rfl ?_
  refine R_getfA (k := 4) acl1 ho (by decide) fl_RX1_18 dX1_beginAnew_15 rfl ?_
  refine R_iconst (v := 0) dX1_beginAnew_18 (by decide) ?_
  refine R_callSV (As := [.inr (.inr (1, o, 4 + 1)), .inl 0]) mi_J7_fill_53178 ml_RX1_61 rfl (Nat.le_of_ble_eq_true rfl) (by decide) dX1_beginAnew_19 (ct_filA hA rfl ho (by decide) w) (fun σ3 w => ?_)
  refine R_aload_n dX1_beginAnew_22 rfl 0 rfl ?_
  refine R_iconst (v := 0) dX1_beginAnew_23 (by decide) ?_
  refine R_putf (k := 11) (ty := .int) acl1 ho (by decide) fl_RX1_40 rfl (tyX1_ok 11 (by decide)) (Or.inl rfl) dX1_beginAnew_24 rfl ?_
  refine R_nameS w ?_; clear w; intro σ4 w
  refine R_aload_n dX1_beginAnew_27 rfl 0 rfl ?_
  refine R_iconst (v := 0) dX1_beginAnew_28 (by decide) ?_
  refine R_putf (k := 14) (ty := .int) acl1 ho (by decide) fl_RX1_50 rfl (tyX1_ok 14 (by decide)) (Or.inl rfl) dX1_beginAnew_29 rfl ?_
  refine R_nameS w ?_; clear w; intro σ5 w
  exact R_vreturn dX1_beginAnew_32 rfl ⟨rfl, wp_some w⟩
def g_X4_isAs_10  (o1 : Nat)  : Nat → Int32 → Int32 → Int32 → AS → Option (Int32 × AS)
  | 0, _, _, _, _ => none
  | f0 + 1, v2, v3, v4, σ => (if v4 < v2 then (if inb v4 7 then (bnd (g_X4_leftOf v3 v4 σ) fun r4 σ5 => (if gA σ 1 o1 3 v4 = r4 then (bnd (g_X4_rightOf v3 v4 σ5) fun r7 σ8 => (if gA σ5 1 o1 4 v4 = r7 then (bnd (g_X4_fightOf v3 v4 σ8) fun r10 σ11 => (if gA σ8 1 o1 5 v4 = r10 then (g_X4_isAs_10 o1 f0) v2 v3 (v4 + 1) σ11 else some (0, σ11))) else some (0, σ8))) else some (0, σ5))) else none) else some (1, σ))
set_option maxRecDepth 100000 in
set_option maxHeartbeats 4000000 in
theorem rk_X4_isAs_10 {l : Launch} {cx : CX} (hA : AD cx)  (o1 : Nat) (ho1 : o1 < am_cnt 1)  (Q : Int32 → AS → Prop) : ∀ (f0 : Nat) (v2 : Int32) (v3 : Int32) (v4 : Int32) (σ : AS), wpO (g_X4_isAs_10 o1 f0 v2 v3 v4 σ) Q → RJ l cx 2 RX4 cX4_isAs 5 (some .boolean) 10 [(0, .inr (.inr (4, 0, 0))), (1, .inr (.inr (1, o1, 0))), (2, .inl v2), (3, .inl v3), (4, .inl v4)] [] σ (QI Q) := by
  intro f0
  induction f0 with
  | zero => intro v2 v3 v4 σ w; exact wp_no w
  | succ f0 ih =>
    intro v2 v3 v4 σ w
    rw [g_X4_isAs_10] at w
    refine R_iload dX4_isAs_10 4 rfl ?_
    refine R_iload_n dX4_isAs_12 rfl 2 rfl ?_
    refine R_icmp_ge (tgt := 79) dX4_isAs_13 (by decide) (fun c2 => ?_) (fun c2 => ?_)
    · have w := wp_f c2 w
      refine R_iconst (v := 1) dX4_isAs_79 (by decide) ?_
      exact R_zreturn dX4_isAs_80 rfl (by decide) ⟨_, rfl, wp_some w⟩
    · have w := wp_t c2 w
      refine R_aload_n dX4_isAs_16 rfl 1 rfl ?_
      refine R_getfA (k := 3) acl1 ho1 (by decide) fl_RX4_27 dX4_isAs_17 rfl ?_
      refine R_iload dX4_isAs_20 4 rfl ?_
      obtain ⟨b3, w⟩ := wp_chk w
      refine R_iald rfl ho1 b3 dX4_isAs_22 ?_
      refine R_aload_n dX4_isAs_23 rfl 0 rfl ?_
      refine R_iload_n dX4_isAs_24 rfl 3 rfl ?_
      refine R_iload dX4_isAs_25 4 rfl ?_
      refine R_callVI (As := [.inl v3, .inl v4]) acl4 rfl oz4_0 mi_X4_leftOf ml_RX4_36 rfl (Nat.le_of_ble_eq_true rfl) (by decide) dX4_isAs_27 (ct_X4_leftOf hA v3 v4 σ _ (wp_bnd w)) (fun r4 σ5 w => ?_)
      refine R_icmp_eq (tgt := 35) dX4_isAs_30 (by decide) (fun c6 => ?_) (fun c6 => ?_)
      · have w := wp_t c6 w
        refine R_aload_n dX4_isAs_35 rfl 1 rfl ?_
        refine R_getfA (k := 4) acl1 ho1 (by decide) fl_RX4_34 dX4_isAs_36 rfl ?_
        refine R_iload dX4_isAs_39 4 rfl ?_
        refine R_iald rfl ho1 b3 dX4_isAs_41 ?_
        refine R_aload_n dX4_isAs_42 rfl 0 rfl ?_
        refine R_iload_n dX4_isAs_43 rfl 3 rfl ?_
        refine R_iload dX4_isAs_44 4 rfl ?_
        refine R_callVI (As := [.inl v3, .inl v4]) acl4 rfl oz4_0 mi_X4_rightOf ml_RX4_40 rfl (Nat.le_of_ble_eq_true rfl) (by decide) dX4_isAs_46 (ct_X4_rightOf hA v3 v4 σ5 _ (wp_bnd w)) (fun r7 σ8 w => ?_)
        refine R_icmp_eq (tgt := 54) dX4_isAs_49 (by decide) (fun c9 => ?_) (fun c9 => ?_)
        · have w := wp_t c9 w
          refine R_aload_n dX4_isAs_54 rfl 1 rfl ?_
          refine R_getfA (k := 5) acl1 ho1 (by decide) fl_RX4_35 dX4_isAs_55 rfl ?_
          refine R_iload dX4_isAs_58 4 rfl ?_
          refine R_iald rfl ho1 b3 dX4_isAs_60 ?_
          refine R_aload_n dX4_isAs_61 rfl 0 rfl ?_
          refine R_iload_n dX4_isAs_62 rfl 3 rfl ?_
          refine R_iload dX4_isAs_63 4 rfl ?_
          refine R_callVI (As := [.inl v3, .inl v4]) acl4 rfl oz4_0 mi_X4_fightOf ml_RX4_43 rfl (Nat.le_of_ble_eq_true rfl) (by decide) dX4_isAs_65 (ct_X4_fightOf hA v3 v4 σ8 _ (wp_bnd w)) (fun r10 σ11 w => ?_)
          refine R_icmp_eq (tgt := 73) dX4_isAs_68 (by decide) (fun c12 => ?_) (fun c12 => ?_)
          · have w := wp_t c12 w
            refine R_iinc (v := v4 + 1) (lv' := [(4, .inl (v4 + 1)), (0, .inr (.inr (4, 0, 0))), (1, .inr (.inr (1, o1, 0))), (2, .inl v2), (3, .inl v3)]) dX4_isAs_73 4 rfl rfl (by decide) rfl ?_
            refine R_goto (tgt := 10) dX4_isAs_76 (by decide) ?_
            refine R_sub [1, 2, 3, 4, 0] rfl ?_
            exact ih v2 v3 (v4 + 1) σ11 w
          · have w := wp_f c12 w
            refine R_iconst (v := 0) dX4_isAs_71 (by decide) ?_
            exact R_zreturn dX4_isAs_72 rfl (by decide) ⟨_, rfl, wp_some w⟩
        · have w := wp_f c9 w
          refine R_iconst (v := 0) dX4_isAs_52 (by decide) ?_
          exact R_zreturn dX4_isAs_53 rfl (by decide) ⟨_, rfl, wp_some w⟩
      · have w := wp_f c6 w
        refine R_iconst (v := 0) dX4_isAs_33 (by decide) ?_
        exact R_zreturn dX4_isAs_34 rfl (by decide) ⟨_, rfl, wp_some w⟩
def g_X4_isAs (o1 : Nat) (a1 : Int32) (σ : AS) : Option (Int32 × AS) := (lt ((gF σ 1 o1 11) - 1) fun x1 => g_X4_isAs_10 o1 400 a1 x1 0 σ)
set_option maxRecDepth 100000 in
set_option maxHeartbeats 4000000 in
theorem ct_X4_isAs {l : Launch} {cx : CX} (hA : AD cx) (o1 : Nat) (ho1 : o1 < am_cnt 1) (a1 : Int32) (σ : AS) (Q : Int32 → AS → Prop) (w : wpO (g_X4_isAs o1 a1 σ) Q) : AMet l cx 2 yX4_isAs cX4_isAs 5 (some .boolean) [.inr (.inr (4, 0, 0)), .inr (.inr (1, o1, 0)), .inl a1] σ (QI Q) := by
  unfold g_X4_isAs at w
  refine AMet.of (own := RX4) (by decide) rfl hA (Nat.le_of_ble_eq_true rfl) ?_
  show RJ l cx 2 RX4 cX4_isAs 5 (some .boolean) 0 [(0, .inr (.inr (4, 0, 0))), (1, .inr (.inr (1, o1, 0))), (2, .inl a1)] [] σ _
  refine R_aload_n dX4_isAs_0 rfl 1 rfl ?_
  refine R_getfI (k := 11) acl1 ho1 (by decide) fl_RX4_21 dX4_isAs_1 rfl ?_
  refine R_iconst (v := 1) dX4_isAs_4 (by decide) ?_
  refine R_isub dX4_isAs_5 ?_
  refine R_nameI w ?_; clear w; intro x1 w
  refine R_istore_n (lv' := [(3, .inl x1), (0, .inr (.inr (4, 0, 0))), (1, .inr (.inr (1, o1, 0))), (2, .inl a1)]) dX4_isAs_6 rfl (by decide) rfl ?_
  refine R_iconst (v := 0) dX4_isAs_7 (by decide) ?_
  refine R_istore (lv' := [(4, .inl 0), (3, .inl x1), (0, .inr (.inr (4, 0, 0))), (1, .inr (.inr (1, o1, 0))), (2, .inl a1)]) dX4_isAs_8 (by decide) rfl ?_
  refine R_sub [2, 3, 4, 1, 0] rfl ?_
  exact rk_X4_isAs_10 hA o1 ho1 _ 400 a1 x1 0 σ w
def g_X8_wentSo_14    : Nat → Int32 → AS → Option (Int32 × AS)
  | 0, _, _ => none
  | f0 + 1, v2, σ => (if v2 < gF σ 1 0 11 then (bnd (g_X1_passHours 1 1 σ) fun _ σ3 => (bnd (g_X6_rests σ3) fun r4 σ5 => (bnd (g_X4_isAs 1 r4 σ5) fun r6 σ7 => (if r6 = 0 then some (0, σ7) else (g_X8_wentSo_14 f0) (v2 + 1) σ7)))) else some (1, σ))
set_option maxRecDepth 100000 in
set_option maxHeartbeats 4000000 in
theorem rk_X8_wentSo_14 {l : Launch} {cx : CX} (hA : AD cx)    (Q : Int32 → AS → Prop) : ∀ (f0 : Nat) (v2 : Int32) (σ : AS), wpO (g_X8_wentSo_14 f0 v2 σ) Q → RJ l cx 7 RX8 cX8_wentSo 3 (some .boolean) 14 [(0, .inr (.inr (8, 0, 0))), (2, .inl v2)] [] σ (QI Q) := by
  intro f0
  induction f0 with
  | zero => intro v2 σ w; exact wp_no w
  | succ f0 ih =>
    intro v2 σ w
    rw [g_X8_wentSo_14] at w
    refine R_iload_n dX8_wentSo_14 rfl 1 rfl ?_
    refine R_aload_n dX8_wentSo_15 rfl 0 rfl ?_
    refine R_getfO (k := 4) acl8 oz8_0 (by decide) fl_RX8_38 dX8_wentSo_16 rfl ?_
    refine R_getfI (k := 11) acl1 oz1_0 (by decide) fl_RX8_80 dX8_wentSo_19 rfl ?_
    refine R_icmp_ge (tgt := 62) dX8_wentSo_22 (by decide) (fun c2 => ?_) (fun c2 => ?_)
    · have w := wp_f c2 w
      refine R_iconst (v := 1) dX8_wentSo_62 (by decide) ?_
      exact R_zreturn dX8_wentSo_63 rfl (by decide) ⟨_, rfl, wp_some w⟩
    · have w := wp_t c2 w
      refine R_aload_n dX8_wentSo_25 rfl 0 rfl ?_
      refine R_getfO (k := 5) acl8 oz8_0 (by decide) fl_RX8_42 dX8_wentSo_26 rfl ?_
      refine R_iconst (v := 1) dX8_wentSo_29 (by decide) ?_
      refine R_callVV (As := [.inl 1]) acl1 rfl oz1_1 mi_X1_passHours ml_RX8_175 rfl (Nat.le_of_ble_eq_true rfl) (by decide) dX8_wentSo_30 (ct_X1_passHours hA 1 oz1_1 1 σ _ (wp_bnd w)) (fun σ3 w => ?_)
      refine R_aload_n dX8_wentSo_33 rfl 0 rfl ?_
      refine R_getfO (k := 7) acl8 oz8_0 (by decide) fl_RX8_51 dX8_wentSo_34 rfl ?_
      refine R_aload_n dX8_wentSo_37 rfl 0 rfl ?_
      refine R_getfO (k := 5) acl8 oz8_0 (by decide) fl_RX8_42 dX8_wentSo_38 rfl ?_
      refine R_aload_n dX8_wentSo_41 rfl 0 rfl ?_
      refine R_getfO (k := 0) acl8 oz8_0 (by decide) fl_RX8_10 dX8_wentSo_42 rfl ?_
      refine R_callVI (As := []) acl6 rfl oz6_0 mi_X6_rests ml_RX8_309 rfl (Nat.le_of_ble_eq_true rfl) (by decide) dX8_wentSo_45 (ct_X6_rests hA σ3 _ (wp_bnd w)) (fun r4 σ5 w => ?_)
      refine R_callVI (As := [.inr (.inr (1, 1, 0)), .inl r4]) acl4 rfl oz4_0 mi_X4_isAs ml_RX8_334 rfl (Nat.le_of_ble_eq_true rfl) (by decide) dX8_wentSo_48 (ct_X4_isAs hA 1 oz1_1 r4 σ5 _ (wp_bnd w)) (fun r6 σ7 w => ?_)
      refine R_if_ne (tgt := 56) dX8_wentSo_51 (by decide) (fun c8 => ?_) (fun c8 => ?_)
      · have w := wp_f c8 w
        refine R_iinc (v := v2 + 1) (lv' := [(2, .inl (v2 + 1)), (0, .inr (.inr (8, 0, 0)))]) dX8_wentSo_56 1 rfl rfl (by decide) rfl ?_
        refine R_goto (tgt := 14) dX8_wentSo_59 (by decide) ?_
        refine R_sub [1, 0] rfl ?_
        exact ih (v2 + 1) σ7 w
      · have w := wp_t c8 w
        refine R_iconst (v := 0) dX8_wentSo_54 (by decide) ?_
        exact R_zreturn dX8_wentSo_55 rfl (by decide) ⟨_, rfl, wp_some w⟩
def g_X8_wentSo (a0 : Int32) (σ : AS) : Option (Int32 × AS) := (bnd (g_X1_beginAnew 1 0 a0 σ) fun _ σ1 => g_X8_wentSo_14 400 0 σ1)
set_option maxRecDepth 100000 in
set_option maxHeartbeats 4000000 in
theorem ct_X8_wentSo {l : Launch} {cx : CX} (hA : AD cx) (a0 : Int32) (σ : AS) (Q : Int32 → AS → Prop) (w : wpO (g_X8_wentSo a0 σ) Q) : AMet l cx 7 yX8_wentSo cX8_wentSo 3 (some .boolean) [.inr (.inr (8, 0, 0)), .inl a0] σ (QI Q) := by
  unfold g_X8_wentSo at w
  refine AMet.of (own := RX8) (by decide) rfl hA (Nat.le_of_ble_eq_true rfl) ?_
  show RJ l cx 7 RX8 cX8_wentSo 3 (some .boolean) 0 [(0, .inr (.inr (8, 0, 0))), (1, .inl a0)] [] σ _
  refine R_aload_n dX8_wentSo_0 rfl 0 rfl ?_
  refine R_getfO (k := 5) acl8 oz8_0 (by decide) fl_RX8_42 dX8_wentSo_1 rfl ?_
  refine R_aload_n dX8_wentSo_4 rfl 0 rfl ?_
  refine R_getfO (k := 4) acl8 oz8_0 (by decide) fl_RX8_38 dX8_wentSo_5 rfl ?_
  refine R_iload_n dX8_wentSo_8 rfl 1 rfl ?_
  refine R_callVV (As := [.inr (.inr (1, 0, 0)), .inl a0]) acl1 rfl oz1_1 mi_X1_beginAnew ml_RX8_331 rfl (Nat.le_of_ble_eq_true rfl) (by decide) dX8_wentSo_9 (ct_X1_beginAnew hA 1 oz1_1 0 oz1_0 a0 σ _ (wp_bnd w)) (fun σ1 w => ?_)
  refine R_iconst (v := 0) dX8_wentSo_12 (by decide) ?_
  refine R_istore_n (lv' := [(2, .inl 0), (0, .inr (.inr (8, 0, 0))), (1, .inl a0)]) dX8_wentSo_13 rfl (by decide) rfl ?_
  refine R_sub [1, 0] rfl ?_
  exact rk_X8_wentSo_14 hA _ 400 0 σ1 w
def g_X8_match_32    : Nat → Int32 → Int32 → AS → Option (Int32 × AS)
  | 0, _, _, _ => none
  | f0 + 1, v1, v2, σ => (if v2 < v1 then (bnd (g_X8_wentSo v2 σ) fun r6 σ7 => (if r6 = 0 then (g_X8_match_32 f0) v1 (v2 + 1) σ7 else some (v2, σ7))) else some ((-2), σ))
set_option maxRecDepth 100000 in
set_option maxHeartbeats 4000000 in
theorem rk_X8_match_32 {l : Launch} {cx : CX} (hA : AD cx)    (Q : Int32 → AS → Prop) : ∀ (f0 : Nat) (v1 : Int32) (v2 : Int32) (σ : AS), wpO (g_X8_match_32 f0 v1 v2 σ) Q → RJ l cx 8 RX8 cX8_match 3 (some .int) 32 [(0, .inr (.inr (8, 0, 0))), (1, .inl v1), (2, .inl v2)] [] σ (QI Q) := by
  intro f0
  induction f0 with
  | zero => intro v1 v2 σ w; exact wp_no w
  | succ f0 ih =>
    intro v1 v2 σ w
    rw [g_X8_match_32] at w
    refine R_iload_n dX8_match_32 rfl 2 rfl ?_
    refine R_iload_n dX8_match_33 rfl 1 rfl ?_
    refine R_icmp_ge (tgt := 53) dX8_match_34 (by decide) (fun c5 => ?_) (fun c5 => ?_)
    · have w := wp_f c5 w
      refine R_bipush (v := (-2)) dX8_match_53 (by decide) ?_
      exact R_ireturn dX8_match_55 rfl ⟨_, rfl, wp_some w⟩
    · have w := wp_t c5 w
      refine R_aload_n dX8_match_37 rfl 0 rfl ?_
      refine R_iload_n dX8_match_38 rfl 2 rfl ?_
      refine R_callVI (As := [.inl v2]) acl8 rfl oz8_0 mi_X8_wentSo ml_RX8_200 rfl (Nat.le_of_ble_eq_true rfl) (by decide) dX8_match_39 (ct_X8_wentSo hA v2 σ _ (wp_bnd w)) (fun r6 σ7 w => ?_)
      refine R_if_eq (tgt := 47) dX8_match_42 (by decide) (fun c8 => ?_) (fun c8 => ?_)
      · have w := wp_t c8 w
        refine R_iinc (v := v2 + 1) (lv' := [(2, .inl (v2 + 1)), (0, .inr (.inr (8, 0, 0))), (1, .inl v1)]) dX8_match_47 2 rfl rfl (by decide) rfl ?_
        refine R_goto (tgt := 32) dX8_match_50 (by decide) ?_
        refine R_sub [1, 2, 0] rfl ?_
        exact ih v1 (v2 + 1) σ7 w
      · have w := wp_f c8 w
        refine R_iload_n dX8_match_45 rfl 2 rfl ?_
        exact R_ireturn dX8_match_46 rfl ⟨_, rfl, wp_some w⟩
def g_X8_match (σ : AS) : Option (Int32 × AS) := (if gF σ 1 0 11 = 0 then some ((-5), σ) else (bnd (g_X3_hearsCoughs 0 σ) fun r2 σ3 => (if r2 = 0 then g_X8_match_32 400 1 0 σ3 else g_X8_match_32 400 100 0 σ3)))
set_option maxRecDepth 100000 in
set_option maxHeartbeats 4000000 in
theorem ct_X8_match {l : Launch} {cx : CX} (hA : AD cx) (σ : AS) (Q : Int32 → AS → Prop) (w : wpO (g_X8_match σ) Q) : AMet l cx 8 yX8_match cX8_match 3 (some .int) [.inr (.inr (8, 0, 0))] σ (QI Q) := by
  unfold g_X8_match at w
  refine AMet.of (own := RX8) (by decide) rfl hA (Nat.le_of_ble_eq_true rfl) ?_
  show RJ l cx 8 RX8 cX8_match 3 (some .int) 0 [(0, .inr (.inr (8, 0, 0)))] [] σ _
  refine R_aload_n dX8_match_0 rfl 0 rfl ?_
  refine R_getfO (k := 4) acl8 oz8_0 (by decide) fl_RX8_38 dX8_match_1 rfl ?_
  refine R_getfI (k := 11) acl1 oz1_0 (by decide) fl_RX8_80 dX8_match_4 rfl ?_
  refine R_if_ne (tgt := 13) dX8_match_7 (by decide) (fun c1 => ?_) (fun c1 => ?_)
  · have w := wp_f c1 w
    refine R_aload_n dX8_match_13 rfl 0 rfl ?_
    refine R_getfO (k := 1) acl8 oz8_0 (by decide) fl_RX8_19 dX8_match_14 rfl ?_
    refine R_callVI (As := []) acl3 rfl oz3_0 mi_X3_hearsCoughs ml_RX8_196 rfl (Nat.le_of_ble_eq_true rfl) (by decide) dX8_match_17 (ct_X3_hearsCoughs hA 0 oz3_0 σ _ (wp_bnd w)) (fun r2 σ3 w => ?_)
    refine R_if_eq (tgt := 28) dX8_match_20 (by decide) (fun c4 => ?_) (fun c4 => ?_)
    · have w := wp_t c4 w
      refine R_iconst (v := 1) dX8_match_28 (by decide) ?_
      refine R_istore_n (lv' := [(1, .inl 1), (0, .inr (.inr (8, 0, 0)))]) dX8_match_29 rfl (by decide) rfl ?_
      refine R_iconst (v := 0) dX8_match_30 (by decide) ?_
      refine R_istore_n (lv' := [(2, .inl 0), (1, .inl 1), (0, .inr (.inr (8, 0, 0)))]) dX8_match_31 rfl (by decide) rfl ?_
      refine R_sub [2, 1, 0] rfl ?_
      exact rk_X8_match_32 hA _ 400 1 0 σ3 w
    · have w := wp_f c4 w
      refine R_bipush (v := 100) dX8_match_23 (by decide) ?_
      refine R_goto (tgt := 29) dX8_match_25 (by decide) ?_
      refine R_istore_n (lv' := [(1, .inl 100), (0, .inr (.inr (8, 0, 0)))]) dX8_match_29 rfl (by decide) rfl ?_
      refine R_iconst (v := 0) dX8_match_30 (by decide) ?_
      refine R_istore_n (lv' := [(2, .inl 0), (1, .inl 100), (0, .inr (.inr (8, 0, 0)))]) dX8_match_31 rfl (by decide) rfl ?_
      refine R_sub [2, 1, 0] rfl ?_
      exact rk_X8_match_32 hA _ 400 100 0 σ3 w
  · have w := wp_t c1 w
    refine R_bipush (v := (-5)) dX8_match_10 (by decide) ?_
    exact R_ireturn dX8_match_12 rfl ⟨_, rfl, wp_some w⟩
def g_X0_forgetFirst (σ : AS) : Option (Unit × AS) := (lt (cpyA σ 0 0 0 0 0 0 1 0 39) fun σ1 => (lt (cpyA σ1 0 0 1 0 0 1 1 0 39) fun σ2 => (lt (cpyA σ2 0 0 2 0 0 2 1 0 39) fun σ3 => (lt (cpyA σ3 0 0 3 0 0 3 1 0 39) fun σ4 => (lt (sF σ4 0 0 4 39) fun σ5 => some ((), σ5))))))
set_option maxRecDepth 100000 in
set_option maxHeartbeats 4000000 in
theorem ct_X0_forgetFirst {l : Launch} {cx : CX} (hA : AD cx) (σ : AS) (Q : Unit → AS → Prop) (w : wpO (g_X0_forgetFirst σ) Q) : AMet l cx 2 yX0_forgetFirst cX0_forgetFirst 1 none [.inr (.inr (0, 0, 0))] σ (QV Q) := by
  unfold g_X0_forgetFirst at w
  refine AMet.of (own := RX0) (by decide) rfl hA (Nat.le_of_ble_eq_true rfl) ?_
  show RJ l cx 2 RX0 cX0_forgetFirst 1 none 0 [(0, .inr (.inr (0, 0, 0)))] [] σ _
  refine R_aload_n dX0_forgetFirst_0 rfl 0 rfl ?_
  refine R_getfA (k := 0) acl0 oz0_0 (by decide) fl_RX0_11 dX0_forgetFirst_1 rfl ?_
  refine R_iconst (v := 1) dX0_forgetFirst_4 (by decide) ?_
  refine R_aload_n dX0_forgetFirst_5 rfl 0 rfl ?_
  refine R_getfA (k := 0) acl0 oz0_0 (by decide) fl_RX0_11 dX0_forgetFirst_6 rfl ?_
  refine R_iconst (v := 0) dX0_forgetFirst_9 (by decide) ?_
  refine R_bipush (v := 39) dX0_forgetFirst_10 (by decide) ?_
  refine R_copyA rfl rfl oz0_0 oz0_0 (by decide) ml_RX0_40 (by decide) (Nat.le_of_ble_eq_true rfl) dX0_forgetFirst_12 ?_
  refine R_nameS w ?_; clear w; intro σ1 w
  refine R_aload_n dX0_forgetFirst_15 rfl 0 rfl ?_
  refine R_getfA (k := 1) acl0 oz0_0 (by decide) fl_RX0_15 dX0_forgetFirst_16 rfl ?_
  refine R_iconst (v := 1) dX0_forgetFirst_19 (by decide) ?_
  refine R_aload_n dX0_forgetFirst_20 rfl 0 rfl ?_
  refine R_getfA (k := 1) acl0 oz0_0 (by decide) fl_RX0_15 dX0_forgetFirst_21 rfl ?_
  refine R_iconst (v := 0) dX0_forgetFirst_24 (by decide) ?_
  refine R_bipush (v := 39) dX0_forgetFirst_25 (by decide) ?_
  refine R_copyA rfl rfl oz0_0 oz0_0 (by decide) ml_RX0_40 (by decide) (Nat.le_of_ble_eq_true rfl) dX0_forgetFirst_27 ?_
  refine R_nameS w ?_; clear w; intro σ2 w
  refine R_aload_n dX0_forgetFirst_30 rfl 0 rfl ?_
  refine R_getfA (k := 2) acl0 oz0_0 (by decide) fl_RX0_18 dX0_forgetFirst_31 rfl ?_
  refine R_iconst (v := 1) dX0_forgetFirst_34 (by decide) ?_
  refine R_aload_n dX0_forgetFirst_35 rfl 0 rfl ?_
  refine R_getfA (k := 2) acl0 oz0_0 (by decide) fl_RX0_18 dX0_forgetFirst_36 rfl ?_
  refine R_iconst (v := 0) dX0_forgetFirst_39 (by decide) ?_
  refine R_bipush (v := 39) dX0_forgetFirst_40 (by decide) ?_
  refine R_copyA rfl rfl oz0_0 oz0_0 (by decide) ml_RX0_40 (by decide) (Nat.le_of_ble_eq_true rfl) dX0_forgetFirst_42 ?_
  refine R_nameS w ?_; clear w; intro σ3 w
  refine R_aload_n dX0_forgetFirst_45 rfl 0 rfl ?_
  refine R_getfA (k := 3) acl0 oz0_0 (by decide) fl_RX0_21 dX0_forgetFirst_46 rfl ?_
  refine R_iconst (v := 1) dX0_forgetFirst_49 (by decide) ?_
  refine R_aload_n dX0_forgetFirst_50 rfl 0 rfl ?_
  refine R_getfA (k := 3) acl0 oz0_0 (by decide) fl_RX0_21 dX0_forgetFirst_51 rfl ?_
  refine R_iconst (v := 0) dX0_forgetFirst_54 (by decide) ?_
  refine R_bipush (v := 39) dX0_forgetFirst_55 (by decide) ?_
  refine R_copyA rfl rfl oz0_0 oz0_0 (by decide) ml_RX0_40 (by decide) (Nat.le_of_ble_eq_true rfl) dX0_forgetFirst_57 ?_
  refine R_nameS w ?_; clear w; intro σ4 w
  refine R_aload_n dX0_forgetFirst_60 rfl 0 rfl ?_
  refine R_bipush (v := 39) dX0_forgetFirst_61 (by decide) ?_
  refine R_putf (k := 4) (ty := .int) acl0 oz0_0 (by decide) fl_RX0_24 rfl (tyX0_ok 4 (by decide)) (Or.inl rfl) dX0_forgetFirst_63 rfl ?_
  refine R_nameS w ?_; clear w; intro σ5 w
  exact R_vreturn dX0_forgetFirst_66 rfl ⟨rfl, wp_some w⟩
def g_X0_add_13    (v1 : Int32) (v2 : Int32) (v3 : Int32) (v4 : Int32) (σ : AS) : Option (Unit × AS) := (if inb (gF σ 0 0 4) 40 then (lt (sA σ 0 0 0 (gF σ 0 0 4) v1) fun σ3 => (if inb (gF σ3 0 0 4) 40 then (lt (sA σ3 0 0 1 (gF σ3 0 0 4) v2) fun σ5 => (if inb (gF σ5 0 0 4) 40 then (lt (sA σ5 0 0 2 (gF σ5 0 0 4) v3) fun σ7 => (if inb (gF σ7 0 0 4) 40 then (lt (sA σ7 0 0 3 (gF σ7 0 0 4) v4) fun σ9 => (lt (sF σ9 0 0 4 ((gF σ9 0 0 4) + 1)) fun σ10 => (lt (sF σ10 0 0 5 (gF σ10 0 0 4)) fun σ11 => some ((), σ11)))) else none)) else none)) else none)) else none)
set_option maxRecDepth 100000 in
set_option maxHeartbeats 4000000 in
theorem rk_X0_add_13 {l : Launch} {cx : CX} (hA : AD cx)    (Q : Unit → AS → Prop) (v1 : Int32) (v2 : Int32) (v3 : Int32) (v4 : Int32) (σ : AS) (w : wpO (g_X0_add_13 v1 v2 v3 v4 σ) Q) : RJ l cx 3 RX0 cX0_add 5 none 13 [(0, .inr (.inr (0, 0, 0))), (1, .inl v1), (2, .inl v2), (3, .inl v3), (4, .inl v4)] [] σ (QV Q) := by
  unfold g_X0_add_13 at w
  refine R_aload_n dX0_add_13 rfl 0 rfl ?_
  refine R_getfA (k := 0) acl0 oz0_0 (by decide) fl_RX0_11 dX0_add_14 rfl ?_
  refine R_aload_n dX0_add_17 rfl 0 rfl ?_
  refine R_getfI (k := 4) acl0 oz0_0 (by decide) fl_RX0_24 dX0_add_18 rfl ?_
  refine R_iload_n dX0_add_21 rfl 1 rfl ?_
  obtain ⟨b2, w⟩ := wp_chk w
  refine R_iast rfl oz0_0 b2 dX0_add_22 ?_
  refine R_nameS w ?_; clear w; intro σ3 w
  refine R_aload_n dX0_add_23 rfl 0 rfl ?_
  refine R_getfA (k := 1) acl0 oz0_0 (by decide) fl_RX0_15 dX0_add_24 rfl ?_
  refine R_aload_n dX0_add_27 rfl 0 rfl ?_
  refine R_getfI (k := 4) acl0 oz0_0 (by decide) fl_RX0_24 dX0_add_28 rfl ?_
  refine R_iload_n dX0_add_31 rfl 2 rfl ?_
  obtain ⟨b4, w⟩ := wp_chk w
  refine R_iast rfl oz0_0 b4 dX0_add_32 ?_
  refine R_nameS w ?_; clear w; intro σ5 w
  refine R_aload_n dX0_add_33 rfl 0 rfl ?_
  refine R_getfA (k := 2) acl0 oz0_0 (by decide) fl_RX0_18 dX0_add_34 rfl ?_
  refine R_aload_n dX0_add_37 rfl 0 rfl ?_
  refine R_getfI (k := 4) acl0 oz0_0 (by decide) fl_RX0_24 dX0_add_38 rfl ?_
  refine R_iload_n dX0_add_41 rfl 3 rfl ?_
  obtain ⟨b6, w⟩ := wp_chk w
  refine R_iast rfl oz0_0 b6 dX0_add_42 ?_
  refine R_nameS w ?_; clear w; intro σ7 w
  refine R_aload_n dX0_add_43 rfl 0 rfl ?_
  refine R_getfA (k := 3) acl0 oz0_0 (by decide) fl_RX0_21 dX0_add_44 rfl ?_
  refine R_aload_n dX0_add_47 rfl 0 rfl ?_
  refine R_getfI (k := 4) acl0 oz0_0 (by decide) fl_RX0_24 dX0_add_48 rfl ?_
  refine R_iload dX0_add_51 4 rfl ?_
  obtain ⟨b8, w⟩ := wp_chk w
  refine R_iast rfl oz0_0 b8 dX0_add_53 ?_
  refine R_nameS w ?_; clear w; intro σ9 w
  refine R_aload_n dX0_add_54 rfl 0 rfl ?_
  refine R_dup dX0_add_55 rfl ?_
  refine R_getfI (k := 4) acl0 oz0_0 (by decide) fl_RX0_24 dX0_add_56 rfl ?_
  refine R_iconst (v := 1) dX0_add_59 (by decide) ?_
  refine R_iadd dX0_add_60 ?_
  refine R_putf (k := 4) (ty := .int) acl0 oz0_0 (by decide) fl_RX0_24 rfl (tyX0_ok 4 (by decide)) (Or.inl rfl) dX0_add_61 rfl ?_
  refine R_nameS w ?_; clear w; intro σ10 w
  refine R_aload_n dX0_add_64 rfl 0 rfl ?_
  refine R_aload_n dX0_add_65 rfl 0 rfl ?_
  refine R_getfI (k := 4) acl0 oz0_0 (by decide) fl_RX0_24 dX0_add_66 rfl ?_
  refine R_putf (k := 5) (ty := .int) acl0 oz0_0 (by decide) fl_RX0_28 rfl (tyX0_ok 5 (by decide)) (Or.inl rfl) dX0_add_69 rfl ?_
  refine R_nameS w ?_; clear w; intro σ11 w
  exact R_vreturn dX0_add_72 rfl ⟨rfl, wp_some w⟩
def g_X0_add (a0 : Int32) (a1 : Int32) (a2 : Int32) (a3 : Int32) (σ : AS) : Option (Unit × AS) := (if gF σ 0 0 4 < 40 then g_X0_add_13 a0 a1 a2 a3 σ else (bnd (g_X0_forgetFirst σ) fun _ σ12 => g_X0_add_13 a0 a1 a2 a3 σ12))
set_option maxRecDepth 100000 in
set_option maxHeartbeats 4000000 in
theorem ct_X0_add {l : Launch} {cx : CX} (hA : AD cx) (a0 : Int32) (a1 : Int32) (a2 : Int32) (a3 : Int32) (σ : AS) (Q : Unit → AS → Prop) (w : wpO (g_X0_add a0 a1 a2 a3 σ) Q) : AMet l cx 3 yX0_add cX0_add 5 none [.inr (.inr (0, 0, 0)), .inl a0, .inl a1, .inl a2, .inl a3] σ (QV Q) := by
  unfold g_X0_add at w
  refine AMet.of (own := RX0) (by decide) rfl hA (Nat.le_of_ble_eq_true rfl) ?_
  show RJ l cx 3 RX0 cX0_add 5 none 0 [(0, .inr (.inr (0, 0, 0))), (1, .inl a0), (2, .inl a1), (3, .inl a2), (4, .inl a3)] [] σ _
  refine R_aload_n dX0_add_0 rfl 0 rfl ?_
  refine R_getfI (k := 4) acl0 oz0_0 (by decide) fl_RX0_24 dX0_add_1 rfl ?_
  refine R_bipush (v := 40) dX0_add_4 (by decide) ?_
  refine R_icmp_lt (tgt := 13) dX0_add_6 (by decide) (fun c1 => ?_) (fun c1 => ?_)
  · have w := wp_t c1 w
    refine R_sub [0, 1, 2, 3, 4] rfl ?_
    exact rk_X0_add_13 hA _ a0 a1 a2 a3 σ w
  · have w := wp_f c1 w
    refine R_aload_n dX0_add_9 rfl 0 rfl ?_
    refine R_callVV (As := []) acl0 rfl oz0_0 mi_X0_forgetFirst ml_RX0_31 rfl (Nat.le_of_ble_eq_true rfl) (by decide) dX0_add_10 (ct_X0_forgetFirst hA σ _ (wp_bnd w)) (fun σ12 w => ?_)
    refine R_sub [0, 1, 2, 3, 4] rfl ?_
    exact rk_X0_add_13 hA _ a0 a1 a2 a3 σ12 w
