set_option maxRecDepth 100000 in
set_option maxHeartbeats 4000000 in
theorem M_X6_beginChange {l : Launch} {G : XG} (hJ : XJ G) (hFu : XF G) {S : Mem} {K : Mem → Prop} (h : P_X6_beginChange S K) : XMv l G yX6_beginChange cX6_beginChange 1 4 124 [.ref (xad G 0)] S K := by
  refine X_meth RX6 rfl (by decide +kernel) hJ (Nat.le_of_ble_eq_true rfl) (fun κ hl hG C E => ?_)
  subst hl hG
  show XW κ S 0 [(0, .ref (xad (kG κ) 0))] []
  refine X_aload_n C 0 0 dX6_beginChange_0 rfl rfl ?_
  refine X_get C (hFu _ (by decide)) (wc_0 _ _) rfl inX6 1 (by decide) q_191 rfl dX6_beginChange_1 ?_
  refine X_aload_n C 0 0 dX6_beginChange_4 rfl rfl ?_
  refine X_get C (hFu _ (by decide)) (wc_0 _ _) rfl inX6 0 (by decide) q_190 rfl dX6_beginChange_5 ?_
  refine X_callVv C eX1_keep [.ref (xad (kG κ) 1)] [] (M_X1_keep C.g_J hFu (by decide) h) (hFu _ (by decide)) (wc_6 _ _) rfl q_223 rfl ⟨(Nat.le_of_ble_eq_true rfl), (Nat.le_of_ble_eq_true rfl)⟩ rfl (Nat.le_of_ble_eq_true rfl) dX6_beginChange_8 (fun S1 h => ?_)
  refine X_aload_n C 0 0 dX6_beginChange_11 rfl rfl ?_
  refine X_iconst C (1 : Int32) dX6_beginChange_12 (by decide) ?_
  obtain ⟨S3, eS3⟩ : ∃ z, z = mput S1 0 4 (1 : Int32) := ⟨_, rfl⟩
  have h := h S3 eS3
  refine X_put C (hFu _ (by decide)) (wc_0 _ _) rfl inX6 tyX6_ok nmX6 4 (by decide) q_194 rfl rfl rfl (Nat.le_of_ble_eq_true rfl) eS3 (wc_0 _ _) dX6_beginChange_13 ?_
  exact X_vret C E h dX6_beginChange_16
set_option maxRecDepth 100000 in
set_option maxHeartbeats 4000000 in
theorem M_X6_row {l : Launch} {G : XG} (hJ : XJ G) (hFu : XF G) {S : Mem} {a1 : Int32} {a2 : Int32} {K : Int32 → Mem → Prop} (h : P_X6_row S a1 a2 K) : XMi l G yX6_row cX6_row 3 .int 5 144 [.ref (xad G 0), .int a1, .int a2] S K := by
  refine X_meth RX6 rfl (by decide +kernel) hJ (Nat.le_of_ble_eq_true rfl) (fun κ hl hG C E => ?_)
  subst hl hG
  show XW κ S 0 [(0, .ref (xad (kG κ) 0)), (1, .int a1), (2, .int a2)] []
  refine X_iload_n C 1 1 dX6_row_0 rfl rfl ?_
  refine X_iconst C (0 : Int32) dX6_row_1 (by decide) ?_
  refine X_sipush C (9999 : Int32) dX6_row_2 (by decide) ?_
  refine X_callSi C eX6_isOutside [.int a1, .int (0 : Int32), .int (9999 : Int32)] [] (M_X6_isOutside C.g_J hFu h) q_210 rfl ⟨(Nat.le_of_ble_eq_true rfl), (Nat.le_of_ble_eq_true rfl)⟩ rfl (Nat.le_of_ble_eq_true rfl) dX6_row_5 (fun r2 S1 h => ?_)
  refine X_if_ne C 24 dX6_row_8 (by decide) (fun c => ?_) (fun c => ?_)
  · have h := h.1 c
    refine X_ldc C (-1000001 : Int32) q_213 dX6_row_24 ?_
    exact X_iret C E rfl h dX6_row_26
  · have h := h.2 c
    refine X_iload_n C 2 2 dX6_row_11 rfl rfl ?_
    refine X_sipush C (-999 : Int32) dX6_row_12 (by decide) ?_
    refine X_sipush C (999 : Int32) dX6_row_15 (by decide) ?_
    refine X_callSi C eX6_isOutside [.int a2, .int (-999 : Int32), .int (999 : Int32)] [] (M_X6_isOutside C.g_J hFu h) q_210 rfl ⟨(Nat.le_of_ble_eq_true rfl), (Nat.le_of_ble_eq_true rfl)⟩ rfl (Nat.le_of_ble_eq_true rfl) dX6_row_18 (fun r4 S3 h => ?_)
    refine X_if_eq C 27 dX6_row_21 (by decide) (fun c => ?_) (fun c => ?_)
    · have h := h.1 c
      refine X_aload_n C 0 0 dX6_row_27 rfl rfl ?_
      refine X_get C (hFu _ (by decide)) (wc_0 _ _) rfl inX6 0 (by decide) q_190 rfl dX6_row_28 ?_
      refine X_getN C (hFu _ (by decide)) (wc_1 _ _) rfl inX3 0 (by decide) z_62 rfl dX6_row_31 ?_
      refine X_callVi C eX4_length [] [] (M_X4_length C.g_J (hFu.tab (by decide)) h) (hFu _ (by decide)) (wc_2 _ _) rfl q_214 rfl ⟨(Nat.le_of_ble_eq_true rfl), (Nat.le_of_ble_eq_true rfl)⟩ rfl (Nat.le_of_ble_eq_true rfl) dX6_row_34 (fun r6 S5 h => ?_)
      refine X_bipush C (100 : Int32) dX6_row_37 (by decide) ?_
      refine X_icmp_lt C 45 dX6_row_39 (by decide) (fun c => ?_) (fun c => ?_)
      · have h := h.1 c
        refine X_aload_n C 0 0 dX6_row_45 rfl rfl ?_
        refine X_callVv C eX6_beginChange [] [] (M_X6_beginChange C.g_J hFu h) (hFu _ (by decide)) (wc_0 _ _) rfl q_219 rfl ⟨(Nat.le_of_ble_eq_true rfl), (Nat.le_of_ble_eq_true rfl)⟩ rfl (Nat.le_of_ble_eq_true rfl) dX6_row_46 (fun S7 h => ?_)
        refine X_aload_n C 0 0 dX6_row_49 rfl rfl ?_
        refine X_get C (hFu _ (by decide)) (wc_0 _ _) rfl inX6 0 (by decide) q_190 rfl dX6_row_50 ?_
        refine X_iload_n C 1 1 dX6_row_53 rfl rfl ?_
        refine X_iload_n C 2 2 dX6_row_54 rfl rfl ?_
        refine X_callVv C eX3_addRow [.int a1, .int a2] [] (M_X3_addRow C.g_J hFu (by decide) h) (hFu _ (by decide)) (wc_1 _ _) rfl q_242 rfl ⟨(Nat.le_of_ble_eq_true rfl), (Nat.le_of_ble_eq_true rfl)⟩ rfl (Nat.le_of_ble_eq_true rfl) dX6_row_55 (fun S9 h => ?_)
        refine X_aload_n C 0 0 dX6_row_58 rfl rfl ?_
        refine X_get C (hFu _ (by decide)) (wc_0 _ _) rfl inX6 0 (by decide) q_190 rfl dX6_row_59 ?_
        refine X_getN C (hFu _ (by decide)) (wc_1 _ _) rfl inX3 0 (by decide) z_62 rfl dX6_row_62 ?_
        refine X_callVi C eX4_length [] [] (M_X4_length C.g_J (hFu.tab (by decide)) h) (hFu _ (by decide)) (wc_2 _ _) rfl q_214 rfl ⟨(Nat.le_of_ble_eq_true rfl), (Nat.le_of_ble_eq_true rfl)⟩ rfl (Nat.le_of_ble_eq_true rfl) dX6_row_65 (fun r12 S11 h => ?_)
        refine X_iconst C (1 : Int32) dX6_row_68 (by decide) ?_
        refine X_isub C dX6_row_69 ?_
        exact X_iret C E rfl h dX6_row_70
      · have h := h.2 c
        refine X_ldc C (-1000003 : Int32) q_218 dX6_row_42 ?_
        exact X_iret C E rfl h dX6_row_44
    · have h := h.2 c
      refine X_ldc C (-1000001 : Int32) q_213 dX6_row_24 ?_
      exact X_iret C E rfl h dX6_row_26
set_option maxRecDepth 100000 in
set_option maxHeartbeats 4000000 in
theorem M_X6_drop {l : Launch} {G : XG} (hJ : XJ G) (hFu : XF G) {S : Mem} {a1 : Int32} {K : Int32 → Mem → Prop} (h : P_X6_drop S a1 K) : XMi l G yX6_drop cX6_drop 2 .int 5 144 [.ref (xad G 0), .int a1] S K := by
  refine X_meth RX6 rfl (by decide +kernel) hJ (Nat.le_of_ble_eq_true rfl) (fun κ hl hG C E => ?_)
  subst hl hG
  show XW κ S 0 [(0, .ref (xad (kG κ) 0)), (1, .int a1)] []
  refine X_iload_n C 1 1 dX6_drop_0 rfl rfl ?_
  refine X_if_ge C 7 dX6_drop_1 (by decide) (fun c => ?_) (fun c => ?_)
  · have h := h.1 c
    refine X_iload_n C 1 1 dX6_drop_7 rfl rfl ?_
    refine X_aload_n C 0 0 dX6_drop_8 rfl rfl ?_
    refine X_get C (hFu _ (by decide)) (wc_0 _ _) rfl inX6 0 (by decide) q_190 rfl dX6_drop_9 ?_
    refine X_getN C (hFu _ (by decide)) (wc_1 _ _) rfl inX3 0 (by decide) z_62 rfl dX6_drop_12 ?_
    refine X_callVi C eX4_length [] [.int a1] (M_X4_length C.g_J (hFu.tab (by decide)) h) (hFu _ (by decide)) (wc_2 _ _) rfl q_214 rfl ⟨(Nat.le_of_ble_eq_true rfl), (Nat.le_of_ble_eq_true rfl)⟩ rfl (Nat.le_of_ble_eq_true rfl) dX6_drop_15 (fun r2 S1 h => ?_)
    refine X_icmp_lt C 24 dX6_drop_18 (by decide) (fun c => ?_) (fun c => ?_)
    · have h := h.1 c
      refine X_aload_n C 0 0 dX6_drop_24 rfl rfl ?_
      refine X_callVv C eX6_beginChange [] [] (M_X6_beginChange C.g_J hFu h) (hFu _ (by decide)) (wc_0 _ _) rfl q_219 rfl ⟨(Nat.le_of_ble_eq_true rfl), (Nat.le_of_ble_eq_true rfl)⟩ rfl (Nat.le_of_ble_eq_true rfl) dX6_drop_25 (fun S3 h => ?_)
      refine X_aload_n C 0 0 dX6_drop_28 rfl rfl ?_
      refine X_get C (hFu _ (by decide)) (wc_0 _ _) rfl inX6 0 (by decide) q_190 rfl dX6_drop_29 ?_
      refine X_getN C (hFu _ (by decide)) (wc_1 _ _) rfl inX3 0 (by decide) z_62 rfl dX6_drop_32 ?_
      refine X_iload_n C 1 1 dX6_drop_35 rfl rfl ?_
      refine X_callVv C eX4_remove [.int a1] [] (M_X4_remove C.g_J (hFu.tab (by decide)) h) (hFu _ (by decide)) (wc_2 _ _) rfl q_255 rfl ⟨(Nat.le_of_ble_eq_true rfl), (Nat.le_of_ble_eq_true rfl)⟩ rfl (Nat.le_of_ble_eq_true rfl) dX6_drop_36 (fun S5 h => ?_)
      refine X_aload_n C 0 0 dX6_drop_39 rfl rfl ?_
      refine X_get C (hFu _ (by decide)) (wc_0 _ _) rfl inX6 0 (by decide) q_190 rfl dX6_drop_40 ?_
      refine X_getN C (hFu _ (by decide)) (wc_1 _ _) rfl inX3 0 (by decide) z_62 rfl dX6_drop_43 ?_
      refine X_callVi C eX4_length [] [] (M_X4_length C.g_J (hFu.tab (by decide)) h) (hFu _ (by decide)) (wc_2 _ _) rfl q_214 rfl ⟨(Nat.le_of_ble_eq_true rfl), (Nat.le_of_ble_eq_true rfl)⟩ rfl (Nat.le_of_ble_eq_true rfl) dX6_drop_46 (fun r8 S7 h => ?_)
      exact X_iret C E rfl h dX6_drop_49
    · have h := h.2 c
      refine X_ldc C (-1000002 : Int32) q_254 dX6_drop_21 ?_
      exact X_iret C E rfl h dX6_drop_23
  · have h := h.2 c
    refine X_ldc C (-1000001 : Int32) q_213 dX6_drop_4 ?_
    exact X_iret C E rfl h dX6_drop_6
set_option maxRecDepth 100000 in
set_option maxHeartbeats 4000000 in
theorem M_X6_clear {l : Launch} {G : XG} (hJ : XJ G) (hFu : XF G) {S : Mem} {K : Int32 → Mem → Prop} (h : P_X6_clear S K) : XMi l G yX6_clear cX6_clear 2 .int 5 144 [.ref (xad G 0)] S K := by
  refine X_meth RX6 rfl (by decide +kernel) hJ (Nat.le_of_ble_eq_true rfl) (fun κ hl hG C E => ?_)
  subst hl hG
  show XW κ S 0 [(0, .ref (xad (kG κ) 0))] []
  refine X_aload_n C 0 0 dX6_clear_0 rfl rfl ?_
  refine X_get C (hFu _ (by decide)) (wc_0 _ _) rfl inX6 0 (by decide) q_190 rfl dX6_clear_1 ?_
  refine X_getN C (hFu _ (by decide)) (wc_1 _ _) rfl inX3 0 (by decide) z_62 rfl dX6_clear_4 ?_
  refine X_callVi C eX4_length [] [] (M_X4_length C.g_J (hFu.tab (by decide)) h) (hFu _ (by decide)) (wc_2 _ _) rfl q_214 rfl ⟨(Nat.le_of_ble_eq_true rfl), (Nat.le_of_ble_eq_true rfl)⟩ rfl (Nat.le_of_ble_eq_true rfl) dX6_clear_7 (fun r2 S1 h => ?_)
  refine X_istore_n C 1 [(1, .int r2), (0, .ref (xad (kG κ) 0))] dX6_clear_10 rfl (by decide) rfl ?_
  refine X_aload_n C 0 1 dX6_clear_11 rfl rfl ?_
  refine X_callVv C eX6_beginChange [] [] (M_X6_beginChange C.g_J hFu h) (hFu _ (by decide)) (wc_0 _ _) rfl q_219 rfl ⟨(Nat.le_of_ble_eq_true rfl), (Nat.le_of_ble_eq_true rfl)⟩ rfl (Nat.le_of_ble_eq_true rfl) dX6_clear_12 (fun S3 h => ?_)
  refine X_aload_n C 0 1 dX6_clear_15 rfl rfl ?_
  refine X_get C (hFu _ (by decide)) (wc_0 _ _) rfl inX6 0 (by decide) q_190 rfl dX6_clear_16 ?_
  refine X_getN C (hFu _ (by decide)) (wc_1 _ _) rfl inX3 0 (by decide) z_62 rfl dX6_clear_19 ?_
  refine X_iconst C (0 : Int32) dX6_clear_22 (by decide) ?_
  refine X_callVv C eX4_shorten [.int (0 : Int32)] [] (M_X4_shorten C.g_J (hFu.tab (by decide)) h) (hFu _ (by decide)) (wc_2 _ _) rfl q_263 rfl ⟨(Nat.le_of_ble_eq_true rfl), (Nat.le_of_ble_eq_true rfl)⟩ rfl (Nat.le_of_ble_eq_true rfl) dX6_clear_23 (fun S5 h => ?_)
  refine X_iload_n C 1 0 dX6_clear_26 rfl rfl ?_
  exact X_iret C E rfl h dX6_clear_27
set_option maxRecDepth 100000 in
set_option maxHeartbeats 4000000 in
theorem M_X6_isSettingValue {l : Launch} {G : XG} (hJ : XJ G) (hFu : XF G) {S : Mem} {a0 : Int32} {a1 : Int32} {K : Int32 → Mem → Prop} (h : P_X6_isSettingValue S a0 a1 K) : XMi l G yX6_isSettingValue cX6_isSettingValue 2 .boolean 1 22 [.int a0, .int a1] S K := by
  refine X_meth RX6 rfl (by decide +kernel) hJ (Nat.le_of_ble_eq_true rfl) (fun κ hl hG C E => ?_)
  subst hl hG
  show XW κ S 0 [(0, .int a0), (1, .int a1)] []
  refine X_iload_n C 0 0 dX6_isSettingValue_0 rfl rfl ?_
  by_cases c0 : a0 = (0 : Int32)
  · have h := h.1 c0
    refine X_tin (off := 27) C 28 dX6_isSettingValue_1 (by rw [c0]; decide) (by rw [c0]; decide) (by rw [c0]; rfl) (by decide) ?_
    refine X_iload_n C 1 1 dX6_isSettingValue_28 rfl rfl ?_
    refine X_iconst C (1 : Int32) dX6_isSettingValue_29 (by decide) ?_
    refine X_bipush C (12 : Int32) dX6_isSettingValue_30 (by decide) ?_
    refine X_callSi C eX6_isOutside [.int a1, .int (1 : Int32), .int (12 : Int32)] [] (M_X6_isOutside C.g_J hFu h) q_210 rfl ⟨(Nat.le_of_ble_eq_true rfl), (Nat.le_of_ble_eq_true rfl)⟩ rfl (Nat.le_of_ble_eq_true rfl) dX6_isSettingValue_32 (fun r2 S1 h => ?_)
    refine X_if_ne C 42 dX6_isSettingValue_35 (by decide) (fun c => ?_) (fun c => ?_)
    · have h := h.1 c
      refine X_iconst C (0 : Int32) dX6_isSettingValue_42 (by decide) ?_
      exact X_iret C E rfl h dX6_isSettingValue_43
    · have h := h.2 c
      refine X_iconst C (1 : Int32) dX6_isSettingValue_38 (by decide) ?_
      refine X_goto C 43 dX6_isSettingValue_39 (by decide) ?_
      exact X_iret C E rfl h dX6_isSettingValue_43
  by_cases c1 : a0 = (1 : Int32)
  · have h := h.2.1 c1
    refine X_tin (off := 43) C 44 dX6_isSettingValue_1 (by rw [c1]; decide) (by rw [c1]; decide) (by rw [c1]; rfl) (by decide) ?_
    refine X_iload_n C 1 1 dX6_isSettingValue_44 rfl rfl ?_
    refine X_iconst C (1 : Int32) dX6_isSettingValue_45 (by decide) ?_
    refine X_iconst C (4 : Int32) dX6_isSettingValue_46 (by decide) ?_
    refine X_callSi C eX6_isOutside [.int a1, .int (1 : Int32), .int (4 : Int32)] [] (M_X6_isOutside C.g_J hFu h) q_210 rfl ⟨(Nat.le_of_ble_eq_true rfl), (Nat.le_of_ble_eq_true rfl)⟩ rfl (Nat.le_of_ble_eq_true rfl) dX6_isSettingValue_47 (fun r4 S3 h => ?_)
    refine X_if_ne C 57 dX6_isSettingValue_50 (by decide) (fun c => ?_) (fun c => ?_)
    · have h := h.1 c
      refine X_iconst C (0 : Int32) dX6_isSettingValue_57 (by decide) ?_
      exact X_iret C E rfl h dX6_isSettingValue_58
    · have h := h.2 c
      refine X_iconst C (1 : Int32) dX6_isSettingValue_53 (by decide) ?_
      refine X_goto C 58 dX6_isSettingValue_54 (by decide) ?_
      exact X_iret C E rfl h dX6_isSettingValue_58
  by_cases c2 : a0 = (2 : Int32)
  · have h := h.2.2.1 c2
    refine X_tin (off := 58) C 59 dX6_isSettingValue_1 (by rw [c2]; decide) (by rw [c2]; decide) (by rw [c2]; rfl) (by decide) ?_
    refine X_iload_n C 1 1 dX6_isSettingValue_59 rfl rfl ?_
    refine X_iconst C (1 : Int32) dX6_isSettingValue_60 (by decide) ?_
    refine X_ldc C (65535 : Int32) q_274 dX6_isSettingValue_61 ?_
    refine X_callSi C eX6_isOutside [.int a1, .int (1 : Int32), .int (65535 : Int32)] [] (M_X6_isOutside C.g_J hFu h) q_210 rfl ⟨(Nat.le_of_ble_eq_true rfl), (Nat.le_of_ble_eq_true rfl)⟩ rfl (Nat.le_of_ble_eq_true rfl) dX6_isSettingValue_63 (fun r6 S5 h => ?_)
    refine X_if_ne C 80 dX6_isSettingValue_66 (by decide) (fun c => ?_) (fun c => ?_)
    · have h := h.1 c
      refine X_iconst C (0 : Int32) dX6_isSettingValue_80 (by decide) ?_
      exact X_iret C E rfl h dX6_isSettingValue_81
    · have h := h.2 c
      refine X_iload_n C 1 1 dX6_isSettingValue_69 rfl rfl ?_
      refine X_iconst C (1 : Int32) dX6_isSettingValue_70 (by decide) ?_
      refine X_iand C dX6_isSettingValue_71 ?_
      refine X_iconst C (1 : Int32) dX6_isSettingValue_72 (by decide) ?_
      refine X_icmp_ne C 80 dX6_isSettingValue_73 (by decide) (fun c => ?_) (fun c => ?_)
      · have h := h.1 c
        refine X_iconst C (0 : Int32) dX6_isSettingValue_80 (by decide) ?_
        exact X_iret C E rfl h dX6_isSettingValue_81
      · have h := h.2 c
        refine X_iconst C (1 : Int32) dX6_isSettingValue_76 (by decide) ?_
        refine X_goto C 81 dX6_isSettingValue_77 (by decide) ?_
        exact X_iret C E rfl h dX6_isSettingValue_81
  have h := h.2.2.2 ⟨c0, c1, c2⟩
  have e0 := lv_neT c0 (show ((0 : Int32)).toInt = 0 from rfl)
  have e1 := lv_neT c1 (show ((1 : Int32)).toInt = 1 from rfl)
  have e2 := lv_neT c2 (show ((2 : Int32)).toInt = 2 from rfl)
  refine X_tout C 82 dX6_isSettingValue_1 (by omega) (by decide) ?_
  refine X_iconst C (0 : Int32) dX6_isSettingValue_82 (by decide) ?_
  exact X_iret C E rfl h dX6_isSettingValue_83
set_option maxRecDepth 100000 in
set_option maxHeartbeats 4000000 in
theorem M_X6_set {l : Launch} {G : XG} (hJ : XJ G) (hFu : XF G) {S : Mem} {a1 : Int32} {a2 : Int32} {K : Int32 → Mem → Prop} (h : P_X6_set S a1 a2 K) : XMi l G yX6_set cX6_set 4 .int 5 144 [.ref (xad G 0), .int a1, .int a2] S K := by
  refine X_meth RX6 rfl (by decide +kernel) hJ (Nat.le_of_ble_eq_true rfl) (fun κ hl hG C E => ?_)
  subst hl hG
  show XW κ S 0 [(0, .ref (xad (kG κ) 0)), (1, .int a1), (2, .int a2)] []
  refine X_iload_n C 1 1 dX6_set_0 rfl rfl ?_
  refine X_iload_n C 2 2 dX6_set_1 rfl rfl ?_
  refine X_callSi C eX6_isSettingValue [.int a1, .int a2] [] (M_X6_isSettingValue C.g_J hFu h) q_271 rfl ⟨(Nat.le_of_ble_eq_true rfl), (Nat.le_of_ble_eq_true rfl)⟩ rfl (Nat.le_of_ble_eq_true rfl) dX6_set_2 (fun r2 S1 h => ?_)
  refine X_if_ne C 11 dX6_set_5 (by decide) (fun c => ?_) (fun c => ?_)
  · have h := h.1 c
    refine X_aload_n C 0 0 dX6_set_11 rfl rfl ?_
    refine X_callVv C eX6_beginChange [] [] (M_X6_beginChange C.g_J hFu h) (hFu _ (by decide)) (wc_0 _ _) rfl q_219 rfl ⟨(Nat.le_of_ble_eq_true rfl), (Nat.le_of_ble_eq_true rfl)⟩ rfl (Nat.le_of_ble_eq_true rfl) dX6_set_12 (fun S3 h => ?_)
    refine X_aload_n C 0 0 dX6_set_15 rfl rfl ?_
    refine X_get C (hFu _ (by decide)) (wc_0 _ _) rfl inX6 0 (by decide) q_190 rfl dX6_set_16 ?_
    refine X_iload_n C 1 1 dX6_set_19 rfl rfl ?_
    refine X_callVi C eX3_setting [.int a1] [] (M_X3_setting C.g_J hFu (by decide) h) (hFu _ (by decide)) (wc_1 _ _) rfl q_275 rfl ⟨(Nat.le_of_ble_eq_true rfl), (Nat.le_of_ble_eq_true rfl)⟩ rfl (Nat.le_of_ble_eq_true rfl) dX6_set_20 (fun r6 S5 h => ?_)
    refine X_istore_n C 3 [(3, .int r6), (0, .ref (xad (kG κ) 0)), (1, .int a1), (2, .int a2)] dX6_set_23 rfl (by decide) rfl ?_
    refine X_aload_n C 0 1 dX6_set_24 rfl rfl ?_
    refine X_get C (hFu _ (by decide)) (wc_0 _ _) rfl inX6 0 (by decide) q_190 rfl dX6_set_25 ?_
    refine X_getN C (hFu _ (by decide)) (wc_1 _ _) rfl inX3 1 (by decide) z_64 rfl dX6_set_28 ?_
    refine X_iload_n C 1 2 dX6_set_31 rfl rfl ?_
    refine X_iconst C (0 : Int32) dX6_set_32 (by decide) ?_
    refine X_iload_n C 2 3 dX6_set_33 rfl rfl ?_
    refine X_callVv C eX4_put [.int a1, .int (0 : Int32), .int a2] [] (M_X4_put C.g_J (hFu.tab (by decide)) h) (hFu _ (by decide)) (wc_4 _ _) rfl q_283 rfl ⟨(Nat.le_of_ble_eq_true rfl), (Nat.le_of_ble_eq_true rfl)⟩ rfl (Nat.le_of_ble_eq_true rfl) dX6_set_34 (fun S7 h => ?_)
    refine X_iload_n C 3 0 dX6_set_37 rfl rfl ?_
    exact X_iret C E rfl h dX6_set_38
  · have h := h.2 c
    refine X_ldc C (-1000001 : Int32) q_213 dX6_set_8 ?_
    exact X_iret C E rfl h dX6_set_10
set_option maxRecDepth 100000 in
set_option maxHeartbeats 4000000 in
theorem M_X6_firstPart {l : Launch} {G : XG} (hJ : XJ G) (hFu : XF G) {S : Mem} {a1 : Int32} {K : Int32 → Mem → Prop} (h : P_X6_firstPart S a1 K) : XMi l G yX6_firstPart cX6_firstPart 2 .int 2 43 [.ref (xad G 0), .int a1] S K := by
  refine X_meth RX6 rfl (by decide +kernel) hJ (Nat.le_of_ble_eq_true rfl) (fun κ hl hG C E => ?_)
  subst hl hG
  show XW κ S 0 [(0, .ref (xad (kG κ) 0)), (1, .int a1)] []
  refine X_iload_n C 1 1 dX6_firstPart_0 rfl rfl ?_
  refine X_bipush C (16 : Int32) dX6_firstPart_1 (by decide) ?_
  refine X_aload_n C 0 0 dX6_firstPart_3 rfl rfl ?_
  refine X_get C (hFu _ (by decide)) (wc_0 _ _) rfl inX6 0 (by decide) q_190 rfl dX6_firstPart_4 ?_
  refine X_iconst C (1 : Int32) dX6_firstPart_7 (by decide) ?_
  refine X_callVi C eX3_setting [.int (1 : Int32)] [.int (16 : Int32), .int a1] (M_X3_setting C.g_J hFu (by decide) h) (hFu _ (by decide)) (wc_1 _ _) rfl q_275 rfl ⟨(Nat.le_of_ble_eq_true rfl), (Nat.le_of_ble_eq_true rfl)⟩ rfl (Nat.le_of_ble_eq_true rfl) dX6_firstPart_8 (fun r2 S1 h => ?_)
  refine X_isub C dX6_firstPart_11 ?_
  refine X_ishr C dX6_firstPart_12 ?_
  exact X_iret C E rfl h dX6_firstPart_13
set_option maxRecDepth 100000 in
set_option maxHeartbeats 4000000 in
theorem M_X6_rowOf {l : Launch} {G : XG} (hJ : XJ G) (hFu : XF G) {S : Mem} {a1 : Int32} {a2 : Int32} {K : Int32 → Mem → Prop} (h : P_X6_rowOf S a1 a2 K) : XMi l G yX6_rowOf cX6_rowOf 3 .int 3 64 [.ref (xad G 0), .int a1, .int a2] S K := by
  refine X_meth RX6 rfl (by decide +kernel) hJ (Nat.le_of_ble_eq_true rfl) (fun κ hl hG C E => ?_)
  subst hl hG
  show XW κ S 0 [(0, .ref (xad (kG κ) 0)), (1, .int a1), (2, .int a2)] []
  refine X_iload_n C 1 1 dX6_rowOf_0 rfl rfl ?_
  refine X_if_lt C 13 dX6_rowOf_1 (by decide) (fun c => ?_) (fun c => ?_)
  · have h := h.1 c
    refine X_ldc C (-1000001 : Int32) q_213 dX6_rowOf_13 ?_
    exact X_iret C E rfl h dX6_rowOf_15
  · have h := h.2 c
    refine X_iload_n C 2 2 dX6_rowOf_4 rfl rfl ?_
    refine X_iconst C (0 : Int32) dX6_rowOf_5 (by decide) ?_
    refine X_iconst C (3 : Int32) dX6_rowOf_6 (by decide) ?_
    refine X_callSi C eX6_isOutside [.int a2, .int (0 : Int32), .int (3 : Int32)] [] (M_X6_isOutside C.g_J hFu h) q_210 rfl ⟨(Nat.le_of_ble_eq_true rfl), (Nat.le_of_ble_eq_true rfl)⟩ rfl (Nat.le_of_ble_eq_true rfl) dX6_rowOf_7 (fun r2 S1 h => ?_)
    refine X_if_eq C 16 dX6_rowOf_10 (by decide) (fun c => ?_) (fun c => ?_)
    · have h := h.1 c
      refine X_iload_n C 1 1 dX6_rowOf_16 rfl rfl ?_
      refine X_aload_n C 0 0 dX6_rowOf_17 rfl rfl ?_
      refine X_get C (hFu _ (by decide)) (wc_0 _ _) rfl inX6 0 (by decide) q_190 rfl dX6_rowOf_18 ?_
      refine X_getN C (hFu _ (by decide)) (wc_1 _ _) rfl inX3 0 (by decide) z_62 rfl dX6_rowOf_21 ?_
      refine X_callVi C eX4_length [] [.int a1] (M_X4_length C.g_J (hFu.tab (by decide)) h) (hFu _ (by decide)) (wc_2 _ _) rfl q_214 rfl ⟨(Nat.le_of_ble_eq_true rfl), (Nat.le_of_ble_eq_true rfl)⟩ rfl (Nat.le_of_ble_eq_true rfl) dX6_rowOf_24 (fun r4 S3 h => ?_)
      refine X_icmp_lt C 33 dX6_rowOf_27 (by decide) (fun c => ?_) (fun c => ?_)
      · have h := h.1 c
        refine X_iload_n C 2 2 dX6_rowOf_33 rfl rfl ?_
        by_cases c0 : a2 = (0 : Int32)
        · have h := h.1 c0
          refine X_tin (off := 26) C 60 dX6_rowOf_34 (by rw [c0]; decide) (by rw [c0]; decide) (by rw [c0]; rfl) (by decide) ?_
          refine X_aload_n C 0 0 dX6_rowOf_60 rfl rfl ?_
          refine X_get C (hFu _ (by decide)) (wc_0 _ _) rfl inX6 0 (by decide) q_190 rfl dX6_rowOf_61 ?_
          refine X_iload_n C 1 1 dX6_rowOf_64 rfl rfl ?_
          refine X_callVi C eX3_keyOf [.int a1] [] (M_X3_keyOf C.g_J hFu (by decide) h) (hFu _ (by decide)) (wc_1 _ _) rfl q_289 rfl ⟨(Nat.le_of_ble_eq_true rfl), (Nat.le_of_ble_eq_true rfl)⟩ rfl (Nat.le_of_ble_eq_true rfl) dX6_rowOf_65 (fun r6 S5 h => ?_)
          exact X_iret C E rfl h dX6_rowOf_68
        by_cases c1 : a2 = (1 : Int32)
        · have h := h.2.1 c1
          refine X_tin (off := 35) C 69 dX6_rowOf_34 (by rw [c1]; decide) (by rw [c1]; decide) (by rw [c1]; rfl) (by decide) ?_
          refine X_aload_n C 0 0 dX6_rowOf_69 rfl rfl ?_
          refine X_get C (hFu _ (by decide)) (wc_0 _ _) rfl inX6 0 (by decide) q_190 rfl dX6_rowOf_70 ?_
          refine X_iload_n C 1 1 dX6_rowOf_73 rfl rfl ?_
          refine X_callVi C eX3_valueOf [.int a1] [] (M_X3_valueOf C.g_J hFu (by decide) h) (hFu _ (by decide)) (wc_1 _ _) rfl q_293 rfl ⟨(Nat.le_of_ble_eq_true rfl), (Nat.le_of_ble_eq_true rfl)⟩ rfl (Nat.le_of_ble_eq_true rfl) dX6_rowOf_74 (fun r8 S7 h => ?_)
          exact X_iret C E rfl h dX6_rowOf_77
        by_cases c2 : a2 = (2 : Int32)
        · have h := h.2.2.1 c2
          refine X_tin (off := 44) C 78 dX6_rowOf_34 (by rw [c2]; decide) (by rw [c2]; decide) (by rw [c2]; rfl) (by decide) ?_
          refine X_aload_n C 0 0 dX6_rowOf_78 rfl rfl ?_
          refine X_get C (hFu _ (by decide)) (wc_0 _ _) rfl inX6 0 (by decide) q_190 rfl dX6_rowOf_79 ?_
          refine X_iload_n C 1 1 dX6_rowOf_82 rfl rfl ?_
          refine X_callVi C eX3_hashOf [.int a1] [] (M_X3_hashOf C.g_J hFu (by decide) h) (hFu _ (by decide)) (wc_1 _ _) rfl q_297 rfl ⟨(Nat.le_of_ble_eq_true rfl), (Nat.le_of_ble_eq_true rfl)⟩ rfl (Nat.le_of_ble_eq_true rfl) dX6_rowOf_83 (fun r10 S9 h => ?_)
          exact X_iret C E rfl h dX6_rowOf_86
        have h := h.2.2.2 ⟨c0, c1, c2⟩
        have e0 := lv_neT c0 (show ((0 : Int32)).toInt = 0 from rfl)
        have e1 := lv_neT c1 (show ((1 : Int32)).toInt = 1 from rfl)
        have e2 := lv_neT c2 (show ((2 : Int32)).toInt = 2 from rfl)
        refine X_tout C 87 dX6_rowOf_34 (by omega) (by decide) ?_
        refine X_aload_n C 0 0 dX6_rowOf_87 rfl rfl ?_
        refine X_aload_n C 0 0 dX6_rowOf_88 rfl rfl ?_
        refine X_get C (hFu _ (by decide)) (wc_0 _ _) rfl inX6 0 (by decide) q_190 rfl dX6_rowOf_89 ?_
        refine X_iload_n C 1 1 dX6_rowOf_92 rfl rfl ?_
        refine X_callVi C eX3_hashOf [.int a1] [.ref (xad (kG κ) 0)] (M_X3_hashOf C.g_J hFu (by decide) h) (hFu _ (by decide)) (wc_1 _ _) rfl q_297 rfl ⟨(Nat.le_of_ble_eq_true rfl), (Nat.le_of_ble_eq_true rfl)⟩ rfl (Nat.le_of_ble_eq_true rfl) dX6_rowOf_93 (fun r12 S11 h => ?_)
        refine X_callVi C eX6_firstPart [.int r12] [] (M_X6_firstPart C.g_J hFu h) (hFu _ (by decide)) (wc_0 _ _) rfl q_304 rfl ⟨(Nat.le_of_ble_eq_true rfl), (Nat.le_of_ble_eq_true rfl)⟩ rfl (Nat.le_of_ble_eq_true rfl) dX6_rowOf_96 (fun r14 S13 h => ?_)
        exact X_iret C E rfl h dX6_rowOf_99
      · have h := h.2 c
        refine X_ldc C (-1000004 : Int32) q_288 dX6_rowOf_30 ?_
        exact X_iret C E rfl h dX6_rowOf_32
    · have h := h.2 c
      refine X_ldc C (-1000001 : Int32) q_213 dX6_rowOf_13 ?_
      exact X_iret C E rfl h dX6_rowOf_15
set_option maxRecDepth 100000 in
set_option maxHeartbeats 4000000 in
theorem M_X6_groupsNow {l : Launch} {G : XG} (hJ : XJ G) (hFu : XF G) {S : Mem} {K : Option Nat → Mem → Prop} (h : P_X6_groupsNow S K) : XMe l G yX6_groupsNow cX6_groupsNow 1 (.object "SpilledGroups$Groups") 5 129 [.ref (xad G 0)] S K := by
  refine X_meth RX6 rfl (by decide +kernel) hJ (Nat.le_of_ble_eq_true rfl) (fun κ hl hG C E => ?_)
  subst hl hG
  show XW κ S 0 [(0, .ref (xad (kG κ) 0))] []
  refine X_aload_n C 0 0 dX6_groupsNow_0 rfl rfl ?_
  refine X_get C (hFu _ (by decide)) (wc_0 _ _) rfl inX6 4 (by decide) q_194 rfl dX6_groupsNow_1 ?_
  refine X_if_eq C 33 dX6_groupsNow_4 (by decide) (fun c => ?_) (fun c => ?_)
  · have h := h.1 c
    refine X_aload_n C 0 0 dX6_groupsNow_33 rfl rfl ?_
    refine X_get C (hFu _ (by decide)) (wc_0 _ _) rfl inX6 2 (by decide) q_192 rfl dX6_groupsNow_34 ?_
    refine X_getN C (hFu _ (by decide)) (wc_33 _ _) rfl inX2 0 (by decide) z_116 rfl dX6_groupsNow_37 ?_
    exact X_aret C E (some 28) rfl h dX6_groupsNow_40
  · have h := h.2 c
    refine X_aload_n C 0 0 dX6_groupsNow_7 rfl rfl ?_
    refine X_get C (hFu _ (by decide)) (wc_0 _ _) rfl inX6 2 (by decide) q_192 rfl dX6_groupsNow_8 ?_
    refine X_getN C (hFu _ (by decide)) (wc_33 _ _) rfl inX2 0 (by decide) z_116 rfl dX6_groupsNow_11 ?_
    refine X_aload_n C 0 0 dX6_groupsNow_14 rfl rfl ?_
    refine X_get C (hFu _ (by decide)) (wc_0 _ _) rfl inX6 0 (by decide) q_190 rfl dX6_groupsNow_15 ?_
    refine X_callVv C eX0_gather [.ref (xad (kG κ) 1)] [] (M_X0_gather C.g_J hFu (by decide) h) (hFu _ (by decide)) (wc_28 _ _) rfl q_316 rfl ⟨(Nat.le_of_ble_eq_true rfl), (Nat.le_of_ble_eq_true rfl)⟩ rfl (Nat.le_of_ble_eq_true rfl) dX6_groupsNow_18 (fun S1 h => ?_)
    refine X_aload_n C 0 0 dX6_groupsNow_21 rfl rfl ?_
    refine X_get C (hFu _ (by decide)) (wc_0 _ _) rfl inX6 2 (by decide) q_192 rfl dX6_groupsNow_22 ?_
    refine X_callVv C eX2_forget [] [] (M_X2_forget C.g_J hFu h) (hFu _ (by decide)) (wc_33 _ _) rfl q_348 rfl ⟨(Nat.le_of_ble_eq_true rfl), (Nat.le_of_ble_eq_true rfl)⟩ rfl (Nat.le_of_ble_eq_true rfl) dX6_groupsNow_25 (fun S3 h => ?_)
    refine X_aload_n C 0 0 dX6_groupsNow_28 rfl rfl ?_
    refine X_iconst C (0 : Int32) dX6_groupsNow_29 (by decide) ?_
    obtain ⟨S5, eS5⟩ : ∃ z, z = mput S3 0 4 (0 : Int32) := ⟨_, rfl⟩
    have h := h S5 eS5
    refine X_put C (hFu _ (by decide)) (wc_0 _ _) rfl inX6 tyX6_ok nmX6 4 (by decide) q_194 rfl rfl rfl (Nat.le_of_ble_eq_true rfl) eS5 (wc_0 _ _) dX6_groupsNow_30 ?_
    refine X_aload_n C 0 0 dX6_groupsNow_33 rfl rfl ?_
    refine X_get C (hFu _ (by decide)) (wc_0 _ _) rfl inX6 2 (by decide) q_192 rfl dX6_groupsNow_34 ?_
    refine X_getN C (hFu _ (by decide)) (wc_33 _ _) rfl inX2 0 (by decide) z_116 rfl dX6_groupsNow_37 ?_
    exact X_aret C E (some 28) rfl h dX6_groupsNow_40
set_option maxRecDepth 100000 in
set_option maxHeartbeats 4000000 in
theorem M_X6_passesNow {l : Launch} {G : XG} (hJ : XJ G) (hFu : XF G) {S : Mem} {K : Option Nat → Mem → Prop} (h : P_X6_passesNow S K) : XMe l G yX6_passesNow cX6_passesNow 1 (.object "SpilledGroups$Passes") 138 3143 [.ref (xad G 0)] S K := by
  refine X_meth RX6 rfl (by decide +kernel) hJ (Nat.le_of_ble_eq_true rfl) (fun κ hl hG C E => ?_)
  subst hl hG
  show XW κ S 0 [(0, .ref (xad (kG κ) 0))] []
  refine X_aload_n C 0 0 dX6_passesNow_0 rfl rfl ?_
  refine X_callVe C eX6_groupsNow [] [] (M_X6_groupsNow C.g_J hFu h) (hFu _ (by decide)) (wc_0 _ _) rfl q_312 rfl ⟨(Nat.le_of_ble_eq_true rfl), (Nat.le_of_ble_eq_true rfl)⟩ rfl (Nat.le_of_ble_eq_true rfl) dX6_passesNow_1 (fun r2 S1 h => ?_)
  obtain ⟨hr, h⟩ := h
  subst hr
  refine X_some ?_
  refine X_pop C dX6_passesNow_4 rfl ?_
  refine X_aload_n C 0 0 dX6_passesNow_5 rfl rfl ?_
  refine X_get C (hFu _ (by decide)) (wc_0 _ _) rfl inX6 2 (by decide) q_192 rfl dX6_passesNow_6 ?_
  refine X_aload_n C 0 0 dX6_passesNow_9 rfl rfl ?_
  refine X_get C (hFu _ (by decide)) (wc_0 _ _) rfl inX6 0 (by decide) q_190 rfl dX6_passesNow_10 ?_
  refine X_iconst C (0 : Int32) dX6_passesNow_13 (by decide) ?_
  refine X_callVi C eX3_setting [.int (0 : Int32)] [.ref (xad (kG κ) 33)] (M_X3_setting C.g_J hFu (by decide) h) (hFu _ (by decide)) (wc_1 _ _) rfl q_275 rfl ⟨(Nat.le_of_ble_eq_true rfl), (Nat.le_of_ble_eq_true rfl)⟩ rfl (Nat.le_of_ble_eq_true rfl) dX6_passesNow_14 (fun r4 S3 h => ?_)
  refine X_aload_n C 0 0 dX6_passesNow_17 rfl rfl ?_
  refine X_get C (hFu _ (by decide)) (wc_0 _ _) rfl inX6 0 (by decide) q_190 rfl dX6_passesNow_18 ?_
  refine X_iconst C (1 : Int32) dX6_passesNow_21 (by decide) ?_
  refine X_callVi C eX3_setting [.int (1 : Int32)] [.int r4, .ref (xad (kG κ) 33)] (M_X3_setting C.g_J hFu (by decide) h) (hFu _ (by decide)) (wc_1 _ _) rfl q_275 rfl ⟨(Nat.le_of_ble_eq_true rfl), (Nat.le_of_ble_eq_true rfl)⟩ rfl (Nat.le_of_ble_eq_true rfl) dX6_passesNow_22 (fun r6 S5 h => ?_)
  refine X_callVv C eX2_run [.int r4, .int r6] [] (M_X2_run C.g_J hFu h) (hFu _ (by decide)) (wc_33 _ _) rfl q_357 rfl ⟨(Nat.le_of_ble_eq_true rfl), (Nat.le_of_ble_eq_true rfl)⟩ rfl (Nat.le_of_ble_eq_true rfl) dX6_passesNow_25 (fun S7 h => ?_)
  refine X_aload_n C 0 0 dX6_passesNow_28 rfl rfl ?_
  refine X_get C (hFu _ (by decide)) (wc_0 _ _) rfl inX6 2 (by decide) q_192 rfl dX6_passesNow_29 ?_
  exact X_aret C E (some 33) rfl h dX6_passesNow_32
set_option maxRecDepth 100000 in
set_option maxHeartbeats 4000000 in
theorem M_X6_groupOf {l : Launch} {G : XG} (hJ : XJ G) (hFu : XF G) {S : Mem} {a1 : Int32} {a2 : Int32} {K : Int32 → Mem → Prop} (h : P_X6_groupOf S a1 a2 K) : XMi l G yX6_groupOf cX6_groupOf 4 .int 139 3163 [.ref (xad G 0), .int a1, .int a2] S K := by
  refine X_meth RX6 rfl (by decide +kernel) hJ (Nat.le_of_ble_eq_true rfl) (fun κ hl hG C E => ?_)
  subst hl hG
  show XW κ S 0 [(0, .ref (xad (kG κ) 0)), (1, .int a1), (2, .int a2)] []
  refine X_iload_n C 1 1 dX6_groupOf_0 rfl rfl ?_
  refine X_if_lt C 14 dX6_groupOf_1 (by decide) (fun c => ?_) (fun c => ?_)
  · have h := h.1 c
    refine X_ldc C (-1000001 : Int32) q_213 dX6_groupOf_14 ?_
    exact X_iret C E rfl h dX6_groupOf_16
  · have h := h.2 c
    refine X_iload_n C 2 2 dX6_groupOf_4 rfl rfl ?_
    refine X_iconst C (0 : Int32) dX6_groupOf_5 (by decide) ?_
    refine X_bipush C (7 : Int32) dX6_groupOf_6 (by decide) ?_
    refine X_callSi C eX6_isOutside [.int a2, .int (0 : Int32), .int (7 : Int32)] [] (M_X6_isOutside C.g_J hFu h) q_210 rfl ⟨(Nat.le_of_ble_eq_true rfl), (Nat.le_of_ble_eq_true rfl)⟩ rfl (Nat.le_of_ble_eq_true rfl) dX6_groupOf_8 (fun r2 S1 h => ?_)
    refine X_if_eq C 17 dX6_groupOf_11 (by decide) (fun c => ?_) (fun c => ?_)
    · have h := h.1 c
      refine X_aload_n C 0 0 dX6_groupOf_17 rfl rfl ?_
      refine X_callVe C eX6_groupsNow [] [] (M_X6_groupsNow C.g_J hFu h) (hFu _ (by decide)) (wc_0 _ _) rfl q_312 rfl ⟨(Nat.le_of_ble_eq_true rfl), (Nat.le_of_ble_eq_true rfl)⟩ rfl (Nat.le_of_ble_eq_true rfl) dX6_groupOf_18 (fun r4 S3 h => ?_)
      obtain ⟨hr, h⟩ := h
      subst hr
      refine X_some ?_
      refine X_getN C (hFu _ (by decide)) (wc_28 _ _) rfl inX0 0 (by decide) z_105 rfl dX6_groupOf_21 ?_
      refine X_astore_n C 3 [(3, .ref (xad (kG κ) 29)), (0, .ref (xad (kG κ) 0)), (1, .int a1), (2, .int a2)] dX6_groupOf_24 rfl (by decide) rfl ?_
      refine X_iload_n C 1 2 dX6_groupOf_25 rfl rfl ?_
      refine X_aload_n C 3 0 dX6_groupOf_26 rfl rfl ?_
      refine X_callVi C eX4_length [] [.int a1] (M_X4_length C.g_J (hFu.tab (by decide)) h) (hFu _ (by decide)) (wc_29 _ _) rfl q_214 rfl ⟨(Nat.le_of_ble_eq_true rfl), (Nat.le_of_ble_eq_true rfl)⟩ rfl (Nat.le_of_ble_eq_true rfl) dX6_groupOf_27 (fun r6 S5 h => ?_)
      refine X_icmp_lt C 36 dX6_groupOf_30 (by decide) (fun c => ?_) (fun c => ?_)
      · have h := h.1 c
        refine X_iload_n C 2 3 dX6_groupOf_36 rfl rfl ?_
        refine X_iconst C (4 : Int32) dX6_groupOf_37 (by decide) ?_
        refine X_icmp_gt C 48 dX6_groupOf_38 (by decide) (fun c => ?_) (fun c => ?_)
        · have h := h.1 c
          refine X_aload_n C 0 1 dX6_groupOf_48 rfl rfl ?_
          refine X_callVe C eX6_passesNow [] [] (M_X6_passesNow C.g_J hFu h) (hFu _ (by decide)) (wc_0 _ _) rfl q_353 rfl ⟨(Nat.le_of_ble_eq_true rfl), (Nat.le_of_ble_eq_true rfl)⟩ rfl (Nat.le_of_ble_eq_true rfl) dX6_groupOf_49 (fun r8 S7 h => ?_)
          obtain ⟨hr, h⟩ := h
          subst hr
          refine X_some ?_
          refine X_getN C (hFu _ (by decide)) (wc_33 _ _) rfl inX2 3 (by decide) z_122 rfl dX6_groupOf_52 ?_
          refine X_iload_n C 1 2 dX6_groupOf_55 rfl rfl ?_
          refine X_iload_n C 2 3 dX6_groupOf_56 rfl rfl ?_
          refine X_iconst C (4 : Int32) dX6_groupOf_57 (by decide) ?_
          refine X_isub C dX6_groupOf_58 ?_
          refine X_iconst C (1 : Int32) dX6_groupOf_59 (by decide) ?_
          refine X_isub C dX6_groupOf_60 ?_
          refine X_callVi C eX4_at [.int a1, .int ((a2 - (4 : Int32)) - (1 : Int32))] [] (M_X4_at C.g_J (hFu.tab (by decide)) h) (hFu _ (by decide)) (wc_38 _ _) rfl q_352 rfl ⟨(Nat.le_of_ble_eq_true rfl), (Nat.le_of_ble_eq_true rfl)⟩ rfl (Nat.le_of_ble_eq_true rfl) dX6_groupOf_61 (fun r10 S9 h => ?_)
          exact X_iret C E rfl h dX6_groupOf_64
        · have h := h.2 c
          refine X_aload_n C 3 0 dX6_groupOf_41 rfl rfl ?_
          refine X_iload_n C 1 2 dX6_groupOf_42 rfl rfl ?_
          refine X_iload_n C 2 3 dX6_groupOf_43 rfl rfl ?_
          refine X_callVi C eX4_at [.int a1, .int a2] [] (M_X4_at C.g_J (hFu.tab (by decide)) h) (hFu _ (by decide)) (wc_29 _ _) rfl q_352 rfl ⟨(Nat.le_of_ble_eq_true rfl), (Nat.le_of_ble_eq_true rfl)⟩ rfl (Nat.le_of_ble_eq_true rfl) dX6_groupOf_44 (fun r12 S11 h => ?_)
          exact X_iret C E rfl h dX6_groupOf_47
      · have h := h.2 c
        refine X_ldc C (-1000004 : Int32) q_288 dX6_groupOf_33 ?_
        exact X_iret C E rfl h dX6_groupOf_35
    · have h := h.2 c
      refine X_ldc C (-1000001 : Int32) q_213 dX6_groupOf_14 ?_
      exact X_iret C E rfl h dX6_groupOf_16
set_option maxRecDepth 100000 in
set_option maxHeartbeats 4000000 in
theorem M_X6_finished {l : Launch} {G : XG} (hJ : XJ G) (hFu : XF G) {S : Mem} {a1 : Int32} {K : Int32 → Mem → Prop} (h : P_X6_finished S a1 K) : XMi l G yX6_finished cX6_finished 3 .int 139 3163 [.ref (xad G 0), .int a1] S K := by
  refine X_meth RX6 rfl (by decide +kernel) hJ (Nat.le_of_ble_eq_true rfl) (fun κ hl hG C E => ?_)
  subst hl hG
  show XW κ S 0 [(0, .ref (xad (kG κ) 0)), (1, .int a1)] []
  refine X_iload_n C 1 1 dX6_finished_0 rfl rfl ?_
  refine X_if_ge C 7 dX6_finished_1 (by decide) (fun c => ?_) (fun c => ?_)
  · have h := h.1 c
    refine X_aload_n C 0 0 dX6_finished_7 rfl rfl ?_
    refine X_callVe C eX6_passesNow [] [] (M_X6_passesNow C.g_J hFu h) (hFu _ (by decide)) (wc_0 _ _) rfl q_353 rfl ⟨(Nat.le_of_ble_eq_true rfl), (Nat.le_of_ble_eq_true rfl)⟩ rfl (Nat.le_of_ble_eq_true rfl) dX6_finished_8 (fun r2 S1 h => ?_)
    obtain ⟨hr, h⟩ := h
    subst hr
    refine X_some ?_
    refine X_astore_n C 2 [(2, .ref (xad (kG κ) 33)), (0, .ref (xad (kG κ) 0)), (1, .int a1)] dX6_finished_11 rfl (by decide) rfl ?_
    refine X_iload_n C 1 2 dX6_finished_12 rfl rfl ?_
    refine X_aload_n C 2 0 dX6_finished_13 rfl rfl ?_
    refine X_getN C (hFu _ (by decide)) (wc_33 _ _) rfl inX2 4 (by decide) z_124 rfl dX6_finished_14 ?_
    refine X_callVi C eX4_length [] [.int a1] (M_X4_length C.g_J (hFu.tab (by decide)) h) (hFu _ (by decide)) (wc_40 _ _) rfl q_214 rfl ⟨(Nat.le_of_ble_eq_true rfl), (Nat.le_of_ble_eq_true rfl)⟩ rfl (Nat.le_of_ble_eq_true rfl) dX6_finished_17 (fun r4 S3 h => ?_)
    refine X_icmp_lt C 26 dX6_finished_20 (by decide) (fun c => ?_) (fun c => ?_)
    · have h := h.1 c
      refine X_aload_n C 2 0 dX6_finished_26 rfl rfl ?_
      refine X_getN C (hFu _ (by decide)) (wc_33 _ _) rfl inX2 0 (by decide) z_116 rfl dX6_finished_27 ?_
      refine X_getN C (hFu _ (by decide)) (wc_28 _ _) rfl inX0 0 (by decide) z_105 rfl dX6_finished_30 ?_
      refine X_aload_n C 2 0 dX6_finished_33 rfl rfl ?_
      refine X_getN C (hFu _ (by decide)) (wc_33 _ _) rfl inX2 4 (by decide) z_124 rfl dX6_finished_34 ?_
      refine X_iload_n C 1 2 dX6_finished_37 rfl rfl ?_
      refine X_iconst C (0 : Int32) dX6_finished_38 (by decide) ?_
      refine X_callVi C eX4_at [.int a1, .int (0 : Int32)] [.ref (xad (kG κ) 29)] (M_X4_at C.g_J (hFu.tab (by decide)) h) (hFu _ (by decide)) (wc_40 _ _) rfl q_352 rfl ⟨(Nat.le_of_ble_eq_true rfl), (Nat.le_of_ble_eq_true rfl)⟩ rfl (Nat.le_of_ble_eq_true rfl) dX6_finished_39 (fun r6 S5 h => ?_)
      refine X_iconst C (0 : Int32) dX6_finished_42 (by decide) ?_
      refine X_callVi C eX4_at [.int r6, .int (0 : Int32)] [] (M_X4_at C.g_J (hFu.tab (by decide)) h) (hFu _ (by decide)) (wc_29 _ _) rfl q_352 rfl ⟨(Nat.le_of_ble_eq_true rfl), (Nat.le_of_ble_eq_true rfl)⟩ rfl (Nat.le_of_ble_eq_true rfl) dX6_finished_43 (fun r8 S7 h => ?_)
      exact X_iret C E rfl h dX6_finished_46
    · have h := h.2 c
      refine X_ldc C (-1000004 : Int32) q_288 dX6_finished_23 ?_
      exact X_iret C E rfl h dX6_finished_25
  · have h := h.2 c
    refine X_ldc C (-1000001 : Int32) q_213 dX6_finished_4 ?_
    exact X_iret C E rfl h dX6_finished_6
set_option maxRecDepth 100000 in
set_option maxHeartbeats 4000000 in
theorem M_X6_passOf {l : Launch} {G : XG} (hJ : XJ G) (hFu : XF G) {S : Mem} {a1 : Int32} {a2 : Int32} {a3 : Int32} {K : Int32 → Mem → Prop} (h : P_X6_passOf S a1 a2 a3 K) : XMi l G yX6_passOf cX6_passOf 5 .int 139 3163 [.ref (xad G 0), .int a1, .int a2, .int a3] S K := by
  refine X_meth RX6 rfl (by decide +kernel) hJ (Nat.le_of_ble_eq_true rfl) (fun κ hl hG C E => ?_)
  subst hl hG
  show XW κ S 0 [(0, .ref (xad (kG κ) 0)), (1, .int a1), (2, .int a2), (3, .int a3)] []
  refine X_iload_n C 1 1 dX6_passOf_0 rfl rfl ?_
  refine X_iconst C (0 : Int32) dX6_passOf_1 (by decide) ?_
  refine X_bipush C (15 : Int32) dX6_passOf_2 (by decide) ?_
  refine X_callSi C eX6_isOutside [.int a1, .int (0 : Int32), .int (15 : Int32)] [] (M_X6_isOutside C.g_J hFu h) q_210 rfl ⟨(Nat.le_of_ble_eq_true rfl), (Nat.le_of_ble_eq_true rfl)⟩ rfl (Nat.le_of_ble_eq_true rfl) dX6_passOf_4 (fun r2 S1 h => ?_)
  refine X_if_ne C 29 dX6_passOf_7 (by decide) (fun c => ?_) (fun c => ?_)
  · have h := h.1 c
    refine X_ldc C (-1000001 : Int32) q_213 dX6_passOf_29 ?_
    exact X_iret C E rfl h dX6_passOf_31
  · have h := h.2 c
    refine X_iload_n C 2 2 dX6_passOf_10 rfl rfl ?_
    refine X_iconst C (0 : Int32) dX6_passOf_11 (by decide) ?_
    refine X_ldc C (65535 : Int32) q_274 dX6_passOf_12 ?_
    refine X_callSi C eX6_isOutside [.int a2, .int (0 : Int32), .int (65535 : Int32)] [] (M_X6_isOutside C.g_J hFu h) q_210 rfl ⟨(Nat.le_of_ble_eq_true rfl), (Nat.le_of_ble_eq_true rfl)⟩ rfl (Nat.le_of_ble_eq_true rfl) dX6_passOf_14 (fun r4 S3 h => ?_)
    refine X_if_ne C 29 dX6_passOf_17 (by decide) (fun c => ?_) (fun c => ?_)
    · have h := h.1 c
      refine X_ldc C (-1000001 : Int32) q_213 dX6_passOf_29 ?_
      exact X_iret C E rfl h dX6_passOf_31
    · have h := h.2 c
      refine X_iload_n C 3 3 dX6_passOf_20 rfl rfl ?_
      refine X_iconst C (0 : Int32) dX6_passOf_21 (by decide) ?_
      refine X_iconst C (5 : Int32) dX6_passOf_22 (by decide) ?_
      refine X_callSi C eX6_isOutside [.int a3, .int (0 : Int32), .int (5 : Int32)] [] (M_X6_isOutside C.g_J hFu h) q_210 rfl ⟨(Nat.le_of_ble_eq_true rfl), (Nat.le_of_ble_eq_true rfl)⟩ rfl (Nat.le_of_ble_eq_true rfl) dX6_passOf_23 (fun r6 S5 h => ?_)
      refine X_if_eq C 32 dX6_passOf_26 (by decide) (fun c => ?_) (fun c => ?_)
      · have h := h.1 c
        refine X_aload_n C 0 0 dX6_passOf_32 rfl rfl ?_
        refine X_callVe C eX6_passesNow [] [] (M_X6_passesNow C.g_J hFu h) (hFu _ (by decide)) (wc_0 _ _) rfl q_353 rfl ⟨(Nat.le_of_ble_eq_true rfl), (Nat.le_of_ble_eq_true rfl)⟩ rfl (Nat.le_of_ble_eq_true rfl) dX6_passOf_33 (fun r8 S7 h => ?_)
        obtain ⟨hr, h⟩ := h
        subst hr
        refine X_some ?_
        refine X_iload_n C 1 1 dX6_passOf_36 rfl rfl ?_
        refine X_iload_n C 2 2 dX6_passOf_37 rfl rfl ?_
        refine X_callVi C eX2_find [.int a1, .int a2] [] (M_X2_find C.g_J hFu h) (hFu _ (by decide)) (wc_33 _ _) rfl q_432 rfl ⟨(Nat.le_of_ble_eq_true rfl), (Nat.le_of_ble_eq_true rfl)⟩ rfl (Nat.le_of_ble_eq_true rfl) dX6_passOf_38 (fun r10 S9 h => ?_)
        refine X_istore C [(4, .int r10), (0, .ref (xad (kG κ) 0)), (1, .int a1), (2, .int a2), (3, .int a3)] dX6_passOf_41 (by decide) rfl ?_
        refine X_iload C 0 dX6_passOf_43 rfl ?_
        refine X_if_ge C 53 dX6_passOf_45 (by decide) (fun c => ?_) (fun c => ?_)
        · have h := h.1 c
          refine X_aload_n C 0 1 dX6_passOf_53 rfl rfl ?_
          refine X_get C (hFu _ (by decide)) (wc_0 _ _) rfl inX6 2 (by decide) q_192 rfl dX6_passOf_54 ?_
          refine X_getN C (hFu _ (by decide)) (wc_33 _ _) rfl inX2 1 (by decide) z_118 rfl dX6_passOf_57 ?_
          refine X_iload C 0 dX6_passOf_60 rfl ?_
          refine X_iload_n C 3 4 dX6_passOf_62 rfl rfl ?_
          refine X_callVi C eX4_at [.int r10, .int a3] [] (M_X4_at C.g_J (hFu.tab (by decide)) h) (hFu _ (by decide)) (wc_34 _ _) rfl q_352 rfl ⟨(Nat.le_of_ble_eq_true rfl), (Nat.le_of_ble_eq_true rfl)⟩ rfl (Nat.le_of_ble_eq_true rfl) dX6_passOf_63 (fun r12 S11 h => ?_)
          exact X_iret C E rfl h dX6_passOf_66
        · have h := h.2 c
          refine X_ldc C (-1000004 : Int32) q_288 dX6_passOf_48 ?_
          refine X_goto C 66 dX6_passOf_50 (by decide) ?_
          exact X_iret C E rfl h dX6_passOf_66
      · have h := h.2 c
        refine X_ldc C (-1000001 : Int32) q_213 dX6_passOf_29 ?_
        exact X_iret C E rfl h dX6_passOf_31
set_option maxRecDepth 100000 in
set_option maxHeartbeats 4000000 in
theorem M_X6_spillOf {l : Launch} {G : XG} (hJ : XJ G) (hFu : XF G) {S : Mem} {a1 : Int32} {a2 : Int32} {K : Int32 → Mem → Prop} (h : P_X6_spillOf S a1 a2 K) : XMi l G yX6_spillOf cX6_spillOf 4 .int 139 3163 [.ref (xad G 0), .int a1, .int a2] S K := by
  refine X_meth RX6 rfl (by decide +kernel) hJ (Nat.le_of_ble_eq_true rfl) (fun κ hl hG C E => ?_)
  subst hl hG
  show XW κ S 0 [(0, .ref (xad (kG κ) 0)), (1, .int a1), (2, .int a2)] []
  refine X_iload_n C 1 1 dX6_spillOf_0 rfl rfl ?_
  refine X_if_lt C 13 dX6_spillOf_1 (by decide) (fun c => ?_) (fun c => ?_)
  · have h := h.1 c
    refine X_ldc C (-1000001 : Int32) q_213 dX6_spillOf_13 ?_
    exact X_iret C E rfl h dX6_spillOf_15
  · have h := h.2 c
    refine X_iload_n C 2 2 dX6_spillOf_4 rfl rfl ?_
    refine X_iconst C (0 : Int32) dX6_spillOf_5 (by decide) ?_
    refine X_iconst C (4 : Int32) dX6_spillOf_6 (by decide) ?_
    refine X_callSi C eX6_isOutside [.int a2, .int (0 : Int32), .int (4 : Int32)] [] (M_X6_isOutside C.g_J hFu h) q_210 rfl ⟨(Nat.le_of_ble_eq_true rfl), (Nat.le_of_ble_eq_true rfl)⟩ rfl (Nat.le_of_ble_eq_true rfl) dX6_spillOf_7 (fun r2 S1 h => ?_)
    refine X_if_eq C 16 dX6_spillOf_10 (by decide) (fun c => ?_) (fun c => ?_)
    · have h := h.1 c
      refine X_aload_n C 0 0 dX6_spillOf_16 rfl rfl ?_
      refine X_callVe C eX6_passesNow [] [] (M_X6_passesNow C.g_J hFu h) (hFu _ (by decide)) (wc_0 _ _) rfl q_353 rfl ⟨(Nat.le_of_ble_eq_true rfl), (Nat.le_of_ble_eq_true rfl)⟩ rfl (Nat.le_of_ble_eq_true rfl) dX6_spillOf_17 (fun r4 S3 h => ?_)
      obtain ⟨hr, h⟩ := h
      subst hr
      refine X_some ?_
      refine X_getN C (hFu _ (by decide)) (wc_33 _ _) rfl inX2 2 (by decide) z_120 rfl dX6_spillOf_20 ?_
      refine X_astore_n C 3 [(3, .ref (xad (kG κ) 36)), (0, .ref (xad (kG κ) 0)), (1, .int a1), (2, .int a2)] dX6_spillOf_23 rfl (by decide) rfl ?_
      refine X_iload_n C 1 2 dX6_spillOf_24 rfl rfl ?_
      refine X_aload_n C 3 0 dX6_spillOf_25 rfl rfl ?_
      refine X_callVi C eX4_length [] [.int a1] (M_X4_length C.g_J (hFu.tab (by decide)) h) (hFu _ (by decide)) (wc_36 _ _) rfl q_214 rfl ⟨(Nat.le_of_ble_eq_true rfl), (Nat.le_of_ble_eq_true rfl)⟩ rfl (Nat.le_of_ble_eq_true rfl) dX6_spillOf_26 (fun r6 S5 h => ?_)
      refine X_icmp_lt C 37 dX6_spillOf_29 (by decide) (fun c => ?_) (fun c => ?_)
      · have h := h.1 c
        refine X_aload_n C 3 0 dX6_spillOf_37 rfl rfl ?_
        refine X_iload_n C 1 2 dX6_spillOf_38 rfl rfl ?_
        refine X_iload_n C 2 3 dX6_spillOf_39 rfl rfl ?_
        refine X_callVi C eX4_at [.int a1, .int a2] [] (M_X4_at C.g_J (hFu.tab (by decide)) h) (hFu _ (by decide)) (wc_36 _ _) rfl q_352 rfl ⟨(Nat.le_of_ble_eq_true rfl), (Nat.le_of_ble_eq_true rfl)⟩ rfl (Nat.le_of_ble_eq_true rfl) dX6_spillOf_40 (fun r8 S7 h => ?_)
        exact X_iret C E rfl h dX6_spillOf_43
      · have h := h.2 c
        refine X_ldc C (-1000004 : Int32) q_288 dX6_spillOf_32 ?_
        refine X_goto C 43 dX6_spillOf_34 (by decide) ?_
        exact X_iret C E rfl h dX6_spillOf_43
    · have h := h.2 c
      refine X_ldc C (-1000001 : Int32) q_213 dX6_spillOf_13 ?_
      exact X_iret C E rfl h dX6_spillOf_15
set_option maxRecDepth 100000 in
set_option maxHeartbeats 4000000 in
theorem M_X6_total {l : Launch} {G : XG} (hJ : XJ G) (hFu : XF G) {S : Mem} {a1 : Int32} {K : Int32 → Mem → Prop} (h : P_X6_total S a1 K) : XMi l G yX6_total cX6_total 3 .int 139 3163 [.ref (xad G 0), .int a1] S K := by
  refine X_meth RX6 rfl (by decide +kernel) hJ (Nat.le_of_ble_eq_true rfl) (fun κ hl hG C E => ?_)
  subst hl hG
  show XW κ S 0 [(0, .ref (xad (kG κ) 0)), (1, .int a1)] []
  refine X_aload_n C 0 0 dX6_total_0 rfl rfl ?_
  refine X_callVe C eX6_passesNow [] [] (M_X6_passesNow C.g_J hFu h) (hFu _ (by decide)) (wc_0 _ _) rfl q_353 rfl ⟨(Nat.le_of_ble_eq_true rfl), (Nat.le_of_ble_eq_true rfl)⟩ rfl (Nat.le_of_ble_eq_true rfl) dX6_total_1 (fun r2 S1 h => ?_)
  obtain ⟨hr, h⟩ := h
  subst hr
  refine X_some ?_
  refine X_astore_n C 2 [(2, .ref (xad (kG κ) 33)), (0, .ref (xad (kG κ) 0)), (1, .int a1)] dX6_total_4 rfl (by decide) rfl ?_
  refine X_iload_n C 1 2 dX6_total_5 rfl rfl ?_
  by_cases c0 : a1 = (0 : Int32)
  · have h := h.1 c0
    refine X_tin (off := 46) C 52 dX6_total_6 (by rw [c0]; decide) (by rw [c0]; decide) (by rw [c0]; rfl) (by decide) ?_
    refine X_aload_n C 2 0 dX6_total_52 rfl rfl ?_
    refine X_getN C (hFu _ (by decide)) (wc_33 _ _) rfl inX2 4 (by decide) z_124 rfl dX6_total_53 ?_
    refine X_callVi C eX4_length [] [] (M_X4_length C.g_J (hFu.tab (by decide)) h) (hFu _ (by decide)) (wc_40 _ _) rfl q_214 rfl ⟨(Nat.le_of_ble_eq_true rfl), (Nat.le_of_ble_eq_true rfl)⟩ rfl (Nat.le_of_ble_eq_true rfl) dX6_total_56 (fun r4 S3 h => ?_)
    exact X_iret C E rfl h dX6_total_59
  by_cases c1 : a1 = (1 : Int32)
  · have h := h.2.1 c1
    refine X_tin (off := 54) C 60 dX6_total_6 (by rw [c1]; decide) (by rw [c1]; decide) (by rw [c1]; rfl) (by decide) ?_
    refine X_aload_n C 2 0 dX6_total_60 rfl rfl ?_
    refine X_getN C (hFu _ (by decide)) (wc_33 _ _) rfl inX2 1 (by decide) z_118 rfl dX6_total_61 ?_
    refine X_callVi C eX4_length [] [] (M_X4_length C.g_J (hFu.tab (by decide)) h) (hFu _ (by decide)) (wc_34 _ _) rfl q_214 rfl ⟨(Nat.le_of_ble_eq_true rfl), (Nat.le_of_ble_eq_true rfl)⟩ rfl (Nat.le_of_ble_eq_true rfl) dX6_total_64 (fun r6 S5 h => ?_)
    exact X_iret C E rfl h dX6_total_67
  by_cases c2 : a1 = (2 : Int32)
  · have h := h.2.2.1 c2
    refine X_tin (off := 62) C 68 dX6_total_6 (by rw [c2]; decide) (by rw [c2]; decide) (by rw [c2]; rfl) (by decide) ?_
    refine X_aload_n C 2 0 dX6_total_68 rfl rfl ?_
    refine X_getN C (hFu _ (by decide)) (wc_33 _ _) rfl inX2 2 (by decide) z_120 rfl dX6_total_69 ?_
    refine X_callVi C eX4_length [] [] (M_X4_length C.g_J (hFu.tab (by decide)) h) (hFu _ (by decide)) (wc_36 _ _) rfl q_214 rfl ⟨(Nat.le_of_ble_eq_true rfl), (Nat.le_of_ble_eq_true rfl)⟩ rfl (Nat.le_of_ble_eq_true rfl) dX6_total_72 (fun r8 S7 h => ?_)
    exact X_iret C E rfl h dX6_total_75
  by_cases c3 : a1 = (3 : Int32)
  · have h := h.2.2.2.1 c3
    refine X_tin (off := 70) C 76 dX6_total_6 (by rw [c3]; decide) (by rw [c3]; decide) (by rw [c3]; rfl) (by decide) ?_
    refine X_aload_n C 2 0 dX6_total_76 rfl rfl ?_
    refine X_callVi C eX2_itemsFiled [] [] (M_X2_itemsFiled C.g_J hFu h) (hFu _ (by decide)) (wc_33 _ _) rfl q_444 rfl ⟨(Nat.le_of_ble_eq_true rfl), (Nat.le_of_ble_eq_true rfl)⟩ rfl (Nat.le_of_ble_eq_true rfl) dX6_total_77 (fun r10 S9 h => ?_)
    exact X_iret C E rfl h dX6_total_80
  by_cases c4 : a1 = (4 : Int32)
  · have h := h.2.2.2.2.1 c4
    refine X_tin (off := 75) C 81 dX6_total_6 (by rw [c4]; decide) (by rw [c4]; decide) (by rw [c4]; rfl) (by decide) ?_
    refine X_aload_n C 2 0 dX6_total_81 rfl rfl ?_
    refine X_callVi C eX2_itemsRead [] [] (M_X2_itemsRead C.g_J hFu h) (hFu _ (by decide)) (wc_33 _ _) rfl q_453 rfl ⟨(Nat.le_of_ble_eq_true rfl), (Nat.le_of_ble_eq_true rfl)⟩ rfl (Nat.le_of_ble_eq_true rfl) dX6_total_82 (fun r12 S11 h => ?_)
    exact X_iret C E rfl h dX6_total_85
  by_cases c5 : a1 = (5 : Int32)
  · have h := h.2.2.2.2.2.1 c5
    refine X_tin (off := 80) C 86 dX6_total_6 (by rw [c5]; decide) (by rw [c5]; decide) (by rw [c5]; rfl) (by decide) ?_
    refine X_aload_n C 2 0 dX6_total_86 rfl rfl ?_
    refine X_getN C (hFu _ (by decide)) (wc_33 _ _) rfl inX2 1 (by decide) z_118 rfl dX6_total_87 ?_
    refine X_bipush C (6 : Int32) dX6_total_90 (by decide) ?_
    refine X_callVi C eX4_greatestOf [.int (6 : Int32)] [] (M_X4_greatestOf C.g_J (hFu.tab (by decide)) h) (hFu _ (by decide)) (wc_34 _ _) rfl q_457 rfl ⟨(Nat.le_of_ble_eq_true rfl), (Nat.le_of_ble_eq_true rfl)⟩ rfl (Nat.le_of_ble_eq_true rfl) dX6_total_92 (fun r14 S13 h => ?_)
    exact X_iret C E rfl h dX6_total_95
  by_cases c6 : a1 = (6 : Int32)
  · have h := h.2.2.2.2.2.2.1 c6
    refine X_tin (off := 90) C 96 dX6_total_6 (by rw [c6]; decide) (by rw [c6]; decide) (by rw [c6]; rfl) (by decide) ?_
    refine X_aload_n C 2 0 dX6_total_96 rfl rfl ?_
    refine X_getN C (hFu _ (by decide)) (wc_33 _ _) rfl inX2 1 (by decide) z_118 rfl dX6_total_97 ?_
    refine X_iconst C (4 : Int32) dX6_total_100 (by decide) ?_
    refine X_callVi C eX4_greatestOf [.int (4 : Int32)] [] (M_X4_greatestOf C.g_J (hFu.tab (by decide)) h) (hFu _ (by decide)) (wc_34 _ _) rfl q_457 rfl ⟨(Nat.le_of_ble_eq_true rfl), (Nat.le_of_ble_eq_true rfl)⟩ rfl (Nat.le_of_ble_eq_true rfl) dX6_total_101 (fun r16 S15 h => ?_)
    exact X_iret C E rfl h dX6_total_104
  by_cases c7 : a1 = (7 : Int32)
  · have h := h.2.2.2.2.2.2.2.1 c7
    refine X_tin (off := 99) C 105 dX6_total_6 (by rw [c7]; decide) (by rw [c7]; decide) (by rw [c7]; rfl) (by decide) ?_
    refine X_aload_n C 2 0 dX6_total_105 rfl rfl ?_
    refine X_getN C (hFu _ (by decide)) (wc_33 _ _) rfl inX2 8 (by decide) z_129 rfl dX6_total_106 ?_
    exact X_iret C E rfl h dX6_total_109
  have h := h.2.2.2.2.2.2.2.2 ⟨c0, c1, c2, c3, c4, c5, c6, c7⟩
  have e0 := lv_neT c0 (show ((0 : Int32)).toInt = 0 from rfl)
  have e1 := lv_neT c1 (show ((1 : Int32)).toInt = 1 from rfl)
  have e2 := lv_neT c2 (show ((2 : Int32)).toInt = 2 from rfl)
  have e3 := lv_neT c3 (show ((3 : Int32)).toInt = 3 from rfl)
  have e4 := lv_neT c4 (show ((4 : Int32)).toInt = 4 from rfl)
  have e5 := lv_neT c5 (show ((5 : Int32)).toInt = 5 from rfl)
  have e6 := lv_neT c6 (show ((6 : Int32)).toInt = 6 from rfl)
  have e7 := lv_neT c7 (show ((7 : Int32)).toInt = 7 from rfl)
  refine X_tout C 110 dX6_total_6 (by omega) (by decide) ?_
  refine X_ldc C (-1000001 : Int32) q_213 dX6_total_110 ?_
  exact X_iret C E rfl h dX6_total_112
set_option maxRecDepth 100000 in
set_option maxHeartbeats 4000000 in
theorem M_X6_passesBy {l : Launch} {G : XG} (hJ : XJ G) (hFu : XF G) {S : Mem} {a1 : Int32} {a2 : Int32} {K : Option Nat → Mem → Prop} (h : P_X6_passesBy S a1 a2 K) : XMe l G yX6_passesBy cX6_passesBy 3 (.object "SpilledGroups$Passes") 138 3143 [.ref (xad G 0), .int a1, .int a2] S K := by
  refine X_meth RX6 rfl (by decide +kernel) hJ (Nat.le_of_ble_eq_true rfl) (fun κ hl hG C E => ?_)
  subst hl hG
  show XW κ S 0 [(0, .ref (xad (kG κ) 0)), (1, .int a1), (2, .int a2)] []
  refine X_aload_n C 0 0 dX6_passesBy_0 rfl rfl ?_
  refine X_callVe C eX6_groupsNow [] [] (M_X6_groupsNow C.g_J hFu h) (hFu _ (by decide)) (wc_0 _ _) rfl q_312 rfl ⟨(Nat.le_of_ble_eq_true rfl), (Nat.le_of_ble_eq_true rfl)⟩ rfl (Nat.le_of_ble_eq_true rfl) dX6_passesBy_1 (fun r2 S1 h => ?_)
  obtain ⟨hr, h⟩ := h
  subst hr
  refine X_some ?_
  refine X_pop C dX6_passesBy_4 rfl ?_
  refine X_aload_n C 0 0 dX6_passesBy_5 rfl rfl ?_
  refine X_get C (hFu _ (by decide)) (wc_0 _ _) rfl inX6 2 (by decide) q_192 rfl dX6_passesBy_6 ?_
  refine X_iload_n C 1 1 dX6_passesBy_9 rfl rfl ?_
  refine X_iload_n C 2 2 dX6_passesBy_10 rfl rfl ?_
  refine X_callVv C eX2_run [.int a1, .int a2] [] (M_X2_run C.g_J hFu h) (hFu _ (by decide)) (wc_33 _ _) rfl q_357 rfl ⟨(Nat.le_of_ble_eq_true rfl), (Nat.le_of_ble_eq_true rfl)⟩ rfl (Nat.le_of_ble_eq_true rfl) dX6_passesBy_11 (fun S3 h => ?_)
  refine X_aload_n C 0 0 dX6_passesBy_14 rfl rfl ?_
  refine X_get C (hFu _ (by decide)) (wc_0 _ _) rfl inX6 2 (by decide) q_192 rfl dX6_passesBy_15 ?_
  exact X_aret C E (some 33) rfl h dX6_passesBy_18
set_option maxRecDepth 100000 in
set_option maxHeartbeats 4000000 in
theorem M_X6_written {l : Launch} {G : XG} (hJ : XJ G) (hFu : XF G) {S : Mem} {a1 : Int32} {a2 : Int32} {K : Int32 → Mem → Prop} (h : P_X6_written S a1 a2 K) : XMi l G yX6_written cX6_written 3 .int 139 3165 [.ref (xad G 0), .int a1, .int a2] S K := by
  refine X_meth RX6 rfl (by decide +kernel) hJ (Nat.le_of_ble_eq_true rfl) (fun κ hl hG C E => ?_)
  subst hl hG
  show XW κ S 0 [(0, .ref (xad (kG κ) 0)), (1, .int a1), (2, .int a2)] []
  refine X_iload_n C 1 1 dX6_written_0 rfl rfl ?_
  refine X_iconst C (1 : Int32) dX6_written_1 (by decide) ?_
  refine X_bipush C (12 : Int32) dX6_written_2 (by decide) ?_
  refine X_callSi C eX6_isOutside [.int a1, .int (1 : Int32), .int (12 : Int32)] [] (M_X6_isOutside C.g_J hFu h) q_210 rfl ⟨(Nat.le_of_ble_eq_true rfl), (Nat.le_of_ble_eq_true rfl)⟩ rfl (Nat.le_of_ble_eq_true rfl) dX6_written_4 (fun r2 S1 h => ?_)
  refine X_if_ne C 19 dX6_written_7 (by decide) (fun c => ?_) (fun c => ?_)
  · have h := h.1 c
    refine X_ldc C (-1000001 : Int32) q_213 dX6_written_19 ?_
    exact X_iret C E rfl h dX6_written_21
  · have h := h.2 c
    refine X_iload_n C 2 2 dX6_written_10 rfl rfl ?_
    refine X_iconst C (1 : Int32) dX6_written_11 (by decide) ?_
    refine X_iconst C (4 : Int32) dX6_written_12 (by decide) ?_
    refine X_callSi C eX6_isOutside [.int a2, .int (1 : Int32), .int (4 : Int32)] [] (M_X6_isOutside C.g_J hFu h) q_210 rfl ⟨(Nat.le_of_ble_eq_true rfl), (Nat.le_of_ble_eq_true rfl)⟩ rfl (Nat.le_of_ble_eq_true rfl) dX6_written_13 (fun r4 S3 h => ?_)
    refine X_if_eq C 22 dX6_written_16 (by decide) (fun c => ?_) (fun c => ?_)
    · have h := h.1 c
      refine X_aload_n C 0 0 dX6_written_22 rfl rfl ?_
      refine X_iload_n C 1 1 dX6_written_23 rfl rfl ?_
      refine X_iload_n C 2 2 dX6_written_24 rfl rfl ?_
      refine X_callVe C eX6_passesBy [.int a1, .int a2] [] (M_X6_passesBy C.g_J hFu h) (hFu _ (by decide)) (wc_0 _ _) rfl q_465 rfl ⟨(Nat.le_of_ble_eq_true rfl), (Nat.le_of_ble_eq_true rfl)⟩ rfl (Nat.le_of_ble_eq_true rfl) dX6_written_25 (fun r6 S5 h => ?_)
      obtain ⟨hr, h⟩ := h
      subst hr
      refine X_some ?_
      refine X_callVi C eX2_itemsFiled [] [] (M_X2_itemsFiled C.g_J hFu h) (hFu _ (by decide)) (wc_33 _ _) rfl q_444 rfl ⟨(Nat.le_of_ble_eq_true rfl), (Nat.le_of_ble_eq_true rfl)⟩ rfl (Nat.le_of_ble_eq_true rfl) dX6_written_28 (fun r8 S7 h => ?_)
      exact X_iret C E rfl h dX6_written_31
    · have h := h.2 c
      refine X_ldc C (-1000001 : Int32) q_213 dX6_written_19 ?_
      exact X_iret C E rfl h dX6_written_21
set_option maxRecDepth 100000 in
set_option maxHeartbeats 4000000 in
theorem K_X6_bestBits_76 {κ : Kx} (C : XC κ RX6 cX6_bestBits 7 139 3165) {K : Int32 → Mem → Prop} (E : XRet κ (some .int) (va_Qi K (XB (kG κ)) (XA (kG κ)))) (hFu : XF (kG κ)) {S : Mem} {x2 : Int32} {x3 : Int32} {x4 : Int32} (h : B_X6_bestBits_76 K S x2 x3 x4) : XW κ S 76 [(2, .int x2), (3, .int x3), (4, .int x4)] [] := by
  refine X_iload_n C 2 0 dX6_bestBits_76 rfl rfl ?_
  refine X_if_ne C 84 dX6_bestBits_77 (by decide) (fun c => ?_) (fun c => ?_)
  · have h := h.1 c
    refine X_iload C 2 dX6_bestBits_84 rfl ?_
    exact X_iret C E rfl h dX6_bestBits_86
  · have h := h.2 c
    refine X_iload_n C 3 1 dX6_bestBits_80 rfl rfl ?_
    refine X_goto C 86 dX6_bestBits_81 (by decide) ?_
    exact X_iret C E rfl h dX6_bestBits_86
set_option maxRecDepth 100000 in
set_option maxHeartbeats 4000000 in
theorem K_X6_bestBits_70 {κ : Kx} (C : XC κ RX6 cX6_bestBits 7 139 3165) {K : Int32 → Mem → Prop} (E : XRet κ (some .int) (va_Qi K (XB (kG κ)) (XA (kG κ)))) (hFu : XF (kG κ)) {R38 : Mem → Int32 → Int32 → Int32 → Int32 → Int32 → Prop} (hR38 : ∀ (S : Mem) (x1 x2 x3 x4 x5 : Int32), R38 S x1 x2 x3 x4 x5 → XW κ S 38 [(0, .ref (xad (kG κ) 0)), (1, .int x1), (2, .int x2), (3, .int x3), (4, .int x4), (5, .int x5)] []) {S : Mem} {x1 : Int32} {x2 : Int32} {x3 : Int32} {x4 : Int32} {x5 : Int32} (h : B_X6_bestBits_70 R38 K S x1 x2 x3 x4 x5) : XW κ S 70 [(0, .ref (xad (kG κ) 0)), (1, .int x1), (2, .int x2), (3, .int x3), (4, .int x4), (5, .int x5)] [] := by
  refine X_iinc C (x5 + (1 : Int32)) 5 [(5, .int (x5 + (1 : Int32))), (0, .ref (xad (kG κ) 0)), (1, .int x1), (2, .int x2), (3, .int x3), (4, .int x4)] dX6_bestBits_70 rfl rfl (by decide) rfl ?_
  refine X_goto C 38 dX6_bestBits_73 (by decide) ?_
  refine X_sub [1, 2, 3, 4, 5, 0] rfl ?_
  exact hR38 _ _ _ _ _ _ h
set_option maxRecDepth 100000 in
set_option maxHeartbeats 4000000 in
theorem K_X6_bestBits_38 {κ : Kx} (C : XC κ RX6 cX6_bestBits 7 139 3165) {K : Int32 → Mem → Prop} (E : XRet κ (some .int) (va_Qi K (XB (kG κ)) (XA (kG κ)))) (hFu : XF (kG κ)) : ∀ (n : Nat) (S : Mem) (x1 : Int32) (x2 : Int32) (x3 : Int32) (x4 : Int32) (x5 : Int32), B_X6_bestBits_38 K n S x1 x2 x3 x4 x5 → XW κ S 38 [(0, .ref (xad (kG κ) 0)), (1, .int x1), (2, .int x2), (3, .int x3), (4, .int x4), (5, .int x5)] [] := by
  intro n
  induction n with
  | zero => intro S x1 x2 x3 x4 x5 h; exact h.elim
  | succ n ih =>
    intro S x1 x2 x3 x4 x5 h
    refine X_iload C 5 dX6_bestBits_38 rfl ?_
    refine X_iconst C (4 : Int32) dX6_bestBits_40 (by decide) ?_
    refine X_icmp_gt C 76 dX6_bestBits_41 (by decide) (fun c => ?_) (fun c => ?_)
    · have h := h.1 c
      refine X_sub [2, 3, 4] rfl ?_
      exact K_X6_bestBits_76 C E hFu h
    · have h := h.2 c
      refine X_aload_n C 0 0 dX6_bestBits_44 rfl rfl ?_
      refine X_iload_n C 1 1 dX6_bestBits_45 rfl rfl ?_
      refine X_iload C 5 dX6_bestBits_46 rfl ?_
      refine X_callVe C eX6_passesBy [.int x1, .int x5] [] (M_X6_passesBy C.g_J hFu h) (hFu _ (by decide)) (wc_0 _ _) rfl q_465 rfl ⟨(Nat.le_of_ble_eq_true rfl), (Nat.le_of_ble_eq_true rfl)⟩ rfl (Nat.le_of_ble_eq_true rfl) dX6_bestBits_48 (fun r10 S9 h => ?_)
      obtain ⟨hr, h⟩ := h
      subst hr
      refine X_some ?_
      refine X_callVi C eX2_itemsFiled [] [] (M_X2_itemsFiled C.g_J hFu h) (hFu _ (by decide)) (wc_33 _ _) rfl q_444 rfl ⟨(Nat.le_of_ble_eq_true rfl), (Nat.le_of_ble_eq_true rfl)⟩ rfl (Nat.le_of_ble_eq_true rfl) dX6_bestBits_51 (fun r12 S11 h => ?_)
      refine X_istore C [(6, .int r12), (0, .ref (xad (kG κ) 0)), (1, .int x1), (2, .int x2), (3, .int x3), (4, .int x4), (5, .int x5)] dX6_bestBits_54 (by decide) rfl ?_
      refine X_iload C 0 dX6_bestBits_56 rfl ?_
      refine X_iload C 5 dX6_bestBits_58 rfl ?_
      refine X_icmp_ge C 70 dX6_bestBits_60 (by decide) (fun c => ?_) (fun c => ?_)
      · have h := h.1 c
        refine X_sub [1, 2, 3, 4, 5, 6] rfl ?_
        exact K_X6_bestBits_70 C E hFu (fun _ _ _ _ _ _ h => ih _ _ _ _ _ _ h) h
      · have h := h.2 c
        refine X_iload C 6 dX6_bestBits_63 rfl ?_
        refine X_istore_n C 3 [(3, .int x5), (6, .int r12), (0, .ref (xad (kG κ) 0)), (1, .int x1), (2, .int x2), (4, .int x4), (5, .int x5)] dX6_bestBits_65 rfl (by decide) rfl ?_
        refine X_iload C 1 dX6_bestBits_66 rfl ?_
        refine X_istore C [(4, .int r12), (3, .int x5), (6, .int r12), (0, .ref (xad (kG κ) 0)), (1, .int x1), (2, .int x2), (5, .int x5)] dX6_bestBits_68 (by decide) rfl ?_
        refine X_sub [3, 4, 5, 1, 0, 6] rfl ?_
        exact K_X6_bestBits_70 C E hFu (fun _ _ _ _ _ _ h => ih _ _ _ _ _ _ h) h
set_option maxRecDepth 100000 in
set_option maxHeartbeats 4000000 in
theorem M_X6_bestBits {l : Launch} {G : XG} (hJ : XJ G) (hFu : XF G) {S : Mem} {a1 : Int32} {a2 : Int32} {K : Int32 → Mem → Prop} (h : P_X6_bestBits S a1 a2 K) : XMi l G yX6_bestBits cX6_bestBits 7 .int 139 3165 [.ref (xad G 0), .int a1, .int a2] S K := by
  refine X_meth RX6 rfl (by decide +kernel) hJ (Nat.le_of_ble_eq_true rfl) (fun κ hl hG C E => ?_)
  subst hl hG
  show XW κ S 0 [(0, .ref (xad (kG κ) 0)), (1, .int a1), (2, .int a2)] []
  refine X_iload_n C 1 1 dX6_bestBits_0 rfl rfl ?_
  refine X_iconst C (1 : Int32) dX6_bestBits_1 (by decide) ?_
  refine X_bipush C (12 : Int32) dX6_bestBits_2 (by decide) ?_
  refine X_callSi C eX6_isOutside [.int a1, .int (1 : Int32), .int (12 : Int32)] [] (M_X6_isOutside C.g_J hFu h) q_210 rfl ⟨(Nat.le_of_ble_eq_true rfl), (Nat.le_of_ble_eq_true rfl)⟩ rfl (Nat.le_of_ble_eq_true rfl) dX6_bestBits_4 (fun r2 S1 h => ?_)
  refine X_if_ne C 19 dX6_bestBits_7 (by decide) (fun c => ?_) (fun c => ?_)
  · have h := h.1 c
    refine X_ldc C (-1000001 : Int32) q_213 dX6_bestBits_19 ?_
    exact X_iret C E rfl h dX6_bestBits_21
  · have h := h.2 c
    refine X_iload_n C 2 2 dX6_bestBits_10 rfl rfl ?_
    refine X_iconst C (0 : Int32) dX6_bestBits_11 (by decide) ?_
    refine X_iconst C (1 : Int32) dX6_bestBits_12 (by decide) ?_
    refine X_callSi C eX6_isOutside [.int a2, .int (0 : Int32), .int (1 : Int32)] [] (M_X6_isOutside C.g_J hFu h) q_210 rfl ⟨(Nat.le_of_ble_eq_true rfl), (Nat.le_of_ble_eq_true rfl)⟩ rfl (Nat.le_of_ble_eq_true rfl) dX6_bestBits_13 (fun r4 S3 h => ?_)
    refine X_if_eq C 22 dX6_bestBits_16 (by decide) (fun c => ?_) (fun c => ?_)
    · have h := h.1 c
      refine X_iconst C (1 : Int32) dX6_bestBits_22 (by decide) ?_
      refine X_istore_n C 3 [(3, .int (1 : Int32)), (0, .ref (xad (kG κ) 0)), (1, .int a1), (2, .int a2)] dX6_bestBits_23 rfl (by decide) rfl ?_
      refine X_aload_n C 0 1 dX6_bestBits_24 rfl rfl ?_
      refine X_iload_n C 1 2 dX6_bestBits_25 rfl rfl ?_
      refine X_iconst C (1 : Int32) dX6_bestBits_26 (by decide) ?_
      refine X_callVe C eX6_passesBy [.int a1, .int (1 : Int32)] [] (M_X6_passesBy C.g_J hFu h) (hFu _ (by decide)) (wc_0 _ _) rfl q_465 rfl ⟨(Nat.le_of_ble_eq_true rfl), (Nat.le_of_ble_eq_true rfl)⟩ rfl (Nat.le_of_ble_eq_true rfl) dX6_bestBits_27 (fun r6 S5 h => ?_)
      obtain ⟨hr, h⟩ := h
      subst hr
      refine X_some ?_
      refine X_callVi C eX2_itemsFiled [] [] (M_X2_itemsFiled C.g_J hFu h) (hFu _ (by decide)) (wc_33 _ _) rfl q_444 rfl ⟨(Nat.le_of_ble_eq_true rfl), (Nat.le_of_ble_eq_true rfl)⟩ rfl (Nat.le_of_ble_eq_true rfl) dX6_bestBits_30 (fun r8 S7 h => ?_)
      refine X_istore C [(4, .int r8), (3, .int (1 : Int32)), (0, .ref (xad (kG κ) 0)), (1, .int a1), (2, .int a2)] dX6_bestBits_33 (by decide) rfl ?_
      refine X_iconst C (2 : Int32) dX6_bestBits_35 (by decide) ?_
      refine X_istore C [(5, .int (2 : Int32)), (4, .int r8), (3, .int (1 : Int32)), (0, .ref (xad (kG κ) 0)), (1, .int a1), (2, .int a2)] dX6_bestBits_36 (by decide) rfl ?_
      refine X_sub [3, 4, 5, 2, 1, 0] rfl ?_
      obtain ⟨n13, h⟩ := h
      exact K_X6_bestBits_38 C E hFu n13 _ _ _ _ _ _ h
    · have h := h.2 c
      refine X_ldc C (-1000001 : Int32) q_213 dX6_bestBits_19 ?_
      exact X_iret C E rfl h dX6_bestBits_21
set_option maxRecDepth 100000 in
set_option maxHeartbeats 4000000 in
theorem M_X6_enough {l : Launch} {G : XG} (hJ : XJ G) (hFu : XF G) {S : Mem} {K : Int32 → Mem → Prop} (h : P_X6_enough S K) : XMi l G yX6_enough cX6_enough 2 .int 6 149 [.ref (xad G 0)] S K := by
  refine X_meth RX6 rfl (by decide +kernel) hJ (Nat.le_of_ble_eq_true rfl) (fun κ hl hG C E => ?_)
  subst hl hG
  show XW κ S 0 [(0, .ref (xad (kG κ) 0))] []
  refine X_aload_n C 0 0 dX6_enough_0 rfl rfl ?_
  refine X_callVe C eX6_groupsNow [] [] (M_X6_groupsNow C.g_J hFu h) (hFu _ (by decide)) (wc_0 _ _) rfl q_312 rfl ⟨(Nat.le_of_ble_eq_true rfl), (Nat.le_of_ble_eq_true rfl)⟩ rfl (Nat.le_of_ble_eq_true rfl) dX6_enough_1 (fun r2 S1 h => ?_)
  obtain ⟨hr, h⟩ := h
  subst hr
  refine X_some ?_
  refine X_getN C (hFu _ (by decide)) (wc_28 _ _) rfl inX0 0 (by decide) z_105 rfl dX6_enough_4 ?_
  refine X_callVi C eX4_length [] [] (M_X4_length C.g_J (hFu.tab (by decide)) h) (hFu _ (by decide)) (wc_29 _ _) rfl q_214 rfl ⟨(Nat.le_of_ble_eq_true rfl), (Nat.le_of_ble_eq_true rfl)⟩ rfl (Nat.le_of_ble_eq_true rfl) dX6_enough_7 (fun r4 S3 h => ?_)
  refine X_iconst C (1 : Int32) dX6_enough_10 (by decide) ?_
  refine X_max C q_477 q_33 q_4 q_34 (Nat.le_of_ble_eq_true rfl) (Nat.le_trans (show _ ≤ 21 from Nat.le_of_ble_eq_true rfl) (Nat.le_of_ble_eq_true rfl)) dX6_enough_11 ?_
  refine X_istore_n C 1 [(1, .int (if r4 < (1 : Int32) then (1 : Int32) else r4)), (0, .ref (xad (kG κ) 0))] dX6_enough_14 rfl (by decide) rfl ?_
  refine X_iload_n C 1 0 dX6_enough_15 rfl rfl ?_
  refine X_bipush C (12 : Int32) dX6_enough_16 (by decide) ?_
  refine X_icmp_le C 26 dX6_enough_18 (by decide) (fun c => ?_) (fun c => ?_)
  · have h := h.1 c
    refine X_iload_n C 1 0 dX6_enough_26 rfl rfl ?_
    exact X_iret C E rfl h dX6_enough_27
  · have h := h.2 c
    refine X_ldc C (-1000004 : Int32) q_288 dX6_enough_21 ?_
    refine X_goto C 27 dX6_enough_23 (by decide) ?_
    exact X_iret C E rfl h dX6_enough_27
set_option maxRecDepth 100000 in
set_option maxHeartbeats 4000000 in
theorem K_X6_rowsInPart_37 {κ : Kx} (C : XC κ RX6 cX6_rowsInPart 4 3 64) {K : Int32 → Mem → Prop} (E : XRet κ (some .int) (va_Qi K (XB (kG κ)) (XA (kG κ)))) (hFu : XF (kG κ)) {R4 : Mem → Int32 → Int32 → Int32 → Prop} (hR4 : ∀ (S : Mem) (x1 x2 x3 : Int32), R4 S x1 x2 x3 → XW κ S 4 [(0, .ref (xad (kG κ) 0)), (1, .int x1), (2, .int x2), (3, .int x3)] []) {S : Mem} {x1 : Int32} {x2 : Int32} {x3 : Int32} (h : B_X6_rowsInPart_37 R4 K S x1 x2 x3) : XW κ S 37 [(0, .ref (xad (kG κ) 0)), (1, .int x1), (2, .int x2), (3, .int x3)] [] := by
  refine X_iinc C (x3 + (1 : Int32)) 3 [(3, .int (x3 + (1 : Int32))), (0, .ref (xad (kG κ) 0)), (1, .int x1), (2, .int x2)] dX6_rowsInPart_37 rfl rfl (by decide) rfl ?_
  refine X_goto C 4 dX6_rowsInPart_40 (by decide) ?_
  refine X_sub [1, 2, 3, 0] rfl ?_
  exact hR4 _ _ _ _ h
set_option maxRecDepth 100000 in
set_option maxHeartbeats 4000000 in
theorem K_X6_rowsInPart_4 {κ : Kx} (C : XC κ RX6 cX6_rowsInPart 4 3 64) {K : Int32 → Mem → Prop} (E : XRet κ (some .int) (va_Qi K (XB (kG κ)) (XA (kG κ)))) (hFu : XF (kG κ)) : ∀ (n : Nat) (S : Mem) (x1 : Int32) (x2 : Int32) (x3 : Int32), B_X6_rowsInPart_4 K n S x1 x2 x3 → XW κ S 4 [(0, .ref (xad (kG κ) 0)), (1, .int x1), (2, .int x2), (3, .int x3)] [] := by
  intro n
  induction n with
  | zero => intro S x1 x2 x3 h; exact h.elim
  | succ n ih =>
    intro S x1 x2 x3 h
    refine X_iload_n C 3 3 dX6_rowsInPart_4 rfl rfl ?_
    refine X_aload_n C 0 0 dX6_rowsInPart_5 rfl rfl ?_
    refine X_get C (hFu _ (by decide)) (wc_0 _ _) rfl inX6 0 (by decide) q_190 rfl dX6_rowsInPart_6 ?_
    refine X_getN C (hFu _ (by decide)) (wc_1 _ _) rfl inX3 0 (by decide) z_62 rfl dX6_rowsInPart_9 ?_
    refine X_callVi C eX4_length [] [.int x3] (M_X4_length C.g_J (hFu.tab (by decide)) h) (hFu _ (by decide)) (wc_2 _ _) rfl q_214 rfl ⟨(Nat.le_of_ble_eq_true rfl), (Nat.le_of_ble_eq_true rfl)⟩ rfl (Nat.le_of_ble_eq_true rfl) dX6_rowsInPart_12 (fun r2 S1 h => ?_)
    refine X_icmp_ge C 43 dX6_rowsInPart_15 (by decide) (fun c => ?_) (fun c => ?_)
    · have h := h.1 c
      refine X_iload_n C 2 2 dX6_rowsInPart_43 rfl rfl ?_
      exact X_iret C E rfl h dX6_rowsInPart_44
    · have h := h.2 c
      refine X_aload_n C 0 0 dX6_rowsInPart_18 rfl rfl ?_
      refine X_aload_n C 0 0 dX6_rowsInPart_19 rfl rfl ?_
      refine X_get C (hFu _ (by decide)) (wc_0 _ _) rfl inX6 0 (by decide) q_190 rfl dX6_rowsInPart_20 ?_
      refine X_iload_n C 3 3 dX6_rowsInPart_23 rfl rfl ?_
      refine X_callVi C eX3_hashOf [.int x3] [.ref (xad (kG κ) 0)] (M_X3_hashOf C.g_J hFu (by decide) h) (hFu _ (by decide)) (wc_1 _ _) rfl q_297 rfl ⟨(Nat.le_of_ble_eq_true rfl), (Nat.le_of_ble_eq_true rfl)⟩ rfl (Nat.le_of_ble_eq_true rfl) dX6_rowsInPart_24 (fun r4 S3 h => ?_)
      refine X_callVi C eX6_firstPart [.int r4] [] (M_X6_firstPart C.g_J hFu h) (hFu _ (by decide)) (wc_0 _ _) rfl q_304 rfl ⟨(Nat.le_of_ble_eq_true rfl), (Nat.le_of_ble_eq_true rfl)⟩ rfl (Nat.le_of_ble_eq_true rfl) dX6_rowsInPart_27 (fun r6 S5 h => ?_)
      refine X_iload_n C 1 1 dX6_rowsInPart_30 rfl rfl ?_
      refine X_icmp_ne C 37 dX6_rowsInPart_31 (by decide) (fun c => ?_) (fun c => ?_)
      · have h := h.1 c
        exact K_X6_rowsInPart_37 C E hFu (fun _ _ _ _ h => ih _ _ _ _ h) h
      · have h := h.2 c
        refine X_iinc C (x2 + (1 : Int32)) 2 [(2, .int (x2 + (1 : Int32))), (0, .ref (xad (kG κ) 0)), (1, .int x1), (3, .int x3)] dX6_rowsInPart_34 rfl rfl (by decide) rfl ?_
        refine X_sub [1, 2, 0, 3] rfl ?_
        exact K_X6_rowsInPart_37 C E hFu (fun _ _ _ _ h => ih _ _ _ _ h) h
set_option maxRecDepth 100000 in
set_option maxHeartbeats 4000000 in
theorem M_X6_rowsInPart {l : Launch} {G : XG} (hJ : XJ G) (hFu : XF G) {S : Mem} {a1 : Int32} {K : Int32 → Mem → Prop} (h : P_X6_rowsInPart S a1 K) : XMi l G yX6_rowsInPart cX6_rowsInPart 4 .int 3 64 [.ref (xad G 0), .int a1] S K := by
  refine X_meth RX6 rfl (by decide +kernel) hJ (Nat.le_of_ble_eq_true rfl) (fun κ hl hG C E => ?_)
  subst hl hG
  show XW κ S 0 [(0, .ref (xad (kG κ) 0)), (1, .int a1)] []
  refine X_iconst C (0 : Int32) dX6_rowsInPart_0 (by decide) ?_
  refine X_istore_n C 2 [(2, .int (0 : Int32)), (0, .ref (xad (kG κ) 0)), (1, .int a1)] dX6_rowsInPart_1 rfl (by decide) rfl ?_
  refine X_iconst C (0 : Int32) dX6_rowsInPart_2 (by decide) ?_
  refine X_istore_n C 3 [(3, .int (0 : Int32)), (2, .int (0 : Int32)), (0, .ref (xad (kG κ) 0)), (1, .int a1)] dX6_rowsInPart_3 rfl (by decide) rfl ?_
  refine X_sub [2, 3, 1, 0] rfl ?_
  obtain ⟨n7, h⟩ := h
  exact K_X6_rowsInPart_4 C E hFu n7 _ _ _ _ h
set_option maxRecDepth 100000 in
set_option maxHeartbeats 4000000 in
theorem K_X6_groupsInPart_40 {κ : Kx} (C : XC κ RX6 cX6_groupsInPart 5 6 149) {K : Int32 → Mem → Prop} (E : XRet κ (some .int) (va_Qi K (XB (kG κ)) (XA (kG κ)))) (hFu : XF (kG κ)) {R13 : Mem → Int32 → Int32 → Int32 → Prop} (hR13 : ∀ (S : Mem) (x1 x3 x4 : Int32), R13 S x1 x3 x4 → XW κ S 13 [(0, .ref (xad (kG κ) 0)), (1, .int x1), (2, .ref (xad (kG κ) 29)), (3, .int x3), (4, .int x4)] []) {S : Mem} {x1 : Int32} {x3 : Int32} {x4 : Int32} (h : B_X6_groupsInPart_40 R13 K S x1 x3 x4) : XW κ S 40 [(0, .ref (xad (kG κ) 0)), (1, .int x1), (2, .ref (xad (kG κ) 29)), (3, .int x3), (4, .int x4)] [] := by
  refine X_iinc C (x4 + (1 : Int32)) 4 [(4, .int (x4 + (1 : Int32))), (0, .ref (xad (kG κ) 0)), (1, .int x1), (2, .ref (xad (kG κ) 29)), (3, .int x3)] dX6_groupsInPart_40 rfl rfl (by decide) rfl ?_
  refine X_goto C 13 dX6_groupsInPart_43 (by decide) ?_
  refine X_sub [1, 2, 3, 4, 0] rfl ?_
  exact hR13 _ _ _ _ h
set_option maxRecDepth 100000 in
set_option maxHeartbeats 4000000 in
theorem K_X6_groupsInPart_13 {κ : Kx} (C : XC κ RX6 cX6_groupsInPart 5 6 149) {K : Int32 → Mem → Prop} (E : XRet κ (some .int) (va_Qi K (XB (kG κ)) (XA (kG κ)))) (hFu : XF (kG κ)) : ∀ (n : Nat) (S : Mem) (x1 : Int32) (x3 : Int32) (x4 : Int32), B_X6_groupsInPart_13 K n S x1 x3 x4 → XW κ S 13 [(0, .ref (xad (kG κ) 0)), (1, .int x1), (2, .ref (xad (kG κ) 29)), (3, .int x3), (4, .int x4)] [] := by
  intro n
  induction n with
  | zero => intro S x1 x3 x4 h; exact h.elim
  | succ n ih =>
    intro S x1 x3 x4 h
    refine X_iload C 4 dX6_groupsInPart_13 rfl ?_
    refine X_aload_n C 2 2 dX6_groupsInPart_15 rfl rfl ?_
    refine X_callVi C eX4_length [] [.int x4] (M_X4_length C.g_J (hFu.tab (by decide)) h) (hFu _ (by decide)) (wc_29 _ _) rfl q_214 rfl ⟨(Nat.le_of_ble_eq_true rfl), (Nat.le_of_ble_eq_true rfl)⟩ rfl (Nat.le_of_ble_eq_true rfl) dX6_groupsInPart_16 (fun r4 S3 h => ?_)
    refine X_icmp_ge C 46 dX6_groupsInPart_19 (by decide) (fun c => ?_) (fun c => ?_)
    · have h := h.1 c
      refine X_iload_n C 3 3 dX6_groupsInPart_46 rfl rfl ?_
      exact X_iret C E rfl h dX6_groupsInPart_47
    · have h := h.2 c
      refine X_aload_n C 0 0 dX6_groupsInPart_22 rfl rfl ?_
      refine X_aload_n C 2 2 dX6_groupsInPart_23 rfl rfl ?_
      refine X_iload C 4 dX6_groupsInPart_24 rfl ?_
      refine X_iconst C (5 : Int32) dX6_groupsInPart_26 (by decide) ?_
      refine X_callVi C eX4_at [.int x4, .int (5 : Int32)] [.ref (xad (kG κ) 0)] (M_X4_at C.g_J (hFu.tab (by decide)) h) (hFu _ (by decide)) (wc_29 _ _) rfl q_352 rfl ⟨(Nat.le_of_ble_eq_true rfl), (Nat.le_of_ble_eq_true rfl)⟩ rfl (Nat.le_of_ble_eq_true rfl) dX6_groupsInPart_27 (fun r6 S5 h => ?_)
      refine X_callVi C eX6_firstPart [.int r6] [] (M_X6_firstPart C.g_J hFu h) (hFu _ (by decide)) (wc_0 _ _) rfl q_304 rfl ⟨(Nat.le_of_ble_eq_true rfl), (Nat.le_of_ble_eq_true rfl)⟩ rfl (Nat.le_of_ble_eq_true rfl) dX6_groupsInPart_30 (fun r8 S7 h => ?_)
      refine X_iload_n C 1 1 dX6_groupsInPart_33 rfl rfl ?_
      refine X_icmp_ne C 40 dX6_groupsInPart_34 (by decide) (fun c => ?_) (fun c => ?_)
      · have h := h.1 c
        exact K_X6_groupsInPart_40 C E hFu (fun _ _ _ _ h => ih _ _ _ _ h) h
      · have h := h.2 c
        refine X_iinc C (x3 + (1 : Int32)) 3 [(3, .int (x3 + (1 : Int32))), (0, .ref (xad (kG κ) 0)), (1, .int x1), (2, .ref (xad (kG κ) 29)), (4, .int x4)] dX6_groupsInPart_37 rfl rfl (by decide) rfl ?_
        refine X_sub [1, 2, 3, 0, 4] rfl ?_
        exact K_X6_groupsInPart_40 C E hFu (fun _ _ _ _ h => ih _ _ _ _ h) h
set_option maxRecDepth 100000 in
set_option maxHeartbeats 4000000 in
theorem M_X6_groupsInPart {l : Launch} {G : XG} (hJ : XJ G) (hFu : XF G) {S : Mem} {a1 : Int32} {K : Int32 → Mem → Prop} (h : P_X6_groupsInPart S a1 K) : XMi l G yX6_groupsInPart cX6_groupsInPart 5 .int 6 149 [.ref (xad G 0), .int a1] S K := by
  refine X_meth RX6 rfl (by decide +kernel) hJ (Nat.le_of_ble_eq_true rfl) (fun κ hl hG C E => ?_)
  subst hl hG
  show XW κ S 0 [(0, .ref (xad (kG κ) 0)), (1, .int a1)] []
  refine X_aload_n C 0 0 dX6_groupsInPart_0 rfl rfl ?_
  refine X_callVe C eX6_groupsNow [] [] (M_X6_groupsNow C.g_J hFu h) (hFu _ (by decide)) (wc_0 _ _) rfl q_312 rfl ⟨(Nat.le_of_ble_eq_true rfl), (Nat.le_of_ble_eq_true rfl)⟩ rfl (Nat.le_of_ble_eq_true rfl) dX6_groupsInPart_1 (fun r2 S1 h => ?_)
  obtain ⟨hr, h⟩ := h
  subst hr
  refine X_some ?_
  refine X_getN C (hFu _ (by decide)) (wc_28 _ _) rfl inX0 0 (by decide) z_105 rfl dX6_groupsInPart_4 ?_
  refine X_astore_n C 2 [(2, .ref (xad (kG κ) 29)), (0, .ref (xad (kG κ) 0)), (1, .int a1)] dX6_groupsInPart_7 rfl (by decide) rfl ?_
  refine X_iconst C (0 : Int32) dX6_groupsInPart_8 (by decide) ?_
  refine X_istore_n C 3 [(3, .int (0 : Int32)), (2, .ref (xad (kG κ) 29)), (0, .ref (xad (kG κ) 0)), (1, .int a1)] dX6_groupsInPart_9 rfl (by decide) rfl ?_
  refine X_iconst C (0 : Int32) dX6_groupsInPart_10 (by decide) ?_
  refine X_istore C [(4, .int (0 : Int32)), (3, .int (0 : Int32)), (2, .ref (xad (kG κ) 29)), (0, .ref (xad (kG κ) 0)), (1, .int a1)] dX6_groupsInPart_11 (by decide) rfl ?_
  refine X_sub [3, 4, 2, 1, 0] rfl ?_
  obtain ⟨n9, h⟩ := h
  exact K_X6_groupsInPart_13 C E hFu n9 _ _ _ _ h
set_option maxRecDepth 100000 in
set_option maxHeartbeats 4000000 in
theorem K_X6_skewed_76 {κ : Kx} (C : XC κ RX6 cX6_skewed 6 7 173) {K : Int32 → Mem → Prop} (E : XRet κ (some .int) (va_Qi K (XB (kG κ)) (XA (kG κ)))) (hFu : XF (kG κ)) {S : Mem} {x1 : Int32} {x2 : Int32} {x3 : Int32} (h : B_X6_skewed_76 K S x1 x2 x3) : XW κ S 76 [(0, .ref (xad (kG κ) 0)), (1, .int x1), (2, .int x2), (3, .int x3)] [] := by
  refine X_iload_n C 1 1 dX6_skewed_76 rfl rfl ?_
  refine X_if_ne C 82 dX6_skewed_77 (by decide) (fun c => ?_) (fun c => ?_)
  · have h := h.1 c
    refine X_iload_n C 1 1 dX6_skewed_82 rfl rfl ?_
    refine X_iconst C (1 : Int32) dX6_skewed_83 (by decide) ?_
    refine X_icmp_ne C 91 dX6_skewed_84 (by decide) (fun c => ?_) (fun c => ?_)
    · have h := h.1 c
      refine X_aload_n C 0 0 dX6_skewed_91 rfl rfl ?_
      refine X_iload_n C 2 2 dX6_skewed_92 rfl rfl ?_
      refine X_callVi C eX6_groupsInPart [.int x2] [] (M_X6_groupsInPart C.g_J hFu h) (hFu _ (by decide)) (wc_0 _ _) rfl q_486 rfl ⟨(Nat.le_of_ble_eq_true rfl), (Nat.le_of_ble_eq_true rfl)⟩ rfl (Nat.le_of_ble_eq_true rfl) dX6_skewed_93 (fun r8 S7 h => ?_)
      exact X_iret C E rfl h dX6_skewed_96
    · have h := h.2 c
      refine X_iload_n C 3 3 dX6_skewed_87 rfl rfl ?_
      refine X_goto C 96 dX6_skewed_88 (by decide) ?_
      exact X_iret C E rfl h dX6_skewed_96
  · have h := h.2 c
    refine X_iload_n C 2 2 dX6_skewed_80 rfl rfl ?_
    exact X_iret C E rfl h dX6_skewed_81
set_option maxRecDepth 100000 in
set_option maxHeartbeats 4000000 in
theorem K_X6_skewed_70 {κ : Kx} (C : XC κ RX6 cX6_skewed 6 7 173) {K : Int32 → Mem → Prop} (E : XRet κ (some .int) (va_Qi K (XB (kG κ)) (XA (kG κ)))) (hFu : XF (kG κ)) {R35 : Mem → Int32 → Int32 → Int32 → Int32 → Prop} (hR35 : ∀ (S : Mem) (x1 x2 x3 x4 : Int32), R35 S x1 x2 x3 x4 → XW κ S 35 [(0, .ref (xad (kG κ) 0)), (1, .int x1), (2, .int x2), (3, .int x3), (4, .int x4)] []) {S : Mem} {x1 : Int32} {x2 : Int32} {x3 : Int32} {x4 : Int32} (h : B_X6_skewed_70 R35 K S x1 x2 x3 x4) : XW κ S 70 [(0, .ref (xad (kG κ) 0)), (1, .int x1), (2, .int x2), (3, .int x3), (4, .int x4)] [] := by
  refine X_iinc C (x4 + (1 : Int32)) 4 [(4, .int (x4 + (1 : Int32))), (0, .ref (xad (kG κ) 0)), (1, .int x1), (2, .int x2), (3, .int x3)] dX6_skewed_70 rfl rfl (by decide) rfl ?_
  refine X_goto C 35 dX6_skewed_73 (by decide) ?_
  refine X_sub [1, 2, 3, 4, 0] rfl ?_
  exact hR35 _ _ _ _ _ h
set_option maxRecDepth 100000 in
set_option maxHeartbeats 4000000 in
theorem K_X6_skewed_35 {κ : Kx} (C : XC κ RX6 cX6_skewed 6 7 173) {K : Int32 → Mem → Prop} (E : XRet κ (some .int) (va_Qi K (XB (kG κ)) (XA (kG κ)))) (hFu : XF (kG κ)) : ∀ (n : Nat) (S : Mem) (x1 : Int32) (x2 : Int32) (x3 : Int32) (x4 : Int32), B_X6_skewed_35 K n S x1 x2 x3 x4 → XW κ S 35 [(0, .ref (xad (kG κ) 0)), (1, .int x1), (2, .int x2), (3, .int x3), (4, .int x4)] [] := by
  intro n
  induction n with
  | zero => intro S x1 x2 x3 x4 h; exact h.elim
  | succ n ih =>
    intro S x1 x2 x3 x4 h
    refine X_iload C 4 dX6_skewed_35 rfl ?_
    refine X_iconst C (1 : Int32) dX6_skewed_37 (by decide) ?_
    refine X_aload_n C 0 0 dX6_skewed_38 rfl rfl ?_
    refine X_get C (hFu _ (by decide)) (wc_0 _ _) rfl inX6 0 (by decide) q_190 rfl dX6_skewed_39 ?_
    refine X_iconst C (1 : Int32) dX6_skewed_42 (by decide) ?_
    refine X_callVi C eX3_setting [.int (1 : Int32)] [.int (1 : Int32), .int x4] (M_X3_setting C.g_J hFu (by decide) h) (hFu _ (by decide)) (wc_1 _ _) rfl q_275 rfl ⟨(Nat.le_of_ble_eq_true rfl), (Nat.le_of_ble_eq_true rfl)⟩ rfl (Nat.le_of_ble_eq_true rfl) dX6_skewed_43 (fun r6 S5 h => ?_)
    refine X_ishl C dX6_skewed_46 ?_
    refine X_icmp_ge C 76 dX6_skewed_47 (by decide) (fun c => ?_) (fun c => ?_)
    · have h := h.1 c
      refine X_sub [0, 1, 2, 3] rfl ?_
      exact K_X6_skewed_76 C E hFu h
    · have h := h.2 c
      refine X_aload_n C 0 0 dX6_skewed_50 rfl rfl ?_
      refine X_iload C 4 dX6_skewed_51 rfl ?_
      refine X_callVi C eX6_rowsInPart [.int x4] [] (M_X6_rowsInPart C.g_J hFu h) (hFu _ (by decide)) (wc_0 _ _) rfl q_482 rfl ⟨(Nat.le_of_ble_eq_true rfl), (Nat.le_of_ble_eq_true rfl)⟩ rfl (Nat.le_of_ble_eq_true rfl) dX6_skewed_53 (fun r10 S9 h => ?_)
      refine X_istore C [(5, .int r10), (0, .ref (xad (kG κ) 0)), (1, .int x1), (2, .int x2), (3, .int x3), (4, .int x4)] dX6_skewed_56 (by decide) rfl ?_
      refine X_iload C 0 dX6_skewed_58 rfl ?_
      refine X_iload_n C 3 4 dX6_skewed_60 rfl rfl ?_
      refine X_icmp_le C 70 dX6_skewed_61 (by decide) (fun c => ?_) (fun c => ?_)
      · have h := h.1 c
        refine X_sub [1, 2, 3, 4, 5] rfl ?_
        exact K_X6_skewed_70 C E hFu (fun _ _ _ _ _ h => ih _ _ _ _ _ h) h
      · have h := h.2 c
        refine X_iload C 5 dX6_skewed_64 rfl ?_
        refine X_istore_n C 2 [(2, .int x4), (5, .int r10), (0, .ref (xad (kG κ) 0)), (1, .int x1), (3, .int x3), (4, .int x4)] dX6_skewed_66 rfl (by decide) rfl ?_
        refine X_iload C 1 dX6_skewed_67 rfl ?_
        refine X_istore_n C 3 [(3, .int r10), (2, .int x4), (5, .int r10), (0, .ref (xad (kG κ) 0)), (1, .int x1), (4, .int x4)] dX6_skewed_69 rfl (by decide) rfl ?_
        refine X_sub [3, 4, 1, 0, 5] rfl ?_
        exact K_X6_skewed_70 C E hFu (fun _ _ _ _ _ h => ih _ _ _ _ _ h) h
set_option maxRecDepth 100000 in
set_option maxHeartbeats 4000000 in
theorem M_X6_skewed {l : Launch} {G : XG} (hJ : XJ G) (hFu : XF G) {S : Mem} {a1 : Int32} {K : Int32 → Mem → Prop} (h : P_X6_skewed S a1 K) : XMi l G yX6_skewed cX6_skewed 6 .int 7 173 [.ref (xad G 0), .int a1] S K := by
  refine X_meth RX6 rfl (by decide +kernel) hJ (Nat.le_of_ble_eq_true rfl) (fun κ hl hG C E => ?_)
  subst hl hG
  show XW κ S 0 [(0, .ref (xad (kG κ) 0)), (1, .int a1)] []
  refine X_iload_n C 1 1 dX6_skewed_0 rfl rfl ?_
  refine X_iconst C (0 : Int32) dX6_skewed_1 (by decide) ?_
  refine X_iconst C (2 : Int32) dX6_skewed_2 (by decide) ?_
  refine X_callSi C eX6_isOutside [.int a1, .int (0 : Int32), .int (2 : Int32)] [] (M_X6_isOutside C.g_J hFu h) q_210 rfl ⟨(Nat.le_of_ble_eq_true rfl), (Nat.le_of_ble_eq_true rfl)⟩ rfl (Nat.le_of_ble_eq_true rfl) dX6_skewed_3 (fun r2 S1 h => ?_)
  refine X_if_eq C 12 dX6_skewed_6 (by decide) (fun c => ?_) (fun c => ?_)
  · have h := h.1 c
    refine X_aload_n C 0 0 dX6_skewed_12 rfl rfl ?_
    refine X_get C (hFu _ (by decide)) (wc_0 _ _) rfl inX6 0 (by decide) q_190 rfl dX6_skewed_13 ?_
    refine X_getN C (hFu _ (by decide)) (wc_1 _ _) rfl inX3 0 (by decide) z_62 rfl dX6_skewed_16 ?_
    refine X_callVi C eX4_length [] [] (M_X4_length C.g_J (hFu.tab (by decide)) h) (hFu _ (by decide)) (wc_2 _ _) rfl q_214 rfl ⟨(Nat.le_of_ble_eq_true rfl), (Nat.le_of_ble_eq_true rfl)⟩ rfl (Nat.le_of_ble_eq_true rfl) dX6_skewed_19 (fun r4 S3 h => ?_)
    refine X_if_ne C 28 dX6_skewed_22 (by decide) (fun c => ?_) (fun c => ?_)
    · have h := h.1 c
      refine X_iconst C (0 : Int32) dX6_skewed_28 (by decide) ?_
      refine X_istore_n C 2 [(2, .int (0 : Int32)), (0, .ref (xad (kG κ) 0)), (1, .int a1)] dX6_skewed_29 rfl (by decide) rfl ?_
      refine X_iconst C (0 : Int32) dX6_skewed_30 (by decide) ?_
      refine X_istore_n C 3 [(3, .int (0 : Int32)), (2, .int (0 : Int32)), (0, .ref (xad (kG κ) 0)), (1, .int a1)] dX6_skewed_31 rfl (by decide) rfl ?_
      refine X_iconst C (0 : Int32) dX6_skewed_32 (by decide) ?_
      refine X_istore C [(4, .int (0 : Int32)), (3, .int (0 : Int32)), (2, .int (0 : Int32)), (0, .ref (xad (kG κ) 0)), (1, .int a1)] dX6_skewed_33 (by decide) rfl ?_
      refine X_sub [3, 4, 2, 1, 0] rfl ?_
      obtain ⟨n11, h⟩ := h
      exact K_X6_skewed_35 C E hFu n11 _ _ _ _ _ h
    · have h := h.2 c
      refine X_ldc C (-1000004 : Int32) q_288 dX6_skewed_25 ?_
      exact X_iret C E rfl h dX6_skewed_27
  · have h := h.2 c
    refine X_ldc C (-1000001 : Int32) q_213 dX6_skewed_9 ?_
    exact X_iret C E rfl h dX6_skewed_11
set_option maxRecDepth 100000 in
set_option maxHeartbeats 4000000 in
theorem M_X6_count {l : Launch} {G : XG} (hJ : XJ G) (hFu : XF G) {S : Mem} {a1 : Int32} {K : Int32 → Mem → Prop} (h : P_X6_count S a1 K) : XMi l G yX6_count cX6_count 2 .int 6 149 [.ref (xad G 0), .int a1] S K := by
  refine X_meth RX6 rfl (by decide +kernel) hJ (Nat.le_of_ble_eq_true rfl) (fun κ hl hG C E => ?_)
  subst hl hG
  show XW κ S 0 [(0, .ref (xad (kG κ) 0)), (1, .int a1)] []
  refine X_iload_n C 1 1 dX6_count_0 rfl rfl ?_
  by_cases c0 : a1 = (0 : Int32)
  · have h := h.1 c0
    refine X_tin (off := 107) C 108 dX6_count_1 (by rw [c0]; decide) (by rw [c0]; decide) (by rw [c0]; rfl) (by decide) ?_
    refine X_aload_n C 0 0 dX6_count_108 rfl rfl ?_
    refine X_get C (hFu _ (by decide)) (wc_0 _ _) rfl inX6 0 (by decide) q_190 rfl dX6_count_109 ?_
    refine X_getN C (hFu _ (by decide)) (wc_1 _ _) rfl inX3 0 (by decide) z_62 rfl dX6_count_112 ?_
    refine X_callVi C eX4_length [] [] (M_X4_length C.g_J (hFu.tab (by decide)) h) (hFu _ (by decide)) (wc_2 _ _) rfl q_214 rfl ⟨(Nat.le_of_ble_eq_true rfl), (Nat.le_of_ble_eq_true rfl)⟩ rfl (Nat.le_of_ble_eq_true rfl) dX6_count_115 (fun r2 S1 h => ?_)
    exact X_iret C E rfl h dX6_count_118
  by_cases c1 : a1 = (1 : Int32)
  · have h := h.2.1 c1
    refine X_tin (off := 118) C 119 dX6_count_1 (by rw [c1]; decide) (by rw [c1]; decide) (by rw [c1]; rfl) (by decide) ?_
    refine X_aload_n C 0 0 dX6_count_119 rfl rfl ?_
    refine X_get C (hFu _ (by decide)) (wc_0 _ _) rfl inX6 0 (by decide) q_190 rfl dX6_count_120 ?_
    refine X_getN C (hFu _ (by decide)) (wc_1 _ _) rfl inX3 0 (by decide) z_62 rfl dX6_count_123 ?_
    refine X_iconst C (1 : Int32) dX6_count_126 (by decide) ?_
    refine X_callVi C eX4_sumOf [.int (1 : Int32)] [] (M_X4_sumOf C.g_J (hFu.tab (by decide)) h) (hFu _ (by decide)) (wc_2 _ _) rfl q_494 rfl ⟨(Nat.le_of_ble_eq_true rfl), (Nat.le_of_ble_eq_true rfl)⟩ rfl (Nat.le_of_ble_eq_true rfl) dX6_count_127 (fun r4 S3 h => ?_)
    exact X_iret C E rfl h dX6_count_130
  by_cases c2 : a1 = (2 : Int32)
  · have h := h.2.2.1 c2
    refine X_tin (off := 130) C 131 dX6_count_1 (by rw [c2]; decide) (by rw [c2]; decide) (by rw [c2]; rfl) (by decide) ?_
    refine X_aload_n C 0 0 dX6_count_131 rfl rfl ?_
    refine X_callVe C eX6_groupsNow [] [] (M_X6_groupsNow C.g_J hFu h) (hFu _ (by decide)) (wc_0 _ _) rfl q_312 rfl ⟨(Nat.le_of_ble_eq_true rfl), (Nat.le_of_ble_eq_true rfl)⟩ rfl (Nat.le_of_ble_eq_true rfl) dX6_count_132 (fun r6 S5 h => ?_)
    obtain ⟨hr, h⟩ := h
    subst hr
    refine X_some ?_
    refine X_getN C (hFu _ (by decide)) (wc_28 _ _) rfl inX0 0 (by decide) z_105 rfl dX6_count_135 ?_
    refine X_callVi C eX4_length [] [] (M_X4_length C.g_J (hFu.tab (by decide)) h) (hFu _ (by decide)) (wc_29 _ _) rfl q_214 rfl ⟨(Nat.le_of_ble_eq_true rfl), (Nat.le_of_ble_eq_true rfl)⟩ rfl (Nat.le_of_ble_eq_true rfl) dX6_count_138 (fun r8 S7 h => ?_)
    exact X_iret C E rfl h dX6_count_141
  by_cases c3 : a1 = (3 : Int32)
  · have h := h.2.2.2.1 c3
    refine X_tin (off := 141) C 142 dX6_count_1 (by rw [c3]; decide) (by rw [c3]; decide) (by rw [c3]; rfl) (by decide) ?_
    refine X_aload_n C 0 0 dX6_count_142 rfl rfl ?_
    refine X_get C (hFu _ (by decide)) (wc_0 _ _) rfl inX6 1 (by decide) q_191 rfl dX6_count_143 ?_
    refine X_callVi C eX1_length [] [] (M_X1_length C.g_J hFu h) (hFu _ (by decide)) (wc_6 _ _) rfl q_495 rfl ⟨(Nat.le_of_ble_eq_true rfl), (Nat.le_of_ble_eq_true rfl)⟩ rfl (Nat.le_of_ble_eq_true rfl) dX6_count_146 (fun r10 S9 h => ?_)
    exact X_iret C E rfl h dX6_count_149
  by_cases c4 : a1 = (4 : Int32)
  · have h := h.2.2.2.2.1 c4
    refine X_tin (off := 149) C 150 dX6_count_1 (by rw [c4]; decide) (by rw [c4]; decide) (by rw [c4]; rfl) (by decide) ?_
    refine X_aload_n C 0 0 dX6_count_150 rfl rfl ?_
    refine X_get C (hFu _ (by decide)) (wc_0 _ _) rfl inX6 3 (by decide) q_193 rfl dX6_count_151 ?_
    refine X_getN C (hFu _ (by decide)) (wc_48 _ _) rfl inX5 0 (by decide) z_167 rfl dX6_count_154 ?_
    refine X_callVi C eX4_length [] [] (M_X4_length C.g_J (hFu.tab (by decide)) h) (hFu _ (by decide)) (wc_49 _ _) rfl q_214 rfl ⟨(Nat.le_of_ble_eq_true rfl), (Nat.le_of_ble_eq_true rfl)⟩ rfl (Nat.le_of_ble_eq_true rfl) dX6_count_157 (fun r12 S11 h => ?_)
    exact X_iret C E rfl h dX6_count_160
  by_cases c5 : a1 = (20 : Int32)
  · have h := h.2.2.2.2.2.1 c5
    refine X_tin (off := 160) C 161 dX6_count_1 (by rw [c5]; decide) (by rw [c5]; decide) (by rw [c5]; rfl) (by decide) ?_
    refine X_aload_n C 0 0 dX6_count_161 rfl rfl ?_
    refine X_get C (hFu _ (by decide)) (wc_0 _ _) rfl inX6 0 (by decide) q_190 rfl dX6_count_162 ?_
    refine X_iload_n C 1 1 dX6_count_165 rfl rfl ?_
    refine X_bipush C (20 : Int32) dX6_count_166 (by decide) ?_
    refine X_isub C dX6_count_168 ?_
    refine X_callVi C eX3_setting [.int (a1 - (20 : Int32))] [] (M_X3_setting C.g_J hFu (by decide) h) (hFu _ (by decide)) (wc_1 _ _) rfl q_275 rfl ⟨(Nat.le_of_ble_eq_true rfl), (Nat.le_of_ble_eq_true rfl)⟩ rfl (Nat.le_of_ble_eq_true rfl) dX6_count_169 (fun r14 S13 h => ?_)
    exact X_iret C E rfl h dX6_count_172
  by_cases c6 : a1 = (21 : Int32)
  · have h := h.2.2.2.2.2.2.1 c6
    refine X_tin (off := 160) C 161 dX6_count_1 (by rw [c6]; decide) (by rw [c6]; decide) (by rw [c6]; rfl) (by decide) ?_
    refine X_aload_n C 0 0 dX6_count_161 rfl rfl ?_
    refine X_get C (hFu _ (by decide)) (wc_0 _ _) rfl inX6 0 (by decide) q_190 rfl dX6_count_162 ?_
    refine X_iload_n C 1 1 dX6_count_165 rfl rfl ?_
    refine X_bipush C (20 : Int32) dX6_count_166 (by decide) ?_
    refine X_isub C dX6_count_168 ?_
    refine X_callVi C eX3_setting [.int (a1 - (20 : Int32))] [] (M_X3_setting C.g_J hFu (by decide) h) (hFu _ (by decide)) (wc_1 _ _) rfl q_275 rfl ⟨(Nat.le_of_ble_eq_true rfl), (Nat.le_of_ble_eq_true rfl)⟩ rfl (Nat.le_of_ble_eq_true rfl) dX6_count_169 (fun r16 S15 h => ?_)
    exact X_iret C E rfl h dX6_count_172
  by_cases c7 : a1 = (22 : Int32)
  · have h := h.2.2.2.2.2.2.2.1 c7
    refine X_tin (off := 160) C 161 dX6_count_1 (by rw [c7]; decide) (by rw [c7]; decide) (by rw [c7]; rfl) (by decide) ?_
    refine X_aload_n C 0 0 dX6_count_161 rfl rfl ?_
    refine X_get C (hFu _ (by decide)) (wc_0 _ _) rfl inX6 0 (by decide) q_190 rfl dX6_count_162 ?_
    refine X_iload_n C 1 1 dX6_count_165 rfl rfl ?_
    refine X_bipush C (20 : Int32) dX6_count_166 (by decide) ?_
    refine X_isub C dX6_count_168 ?_
    refine X_callVi C eX3_setting [.int (a1 - (20 : Int32))] [] (M_X3_setting C.g_J hFu (by decide) h) (hFu _ (by decide)) (wc_1 _ _) rfl q_275 rfl ⟨(Nat.le_of_ble_eq_true rfl), (Nat.le_of_ble_eq_true rfl)⟩ rfl (Nat.le_of_ble_eq_true rfl) dX6_count_169 (fun r18 S17 h => ?_)
    exact X_iret C E rfl h dX6_count_172
  have h := h.2.2.2.2.2.2.2.2 ⟨c0, c1, c2, c3, c4, c5, c6, c7⟩
  have e0 := lv_neT c0 (show ((0 : Int32)).toInt = 0 from rfl)
  have e1 := lv_neT c1 (show ((1 : Int32)).toInt = 1 from rfl)
  have e2 := lv_neT c2 (show ((2 : Int32)).toInt = 2 from rfl)
  have e3 := lv_neT c3 (show ((3 : Int32)).toInt = 3 from rfl)
  have e4 := lv_neT c4 (show ((4 : Int32)).toInt = 4 from rfl)
  have e5 := lv_neT c5 (show ((20 : Int32)).toInt = 20 from rfl)
  have e6 := lv_neT c6 (show ((21 : Int32)).toInt = 21 from rfl)
  have e7 := lv_neT c7 (show ((22 : Int32)).toInt = 22 from rfl)
  by_cases hr : Int32.toInt a1 < 0 ∨ 22 < Int32.toInt a1
  · refine X_tout C 173 dX6_count_1 hr (by decide) ?_
    refine X_ldc C (-1000001 : Int32) q_213 dX6_count_173 ?_
    exact X_iret C E rfl h dX6_count_175
  · have hh : Int32.toInt a1 = 5 ∨ Int32.toInt a1 = 6 ∨ Int32.toInt a1 = 7 ∨ Int32.toInt a1 = 8 ∨ Int32.toInt a1 = 9 ∨ Int32.toInt a1 = 10 ∨ Int32.toInt a1 = 11 ∨ Int32.toInt a1 = 12 ∨ Int32.toInt a1 = 13 ∨ Int32.toInt a1 = 14 ∨ Int32.toInt a1 = 15 ∨ Int32.toInt a1 = 16 ∨ Int32.toInt a1 = 17 ∨ Int32.toInt a1 = 18 ∨ Int32.toInt a1 = 19 := by omega
    refine X_tin (off := 172) C 173 dX6_count_1 (by omega) (by omega) (by rcases hh with q | q | q | q | q | q | q | q | q | q | q | q | q | q | q <;> rw [q] <;> rfl) (by decide) ?_
    refine X_ldc C (-1000001 : Int32) q_213 dX6_count_173 ?_
    exact X_iret C E rfl h dX6_count_175
set_option maxRecDepth 100000 in
set_option maxHeartbeats 4000000 in
theorem M_X6_undo {l : Launch} {G : XG} (hJ : XJ G) (hFu : XF G) {S : Mem} {K : Int32 → Mem → Prop} (h : P_X6_undo S K) : XMi l G yX6_undo cX6_undo 1 .int 4 124 [.ref (xad G 0)] S K := by
  refine X_meth RX6 rfl (by decide +kernel) hJ (Nat.le_of_ble_eq_true rfl) (fun κ hl hG C E => ?_)
  subst hl hG
  show XW κ S 0 [(0, .ref (xad (kG κ) 0))] []
  refine X_aload_n C 0 0 dX6_undo_0 rfl rfl ?_
  refine X_get C (hFu _ (by decide)) (wc_0 _ _) rfl inX6 1 (by decide) q_191 rfl dX6_undo_1 ?_
  refine X_callVi C eX1_length [] [] (M_X1_length C.g_J hFu h) (hFu _ (by decide)) (wc_6 _ _) rfl q_495 rfl ⟨(Nat.le_of_ble_eq_true rfl), (Nat.le_of_ble_eq_true rfl)⟩ rfl (Nat.le_of_ble_eq_true rfl) dX6_undo_4 (fun r2 S1 h => ?_)
  refine X_if_ne C 13 dX6_undo_7 (by decide) (fun c => ?_) (fun c => ?_)
  · have h := h.1 c
    refine X_aload_n C 0 0 dX6_undo_13 rfl rfl ?_
    refine X_get C (hFu _ (by decide)) (wc_0 _ _) rfl inX6 1 (by decide) q_191 rfl dX6_undo_14 ?_
    refine X_aload_n C 0 0 dX6_undo_17 rfl rfl ?_
    refine X_get C (hFu _ (by decide)) (wc_0 _ _) rfl inX6 0 (by decide) q_190 rfl dX6_undo_18 ?_
    refine X_callVv C eX1_restore [.ref (xad (kG κ) 1)] [] (M_X1_restore C.g_J hFu (by decide) h) (hFu _ (by decide)) (wc_6 _ _) rfl q_503 rfl ⟨(Nat.le_of_ble_eq_true rfl), (Nat.le_of_ble_eq_true rfl)⟩ rfl (Nat.le_of_ble_eq_true rfl) dX6_undo_21 (fun S3 h => ?_)
    refine X_aload_n C 0 0 dX6_undo_24 rfl rfl ?_
    refine X_iconst C (1 : Int32) dX6_undo_25 (by decide) ?_
    obtain ⟨S5, eS5⟩ : ∃ z, z = mput S3 0 4 (1 : Int32) := ⟨_, rfl⟩
    have h := h S5 eS5
    refine X_put C (hFu _ (by decide)) (wc_0 _ _) rfl inX6 tyX6_ok nmX6 4 (by decide) q_194 rfl rfl rfl (Nat.le_of_ble_eq_true rfl) eS5 (wc_0 _ _) dX6_undo_26 ?_
    refine X_aload_n C 0 0 dX6_undo_29 rfl rfl ?_
    refine X_get C (hFu _ (by decide)) (wc_0 _ _) rfl inX6 1 (by decide) q_191 rfl dX6_undo_30 ?_
    refine X_callVi C eX1_length [] [] (M_X1_length C.g_J hFu h) (hFu _ (by decide)) (wc_6 _ _) rfl q_495 rfl ⟨(Nat.le_of_ble_eq_true rfl), (Nat.le_of_ble_eq_true rfl)⟩ rfl (Nat.le_of_ble_eq_true rfl) dX6_undo_33 (fun r7 S6 h => ?_)
    exact X_iret C E rfl h dX6_undo_36
  · have h := h.2 c
    refine X_ldc C (-1000002 : Int32) q_254 dX6_undo_10 ?_
    exact X_iret C E rfl h dX6_undo_12
set_option maxRecDepth 100000 in
set_option maxHeartbeats 4000000 in
theorem M_X6_type {l : Launch} {G : XG} (hJ : XJ G) (hFu : XF G) {S : Mem} {a1 : Int32} {K : Int32 → Mem → Prop} (h : P_X6_type S a1 K) : XMi l G yX6_type cX6_type 2 .int 3 68 [.ref (xad G 0), .int a1] S K := by
  refine X_meth RX6 rfl (by decide +kernel) hJ (Nat.le_of_ble_eq_true rfl) (fun κ hl hG C E => ?_)
  subst hl hG
  show XW κ S 0 [(0, .ref (xad (kG κ) 0)), (1, .int a1)] []
  refine X_iload_n C 1 1 dX6_type_0 rfl rfl ?_
  refine X_bipush C (32 : Int32) dX6_type_1 (by decide) ?_
  refine X_bipush C (126 : Int32) dX6_type_3 (by decide) ?_
  refine X_callSi C eX6_isOutside [.int a1, .int (32 : Int32), .int (126 : Int32)] [] (M_X6_isOutside C.g_J hFu h) q_210 rfl ⟨(Nat.le_of_ble_eq_true rfl), (Nat.le_of_ble_eq_true rfl)⟩ rfl (Nat.le_of_ble_eq_true rfl) dX6_type_5 (fun r2 S1 h => ?_)
  refine X_if_eq C 14 dX6_type_8 (by decide) (fun c => ?_) (fun c => ?_)
  · have h := h.1 c
    refine X_aload_n C 0 0 dX6_type_14 rfl rfl ?_
    refine X_get C (hFu _ (by decide)) (wc_0 _ _) rfl inX6 3 (by decide) q_193 rfl dX6_type_15 ?_
    refine X_getN C (hFu _ (by decide)) (wc_48 _ _) rfl inX5 0 (by decide) z_167 rfl dX6_type_18 ?_
    refine X_callVi C eX4_length [] [] (M_X4_length C.g_J (hFu.tab (by decide)) h) (hFu _ (by decide)) (wc_49 _ _) rfl q_214 rfl ⟨(Nat.le_of_ble_eq_true rfl), (Nat.le_of_ble_eq_true rfl)⟩ rfl (Nat.le_of_ble_eq_true rfl) dX6_type_21 (fun r4 S3 h => ?_)
    refine X_bipush C (60 : Int32) dX6_type_24 (by decide) ?_
    refine X_icmp_lt C 32 dX6_type_26 (by decide) (fun c => ?_) (fun c => ?_)
    · have h := h.1 c
      refine X_aload_n C 0 0 dX6_type_32 rfl rfl ?_
      refine X_get C (hFu _ (by decide)) (wc_0 _ _) rfl inX6 3 (by decide) q_193 rfl dX6_type_33 ?_
      refine X_getN C (hFu _ (by decide)) (wc_48 _ _) rfl inX5 0 (by decide) z_167 rfl dX6_type_36 ?_
      refine X_iload_n C 1 1 dX6_type_39 rfl rfl ?_
      refine X_callVi C eX4_append [.int a1] [] (M_X4_append C.g_J (hFu.tab (by decide)) h) (hFu _ (by decide)) (wc_49 _ _) rfl q_511 rfl ⟨(Nat.le_of_ble_eq_true rfl), (Nat.le_of_ble_eq_true rfl)⟩ rfl (Nat.le_of_ble_eq_true rfl) dX6_type_40 (fun r6 S5 h => ?_)
      refine X_pop C dX6_type_43 rfl ?_
      refine X_aload_n C 0 0 dX6_type_44 rfl rfl ?_
      refine X_get C (hFu _ (by decide)) (wc_0 _ _) rfl inX6 3 (by decide) q_193 rfl dX6_type_45 ?_
      refine X_getN C (hFu _ (by decide)) (wc_48 _ _) rfl inX5 0 (by decide) z_167 rfl dX6_type_48 ?_
      refine X_callVi C eX4_length [] [] (M_X4_length C.g_J (hFu.tab (by decide)) h) (hFu _ (by decide)) (wc_49 _ _) rfl q_214 rfl ⟨(Nat.le_of_ble_eq_true rfl), (Nat.le_of_ble_eq_true rfl)⟩ rfl (Nat.le_of_ble_eq_true rfl) dX6_type_51 (fun r8 S7 h => ?_)
      exact X_iret C E rfl h dX6_type_54
    · have h := h.2 c
      refine X_ldc C (-1000003 : Int32) q_218 dX6_type_29 ?_
      exact X_iret C E rfl h dX6_type_31
  · have h := h.2 c
    refine X_ldc C (-1000001 : Int32) q_213 dX6_type_11 ?_
    exact X_iret C E rfl h dX6_type_13
set_option maxRecDepth 100000 in
set_option maxHeartbeats 4000000 in
theorem M_X6_clearText {l : Launch} {G : XG} (hJ : XJ G) (hFu : XF G) {S : Mem} {K : Int32 → Mem → Prop} (h : P_X6_clearText S K) : XMi l G yX6_clearText cX6_clearText 2 .int 1 21 [.ref (xad G 0)] S K := by
  refine X_meth RX6 rfl (by decide +kernel) hJ (Nat.le_of_ble_eq_true rfl) (fun κ hl hG C E => ?_)
  subst hl hG
  show XW κ S 0 [(0, .ref (xad (kG κ) 0))] []
  refine X_aload_n C 0 0 dX6_clearText_0 rfl rfl ?_
  refine X_get C (hFu _ (by decide)) (wc_0 _ _) rfl inX6 3 (by decide) q_193 rfl dX6_clearText_1 ?_
  refine X_getN C (hFu _ (by decide)) (wc_48 _ _) rfl inX5 0 (by decide) z_167 rfl dX6_clearText_4 ?_
  refine X_callVi C eX4_length [] [] (M_X4_length C.g_J (hFu.tab (by decide)) h) (hFu _ (by decide)) (wc_49 _ _) rfl q_214 rfl ⟨(Nat.le_of_ble_eq_true rfl), (Nat.le_of_ble_eq_true rfl)⟩ rfl (Nat.le_of_ble_eq_true rfl) dX6_clearText_7 (fun r2 S1 h => ?_)
  refine X_istore_n C 1 [(1, .int r2), (0, .ref (xad (kG κ) 0))] dX6_clearText_10 rfl (by decide) rfl ?_
  refine X_aload_n C 0 1 dX6_clearText_11 rfl rfl ?_
  refine X_get C (hFu _ (by decide)) (wc_0 _ _) rfl inX6 3 (by decide) q_193 rfl dX6_clearText_12 ?_
  refine X_getN C (hFu _ (by decide)) (wc_48 _ _) rfl inX5 0 (by decide) z_167 rfl dX6_clearText_15 ?_
  refine X_iconst C (0 : Int32) dX6_clearText_18 (by decide) ?_
  refine X_callVv C eX4_shorten [.int (0 : Int32)] [] (M_X4_shorten C.g_J (hFu.tab (by decide)) h) (hFu _ (by decide)) (wc_49 _ _) rfl q_263 rfl ⟨(Nat.le_of_ble_eq_true rfl), (Nat.le_of_ble_eq_true rfl)⟩ rfl (Nat.le_of_ble_eq_true rfl) dX6_clearText_19 (fun S3 h => ?_)
  refine X_iload_n C 1 0 dX6_clearText_22 rfl rfl ?_
  exact X_iret C E rfl h dX6_clearText_23
set_option maxRecDepth 100000 in
set_option maxHeartbeats 4000000 in
theorem M_X6_fault {l : Launch} {G : XG} (hJ : XJ G) (hFu : XF G) {S : Mem} {a1 : Int32} {K : Int32 → Mem → Prop} (h : P_X6_fault S a1 K) : XMi l G yX6_fault cX6_fault 2 .int 5 113 [.ref (xad G 0), .int a1] S K := by
  refine X_meth RX6 rfl (by decide +kernel) hJ (Nat.le_of_ble_eq_true rfl) (fun κ hl hG C E => ?_)
  subst hl hG
  show XW κ S 0 [(0, .ref (xad (kG κ) 0)), (1, .int a1)] []
  refine X_iload_n C 1 1 dX6_fault_0 rfl rfl ?_
  refine X_iconst C (0 : Int32) dX6_fault_1 (by decide) ?_
  refine X_iconst C (2 : Int32) dX6_fault_2 (by decide) ?_
  refine X_callSi C eX6_isOutside [.int a1, .int (0 : Int32), .int (2 : Int32)] [] (M_X6_isOutside C.g_J hFu h) q_210 rfl ⟨(Nat.le_of_ble_eq_true rfl), (Nat.le_of_ble_eq_true rfl)⟩ rfl (Nat.le_of_ble_eq_true rfl) dX6_fault_3 (fun r2 S1 h => ?_)
  refine X_if_eq C 12 dX6_fault_6 (by decide) (fun c => ?_) (fun c => ?_)
  · have h := h.1 c
    refine X_aload_n C 0 0 dX6_fault_12 rfl rfl ?_
    refine X_get C (hFu _ (by decide)) (wc_0 _ _) rfl inX6 3 (by decide) q_193 rfl dX6_fault_13 ?_
    refine X_aload_n C 0 0 dX6_fault_16 rfl rfl ?_
    refine X_get C (hFu _ (by decide)) (wc_0 _ _) rfl inX6 0 (by decide) q_190 rfl dX6_fault_17 ?_
    refine X_getN C (hFu _ (by decide)) (wc_1 _ _) rfl inX3 0 (by decide) z_62 rfl dX6_fault_20 ?_
    refine X_callVi C eX4_length [] [.ref (xad (kG κ) 48)] (M_X4_length C.g_J (hFu.tab (by decide)) h) (hFu _ (by decide)) (wc_2 _ _) rfl q_214 rfl ⟨(Nat.le_of_ble_eq_true rfl), (Nat.le_of_ble_eq_true rfl)⟩ rfl (Nat.le_of_ble_eq_true rfl) dX6_fault_23 (fun r4 S3 h => ?_)
    refine X_callVv C eX5_read [.int r4] [] (M_X5_read C.g_J hFu h) (hFu _ (by decide)) (wc_48 _ _) rfl q_520 rfl ⟨(Nat.le_of_ble_eq_true rfl), (Nat.le_of_ble_eq_true rfl)⟩ rfl (Nat.le_of_ble_eq_true rfl) dX6_fault_26 (fun S5 h => ?_)
    refine X_aload_n C 0 0 dX6_fault_29 rfl rfl ?_
    refine X_get C (hFu _ (by decide)) (wc_0 _ _) rfl inX6 3 (by decide) q_193 rfl dX6_fault_30 ?_
    refine X_getN C (hFu _ (by decide)) (wc_48 _ _) rfl inX5 3 (by decide) z_173 rfl dX6_fault_33 ?_
    refine X_if_ne C 42 dX6_fault_36 (by decide) (fun c => ?_) (fun c => ?_)
    · have h := h.1 c
      refine X_iload_n C 1 1 dX6_fault_42 rfl rfl ?_
      refine X_if_ne C 54 dX6_fault_43 (by decide) (fun c => ?_) (fun c => ?_)
      · have h := h.1 c
        refine X_iload_n C 1 1 dX6_fault_54 rfl rfl ?_
        refine X_iconst C (1 : Int32) dX6_fault_55 (by decide) ?_
        refine X_icmp_ne C 69 dX6_fault_56 (by decide) (fun c => ?_) (fun c => ?_)
        · have h := h.1 c
          refine X_aload_n C 0 0 dX6_fault_69 rfl rfl ?_
          refine X_get C (hFu _ (by decide)) (wc_0 _ _) rfl inX6 3 (by decide) q_193 rfl dX6_fault_70 ?_
          refine X_getN C (hFu _ (by decide)) (wc_48 _ _) rfl inX5 4 (by decide) z_175 rfl dX6_fault_73 ?_
          exact X_iret C E rfl h dX6_fault_76
        · have h := h.2 c
          refine X_aload_n C 0 0 dX6_fault_59 rfl rfl ?_
          refine X_get C (hFu _ (by decide)) (wc_0 _ _) rfl inX6 3 (by decide) q_193 rfl dX6_fault_60 ?_
          refine X_getN C (hFu _ (by decide)) (wc_48 _ _) rfl inX5 3 (by decide) z_173 rfl dX6_fault_63 ?_
          refine X_goto C 76 dX6_fault_66 (by decide) ?_
          exact X_iret C E rfl h dX6_fault_76
      · have h := h.2 c
        refine X_aload_n C 0 0 dX6_fault_46 rfl rfl ?_
        refine X_get C (hFu _ (by decide)) (wc_0 _ _) rfl inX6 3 (by decide) q_193 rfl dX6_fault_47 ?_
        refine X_getN C (hFu _ (by decide)) (wc_48 _ _) rfl inX5 2 (by decide) z_171 rfl dX6_fault_50 ?_
        exact X_iret C E rfl h dX6_fault_53
    · have h := h.2 c
      refine X_ldc C (-1000004 : Int32) q_288 dX6_fault_39 ?_
      exact X_iret C E rfl h dX6_fault_41
  · have h := h.2 c
    refine X_ldc C (-1000001 : Int32) q_213 dX6_fault_9 ?_
    exact X_iret C E rfl h dX6_fault_11
set_option maxRecDepth 100000 in
set_option maxHeartbeats 4000000 in
theorem K_X6_play_87 {κ : Kx} (C : XC κ RX6 cX6_play 2 5 144) {K : Int32 → Mem → Prop} (E : XRet κ (some .int) (va_Qi K (XB (kG κ)) (XA (kG κ)))) (hFu : XF (kG κ)) {S : Mem} (h : B_X6_play_87 K S) : XW κ S 87 [(0, .ref (xad (kG κ) 0))] [] := by
  refine X_aload_n C 0 0 dX6_play_87 rfl rfl ?_
  refine X_get C (hFu _ (by decide)) (wc_0 _ _) rfl inX6 0 (by decide) q_190 rfl dX6_play_88 ?_
  refine X_getN C (hFu _ (by decide)) (wc_1 _ _) rfl inX3 0 (by decide) z_62 rfl dX6_play_91 ?_
  refine X_callVi C eX4_length [] [] (M_X4_length C.g_J (hFu.tab (by decide)) h) (hFu _ (by decide)) (wc_2 _ _) rfl q_214 rfl ⟨(Nat.le_of_ble_eq_true rfl), (Nat.le_of_ble_eq_true rfl)⟩ rfl (Nat.le_of_ble_eq_true rfl) dX6_play_94 (fun r10 S9 h => ?_)
  exact X_iret C E rfl h dX6_play_97
set_option maxRecDepth 100000 in
set_option maxHeartbeats 4000000 in
theorem K_X6_play_36 {κ : Kx} (C : XC κ RX6 cX6_play 2 5 144) {K : Int32 → Mem → Prop} (E : XRet κ (some .int) (va_Qi K (XB (kG κ)) (XA (kG κ)))) (hFu : XF (kG κ)) : ∀ (n : Nat) (S : Mem) (x1 : Int32), B_X6_play_36 K n S x1 → XW κ S 36 [(0, .ref (xad (kG κ) 0)), (1, .int x1)] [] := by
  intro n
  induction n with
  | zero => intro S x1 h; exact h.elim
  | succ n ih =>
    intro S x1 h
    refine X_iload_n C 1 1 dX6_play_36 rfl rfl ?_
    refine X_aload_n C 0 0 dX6_play_37 rfl rfl ?_
    refine X_get C (hFu _ (by decide)) (wc_0 _ _) rfl inX6 3 (by decide) q_193 rfl dX6_play_38 ?_
    refine X_getN C (hFu _ (by decide)) (wc_48 _ _) rfl inX5 1 (by decide) z_169 rfl dX6_play_41 ?_
    refine X_callVi C eX4_length [] [.int x1] (M_X4_length C.g_J (hFu.tab (by decide)) h) (hFu _ (by decide)) (wc_51 _ _) rfl q_214 rfl ⟨(Nat.le_of_ble_eq_true rfl), (Nat.le_of_ble_eq_true rfl)⟩ rfl (Nat.le_of_ble_eq_true rfl) dX6_play_44 (fun r8 S7 h => ?_)
    refine X_icmp_ge C 87 dX6_play_47 (by decide) (fun c => ?_) (fun c => ?_)
    · have h := h.1 c
      refine X_sub [0] rfl ?_
      exact K_X6_play_87 C E hFu h
    · have h := h.2 c
      refine X_aload_n C 0 0 dX6_play_50 rfl rfl ?_
      refine X_get C (hFu _ (by decide)) (wc_0 _ _) rfl inX6 0 (by decide) q_190 rfl dX6_play_51 ?_
      refine X_aload_n C 0 0 dX6_play_54 rfl rfl ?_
      refine X_get C (hFu _ (by decide)) (wc_0 _ _) rfl inX6 3 (by decide) q_193 rfl dX6_play_55 ?_
      refine X_getN C (hFu _ (by decide)) (wc_48 _ _) rfl inX5 1 (by decide) z_169 rfl dX6_play_58 ?_
      refine X_iload_n C 1 1 dX6_play_61 rfl rfl ?_
      refine X_iconst C (0 : Int32) dX6_play_62 (by decide) ?_
      refine X_callVi C eX4_at [.int x1, .int (0 : Int32)] [.ref (xad (kG κ) 1)] (M_X4_at C.g_J (hFu.tab (by decide)) h) (hFu _ (by decide)) (wc_51 _ _) rfl q_352 rfl ⟨(Nat.le_of_ble_eq_true rfl), (Nat.le_of_ble_eq_true rfl)⟩ rfl (Nat.le_of_ble_eq_true rfl) dX6_play_63 (fun r12 S11 h => ?_)
      refine X_aload_n C 0 0 dX6_play_66 rfl rfl ?_
      refine X_get C (hFu _ (by decide)) (wc_0 _ _) rfl inX6 3 (by decide) q_193 rfl dX6_play_67 ?_
      refine X_getN C (hFu _ (by decide)) (wc_48 _ _) rfl inX5 1 (by decide) z_169 rfl dX6_play_70 ?_
      refine X_iload_n C 1 1 dX6_play_73 rfl rfl ?_
      refine X_iconst C (1 : Int32) dX6_play_74 (by decide) ?_
      refine X_callVi C eX4_at [.int x1, .int (1 : Int32)] [.int r12, .ref (xad (kG κ) 1)] (M_X4_at C.g_J (hFu.tab (by decide)) h) (hFu _ (by decide)) (wc_51 _ _) rfl q_352 rfl ⟨(Nat.le_of_ble_eq_true rfl), (Nat.le_of_ble_eq_true rfl)⟩ rfl (Nat.le_of_ble_eq_true rfl) dX6_play_75 (fun r14 S13 h => ?_)
      refine X_callVv C eX3_addRow [.int r12, .int r14] [] (M_X3_addRow C.g_J hFu (by decide) h) (hFu _ (by decide)) (wc_1 _ _) rfl q_242 rfl ⟨(Nat.le_of_ble_eq_true rfl), (Nat.le_of_ble_eq_true rfl)⟩ rfl (Nat.le_of_ble_eq_true rfl) dX6_play_78 (fun S15 h => ?_)
      refine X_iinc C (x1 + (1 : Int32)) 1 [(1, .int (x1 + (1 : Int32))), (0, .ref (xad (kG κ) 0))] dX6_play_81 rfl rfl (by decide) rfl ?_
      refine X_goto C 36 dX6_play_84 (by decide) ?_
      refine X_sub [1, 0] rfl ?_
      exact ih _ _ h
set_option maxRecDepth 100000 in
set_option maxHeartbeats 4000000 in
theorem M_X6_play {l : Launch} {G : XG} (hJ : XJ G) (hFu : XF G) {S : Mem} {K : Int32 → Mem → Prop} (h : P_X6_play S K) : XMi l G yX6_play cX6_play 2 .int 5 144 [.ref (xad G 0)] S K := by
  refine X_meth RX6 rfl (by decide +kernel) hJ (Nat.le_of_ble_eq_true rfl) (fun κ hl hG C E => ?_)
  subst hl hG
  show XW κ S 0 [(0, .ref (xad (kG κ) 0))] []
  refine X_aload_n C 0 0 dX6_play_0 rfl rfl ?_
  refine X_get C (hFu _ (by decide)) (wc_0 _ _) rfl inX6 3 (by decide) q_193 rfl dX6_play_1 ?_
  refine X_aload_n C 0 0 dX6_play_4 rfl rfl ?_
  refine X_get C (hFu _ (by decide)) (wc_0 _ _) rfl inX6 0 (by decide) q_190 rfl dX6_play_5 ?_
  refine X_getN C (hFu _ (by decide)) (wc_1 _ _) rfl inX3 0 (by decide) z_62 rfl dX6_play_8 ?_
  refine X_callVi C eX4_length [] [.ref (xad (kG κ) 48)] (M_X4_length C.g_J (hFu.tab (by decide)) h) (hFu _ (by decide)) (wc_2 _ _) rfl q_214 rfl ⟨(Nat.le_of_ble_eq_true rfl), (Nat.le_of_ble_eq_true rfl)⟩ rfl (Nat.le_of_ble_eq_true rfl) dX6_play_11 (fun r2 S1 h => ?_)
  refine X_callVv C eX5_read [.int r2] [] (M_X5_read C.g_J hFu h) (hFu _ (by decide)) (wc_48 _ _) rfl q_520 rfl ⟨(Nat.le_of_ble_eq_true rfl), (Nat.le_of_ble_eq_true rfl)⟩ rfl (Nat.le_of_ble_eq_true rfl) dX6_play_14 (fun S3 h => ?_)
  refine X_aload_n C 0 0 dX6_play_17 rfl rfl ?_
  refine X_get C (hFu _ (by decide)) (wc_0 _ _) rfl inX6 3 (by decide) q_193 rfl dX6_play_18 ?_
  refine X_getN C (hFu _ (by decide)) (wc_48 _ _) rfl inX5 3 (by decide) z_173 rfl dX6_play_21 ?_
  refine X_if_eq C 30 dX6_play_24 (by decide) (fun c => ?_) (fun c => ?_)
  · have h := h.1 c
    refine X_aload_n C 0 0 dX6_play_30 rfl rfl ?_
    refine X_callVv C eX6_beginChange [] [] (M_X6_beginChange C.g_J hFu h) (hFu _ (by decide)) (wc_0 _ _) rfl q_219 rfl ⟨(Nat.le_of_ble_eq_true rfl), (Nat.le_of_ble_eq_true rfl)⟩ rfl (Nat.le_of_ble_eq_true rfl) dX6_play_31 (fun S5 h => ?_)
    refine X_iconst C (0 : Int32) dX6_play_34 (by decide) ?_
    refine X_istore_n C 1 [(1, .int (0 : Int32)), (0, .ref (xad (kG κ) 0))] dX6_play_35 rfl (by decide) rfl ?_
    refine X_sub [1, 0] rfl ?_
    obtain ⟨n17, h⟩ := h
    exact K_X6_play_36 C E hFu n17 _ _ h
  · have h := h.2 c
    refine X_ldc C (-1000002 : Int32) q_254 dX6_play_27 ?_
    exact X_iret C E rfl h dX6_play_29
