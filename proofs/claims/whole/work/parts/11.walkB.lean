set_option maxRecDepth 100000 in
set_option maxHeartbeats 4000000 in
theorem M_X3_keyOf {l : Launch} {G : XG} (hJ : XJ G) (hFu : XF G) {s : Nat} (hs : s ∈ sts) {S : Mem} {a1 : Int32} {K : Int32 → Mem → Prop} (h : P_X3_keyOf s S a1 K) : XMi l G yX3_keyOf cX3_keyOf 2 .int 1 22 [.ref (xad G s), .int a1] S K := by
  refine X_meth RX3 rfl (by decide +kernel) hJ (Nat.le_of_ble_eq_true rfl) (fun κ hl hG C E => ?_)
  subst hl hG
  show XW κ S 0 [(0, .ref (xad (kG κ) s)), (1, .int a1)] []
  refine X_aload_n C 0 0 dX3_keyOf_0 rfl rfl ?_
  refine X_get C (hFu _ (sts_tab hs).1) (wSta _ _ hs) rfl inX3 0 (by decide) q_60 rfl dX3_keyOf_1 ?_
  refine X_iload_n C 1 1 dX3_keyOf_4 rfl rfl ?_
  refine X_iconst C (0 : Int32) dX3_keyOf_5 (by decide) ?_
  refine X_callVi C eX4_at [.int a1, .int (0 : Int32)] [] (M_X4_at C.g_J (hFu.tab (sts_tab hs).2.1) h) (hFu.tab (sts_tab hs).2.1).2.1 (wTab _ _ (hFu.tab (sts_tab hs).2.1).1) rfl q_279 rfl ⟨(Nat.le_of_ble_eq_true rfl), (Nat.le_of_ble_eq_true rfl)⟩ rfl (Nat.le_of_ble_eq_true rfl) dX3_keyOf_6 (fun r2 S1 h => ?_)
  exact X_iret C E rfl h dX3_keyOf_9
set_option maxRecDepth 100000 in
set_option maxHeartbeats 4000000 in
theorem M_X3_valueOf {l : Launch} {G : XG} (hJ : XJ G) (hFu : XF G) {s : Nat} (hs : s ∈ sts) {S : Mem} {a1 : Int32} {K : Int32 → Mem → Prop} (h : P_X3_valueOf s S a1 K) : XMi l G yX3_valueOf cX3_valueOf 2 .int 1 22 [.ref (xad G s), .int a1] S K := by
  refine X_meth RX3 rfl (by decide +kernel) hJ (Nat.le_of_ble_eq_true rfl) (fun κ hl hG C E => ?_)
  subst hl hG
  show XW κ S 0 [(0, .ref (xad (kG κ) s)), (1, .int a1)] []
  refine X_aload_n C 0 0 dX3_valueOf_0 rfl rfl ?_
  refine X_get C (hFu _ (sts_tab hs).1) (wSta _ _ hs) rfl inX3 0 (by decide) q_60 rfl dX3_valueOf_1 ?_
  refine X_iload_n C 1 1 dX3_valueOf_4 rfl rfl ?_
  refine X_iconst C (1 : Int32) dX3_valueOf_5 (by decide) ?_
  refine X_callVi C eX4_at [.int a1, .int (1 : Int32)] [] (M_X4_at C.g_J (hFu.tab (sts_tab hs).2.1) h) (hFu.tab (sts_tab hs).2.1).2.1 (wTab _ _ (hFu.tab (sts_tab hs).2.1).1) rfl q_279 rfl ⟨(Nat.le_of_ble_eq_true rfl), (Nat.le_of_ble_eq_true rfl)⟩ rfl (Nat.le_of_ble_eq_true rfl) dX3_valueOf_6 (fun r2 S1 h => ?_)
  exact X_iret C E rfl h dX3_valueOf_9
set_option maxRecDepth 100000 in
set_option maxHeartbeats 4000000 in
theorem M_X3_setting {l : Launch} {G : XG} (hJ : XJ G) (hFu : XF G) {s : Nat} (hs : s ∈ sts) {S : Mem} {a1 : Int32} {K : Int32 → Mem → Prop} (h : P_X3_setting s S a1 K) : XMi l G yX3_setting cX3_setting 2 .int 1 22 [.ref (xad G s), .int a1] S K := by
  refine X_meth RX3 rfl (by decide +kernel) hJ (Nat.le_of_ble_eq_true rfl) (fun κ hl hG C E => ?_)
  subst hl hG
  show XW κ S 0 [(0, .ref (xad (kG κ) s)), (1, .int a1)] []
  refine X_aload_n C 0 0 dX3_setting_0 rfl rfl ?_
  refine X_get C (hFu _ (sts_tab hs).1) (wSta _ _ hs) rfl inX3 1 (by decide) q_63 rfl dX3_setting_1 ?_
  refine X_iload_n C 1 1 dX3_setting_4 rfl rfl ?_
  refine X_iconst C (0 : Int32) dX3_setting_5 (by decide) ?_
  refine X_callVi C eX4_at [.int a1, .int (0 : Int32)] [] (M_X4_at C.g_J (hFu.tab (sts_tab hs).2.2) h) (hFu.tab (sts_tab hs).2.2).2.1 (wTab _ _ (hFu.tab (sts_tab hs).2.2).1) rfl q_279 rfl ⟨(Nat.le_of_ble_eq_true rfl), (Nat.le_of_ble_eq_true rfl)⟩ rfl (Nat.le_of_ble_eq_true rfl) dX3_setting_6 (fun r2 S1 h => ?_)
  exact X_iret C E rfl h dX3_setting_9
set_option maxRecDepth 100000 in
set_option maxHeartbeats 4000000 in
theorem M_X3_hashOf {l : Launch} {G : XG} (hJ : XJ G) (hFu : XF G) {s : Nat} (hs : s ∈ sts) {S : Mem} {a1 : Int32} {K : Int32 → Mem → Prop} (h : P_X3_hashOf s S a1 K) : XMi l G yX3_hashOf cX3_hashOf 2 .int 2 43 [.ref (xad G s), .int a1] S K := by
  refine X_meth RX3 rfl (by decide +kernel) hJ (Nat.le_of_ble_eq_true rfl) (fun κ hl hG C E => ?_)
  subst hl hG
  show XW κ S 0 [(0, .ref (xad (kG κ) s)), (1, .int a1)] []
  refine X_aload_n C 0 0 dX3_hashOf_0 rfl rfl ?_
  refine X_iload_n C 1 1 dX3_hashOf_1 rfl rfl ?_
  refine X_callVi C eX3_keyOf [.int a1] [] (M_X3_keyOf C.g_J hFu hs h) (hFu _ (sts_tab hs).1) (wSta _ _ hs) rfl q_301 rfl ⟨(Nat.le_of_ble_eq_true rfl), (Nat.le_of_ble_eq_true rfl)⟩ rfl (Nat.le_of_ble_eq_true rfl) dX3_hashOf_2 (fun r2 S1 h => ?_)
  refine X_aload_n C 0 0 dX3_hashOf_5 rfl rfl ?_
  refine X_iconst C (2 : Int32) dX3_hashOf_6 (by decide) ?_
  refine X_callVi C eX3_setting [.int (2 : Int32)] [.int r2] (M_X3_setting C.g_J hFu hs h) (hFu _ (sts_tab hs).1) (wSta _ _ hs) rfl q_302 rfl ⟨(Nat.le_of_ble_eq_true rfl), (Nat.le_of_ble_eq_true rfl)⟩ rfl (Nat.le_of_ble_eq_true rfl) dX3_hashOf_7 (fun r4 S3 h => ?_)
  refine X_imul C dX3_hashOf_10 ?_
  refine X_sipush C (7919 : Int32) dX3_hashOf_11 (by decide) ?_
  refine X_iadd C dX3_hashOf_14 ?_
  refine X_ldc C (65535 : Int32) q_303 dX3_hashOf_15 ?_
  refine X_iand C dX3_hashOf_17 ?_
  exact X_iret C E rfl h dX3_hashOf_18
set_option maxRecDepth 100000 in
set_option maxHeartbeats 4000000 in
theorem K_X0_addRow_79 {κ : Kx} (C : XC κ RX0 cX0_addRow 5 3 83) {K : Mem → Prop} (E : XRet κ none (va_Qv K (XB (kG κ)) (XA (kG κ)))) (hFu : XF (kG κ)) {S : Mem} {x2 : Int32} {x4 : Int32} (h : B_X0_addRow_79 K S x2 x4) : XW κ S 79 [(0, .ref (xad (kG κ) 28)), (2, .int x2), (4, .int x4)] [] := by
  refine X_aload_n C 0 0 dX0_addRow_79 rfl rfl ?_
  refine X_get C (hFu _ (by decide)) (wc_28 _ _) rfl inX0 0 (by decide) q_103 rfl dX0_addRow_80 ?_
  refine X_iload C 2 dX0_addRow_83 rfl ?_
  refine X_iconst C (1 : Int32) dX0_addRow_85 (by decide) ?_
  refine X_iconst C (1 : Int32) dX0_addRow_86 (by decide) ?_
  refine X_callVv C eX4_raise [.int x4, .int (1 : Int32), .int (1 : Int32)] [] (M_X4_raise C.g_J (hFu.tab (by decide)) h) (hFu _ (by decide)) (wc_29 _ _) rfl q_339 rfl ⟨(Nat.le_of_ble_eq_true rfl), (Nat.le_of_ble_eq_true rfl)⟩ rfl (Nat.le_of_ble_eq_true rfl) dX0_addRow_87 (fun S13 h => ?_)
  refine X_aload_n C 0 0 dX0_addRow_90 rfl rfl ?_
  refine X_get C (hFu _ (by decide)) (wc_28 _ _) rfl inX0 0 (by decide) q_103 rfl dX0_addRow_91 ?_
  refine X_iload C 2 dX0_addRow_94 rfl ?_
  refine X_iconst C (2 : Int32) dX0_addRow_96 (by decide) ?_
  refine X_iload_n C 2 1 dX0_addRow_97 rfl rfl ?_
  refine X_callVv C eX4_raise [.int x4, .int (2 : Int32), .int x2] [] (M_X4_raise C.g_J (hFu.tab (by decide)) h) (hFu _ (by decide)) (wc_29 _ _) rfl q_339 rfl ⟨(Nat.le_of_ble_eq_true rfl), (Nat.le_of_ble_eq_true rfl)⟩ rfl (Nat.le_of_ble_eq_true rfl) dX0_addRow_98 (fun S15 h => ?_)
  refine X_aload_n C 0 0 dX0_addRow_101 rfl rfl ?_
  refine X_get C (hFu _ (by decide)) (wc_28 _ _) rfl inX0 0 (by decide) q_103 rfl dX0_addRow_102 ?_
  refine X_iload C 2 dX0_addRow_105 rfl ?_
  refine X_iconst C (3 : Int32) dX0_addRow_107 (by decide) ?_
  refine X_aload_n C 0 0 dX0_addRow_108 rfl rfl ?_
  refine X_get C (hFu _ (by decide)) (wc_28 _ _) rfl inX0 0 (by decide) q_103 rfl dX0_addRow_109 ?_
  refine X_iload C 2 dX0_addRow_112 rfl ?_
  refine X_iconst C (3 : Int32) dX0_addRow_114 (by decide) ?_
  refine X_callVi C eX4_at [.int x4, .int (3 : Int32)] [.int (3 : Int32), .int x4, .ref (xad (kG κ) 29)] (M_X4_at C.g_J (hFu.tab (by decide)) h) (hFu _ (by decide)) (wc_29 _ _) rfl q_333 rfl ⟨(Nat.le_of_ble_eq_true rfl), (Nat.le_of_ble_eq_true rfl)⟩ rfl (Nat.le_of_ble_eq_true rfl) dX0_addRow_115 (fun r18 S17 h => ?_)
  refine X_iload_n C 2 1 dX0_addRow_118 rfl rfl ?_
  refine X_min C q_343 q_344 q_4 q_345 (Nat.le_of_ble_eq_true rfl) (Nat.le_trans (show _ ≤ 21 from Nat.le_of_ble_eq_true rfl) (Nat.le_of_ble_eq_true rfl)) dX0_addRow_119 ?_
  refine X_callVv C eX4_put [.int x4, .int (3 : Int32), .int (if x2 < r18 then x2 else r18)] [] (M_X4_put C.g_J (hFu.tab (by decide)) h) (hFu _ (by decide)) (wc_29 _ _) rfl q_338 rfl ⟨(Nat.le_of_ble_eq_true rfl), (Nat.le_of_ble_eq_true rfl)⟩ rfl (Nat.le_of_ble_eq_true rfl) dX0_addRow_122 (fun S19 h => ?_)
  refine X_aload_n C 0 0 dX0_addRow_125 rfl rfl ?_
  refine X_get C (hFu _ (by decide)) (wc_28 _ _) rfl inX0 0 (by decide) q_103 rfl dX0_addRow_126 ?_
  refine X_iload C 2 dX0_addRow_129 rfl ?_
  refine X_iconst C (4 : Int32) dX0_addRow_131 (by decide) ?_
  refine X_aload_n C 0 0 dX0_addRow_132 rfl rfl ?_
  refine X_get C (hFu _ (by decide)) (wc_28 _ _) rfl inX0 0 (by decide) q_103 rfl dX0_addRow_133 ?_
  refine X_iload C 2 dX0_addRow_136 rfl ?_
  refine X_iconst C (4 : Int32) dX0_addRow_138 (by decide) ?_
  refine X_callVi C eX4_at [.int x4, .int (4 : Int32)] [.int (4 : Int32), .int x4, .ref (xad (kG κ) 29)] (M_X4_at C.g_J (hFu.tab (by decide)) h) (hFu _ (by decide)) (wc_29 _ _) rfl q_333 rfl ⟨(Nat.le_of_ble_eq_true rfl), (Nat.le_of_ble_eq_true rfl)⟩ rfl (Nat.le_of_ble_eq_true rfl) dX0_addRow_139 (fun r22 S21 h => ?_)
  refine X_iload_n C 2 1 dX0_addRow_142 rfl rfl ?_
  refine X_max C q_346 q_33 q_4 q_34 (Nat.le_of_ble_eq_true rfl) (Nat.le_trans (show _ ≤ 21 from Nat.le_of_ble_eq_true rfl) (Nat.le_of_ble_eq_true rfl)) dX0_addRow_143 ?_
  refine X_callVv C eX4_put [.int x4, .int (4 : Int32), .int (if r22 < x2 then x2 else r22)] [] (M_X4_put C.g_J (hFu.tab (by decide)) h) (hFu _ (by decide)) (wc_29 _ _) rfl q_338 rfl ⟨(Nat.le_of_ble_eq_true rfl), (Nat.le_of_ble_eq_true rfl)⟩ rfl (Nat.le_of_ble_eq_true rfl) dX0_addRow_146 (fun S23 h => ?_)
  exact X_vret C E h dX0_addRow_149
set_option maxRecDepth 100000 in
set_option maxHeartbeats 4000000 in
theorem K_X0_addRow_36 {κ : Kx} (C : XC κ RX0 cX0_addRow 5 3 83) {K : Mem → Prop} (E : XRet κ none (va_Qv K (XB (kG κ)) (XA (kG κ)))) (hFu : XF (kG κ)) {S : Mem} {x1 : Int32} {x2 : Int32} {x3 : Int32} {x4 : Int32} (h : B_X0_addRow_36 K S x1 x2 x3 x4) : XW κ S 36 [(0, .ref (xad (kG κ) 28)), (1, .int x1), (2, .int x2), (3, .int x3), (4, .int x4)] [] := by
  refine X_aload_n C 0 0 dX0_addRow_36 rfl rfl ?_
  refine X_get C (hFu _ (by decide)) (wc_28 _ _) rfl inX0 0 (by decide) q_103 rfl dX0_addRow_37 ?_
  refine X_iload C 4 dX0_addRow_40 rfl ?_
  refine X_iload_n C 1 1 dX0_addRow_42 rfl rfl ?_
  refine X_callVv C eX4_insert [.int x4, .int x1] [] (M_X4_insert C.g_J (hFu.tab (by decide)) h) (hFu _ (by decide)) (wc_29 _ _) rfl q_334 rfl ⟨(Nat.le_of_ble_eq_true rfl), (Nat.le_of_ble_eq_true rfl)⟩ rfl (Nat.le_of_ble_eq_true rfl) dX0_addRow_43 (fun S5 h => ?_)
  refine X_aload_n C 0 0 dX0_addRow_46 rfl rfl ?_
  refine X_get C (hFu _ (by decide)) (wc_28 _ _) rfl inX0 0 (by decide) q_103 rfl dX0_addRow_47 ?_
  refine X_iload C 4 dX0_addRow_50 rfl ?_
  refine X_iconst C (5 : Int32) dX0_addRow_52 (by decide) ?_
  refine X_iload_n C 3 3 dX0_addRow_53 rfl rfl ?_
  refine X_callVv C eX4_put [.int x4, .int (5 : Int32), .int x3] [] (M_X4_put C.g_J (hFu.tab (by decide)) h) (hFu _ (by decide)) (wc_29 _ _) rfl q_338 rfl ⟨(Nat.le_of_ble_eq_true rfl), (Nat.le_of_ble_eq_true rfl)⟩ rfl (Nat.le_of_ble_eq_true rfl) dX0_addRow_54 (fun S7 h => ?_)
  refine X_aload_n C 0 0 dX0_addRow_57 rfl rfl ?_
  refine X_get C (hFu _ (by decide)) (wc_28 _ _) rfl inX0 0 (by decide) q_103 rfl dX0_addRow_58 ?_
  refine X_iload C 4 dX0_addRow_61 rfl ?_
  refine X_iconst C (3 : Int32) dX0_addRow_63 (by decide) ?_
  refine X_iload_n C 2 2 dX0_addRow_64 rfl rfl ?_
  refine X_callVv C eX4_put [.int x4, .int (3 : Int32), .int x2] [] (M_X4_put C.g_J (hFu.tab (by decide)) h) (hFu _ (by decide)) (wc_29 _ _) rfl q_338 rfl ⟨(Nat.le_of_ble_eq_true rfl), (Nat.le_of_ble_eq_true rfl)⟩ rfl (Nat.le_of_ble_eq_true rfl) dX0_addRow_65 (fun S9 h => ?_)
  refine X_aload_n C 0 0 dX0_addRow_68 rfl rfl ?_
  refine X_get C (hFu _ (by decide)) (wc_28 _ _) rfl inX0 0 (by decide) q_103 rfl dX0_addRow_69 ?_
  refine X_iload C 4 dX0_addRow_72 rfl ?_
  refine X_iconst C (4 : Int32) dX0_addRow_74 (by decide) ?_
  refine X_iload_n C 2 2 dX0_addRow_75 rfl rfl ?_
  refine X_callVv C eX4_put [.int x4, .int (4 : Int32), .int x2] [] (M_X4_put C.g_J (hFu.tab (by decide)) h) (hFu _ (by decide)) (wc_29 _ _) rfl q_338 rfl ⟨(Nat.le_of_ble_eq_true rfl), (Nat.le_of_ble_eq_true rfl)⟩ rfl (Nat.le_of_ble_eq_true rfl) dX0_addRow_76 (fun S11 h => ?_)
  refine X_sub [0, 2, 4] rfl ?_
  exact K_X0_addRow_79 C E hFu h
set_option maxRecDepth 100000 in
set_option maxHeartbeats 4000000 in
theorem M_X0_addRow {l : Launch} {G : XG} (hJ : XJ G) (hFu : XF G) {S : Mem} {a1 : Int32} {a2 : Int32} {a3 : Int32} {K : Mem → Prop} (h : P_X0_addRow S a1 a2 a3 K) : XMv l G yX0_addRow cX0_addRow 5 3 83 [.ref (xad G 28), .int a1, .int a2, .int a3] S K := by
  refine X_meth RX0 rfl (by decide +kernel) hJ (Nat.le_of_ble_eq_true rfl) (fun κ hl hG C E => ?_)
  subst hl hG
  show XW κ S 0 [(0, .ref (xad (kG κ) 28)), (1, .int a1), (2, .int a2), (3, .int a3)] []
  refine X_aload_n C 0 0 dX0_addRow_0 rfl rfl ?_
  refine X_get C (hFu _ (by decide)) (wc_28 _ _) rfl inX0 0 (by decide) q_103 rfl dX0_addRow_1 ?_
  refine X_iload_n C 1 1 dX0_addRow_4 rfl rfl ?_
  refine X_callVi C eX4_placeOf [.int a1] [] (M_X4_placeOf C.g_J (hFu.tab (by decide)) h) (hFu _ (by decide)) (wc_29 _ _) rfl q_329 rfl ⟨(Nat.le_of_ble_eq_true rfl), (Nat.le_of_ble_eq_true rfl)⟩ rfl (Nat.le_of_ble_eq_true rfl) dX0_addRow_5 (fun r2 S1 h => ?_)
  refine X_istore C [(4, .int r2), (0, .ref (xad (kG κ) 28)), (1, .int a1), (2, .int a2), (3, .int a3)] dX0_addRow_8 (by decide) rfl ?_
  refine X_iload C 0 dX0_addRow_10 rfl ?_
  refine X_aload_n C 0 1 dX0_addRow_12 rfl rfl ?_
  refine X_get C (hFu _ (by decide)) (wc_28 _ _) rfl inX0 0 (by decide) q_103 rfl dX0_addRow_13 ?_
  refine X_callVi C eX4_length [] [.int r2] (M_X4_length C.g_J (hFu.tab (by decide)) h) (hFu _ (by decide)) (wc_29 _ _) rfl q_321 rfl ⟨(Nat.le_of_ble_eq_true rfl), (Nat.le_of_ble_eq_true rfl)⟩ rfl (Nat.le_of_ble_eq_true rfl) dX0_addRow_16 (fun r4 S3 h => ?_)
  refine X_icmp_ge C 36 dX0_addRow_19 (by decide) (fun c => ?_) (fun c => ?_)
  · have h := h.1 c
    refine X_sub [1, 2, 3, 4, 0] rfl ?_
    exact K_X0_addRow_36 C E hFu h
  · have h := h.2 c
    refine X_aload_n C 0 1 dX0_addRow_22 rfl rfl ?_
    refine X_get C (hFu _ (by decide)) (wc_28 _ _) rfl inX0 0 (by decide) q_103 rfl dX0_addRow_23 ?_
    refine X_iload C 0 dX0_addRow_26 rfl ?_
    refine X_iconst C (0 : Int32) dX0_addRow_28 (by decide) ?_
    refine X_callVi C eX4_at [.int r2, .int (0 : Int32)] [] (M_X4_at C.g_J (hFu.tab (by decide)) h) (hFu _ (by decide)) (wc_29 _ _) rfl q_333 rfl ⟨(Nat.le_of_ble_eq_true rfl), (Nat.le_of_ble_eq_true rfl)⟩ rfl (Nat.le_of_ble_eq_true rfl) dX0_addRow_29 (fun r26 S25 h => ?_)
    refine X_iload_n C 1 2 dX0_addRow_32 rfl rfl ?_
    refine X_icmp_eq C 79 dX0_addRow_33 (by decide) (fun c => ?_) (fun c => ?_)
    · have h := h.1 c
      refine X_sub [1, 3, 0] rfl ?_
      exact K_X0_addRow_79 C E hFu h
    · have h := h.2 c
      refine X_sub [1, 2, 3, 4, 0] rfl ?_
      exact K_X0_addRow_36 C E hFu h
set_option maxRecDepth 100000 in
set_option maxHeartbeats 4000000 in
theorem K_X0_gather_56 {κ : Kx} (C : XC κ RX0 cX0_gather 3 4 107) {K : Mem → Prop} (E : XRet κ none (va_Qv K (XB (kG κ)) (XA (kG κ)))) (hFu : XF (kG κ)) {s1 : Nat} (hs1 : s1 ∈ sts) : ∀ (n : Nat) (S : Mem) (x2 : Int32), B_X0_gather_56 s1 K n S x2 → XW κ S 56 [(0, .ref (xad (kG κ) 28)), (1, .ref (xad (kG κ) s1)), (2, .int x2)] [] := by
  intro n
  induction n with
  | zero => intro S x2 h; exact h.elim
  | succ n ih =>
    intro S x2 h
    refine X_iload_n C 2 2 dX0_gather_56 rfl rfl ?_
    refine X_aload_n C 1 1 dX0_gather_57 rfl rfl ?_
    refine X_getN C (hFu _ (sts_tab hs1).1) (wSta _ _ hs1) rfl inX3 0 (by decide) z_61 rfl dX0_gather_58 ?_
    refine X_callVi C eX4_length [] [.int x2] (M_X4_length C.g_J (hFu.tab (sts_tab hs1).2.1) h) (hFu.tab (sts_tab hs1).2.1).2.1 (wTab _ _ (hFu.tab (sts_tab hs1).2.1).1) rfl q_321 rfl ⟨(Nat.le_of_ble_eq_true rfl), (Nat.le_of_ble_eq_true rfl)⟩ rfl (Nat.le_of_ble_eq_true rfl) dX0_gather_61 (fun r8 S7 h => ?_)
    refine X_icmp_ge C 93 dX0_gather_64 (by decide) (fun c => ?_) (fun c => ?_)
    · have h := h.1 c
      exact X_vret C E h dX0_gather_93
    · have h := h.2 c
      refine X_aload_n C 0 0 dX0_gather_67 rfl rfl ?_
      refine X_get C (hFu _ (by decide)) (wc_28 _ _) rfl inX0 1 (by decide) q_106 rfl dX0_gather_68 ?_
      refine X_aload_n C 0 0 dX0_gather_71 rfl rfl ?_
      refine X_get C (hFu _ (by decide)) (wc_28 _ _) rfl inX0 0 (by decide) q_103 rfl dX0_gather_72 ?_
      refine X_aload_n C 1 1 dX0_gather_75 rfl rfl ?_
      refine X_iload_n C 2 2 dX0_gather_76 rfl rfl ?_
      refine X_callVi C eX3_keyOf [.int x2] [.ref (xad (kG κ) 29), .ref (xad (kG κ) 31)] (M_X3_keyOf C.g_J hFu hs1 h) (hFu _ (sts_tab hs1).1) (wSta _ _ hs1) rfl q_322 rfl ⟨(Nat.le_of_ble_eq_true rfl), (Nat.le_of_ble_eq_true rfl)⟩ rfl (Nat.le_of_ble_eq_true rfl) dX0_gather_77 (fun r10 S9 h => ?_)
      refine X_callVi C eX4_placeOf [.int r10] [.ref (xad (kG κ) 31)] (M_X4_placeOf C.g_J (hFu.tab (by decide)) h) (hFu _ (by decide)) (wc_29 _ _) rfl q_329 rfl ⟨(Nat.le_of_ble_eq_true rfl), (Nat.le_of_ble_eq_true rfl)⟩ rfl (Nat.le_of_ble_eq_true rfl) dX0_gather_80 (fun r12 S11 h => ?_)
      refine X_callVi C eX4_append [.int r12] [] (M_X4_append C.g_J (hFu.tab (by decide)) h) (hFu _ (by decide)) (wc_31 _ _) rfl q_347 rfl ⟨(Nat.le_of_ble_eq_true rfl), (Nat.le_of_ble_eq_true rfl)⟩ rfl (Nat.le_of_ble_eq_true rfl) dX0_gather_83 (fun r14 S13 h => ?_)
      refine X_pop C dX0_gather_86 rfl ?_
      refine X_iinc C (x2 + (1 : Int32)) 2 [(2, .int (x2 + (1 : Int32))), (0, .ref (xad (kG κ) 28)), (1, .ref (xad (kG κ) s1))] dX0_gather_87 rfl rfl (by decide) rfl ?_
      refine X_goto C 56 dX0_gather_90 (by decide) ?_
      refine X_sub [1, 2, 0] rfl ?_
      exact ih _ _ h
set_option maxRecDepth 100000 in
set_option maxHeartbeats 4000000 in
theorem K_X0_gather_46 {κ : Kx} (C : XC κ RX0 cX0_gather 3 4 107) {K : Mem → Prop} (E : XRet κ none (va_Qv K (XB (kG κ)) (XA (kG κ)))) (hFu : XF (kG κ)) {s1 : Nat} (hs1 : s1 ∈ sts) {S : Mem} (h : B_X0_gather_46 s1 K S) : XW κ S 46 [(0, .ref (xad (kG κ) 28)), (1, .ref (xad (kG κ) s1))] [] := by
  refine X_aload_n C 0 0 dX0_gather_46 rfl rfl ?_
  refine X_get C (hFu _ (by decide)) (wc_28 _ _) rfl inX0 1 (by decide) q_106 rfl dX0_gather_47 ?_
  refine X_iconst C (0 : Int32) dX0_gather_50 (by decide) ?_
  refine X_callVv C eX4_shorten [.int (0 : Int32)] [] (M_X4_shorten C.g_J (hFu.tab (by decide)) h) (hFu _ (by decide)) (wc_31 _ _) rfl q_320 rfl ⟨(Nat.le_of_ble_eq_true rfl), (Nat.le_of_ble_eq_true rfl)⟩ rfl (Nat.le_of_ble_eq_true rfl) dX0_gather_51 (fun S5 h => ?_)
  refine X_iconst C (0 : Int32) dX0_gather_54 (by decide) ?_
  refine X_istore_n C 2 [(2, .int (0 : Int32)), (0, .ref (xad (kG κ) 28)), (1, .ref (xad (kG κ) s1))] dX0_gather_55 rfl (by decide) rfl ?_
  refine X_sub [1, 2, 0] rfl ?_
  obtain ⟨n15, h⟩ := h
  exact K_X0_gather_56 C E hFu hs1 n15 _ _ h
set_option maxRecDepth 100000 in
set_option maxHeartbeats 4000000 in
theorem K_X0_gather_10 {κ : Kx} (C : XC κ RX0 cX0_gather 3 4 107) {K : Mem → Prop} (E : XRet κ none (va_Qv K (XB (kG κ)) (XA (kG κ)))) (hFu : XF (kG κ)) {s1 : Nat} (hs1 : s1 ∈ sts) : ∀ (n : Nat) (S : Mem) (x2 : Int32), B_X0_gather_10 s1 K n S x2 → XW κ S 10 [(0, .ref (xad (kG κ) 28)), (1, .ref (xad (kG κ) s1)), (2, .int x2)] [] := by
  intro n
  induction n with
  | zero => intro S x2 h; exact h.elim
  | succ n ih =>
    intro S x2 h
    refine X_iload_n C 2 2 dX0_gather_10 rfl rfl ?_
    refine X_aload_n C 1 1 dX0_gather_11 rfl rfl ?_
    refine X_getN C (hFu _ (sts_tab hs1).1) (wSta _ _ hs1) rfl inX3 0 (by decide) z_61 rfl dX0_gather_12 ?_
    refine X_callVi C eX4_length [] [.int x2] (M_X4_length C.g_J (hFu.tab (sts_tab hs1).2.1) h) (hFu.tab (sts_tab hs1).2.1).2.1 (wTab _ _ (hFu.tab (sts_tab hs1).2.1).1) rfl q_321 rfl ⟨(Nat.le_of_ble_eq_true rfl), (Nat.le_of_ble_eq_true rfl)⟩ rfl (Nat.le_of_ble_eq_true rfl) dX0_gather_15 (fun r4 S3 h => ?_)
    refine X_icmp_ge C 46 dX0_gather_18 (by decide) (fun c => ?_) (fun c => ?_)
    · have h := h.1 c
      refine X_sub [0, 1] rfl ?_
      exact K_X0_gather_46 C E hFu hs1 h
    · have h := h.2 c
      refine X_aload_n C 0 0 dX0_gather_21 rfl rfl ?_
      refine X_aload_n C 1 1 dX0_gather_22 rfl rfl ?_
      refine X_iload_n C 2 2 dX0_gather_23 rfl rfl ?_
      refine X_callVi C eX3_keyOf [.int x2] [.ref (xad (kG κ) 28)] (M_X3_keyOf C.g_J hFu hs1 h) (hFu _ (sts_tab hs1).1) (wSta _ _ hs1) rfl q_322 rfl ⟨(Nat.le_of_ble_eq_true rfl), (Nat.le_of_ble_eq_true rfl)⟩ rfl (Nat.le_of_ble_eq_true rfl) dX0_gather_24 (fun r17 S16 h => ?_)
      refine X_aload_n C 1 1 dX0_gather_27 rfl rfl ?_
      refine X_iload_n C 2 2 dX0_gather_28 rfl rfl ?_
      refine X_callVi C eX3_valueOf [.int x2] [.int r17, .ref (xad (kG κ) 28)] (M_X3_valueOf C.g_J hFu hs1 h) (hFu _ (sts_tab hs1).1) (wSta _ _ hs1) rfl q_323 rfl ⟨(Nat.le_of_ble_eq_true rfl), (Nat.le_of_ble_eq_true rfl)⟩ rfl (Nat.le_of_ble_eq_true rfl) dX0_gather_29 (fun r19 S18 h => ?_)
      refine X_aload_n C 1 1 dX0_gather_32 rfl rfl ?_
      refine X_iload_n C 2 2 dX0_gather_33 rfl rfl ?_
      refine X_callVi C eX3_hashOf [.int x2] [.int r19, .int r17, .ref (xad (kG κ) 28)] (M_X3_hashOf C.g_J hFu hs1 h) (hFu _ (sts_tab hs1).1) (wSta _ _ hs1) rfl q_324 rfl ⟨(Nat.le_of_ble_eq_true rfl), (Nat.le_of_ble_eq_true rfl)⟩ rfl (Nat.le_of_ble_eq_true rfl) dX0_gather_34 (fun r21 S20 h => ?_)
      refine X_callVv C eX0_addRow [.int r17, .int r19, .int r21] [] (M_X0_addRow C.g_J hFu h) (hFu _ (by decide)) (wc_28 _ _) rfl q_325 rfl ⟨(Nat.le_of_ble_eq_true rfl), (Nat.le_of_ble_eq_true rfl)⟩ rfl (Nat.le_of_ble_eq_true rfl) dX0_gather_37 (fun S22 h => ?_)
      refine X_iinc C (x2 + (1 : Int32)) 2 [(2, .int (x2 + (1 : Int32))), (0, .ref (xad (kG κ) 28)), (1, .ref (xad (kG κ) s1))] dX0_gather_40 rfl rfl (by decide) rfl ?_
      refine X_goto C 10 dX0_gather_43 (by decide) ?_
      refine X_sub [1, 2, 0] rfl ?_
      exact ih _ _ h
set_option maxRecDepth 100000 in
set_option maxHeartbeats 4000000 in
theorem M_X0_gather {l : Launch} {G : XG} (hJ : XJ G) (hFu : XF G) {s1 : Nat} (hs1 : s1 ∈ sts) {S : Mem} {K : Mem → Prop} (h : P_X0_gather s1 S K) : XMv l G yX0_gather cX0_gather 3 4 107 [.ref (xad G 28), .ref (xad G s1)] S K := by
  refine X_meth RX0 rfl (by decide +kernel) hJ (Nat.le_of_ble_eq_true rfl) (fun κ hl hG C E => ?_)
  subst hl hG
  show XW κ S 0 [(0, .ref (xad (kG κ) 28)), (1, .ref (xad (kG κ) s1))] []
  refine X_aload_n C 0 0 dX0_gather_0 rfl rfl ?_
  refine X_get C (hFu _ (by decide)) (wc_28 _ _) rfl inX0 0 (by decide) q_103 rfl dX0_gather_1 ?_
  refine X_iconst C (0 : Int32) dX0_gather_4 (by decide) ?_
  refine X_callVv C eX4_shorten [.int (0 : Int32)] [] (M_X4_shorten C.g_J (hFu.tab (by decide)) h) (hFu _ (by decide)) (wc_29 _ _) rfl q_320 rfl ⟨(Nat.le_of_ble_eq_true rfl), (Nat.le_of_ble_eq_true rfl)⟩ rfl (Nat.le_of_ble_eq_true rfl) dX0_gather_5 (fun S1 h => ?_)
  refine X_iconst C (0 : Int32) dX0_gather_8 (by decide) ?_
  refine X_istore_n C 2 [(2, .int (0 : Int32)), (0, .ref (xad (kG κ) 28)), (1, .ref (xad (kG κ) s1))] dX0_gather_9 rfl (by decide) rfl ?_
  refine X_sub [1, 2, 0] rfl ?_
  obtain ⟨n24, h⟩ := h
  exact K_X0_gather_10 C E hFu hs1 n24 _ _ h
set_option maxRecDepth 100000 in
set_option maxHeartbeats 4000000 in
theorem M_X1_length {l : Launch} {G : XG} (hJ : XJ G) (hFu : XF G) {S : Mem} {K : Int32 → Mem → Prop} (h : P_X1_length S K) : XMi l G yX1_length cX1_length 1 .int 0 0 [.ref (xad G 6)] S K := by
  refine X_meth RX1 rfl (by decide +kernel) hJ (Nat.le_of_ble_eq_true rfl) (fun κ hl hG C E => ?_)
  subst hl hG
  show XW κ S 0 [(0, .ref (xad (kG κ) 6))] []
  refine X_aload_n C 0 0 dX1_length_0 rfl rfl ?_
  refine X_get C (hFu _ (by decide)) (wc_6 _ _) rfl inX1 2 (by decide) q_81 rfl dX1_length_1 ?_
  exact X_iret C E rfl h dX1_length_4
set_option maxRecDepth 100000 in
set_option maxHeartbeats 4000000 in
theorem M_X1_stateAt {l : Launch} {G : XG} (hJ : XJ G) (hFu : XF G) {S : Mem} {a1 : Int32} {K : Option Nat → Mem → Prop} (h : P_X1_stateAt S a1 K) : XMe l G yX1_stateAt cX1_stateAt 3 (.object "SpilledGroups$State") 0 0 [.ref (xad G 6), .int a1] S K := by
  refine X_meth RX1 rfl (by decide +kernel) hJ (Nat.le_of_ble_eq_true rfl) (fun κ hl hG C E => ?_)
  subst hl hG
  show XW κ S 0 [(0, .ref (xad (kG κ) 6)), (1, .int a1)] []
  refine X_iload_n C 1 1 dX1_stateAt_0 rfl rfl ?_
  refine X_if_lt C 9 dX1_stateAt_1 (by decide) (fun c => ?_) (fun c => ?_)
  · have h := h.1 c
    refine X_null C dX1_stateAt_9 ?_
    exact X_aret C E none rfl h dX1_stateAt_10
  · have h := h.2 c
    refine X_iload_n C 1 1 dX1_stateAt_4 rfl rfl ?_
    refine X_iconst C (4 : Int32) dX1_stateAt_5 (by decide) ?_
    refine X_icmp_lt C 11 dX1_stateAt_6 (by decide) (fun c => ?_) (fun c => ?_)
    · have h := h.1 c
      refine X_aload_n C 0 0 dX1_stateAt_11 rfl rfl ?_
      refine X_get C (hFu _ (by decide)) (wc_6 _ _) rfl inX1 1 (by decide) q_80 rfl dX1_stateAt_12 ?_
      refine X_iload_n C 1 1 dX1_stateAt_15 rfl rfl ?_
      refine X_iadd C dX1_stateAt_16 ?_
      refine X_iconst C (4 : Int32) dX1_stateAt_17 (by decide) ?_
      refine X_irem C dX1_stateAt_18 (by decide) ?_
      refine X_istore_n C 2 [(2, .int (((S 6 1) + a1) - ((S 6 1) + a1) / (4 : Int32) * (4 : Int32))), (0, .ref (xad (kG κ) 6)), (1, .int a1)] dX1_stateAt_19 rfl (by decide) rfl ?_
      refine X_iload_n C 2 0 dX1_stateAt_20 rfl rfl ?_
      refine X_if_lt C 33 dX1_stateAt_21 (by decide) (fun c => ?_) (fun c => ?_)
      · have h := h.1 c
        refine X_null C dX1_stateAt_33 ?_
        refine X_goto C 43 dX1_stateAt_34 (by decide) ?_
        exact X_aret C E none rfl h dX1_stateAt_43
      · have h := h.2 c
        refine X_iload_n C 2 0 dX1_stateAt_24 rfl rfl ?_
        refine X_aload_n C 0 1 dX1_stateAt_25 rfl rfl ?_
        refine X_get C (hFu _ (by decide)) (wc_6 _ _) rfl inX1 0 (by decide) q_79 rfl dX1_stateAt_26 ?_
        refine X_alenO C hFu dX1_stateAt_29 ?_
        refine X_icmp_lt C 37 dX1_stateAt_30 (by decide) (fun c => ?_) (fun c => ?_)
        · have h := h.1 c
          refine X_aload_n C 0 1 dX1_stateAt_37 rfl rfl ?_
          refine X_get C (hFu _ (by decide)) (wc_6 _ _) rfl inX1 0 (by decide) q_79 rfl dX1_stateAt_38 ?_
          refine X_iload_n C 2 0 dX1_stateAt_41 rfl rfl ?_
          obtain ⟨hin, h⟩ := h
          refine X_aald C hFu hin dX1_stateAt_42 ?_
          exact X_aret C E (some (8 + 5 * Int32.toNatClampNeg (((S 6 1) + a1) - ((S 6 1) + a1) / (4 : Int32) * (4 : Int32)))) rfl h dX1_stateAt_43
        · have h := h.2 c
          refine X_null C dX1_stateAt_33 ?_
          refine X_goto C 43 dX1_stateAt_34 (by decide) ?_
          exact X_aret C E none rfl h dX1_stateAt_43
    · have h := h.2 c
      refine X_null C dX1_stateAt_9 ?_
      exact X_aret C E none rfl h dX1_stateAt_10
set_option maxRecDepth 100000 in
set_option maxHeartbeats 4000000 in
theorem M_X3_copyFrom {l : Launch} {G : XG} (hJ : XJ G) (hFu : XF G) {s : Nat} (hs : s ∈ sts) {s1 : Nat} (hs1 : s1 ∈ sts) {S : Mem} {K : Mem → Prop} (h : P_X3_copyFrom s s1 S K) : XMv l G yX3_copyFrom cX3_copyFrom 2 2 81 [.ref (xad G s), .ref (xad G s1)] S K := by
  refine X_meth RX3 rfl (by decide +kernel) hJ (Nat.le_of_ble_eq_true rfl) (fun κ hl hG C E => ?_)
  subst hl hG
  show XW κ S 0 [(0, .ref (xad (kG κ) s)), (1, .ref (xad (kG κ) s1))] []
  refine X_aload_n C 0 0 dX3_copyFrom_0 rfl rfl ?_
  refine X_get C (hFu _ (sts_tab hs).1) (wSta _ _ hs) rfl inX3 0 (by decide) q_60 rfl dX3_copyFrom_1 ?_
  refine X_aload_n C 1 1 dX3_copyFrom_4 rfl rfl ?_
  refine X_get C (hFu _ (sts_tab hs1).1) (wSta _ _ hs1) rfl inX3 0 (by decide) q_60 rfl dX3_copyFrom_5 ?_
  refine X_callVv C eX4_copyFrom [.ref (xad (kG κ) (s1 + 1))] [] (M_X4_copyFrom C.g_J (hFu.tab (sts_tab hs).2.1) (hFu.tab (sts_tab hs1).2.1) h) (hFu.tab (sts_tab hs).2.1).2.1 (wTab _ _ (hFu.tab (sts_tab hs).2.1).1) rfl q_235 rfl ⟨(Nat.le_of_ble_eq_true rfl), (Nat.le_of_ble_eq_true rfl)⟩ rfl (Nat.le_of_ble_eq_true rfl) dX3_copyFrom_8 (fun S1 h => ?_)
  refine X_aload_n C 0 0 dX3_copyFrom_11 rfl rfl ?_
  refine X_get C (hFu _ (sts_tab hs).1) (wSta _ _ hs) rfl inX3 1 (by decide) q_63 rfl dX3_copyFrom_12 ?_
  refine X_aload_n C 1 1 dX3_copyFrom_15 rfl rfl ?_
  refine X_get C (hFu _ (sts_tab hs1).1) (wSta _ _ hs1) rfl inX3 1 (by decide) q_63 rfl dX3_copyFrom_16 ?_
  refine X_callVv C eX4_copyFrom [.ref (xad (kG κ) (s1 + 3))] [] (M_X4_copyFrom C.g_J (hFu.tab (sts_tab hs).2.2) (hFu.tab (sts_tab hs1).2.2) h) (hFu.tab (sts_tab hs).2.2).2.1 (wTab _ _ (hFu.tab (sts_tab hs).2.2).1) rfl q_235 rfl ⟨(Nat.le_of_ble_eq_true rfl), (Nat.le_of_ble_eq_true rfl)⟩ rfl (Nat.le_of_ble_eq_true rfl) dX3_copyFrom_19 (fun S3 h => ?_)
  exact X_vret C E h dX3_copyFrom_22
set_option maxRecDepth 100000 in
set_option maxHeartbeats 4000000 in
theorem K_X1_keep_30 {κ : Kx} (C : XC κ RX1 cX1_keep 3 3 102) {K : Mem → Prop} (E : XRet κ none (va_Qv K (XB (kG κ)) (XA (kG κ)))) (hFu : XF (kG κ)) {s1 : Nat} (hs1 : s1 ∈ sts) {S : Mem} (h : B_X1_keep_30 s1 K S) : XW κ S 30 [(0, .ref (xad (kG κ) 6)), (1, .ref (xad (kG κ) s1))] [] := by
  refine X_aload_n C 0 0 dX1_keep_30 rfl rfl ?_
  refine X_aload_n C 0 0 dX1_keep_31 rfl rfl ?_
  refine X_get C (hFu _ (by decide)) (wc_6 _ _) rfl inX1 2 (by decide) q_81 rfl dX1_keep_32 ?_
  refine X_callVe C eX1_stateAt [.int (S 6 2)] [] (M_X1_stateAt C.g_J hFu h) (hFu _ (by decide)) (wc_6 _ _) rfl q_227 rfl ⟨(Nat.le_of_ble_eq_true rfl), (Nat.le_of_ble_eq_true rfl)⟩ rfl (Nat.le_of_ble_eq_true rfl) dX1_keep_35 (fun r2 S1 h => ?_)
  rcases r2 with _ | o3
  · have h := h.1 rfl
    refine X_storenull C 2 [(2, .null), (0, .ref (xad (kG κ) 6)), (1, .ref (xad (kG κ) s1))] dX1_keep_38 rfl (by decide) rfl ?_
    refine X_loadnull C 2 0 dX1_keep_39 rfl rfl ?_
    refine X_ifnull0 C 58 dX1_keep_40 (by decide) ?_
    refine X_sub [1, 2] rfl ?_
    exact X_vret C E h dX1_keep_58
  · obtain ⟨ho3, h⟩ := h.2 o3 rfl
    refine X_some ?_
    refine X_astore_n C 2 [(2, .ref (xad (kG κ) o3)), (0, .ref (xad (kG κ) 6)), (1, .ref (xad (kG κ) s1))] dX1_keep_38 rfl (by decide) rfl ?_
    refine X_aload_n C 2 0 dX1_keep_39 rfl rfl ?_
    refine X_ifnull C dX1_keep_40 ?_
    refine X_aload_n C 2 0 dX1_keep_43 rfl rfl ?_
    refine X_aload_n C 1 2 dX1_keep_44 rfl rfl ?_
    refine X_callVv C eX3_copyFrom [.ref (xad (kG κ) s1)] [] (M_X3_copyFrom C.g_J hFu ho3 hs1 h) (hFu _ (sts_tab ho3).1) (wSta _ _ ho3) rfl q_231 rfl ⟨(Nat.le_of_ble_eq_true rfl), (Nat.le_of_ble_eq_true rfl)⟩ rfl (Nat.le_of_ble_eq_true rfl) dX1_keep_45 (fun S4 h => ?_)
    refine X_aload_n C 0 1 dX1_keep_48 rfl rfl ?_
    refine X_dup C dX1_keep_49 rfl ?_
    refine X_get C (hFu _ (by decide)) (wc_6 _ _) rfl inX1 2 (by decide) q_81 rfl dX1_keep_50 ?_
    refine X_iconst C (1 : Int32) dX1_keep_53 (by decide) ?_
    refine X_iadd C dX1_keep_54 ?_
    obtain ⟨S6, eS6⟩ : ∃ z, z = mput S4 6 2 ((S4 6 2) + (1 : Int32)) := ⟨_, rfl⟩
    have h := h S6 eS6
    refine X_put C (hFu _ (by decide)) (wc_6 _ _) rfl inX1 tyX1_ok nmX1 2 (by decide) q_81 rfl rfl rfl (Nat.le_of_ble_eq_true rfl) eS6 (wc_6 _ _) dX1_keep_55 ?_
    exact X_vret C E h dX1_keep_58
set_option maxRecDepth 100000 in
set_option maxHeartbeats 4000000 in
theorem M_X1_keep {l : Launch} {G : XG} (hJ : XJ G) (hFu : XF G) {s1 : Nat} (hs1 : s1 ∈ sts) {S : Mem} {K : Mem → Prop} (h : P_X1_keep s1 S K) : XMv l G yX1_keep cX1_keep 3 3 102 [.ref (xad G 6), .ref (xad G s1)] S K := by
  refine X_meth RX1 rfl (by decide +kernel) hJ (Nat.le_of_ble_eq_true rfl) (fun κ hl hG C E => ?_)
  subst hl hG
  show XW κ S 0 [(0, .ref (xad (kG κ) 6)), (1, .ref (xad (kG κ) s1))] []
  refine X_aload_n C 0 0 dX1_keep_0 rfl rfl ?_
  refine X_get C (hFu _ (by decide)) (wc_6 _ _) rfl inX1 2 (by decide) q_81 rfl dX1_keep_1 ?_
  refine X_iconst C (4 : Int32) dX1_keep_4 (by decide) ?_
  refine X_icmp_ne C 30 dX1_keep_5 (by decide) (fun c => ?_) (fun c => ?_)
  · have h := h.1 c
    exact K_X1_keep_30 C E hFu hs1 h
  · have h := h.2 c
    refine X_aload_n C 0 0 dX1_keep_8 rfl rfl ?_
    refine X_aload_n C 0 0 dX1_keep_9 rfl rfl ?_
    refine X_get C (hFu _ (by decide)) (wc_6 _ _) rfl inX1 1 (by decide) q_80 rfl dX1_keep_10 ?_
    refine X_iconst C (1 : Int32) dX1_keep_13 (by decide) ?_
    refine X_iadd C dX1_keep_14 ?_
    refine X_iconst C (4 : Int32) dX1_keep_15 (by decide) ?_
    refine X_irem C dX1_keep_16 (by decide) ?_
    obtain ⟨S7, eS7⟩ : ∃ z, z = mput S 6 1 (((S 6 1) + (1 : Int32)) - ((S 6 1) + (1 : Int32)) / (4 : Int32) * (4 : Int32)) := ⟨_, rfl⟩
    have h := h S7 eS7
    refine X_put C (hFu _ (by decide)) (wc_6 _ _) rfl inX1 tyX1_ok nmX1 1 (by decide) q_80 rfl rfl rfl (Nat.le_of_ble_eq_true rfl) eS7 (wc_6 _ _) dX1_keep_17 ?_
    refine X_aload_n C 0 0 dX1_keep_20 rfl rfl ?_
    refine X_dup C dX1_keep_21 rfl ?_
    refine X_get C (hFu _ (by decide)) (wc_6 _ _) rfl inX1 2 (by decide) q_81 rfl dX1_keep_22 ?_
    refine X_iconst C (1 : Int32) dX1_keep_25 (by decide) ?_
    refine X_isub C dX1_keep_26 ?_
    obtain ⟨S8, eS8⟩ : ∃ z, z = mput S7 6 2 ((S7 6 2) - (1 : Int32)) := ⟨_, rfl⟩
    have h := h S8 eS8
    refine X_put C (hFu _ (by decide)) (wc_6 _ _) rfl inX1 tyX1_ok nmX1 2 (by decide) q_81 rfl rfl rfl (Nat.le_of_ble_eq_true rfl) eS8 (wc_6 _ _) dX1_keep_27 ?_
    exact K_X1_keep_30 C E hFu hs1 h
set_option maxRecDepth 100000 in
set_option maxHeartbeats 4000000 in
theorem M_X1_restore {l : Launch} {G : XG} (hJ : XJ G) (hFu : XF G) {s1 : Nat} (hs1 : s1 ∈ sts) {S : Mem} {K : Mem → Prop} (h : P_X1_restore s1 S K) : XMv l G yX1_restore cX1_restore 3 3 102 [.ref (xad G 6), .ref (xad G s1)] S K := by
  refine X_meth RX1 rfl (by decide +kernel) hJ (Nat.le_of_ble_eq_true rfl) (fun κ hl hG C E => ?_)
  subst hl hG
  show XW κ S 0 [(0, .ref (xad (kG κ) 6)), (1, .ref (xad (kG κ) s1))] []
  refine X_aload_n C 0 0 dX1_restore_0 rfl rfl ?_
  refine X_aload_n C 0 0 dX1_restore_1 rfl rfl ?_
  refine X_get C (hFu _ (by decide)) (wc_6 _ _) rfl inX1 2 (by decide) q_81 rfl dX1_restore_2 ?_
  refine X_iconst C (1 : Int32) dX1_restore_5 (by decide) ?_
  refine X_isub C dX1_restore_6 ?_
  refine X_callVe C eX1_stateAt [.int ((S 6 2) - (1 : Int32))] [] (M_X1_stateAt C.g_J hFu h) (hFu _ (by decide)) (wc_6 _ _) rfl q_227 rfl ⟨(Nat.le_of_ble_eq_true rfl), (Nat.le_of_ble_eq_true rfl)⟩ rfl (Nat.le_of_ble_eq_true rfl) dX1_restore_7 (fun r2 S1 h => ?_)
  rcases r2 with _ | o3
  · have h := h.1 rfl
    refine X_storenull C 2 [(2, .null), (0, .ref (xad (kG κ) 6)), (1, .ref (xad (kG κ) s1))] dX1_restore_10 rfl (by decide) rfl ?_
    refine X_loadnull C 2 0 dX1_restore_11 rfl rfl ?_
    refine X_ifnull0 C 30 dX1_restore_12 (by decide) ?_
    refine X_sub [1, 2] rfl ?_
    exact X_vret C E h dX1_restore_30
  · obtain ⟨ho3, h⟩ := h.2 o3 rfl
    refine X_some ?_
    refine X_astore_n C 2 [(2, .ref (xad (kG κ) o3)), (0, .ref (xad (kG κ) 6)), (1, .ref (xad (kG κ) s1))] dX1_restore_10 rfl (by decide) rfl ?_
    refine X_aload_n C 2 0 dX1_restore_11 rfl rfl ?_
    refine X_ifnull C dX1_restore_12 ?_
    refine X_aload_n C 1 2 dX1_restore_15 rfl rfl ?_
    refine X_aload_n C 2 0 dX1_restore_16 rfl rfl ?_
    refine X_callVv C eX3_copyFrom [.ref (xad (kG κ) o3)] [] (M_X3_copyFrom C.g_J hFu hs1 ho3 h) (hFu _ (sts_tab hs1).1) (wSta _ _ hs1) rfl q_231 rfl ⟨(Nat.le_of_ble_eq_true rfl), (Nat.le_of_ble_eq_true rfl)⟩ rfl (Nat.le_of_ble_eq_true rfl) dX1_restore_17 (fun S4 h => ?_)
    refine X_aload_n C 0 1 dX1_restore_20 rfl rfl ?_
    refine X_dup C dX1_restore_21 rfl ?_
    refine X_get C (hFu _ (by decide)) (wc_6 _ _) rfl inX1 2 (by decide) q_81 rfl dX1_restore_22 ?_
    refine X_iconst C (1 : Int32) dX1_restore_25 (by decide) ?_
    refine X_isub C dX1_restore_26 ?_
    obtain ⟨S6, eS6⟩ : ∃ z, z = mput S4 6 2 ((S4 6 2) - (1 : Int32)) := ⟨_, rfl⟩
    have h := h S6 eS6
    refine X_put C (hFu _ (by decide)) (wc_6 _ _) rfl inX1 tyX1_ok nmX1 2 (by decide) q_81 rfl rfl rfl (Nat.le_of_ble_eq_true rfl) eS6 (wc_6 _ _) dX1_restore_27 ?_
    exact X_vret C E h dX1_restore_30
set_option maxRecDepth 100000 in
set_option maxHeartbeats 4000000 in
theorem M_X3_addRow {l : Launch} {G : XG} (hJ : XJ G) (hFu : XF G) {s : Nat} (hs : s ∈ sts) {S : Mem} {a1 : Int32} {a2 : Int32} {K : Mem → Prop} (h : P_X3_addRow s S a1 a2 K) : XMv l G yX3_addRow cX3_addRow 3 3 68 [.ref (xad G s), .int a1, .int a2] S K := by
  refine X_meth RX3 rfl (by decide +kernel) hJ (Nat.le_of_ble_eq_true rfl) (fun κ hl hG C E => ?_)
  subst hl hG
  show XW κ S 0 [(0, .ref (xad (kG κ) s)), (1, .int a1), (2, .int a2)] []
  refine X_aload_n C 0 0 dX3_addRow_0 rfl rfl ?_
  refine X_get C (hFu _ (sts_tab hs).1) (wSta _ _ hs) rfl inX3 0 (by decide) q_60 rfl dX3_addRow_1 ?_
  refine X_aload_n C 0 0 dX3_addRow_4 rfl rfl ?_
  refine X_get C (hFu _ (sts_tab hs).1) (wSta _ _ hs) rfl inX3 0 (by decide) q_60 rfl dX3_addRow_5 ?_
  refine X_iload_n C 1 1 dX3_addRow_8 rfl rfl ?_
  refine X_callVi C eX4_append [.int a1] [.ref (xad (kG κ) (s + 1))] (M_X4_append C.g_J (hFu.tab (sts_tab hs).2.1) h) (hFu.tab (sts_tab hs).2.1).2.1 (wTab _ _ (hFu.tab (sts_tab hs).2.1).1) rfl q_49 rfl ⟨(Nat.le_of_ble_eq_true rfl), (Nat.le_of_ble_eq_true rfl)⟩ rfl (Nat.le_of_ble_eq_true rfl) dX3_addRow_9 (fun r2 S1 h => ?_)
  refine X_iconst C (1 : Int32) dX3_addRow_12 (by decide) ?_
  refine X_iload_n C 2 2 dX3_addRow_13 rfl rfl ?_
  refine X_callVv C eX4_put [.int r2, .int (1 : Int32), .int a2] [] (M_X4_put C.g_J (hFu.tab (sts_tab hs).2.1) h) (hFu.tab (sts_tab hs).2.1).2.1 (wTab _ _ (hFu.tab (sts_tab hs).2.1).1) rfl q_246 rfl ⟨(Nat.le_of_ble_eq_true rfl), (Nat.le_of_ble_eq_true rfl)⟩ rfl (Nat.le_of_ble_eq_true rfl) dX3_addRow_14 (fun S3 h => ?_)
  exact X_vret C E h dX3_addRow_17
