set_option maxRecDepth 100000 in
set_option maxHeartbeats 4000000 in
theorem M_X2_forget {l : Launch} {G : XG} (hJ : XJ G) (hFu : XF G) {S : Mem} {K : Mem → Prop} (h : P_X2_forget S K) : XMv l G yX2_forget cX2_forget 1 0 0 [.ref (xad G 33)] S K := by
  refine X_meth RX2 rfl (by decide +kernel) hJ (Nat.le_of_ble_eq_true rfl) (fun κ hl hG C E => ?_)
  subst hl hG
  show XW κ S 0 [(0, .ref (xad (kG κ) 33))] []
  refine X_aload_n C 0 0 dX2_forget_0 rfl rfl ?_
  refine X_iconst C (0 : Int32) dX2_forget_1 (by decide) ?_
  obtain ⟨S1, eS1⟩ : ∃ z, z = mput S 33 9 (0 : Int32) := ⟨_, rfl⟩
  have h := h S1 eS1
  refine X_put C (hFu _ (by decide)) (wc_33 _ _) rfl inX2 tyX2_ok nmX2 9 (by decide) q_130 rfl rfl rfl (Nat.le_of_ble_eq_true rfl) eS1 (wc_33 _ _) dX2_forget_2 ?_
  exact X_vret C E h dX2_forget_5
set_option maxRecDepth 100000 in
set_option maxHeartbeats 4000000 in
theorem M_X2_prefixOf {l : Launch} {G : XG} (hJ : XJ G) (hFu : XF G) {S : Mem} {a1 : Int32} {a2 : Int32} {K : Int32 → Mem → Prop} (h : P_X2_prefixOf S a1 a2 K) : XMi l G yX2_prefixOf cX2_prefixOf 3 .int 1 22 [.ref (xad G 33), .int a1, .int a2] S K := by
  refine X_meth RX2 rfl (by decide +kernel) hJ (Nat.le_of_ble_eq_true rfl) (fun κ hl hG C E => ?_)
  subst hl hG
  show XW κ S 0 [(0, .ref (xad (kG κ) 33)), (1, .int a1), (2, .int a2)] []
  refine X_aload_n C 0 0 dX2_prefixOf_0 rfl rfl ?_
  refine X_get C (hFu _ (by decide)) (wc_33 _ _) rfl inX2 0 (by decide) q_115 rfl dX2_prefixOf_1 ?_
  refine X_getN C (hFu _ (by decide)) (wc_28 _ _) rfl inX0 0 (by decide) z_104 rfl dX2_prefixOf_4 ?_
  refine X_iload_n C 1 1 dX2_prefixOf_7 rfl rfl ?_
  refine X_iconst C (5 : Int32) dX2_prefixOf_8 (by decide) ?_
  refine X_callVi C eX4_at [.int a1, .int (5 : Int32)] [] (M_X4_at C.g_J (hFu.tab (by decide)) h) (hFu _ (by decide)) (wc_29 _ _) rfl q_375 rfl ⟨(Nat.le_of_ble_eq_true rfl), (Nat.le_of_ble_eq_true rfl)⟩ rfl (Nat.le_of_ble_eq_true rfl) dX2_prefixOf_9 (fun r2 S1 h => ?_)
  refine X_bipush C (16 : Int32) dX2_prefixOf_12 (by decide) ?_
  refine X_iload_n C 2 2 dX2_prefixOf_14 rfl rfl ?_
  refine X_aload_n C 0 0 dX2_prefixOf_15 rfl rfl ?_
  refine X_get C (hFu _ (by decide)) (wc_33 _ _) rfl inX2 10 (by decide) q_131 rfl dX2_prefixOf_16 ?_
  refine X_imul C dX2_prefixOf_19 ?_
  refine X_isub C dX2_prefixOf_20 ?_
  refine X_ishr C dX2_prefixOf_21 ?_
  exact X_iret C E rfl h dX2_prefixOf_22
set_option maxRecDepth 100000 in
set_option maxHeartbeats 4000000 in
theorem M_X2_partOf {l : Launch} {G : XG} (hJ : XJ G) (hFu : XF G) {S : Mem} {a1 : Int32} {a2 : Int32} {K : Int32 → Mem → Prop} (h : P_X2_partOf S a1 a2 K) : XMi l G yX2_partOf cX2_partOf 4 .int 1 22 [.ref (xad G 33), .int a1, .int a2] S K := by
  refine X_meth RX2 rfl (by decide +kernel) hJ (Nat.le_of_ble_eq_true rfl) (fun κ hl hG C E => ?_)
  subst hl hG
  show XW κ S 0 [(0, .ref (xad (kG κ) 33)), (1, .int a1), (2, .int a2)] []
  refine X_aload_n C 0 0 dX2_partOf_0 rfl rfl ?_
  refine X_get C (hFu _ (by decide)) (wc_33 _ _) rfl inX2 0 (by decide) q_115 rfl dX2_partOf_1 ?_
  refine X_getN C (hFu _ (by decide)) (wc_28 _ _) rfl inX0 0 (by decide) z_104 rfl dX2_partOf_4 ?_
  refine X_iload_n C 1 1 dX2_partOf_7 rfl rfl ?_
  refine X_iconst C (5 : Int32) dX2_partOf_8 (by decide) ?_
  refine X_callVi C eX4_at [.int a1, .int (5 : Int32)] [] (M_X4_at C.g_J (hFu.tab (by decide)) h) (hFu _ (by decide)) (wc_29 _ _) rfl q_375 rfl ⟨(Nat.le_of_ble_eq_true rfl), (Nat.le_of_ble_eq_true rfl)⟩ rfl (Nat.le_of_ble_eq_true rfl) dX2_partOf_9 (fun r2 S1 h => ?_)
  refine X_bipush C (16 : Int32) dX2_partOf_12 (by decide) ?_
  refine X_iload_n C 2 2 dX2_partOf_14 rfl rfl ?_
  refine X_iconst C (1 : Int32) dX2_partOf_15 (by decide) ?_
  refine X_iadd C dX2_partOf_16 ?_
  refine X_aload_n C 0 0 dX2_partOf_17 rfl rfl ?_
  refine X_get C (hFu _ (by decide)) (wc_33 _ _) rfl inX2 10 (by decide) q_131 rfl dX2_partOf_18 ?_
  refine X_imul C dX2_partOf_21 ?_
  refine X_isub C dX2_partOf_22 ?_
  refine X_ishr C dX2_partOf_23 ?_
  refine X_istore_n C 3 [(3, .int (r2 >>> (((16 : Int32) - ((a2 + (1 : Int32)) * (S1 33 10))) &&& 31))), (0, .ref (xad (kG κ) 33)), (1, .int a1), (2, .int a2)] dX2_partOf_24 rfl (by decide) rfl ?_
  refine X_iload_n C 3 0 dX2_partOf_25 rfl rfl ?_
  refine X_iconst C (1 : Int32) dX2_partOf_26 (by decide) ?_
  refine X_aload_n C 0 1 dX2_partOf_27 rfl rfl ?_
  refine X_get C (hFu _ (by decide)) (wc_33 _ _) rfl inX2 10 (by decide) q_131 rfl dX2_partOf_28 ?_
  refine X_ishl C dX2_partOf_31 ?_
  refine X_iconst C (1 : Int32) dX2_partOf_32 (by decide) ?_
  refine X_isub C dX2_partOf_33 ?_
  refine X_iand C dX2_partOf_34 ?_
  exact X_iret C E rfl h dX2_partOf_35
set_option maxRecDepth 100000 in
set_option maxHeartbeats 4000000 in
theorem M_X2_isSpilled {l : Launch} {G : XG} (hJ : XJ G) (hFu : XF G) {S : Mem} {a1 : Int32} {a2 : Int32} {K : Int32 → Mem → Prop} (h : P_X2_isSpilled S a1 a2 K) : XMi l G yX2_isSpilled cX2_isSpilled 3 .boolean 1 22 [.ref (xad G 33), .int a1, .int a2] S K := by
  refine X_meth RX2 rfl (by decide +kernel) hJ (Nat.le_of_ble_eq_true rfl) (fun κ hl hG C E => ?_)
  subst hl hG
  show XW κ S 0 [(0, .ref (xad (kG κ) 33)), (1, .int a1), (2, .int a2)] []
  refine X_aload_n C 0 0 dX2_isSpilled_0 rfl rfl ?_
  refine X_get C (hFu _ (by decide)) (wc_33 _ _) rfl inX2 1 (by decide) q_117 rfl dX2_isSpilled_1 ?_
  refine X_iload_n C 1 1 dX2_isSpilled_4 rfl rfl ?_
  refine X_iconst C (2 : Int32) dX2_isSpilled_5 (by decide) ?_
  refine X_callVi C eX4_at [.int a1, .int (2 : Int32)] [] (M_X4_at C.g_J (hFu.tab (by decide)) h) (hFu _ (by decide)) (wc_34 _ _) rfl q_375 rfl ⟨(Nat.le_of_ble_eq_true rfl), (Nat.le_of_ble_eq_true rfl)⟩ rfl (Nat.le_of_ble_eq_true rfl) dX2_isSpilled_6 (fun r2 S1 h => ?_)
  refine X_iload_n C 2 2 dX2_isSpilled_9 rfl rfl ?_
  refine X_ishr C dX2_isSpilled_10 ?_
  refine X_iconst C (1 : Int32) dX2_isSpilled_11 (by decide) ?_
  refine X_iand C dX2_isSpilled_12 ?_
  refine X_iconst C (1 : Int32) dX2_isSpilled_13 (by decide) ?_
  refine X_icmp_ne C 21 dX2_isSpilled_14 (by decide) (fun c => ?_) (fun c => ?_)
  · have h := h.1 c
    refine X_iconst C (0 : Int32) dX2_isSpilled_21 (by decide) ?_
    exact X_iret C E rfl h dX2_isSpilled_22
  · have h := h.2 c
    refine X_iconst C (1 : Int32) dX2_isSpilled_17 (by decide) ?_
    refine X_goto C 22 dX2_isSpilled_18 (by decide) ?_
    exact X_iret C E rfl h dX2_isSpilled_22
set_option maxRecDepth 100000 in
set_option maxHeartbeats 4000000 in
theorem M_X2_isHeld {l : Launch} {G : XG} (hJ : XJ G) (hFu : XF G) {S : Mem} {a1 : Int32} {K : Int32 → Mem → Prop} (h : P_X2_isHeld S a1 K) : XMi l G yX2_isHeld cX2_isHeld 3 .boolean 1 23 [.ref (xad G 33), .int a1] S K := by
  refine X_meth RX2 rfl (by decide +kernel) hJ (Nat.le_of_ble_eq_true rfl) (fun κ hl hG C E => ?_)
  subst hl hG
  show XW κ S 0 [(0, .ref (xad (kG κ) 33)), (1, .int a1)] []
  refine X_aload_n C 0 0 dX2_isHeld_0 rfl rfl ?_
  refine X_get C (hFu _ (by decide)) (wc_33 _ _) rfl inX2 5 (by decide) q_125 rfl dX2_isHeld_1 ?_
  refine X_iload_n C 1 1 dX2_isHeld_4 rfl rfl ?_
  refine X_callVi C eX4_placeOf [.int a1] [] (M_X4_placeOf C.g_J (hFu.tab (by decide)) h) (hFu _ (by decide)) (wc_42 _ _) rfl q_396 rfl ⟨(Nat.le_of_ble_eq_true rfl), (Nat.le_of_ble_eq_true rfl)⟩ rfl (Nat.le_of_ble_eq_true rfl) dX2_isHeld_5 (fun r2 S1 h => ?_)
  refine X_istore_n C 2 [(2, .int r2), (0, .ref (xad (kG κ) 33)), (1, .int a1)] dX2_isHeld_8 rfl (by decide) rfl ?_
  refine X_iload_n C 2 0 dX2_isHeld_9 rfl rfl ?_
  refine X_aload_n C 0 1 dX2_isHeld_10 rfl rfl ?_
  refine X_get C (hFu _ (by decide)) (wc_33 _ _) rfl inX2 5 (by decide) q_125 rfl dX2_isHeld_11 ?_
  refine X_callVi C eX4_length [] [.int r2] (M_X4_length C.g_J (hFu.tab (by decide)) h) (hFu _ (by decide)) (wc_42 _ _) rfl q_362 rfl ⟨(Nat.le_of_ble_eq_true rfl), (Nat.le_of_ble_eq_true rfl)⟩ rfl (Nat.le_of_ble_eq_true rfl) dX2_isHeld_14 (fun r4 S3 h => ?_)
  refine X_icmp_ge C 37 dX2_isHeld_17 (by decide) (fun c => ?_) (fun c => ?_)
  · have h := h.1 c
    refine X_iconst C (0 : Int32) dX2_isHeld_37 (by decide) ?_
    exact X_iret C E rfl h dX2_isHeld_38
  · have h := h.2 c
    refine X_aload_n C 0 1 dX2_isHeld_20 rfl rfl ?_
    refine X_get C (hFu _ (by decide)) (wc_33 _ _) rfl inX2 5 (by decide) q_125 rfl dX2_isHeld_21 ?_
    refine X_iload_n C 2 0 dX2_isHeld_24 rfl rfl ?_
    refine X_iconst C (0 : Int32) dX2_isHeld_25 (by decide) ?_
    refine X_callVi C eX4_at [.int r2, .int (0 : Int32)] [] (M_X4_at C.g_J (hFu.tab (by decide)) h) (hFu _ (by decide)) (wc_42 _ _) rfl q_375 rfl ⟨(Nat.le_of_ble_eq_true rfl), (Nat.le_of_ble_eq_true rfl)⟩ rfl (Nat.le_of_ble_eq_true rfl) dX2_isHeld_26 (fun r6 S5 h => ?_)
    refine X_iload_n C 1 2 dX2_isHeld_29 rfl rfl ?_
    refine X_icmp_ne C 37 dX2_isHeld_30 (by decide) (fun c => ?_) (fun c => ?_)
    · have h := h.1 c
      refine X_iconst C (0 : Int32) dX2_isHeld_37 (by decide) ?_
      exact X_iret C E rfl h dX2_isHeld_38
    · have h := h.2 c
      refine X_iconst C (1 : Int32) dX2_isHeld_33 (by decide) ?_
      refine X_goto C 38 dX2_isHeld_34 (by decide) ?_
      exact X_iret C E rfl h dX2_isHeld_38
set_option maxRecDepth 100000 in
set_option maxHeartbeats 4000000 in
theorem M_X2_needsSpill {l : Launch} {G : XG} (hJ : XJ G) (hFu : XF G) {S : Mem} {a1 : Int32} {a2 : Int32} {a3 : Int32} {K : Int32 → Mem → Prop} (h : P_X2_needsSpill S a1 a2 a3 K) : XMi l G yX2_needsSpill cX2_needsSpill 4 .boolean 2 45 [.ref (xad G 33), .int a1, .int a2, .int a3] S K := by
  refine X_meth RX2 rfl (by decide +kernel) hJ (Nat.le_of_ble_eq_true rfl) (fun κ hl hG C E => ?_)
  subst hl hG
  show XW κ S 0 [(0, .ref (xad (kG κ) 33)), (1, .int a1), (2, .int a2), (3, .int a3)] []
  refine X_aload_n C 0 0 dX2_needsSpill_0 rfl rfl ?_
  refine X_get C (hFu _ (by decide)) (wc_33 _ _) rfl inX2 5 (by decide) q_125 rfl dX2_needsSpill_1 ?_
  refine X_callVi C eX4_length [] [] (M_X4_length C.g_J (hFu.tab (by decide)) h) (hFu _ (by decide)) (wc_42 _ _) rfl q_362 rfl ⟨(Nat.le_of_ble_eq_true rfl), (Nat.le_of_ble_eq_true rfl)⟩ rfl (Nat.le_of_ble_eq_true rfl) dX2_needsSpill_4 (fun r2 S1 h => ?_)
  refine X_aload_n C 0 0 dX2_needsSpill_7 rfl rfl ?_
  refine X_get C (hFu _ (by decide)) (wc_33 _ _) rfl inX2 9 (by decide) q_130 rfl dX2_needsSpill_8 ?_
  refine X_icmp_lt C 48 dX2_needsSpill_11 (by decide) (fun c => ?_) (fun c => ?_)
  · have h := h.1 c
    refine X_iconst C (0 : Int32) dX2_needsSpill_48 (by decide) ?_
    exact X_iret C E rfl h dX2_needsSpill_49
  · have h := h.2 c
    refine X_iload_n C 2 2 dX2_needsSpill_14 rfl rfl ?_
    refine X_aload_n C 0 0 dX2_needsSpill_15 rfl rfl ?_
    refine X_get C (hFu _ (by decide)) (wc_33 _ _) rfl inX2 11 (by decide) q_132 rfl dX2_needsSpill_16 ?_
    refine X_icmp_ge C 48 dX2_needsSpill_19 (by decide) (fun c => ?_) (fun c => ?_)
    · have h := h.1 c
      refine X_iconst C (0 : Int32) dX2_needsSpill_48 (by decide) ?_
      exact X_iret C E rfl h dX2_needsSpill_49
    · have h := h.2 c
      refine X_aload_n C 0 0 dX2_needsSpill_22 rfl rfl ?_
      refine X_iload_n C 1 1 dX2_needsSpill_23 rfl rfl ?_
      refine X_aload_n C 0 0 dX2_needsSpill_24 rfl rfl ?_
      refine X_iload_n C 3 3 dX2_needsSpill_25 rfl rfl ?_
      refine X_iload_n C 2 2 dX2_needsSpill_26 rfl rfl ?_
      refine X_callVi C eX2_partOf [.int a3, .int a2] [.int a1, .ref (xad (kG κ) 33)] (M_X2_partOf C.g_J hFu h) (hFu _ (by decide)) (wc_33 _ _) rfl q_384 rfl ⟨(Nat.le_of_ble_eq_true rfl), (Nat.le_of_ble_eq_true rfl)⟩ rfl (Nat.le_of_ble_eq_true rfl) dX2_needsSpill_27 (fun r4 S3 h => ?_)
      refine X_callVi C eX2_isSpilled [.int a1, .int r4] [] (M_X2_isSpilled C.g_J hFu h) (hFu _ (by decide)) (wc_33 _ _) rfl q_388 rfl ⟨(Nat.le_of_ble_eq_true rfl), (Nat.le_of_ble_eq_true rfl)⟩ rfl (Nat.le_of_ble_eq_true rfl) dX2_needsSpill_30 (fun r6 S5 h => ?_)
      refine X_if_ne C 48 dX2_needsSpill_33 (by decide) (fun c => ?_) (fun c => ?_)
      · have h := h.1 c
        refine X_iconst C (0 : Int32) dX2_needsSpill_48 (by decide) ?_
        exact X_iret C E rfl h dX2_needsSpill_49
      · have h := h.2 c
        refine X_aload_n C 0 0 dX2_needsSpill_36 rfl rfl ?_
        refine X_iload_n C 3 3 dX2_needsSpill_37 rfl rfl ?_
        refine X_callVi C eX2_isHeld [.int a3] [] (M_X2_isHeld C.g_J hFu h) (hFu _ (by decide)) (wc_33 _ _) rfl q_392 rfl ⟨(Nat.le_of_ble_eq_true rfl), (Nat.le_of_ble_eq_true rfl)⟩ rfl (Nat.le_of_ble_eq_true rfl) dX2_needsSpill_38 (fun r8 S7 h => ?_)
        refine X_if_ne C 48 dX2_needsSpill_41 (by decide) (fun c => ?_) (fun c => ?_)
        · have h := h.1 c
          refine X_iconst C (0 : Int32) dX2_needsSpill_48 (by decide) ?_
          exact X_iret C E rfl h dX2_needsSpill_49
        · have h := h.2 c
          refine X_iconst C (1 : Int32) dX2_needsSpill_44 (by decide) ?_
          refine X_goto C 49 dX2_needsSpill_45 (by decide) ?_
          exact X_iret C E rfl h dX2_needsSpill_49
set_option maxRecDepth 100000 in
set_option maxHeartbeats 4000000 in
theorem K_X2_fullestPart_38 {κ : Kx} (C : XC κ RX2 cX2_fullestPart 3 1 22) {K : Int32 → Mem → Prop} (E : XRet κ (some .int) (va_Qi K (XB (kG κ)) (XA (kG κ)))) (hFu : XF (kG κ)) {R4 : Mem → Int32 → Int32 → Prop} (hR4 : ∀ (S : Mem) (x1 x2 : Int32), R4 S x1 x2 → XW κ S 4 [(0, .ref (xad (kG κ) 33)), (1, .int x1), (2, .int x2)] []) {S : Mem} {x1 : Int32} {x2 : Int32} (h : B_X2_fullestPart_38 R4 K S x1 x2) : XW κ S 38 [(0, .ref (xad (kG κ) 33)), (1, .int x1), (2, .int x2)] [] := by
  refine X_iinc C (x2 + (1 : Int32)) 2 [(2, .int (x2 + (1 : Int32))), (0, .ref (xad (kG κ) 33)), (1, .int x1)] dX2_fullestPart_38 rfl rfl (by decide) rfl ?_
  refine X_goto C 4 dX2_fullestPart_41 (by decide) ?_
  refine X_sub [1, 2, 0] rfl ?_
  exact hR4 _ _ _ h
set_option maxRecDepth 100000 in
set_option maxHeartbeats 4000000 in
theorem K_X2_fullestPart_4 {κ : Kx} (C : XC κ RX2 cX2_fullestPart 3 1 22) {K : Int32 → Mem → Prop} (E : XRet κ (some .int) (va_Qi K (XB (kG κ)) (XA (kG κ)))) (hFu : XF (kG κ)) : ∀ (n : Nat) (S : Mem) (x1 : Int32) (x2 : Int32), B_X2_fullestPart_4 K n S x1 x2 → XW κ S 4 [(0, .ref (xad (kG κ) 33)), (1, .int x1), (2, .int x2)] [] := by
  intro n
  induction n with
  | zero => intro S x1 x2 h; exact h.elim
  | succ n ih =>
    intro S x1 x2 h
    refine X_iload_n C 2 2 dX2_fullestPart_4 rfl rfl ?_
    refine X_aload_n C 0 0 dX2_fullestPart_5 rfl rfl ?_
    refine X_get C (hFu _ (by decide)) (wc_33 _ _) rfl inX2 6 (by decide) q_126 rfl dX2_fullestPart_6 ?_
    refine X_callVi C eX4_length [] [.int x2] (M_X4_length C.g_J (hFu.tab (by decide)) h) (hFu _ (by decide)) (wc_44 _ _) rfl q_362 rfl ⟨(Nat.le_of_ble_eq_true rfl), (Nat.le_of_ble_eq_true rfl)⟩ rfl (Nat.le_of_ble_eq_true rfl) dX2_fullestPart_9 (fun r2 S1 h => ?_)
    refine X_icmp_ge C 44 dX2_fullestPart_12 (by decide) (fun c => ?_) (fun c => ?_)
    · have h := h.1 c
      refine X_iload_n C 1 1 dX2_fullestPart_44 rfl rfl ?_
      exact X_iret C E rfl h dX2_fullestPart_45
    · have h := h.2 c
      refine X_aload_n C 0 0 dX2_fullestPart_15 rfl rfl ?_
      refine X_get C (hFu _ (by decide)) (wc_33 _ _) rfl inX2 6 (by decide) q_126 rfl dX2_fullestPart_16 ?_
      refine X_iload_n C 2 2 dX2_fullestPart_19 rfl rfl ?_
      refine X_iconst C (0 : Int32) dX2_fullestPart_20 (by decide) ?_
      refine X_callVi C eX4_at [.int x2, .int (0 : Int32)] [] (M_X4_at C.g_J (hFu.tab (by decide)) h) (hFu _ (by decide)) (wc_44 _ _) rfl q_375 rfl ⟨(Nat.le_of_ble_eq_true rfl), (Nat.le_of_ble_eq_true rfl)⟩ rfl (Nat.le_of_ble_eq_true rfl) dX2_fullestPart_21 (fun r4 S3 h => ?_)
      refine X_aload_n C 0 0 dX2_fullestPart_24 rfl rfl ?_
      refine X_get C (hFu _ (by decide)) (wc_33 _ _) rfl inX2 6 (by decide) q_126 rfl dX2_fullestPart_25 ?_
      refine X_iload_n C 1 1 dX2_fullestPart_28 rfl rfl ?_
      refine X_iconst C (0 : Int32) dX2_fullestPart_29 (by decide) ?_
      refine X_callVi C eX4_at [.int x1, .int (0 : Int32)] [.int r4] (M_X4_at C.g_J (hFu.tab (by decide)) h) (hFu _ (by decide)) (wc_44 _ _) rfl q_375 rfl ⟨(Nat.le_of_ble_eq_true rfl), (Nat.le_of_ble_eq_true rfl)⟩ rfl (Nat.le_of_ble_eq_true rfl) dX2_fullestPart_30 (fun r6 S5 h => ?_)
      refine X_icmp_le C 38 dX2_fullestPart_33 (by decide) (fun c => ?_) (fun c => ?_)
      · have h := h.1 c
        exact K_X2_fullestPart_38 C E hFu (fun _ _ _ h => ih _ _ _ h) h
      · have h := h.2 c
        refine X_iload_n C 2 2 dX2_fullestPart_36 rfl rfl ?_
        refine X_istore_n C 1 [(1, .int x2), (0, .ref (xad (kG κ) 33)), (2, .int x2)] dX2_fullestPart_37 rfl (by decide) rfl ?_
        refine X_sub [1, 0, 2] rfl ?_
        exact K_X2_fullestPart_38 C E hFu (fun _ _ _ h => ih _ _ _ h) h
set_option maxRecDepth 100000 in
set_option maxHeartbeats 4000000 in
theorem M_X2_fullestPart {l : Launch} {G : XG} (hJ : XJ G) (hFu : XF G) {S : Mem} {K : Int32 → Mem → Prop} (h : P_X2_fullestPart S K) : XMi l G yX2_fullestPart cX2_fullestPart 3 .int 1 22 [.ref (xad G 33)] S K := by
  refine X_meth RX2 rfl (by decide +kernel) hJ (Nat.le_of_ble_eq_true rfl) (fun κ hl hG C E => ?_)
  subst hl hG
  show XW κ S 0 [(0, .ref (xad (kG κ) 33))] []
  refine X_iconst C (0 : Int32) dX2_fullestPart_0 (by decide) ?_
  refine X_istore_n C 1 [(1, .int (0 : Int32)), (0, .ref (xad (kG κ) 33))] dX2_fullestPart_1 rfl (by decide) rfl ?_
  refine X_iconst C (1 : Int32) dX2_fullestPart_2 (by decide) ?_
  refine X_istore_n C 2 [(2, .int (1 : Int32)), (1, .int (0 : Int32)), (0, .ref (xad (kG κ) 33))] dX2_fullestPart_3 rfl (by decide) rfl ?_
  refine X_sub [2, 1, 0] rfl ?_
  obtain ⟨n7, h⟩ := h
  exact K_X2_fullestPart_4 C E hFu n7 _ _ _ h
set_option maxRecDepth 100000 in
set_option maxHeartbeats 4000000 in
theorem K_X2_spillPart_86 {κ : Kx} (C : XC κ RX2 cX2_spillPart 7 3 68) {K : Mem → Prop} (E : XRet κ none (va_Qv K (XB (kG κ)) (XA (kG κ)))) (hFu : XF (kG κ)) {S : Mem} {x1 : Int32} {x2 : Int32} {x3 : Int32} {x4 : Int32} (h : B_X2_spillPart_86 K S x1 x2 x3 x4) : XW κ S 86 [(0, .ref (xad (kG κ) 33)), (1, .int x1), (2, .int x2), (3, .int x3), (4, .int x4)] [] := by
  refine X_aload_n C 0 0 dX2_spillPart_86 rfl rfl ?_
  refine X_get C (hFu _ (by decide)) (wc_33 _ _) rfl inX2 5 (by decide) q_125 rfl dX2_spillPart_87 ?_
  refine X_callVi C eX4_length [] [] (M_X4_length C.g_J (hFu.tab (by decide)) h) (hFu _ (by decide)) (wc_42 _ _) rfl q_362 rfl ⟨(Nat.le_of_ble_eq_true rfl), (Nat.le_of_ble_eq_true rfl)⟩ rfl (Nat.le_of_ble_eq_true rfl) dX2_spillPart_90 (fun r6 S5 h => ?_)
  refine X_iload C 4 dX2_spillPart_93 rfl ?_
  refine X_isub C dX2_spillPart_95 ?_
  refine X_istore C [(5, .int (r6 - x4)), (0, .ref (xad (kG κ) 33)), (1, .int x1), (2, .int x2), (3, .int x3), (4, .int x4)] dX2_spillPart_96 (by decide) rfl ?_
  refine X_aload_n C 0 1 dX2_spillPart_98 rfl rfl ?_
  refine X_get C (hFu _ (by decide)) (wc_33 _ _) rfl inX2 5 (by decide) q_125 rfl dX2_spillPart_99 ?_
  refine X_iload C 5 dX2_spillPart_102 rfl ?_
  refine X_callVv C eX4_shorten [.int x4] [] (M_X4_shorten C.g_J (hFu.tab (by decide)) h) (hFu _ (by decide)) (wc_42 _ _) rfl q_361 rfl ⟨(Nat.le_of_ble_eq_true rfl), (Nat.le_of_ble_eq_true rfl)⟩ rfl (Nat.le_of_ble_eq_true rfl) dX2_spillPart_104 (fun S7 h => ?_)
  refine X_aload_n C 0 1 dX2_spillPart_107 rfl rfl ?_
  refine X_get C (hFu _ (by decide)) (wc_33 _ _) rfl inX2 2 (by decide) q_119 rfl dX2_spillPart_108 ?_
  refine X_iload_n C 3 4 dX2_spillPart_111 rfl rfl ?_
  refine X_callVi C eX4_append [.int x3] [] (M_X4_append C.g_J (hFu.tab (by decide)) h) (hFu _ (by decide)) (wc_36 _ _) rfl q_373 rfl ⟨(Nat.le_of_ble_eq_true rfl), (Nat.le_of_ble_eq_true rfl)⟩ rfl (Nat.le_of_ble_eq_true rfl) dX2_spillPart_112 (fun r10 S9 h => ?_)
  refine X_istore C [(6, .int r10), (5, .int (r6 - x4)), (0, .ref (xad (kG κ) 33)), (1, .int x1), (2, .int x2), (3, .int x3), (4, .int x4)] dX2_spillPart_115 (by decide) rfl ?_
  refine X_aload_n C 0 2 dX2_spillPart_117 rfl rfl ?_
  refine X_get C (hFu _ (by decide)) (wc_33 _ _) rfl inX2 2 (by decide) q_119 rfl dX2_spillPart_118 ?_
  refine X_iload C 0 dX2_spillPart_121 rfl ?_
  refine X_iconst C (1 : Int32) dX2_spillPart_123 (by decide) ?_
  refine X_aload_n C 0 2 dX2_spillPart_124 rfl rfl ?_
  refine X_get C (hFu _ (by decide)) (wc_33 _ _) rfl inX2 1 (by decide) q_117 rfl dX2_spillPart_125 ?_
  refine X_iload_n C 1 3 dX2_spillPart_128 rfl rfl ?_
  refine X_bipush C (7 : Int32) dX2_spillPart_129 (by decide) ?_
  refine X_callVi C eX4_at [.int x1, .int (7 : Int32)] [.int (1 : Int32), .int r10, .ref (xad (kG κ) 36)] (M_X4_at C.g_J (hFu.tab (by decide)) h) (hFu _ (by decide)) (wc_34 _ _) rfl q_375 rfl ⟨(Nat.le_of_ble_eq_true rfl), (Nat.le_of_ble_eq_true rfl)⟩ rfl (Nat.le_of_ble_eq_true rfl) dX2_spillPart_131 (fun r12 S11 h => ?_)
  refine X_callVv C eX4_put [.int r10, .int (1 : Int32), .int r12] [] (M_X4_put C.g_J (hFu.tab (by decide)) h) (hFu _ (by decide)) (wc_36 _ _) rfl q_374 rfl ⟨(Nat.le_of_ble_eq_true rfl), (Nat.le_of_ble_eq_true rfl)⟩ rfl (Nat.le_of_ble_eq_true rfl) dX2_spillPart_134 (fun S13 h => ?_)
  refine X_aload_n C 0 2 dX2_spillPart_137 rfl rfl ?_
  refine X_get C (hFu _ (by decide)) (wc_33 _ _) rfl inX2 2 (by decide) q_119 rfl dX2_spillPart_138 ?_
  refine X_iload C 0 dX2_spillPart_141 rfl ?_
  refine X_iconst C (2 : Int32) dX2_spillPart_143 (by decide) ?_
  refine X_iload_n C 2 4 dX2_spillPart_144 rfl rfl ?_
  refine X_callVv C eX4_put [.int r10, .int (2 : Int32), .int x2] [] (M_X4_put C.g_J (hFu.tab (by decide)) h) (hFu _ (by decide)) (wc_36 _ _) rfl q_374 rfl ⟨(Nat.le_of_ble_eq_true rfl), (Nat.le_of_ble_eq_true rfl)⟩ rfl (Nat.le_of_ble_eq_true rfl) dX2_spillPart_145 (fun S15 h => ?_)
  refine X_aload_n C 0 2 dX2_spillPart_148 rfl rfl ?_
  refine X_get C (hFu _ (by decide)) (wc_33 _ _) rfl inX2 2 (by decide) q_119 rfl dX2_spillPart_149 ?_
  refine X_iload C 0 dX2_spillPart_152 rfl ?_
  refine X_iconst C (3 : Int32) dX2_spillPart_154 (by decide) ?_
  refine X_iload C 1 dX2_spillPart_155 rfl ?_
  refine X_callVv C eX4_put [.int r10, .int (3 : Int32), .int (r6 - x4)] [] (M_X4_put C.g_J (hFu.tab (by decide)) h) (hFu _ (by decide)) (wc_36 _ _) rfl q_374 rfl ⟨(Nat.le_of_ble_eq_true rfl), (Nat.le_of_ble_eq_true rfl)⟩ rfl (Nat.le_of_ble_eq_true rfl) dX2_spillPart_157 (fun S17 h => ?_)
  refine X_aload_n C 0 2 dX2_spillPart_160 rfl rfl ?_
  refine X_get C (hFu _ (by decide)) (wc_33 _ _) rfl inX2 2 (by decide) q_119 rfl dX2_spillPart_161 ?_
  refine X_iload C 0 dX2_spillPart_164 rfl ?_
  refine X_iconst C (4 : Int32) dX2_spillPart_166 (by decide) ?_
  refine X_iload C 1 dX2_spillPart_167 rfl ?_
  refine X_callVv C eX4_put [.int r10, .int (4 : Int32), .int (r6 - x4)] [] (M_X4_put C.g_J (hFu.tab (by decide)) h) (hFu _ (by decide)) (wc_36 _ _) rfl q_374 rfl ⟨(Nat.le_of_ble_eq_true rfl), (Nat.le_of_ble_eq_true rfl)⟩ rfl (Nat.le_of_ble_eq_true rfl) dX2_spillPart_169 (fun S19 h => ?_)
  refine X_aload_n C 0 2 dX2_spillPart_172 rfl rfl ?_
  refine X_get C (hFu _ (by decide)) (wc_33 _ _) rfl inX2 6 (by decide) q_126 rfl dX2_spillPart_173 ?_
  refine X_iload_n C 2 4 dX2_spillPart_176 rfl rfl ?_
  refine X_iconst C (0 : Int32) dX2_spillPart_177 (by decide) ?_
  refine X_iconst C (0 : Int32) dX2_spillPart_178 (by decide) ?_
  refine X_callVv C eX4_put [.int x2, .int (0 : Int32), .int (0 : Int32)] [] (M_X4_put C.g_J (hFu.tab (by decide)) h) (hFu _ (by decide)) (wc_44 _ _) rfl q_374 rfl ⟨(Nat.le_of_ble_eq_true rfl), (Nat.le_of_ble_eq_true rfl)⟩ rfl (Nat.le_of_ble_eq_true rfl) dX2_spillPart_179 (fun S21 h => ?_)
  refine X_aload_n C 0 2 dX2_spillPart_182 rfl rfl ?_
  refine X_get C (hFu _ (by decide)) (wc_33 _ _) rfl inX2 6 (by decide) q_126 rfl dX2_spillPart_183 ?_
  refine X_iload_n C 2 4 dX2_spillPart_186 rfl rfl ?_
  refine X_iconst C (1 : Int32) dX2_spillPart_187 (by decide) ?_
  refine X_iload C 0 dX2_spillPart_188 rfl ?_
  refine X_callVv C eX4_put [.int x2, .int (1 : Int32), .int r10] [] (M_X4_put C.g_J (hFu.tab (by decide)) h) (hFu _ (by decide)) (wc_44 _ _) rfl q_374 rfl ⟨(Nat.le_of_ble_eq_true rfl), (Nat.le_of_ble_eq_true rfl)⟩ rfl (Nat.le_of_ble_eq_true rfl) dX2_spillPart_190 (fun S23 h => ?_)
  refine X_aload_n C 0 2 dX2_spillPart_193 rfl rfl ?_
  refine X_get C (hFu _ (by decide)) (wc_33 _ _) rfl inX2 1 (by decide) q_117 rfl dX2_spillPart_194 ?_
  refine X_iload_n C 1 3 dX2_spillPart_197 rfl rfl ?_
  refine X_iconst C (2 : Int32) dX2_spillPart_198 (by decide) ?_
  refine X_iconst C (1 : Int32) dX2_spillPart_199 (by decide) ?_
  refine X_iload_n C 2 4 dX2_spillPart_200 rfl rfl ?_
  refine X_ishl C dX2_spillPart_201 ?_
  refine X_callVv C eX4_raise [.int x1, .int (2 : Int32), .int ((1 : Int32) <<< (x2 &&& 31))] [] (M_X4_raise C.g_J (hFu.tab (by decide)) h) (hFu _ (by decide)) (wc_34 _ _) rfl q_405 rfl ⟨(Nat.le_of_ble_eq_true rfl), (Nat.le_of_ble_eq_true rfl)⟩ rfl (Nat.le_of_ble_eq_true rfl) dX2_spillPart_202 (fun S25 h => ?_)
  refine X_aload_n C 0 2 dX2_spillPart_205 rfl rfl ?_
  refine X_get C (hFu _ (by decide)) (wc_33 _ _) rfl inX2 1 (by decide) q_117 rfl dX2_spillPart_206 ?_
  refine X_iload_n C 1 3 dX2_spillPart_209 rfl rfl ?_
  refine X_iconst C (3 : Int32) dX2_spillPart_210 (by decide) ?_
  refine X_iload C 1 dX2_spillPart_211 rfl ?_
  refine X_callVv C eX4_raise [.int x1, .int (3 : Int32), .int (r6 - x4)] [] (M_X4_raise C.g_J (hFu.tab (by decide)) h) (hFu _ (by decide)) (wc_34 _ _) rfl q_405 rfl ⟨(Nat.le_of_ble_eq_true rfl), (Nat.le_of_ble_eq_true rfl)⟩ rfl (Nat.le_of_ble_eq_true rfl) dX2_spillPart_213 (fun S27 h => ?_)
  exact X_vret C E h dX2_spillPart_216
set_option maxRecDepth 100000 in
set_option maxHeartbeats 4000000 in
theorem K_X2_spillPart_80 {κ : Kx} (C : XC κ RX2 cX2_spillPart 7 3 68) {K : Mem → Prop} (E : XRet κ none (va_Qv K (XB (kG κ)) (XA (kG κ)))) (hFu : XF (kG κ)) {R17 : Mem → Int32 → Int32 → Int32 → Int32 → Int32 → Prop} (hR17 : ∀ (S : Mem) (x1 x2 x3 x4 x5 : Int32), R17 S x1 x2 x3 x4 x5 → XW κ S 17 [(0, .ref (xad (kG κ) 33)), (1, .int x1), (2, .int x2), (3, .int x3), (4, .int x4), (5, .int x5)] []) {S : Mem} {x1 : Int32} {x2 : Int32} {x3 : Int32} {x4 : Int32} {x5 : Int32} (h : B_X2_spillPart_80 R17 K S x1 x2 x3 x4 x5) : XW κ S 80 [(0, .ref (xad (kG κ) 33)), (1, .int x1), (2, .int x2), (3, .int x3), (4, .int x4), (5, .int x5)] [] := by
  refine X_iinc C (x5 + (1 : Int32)) 5 [(5, .int (x5 + (1 : Int32))), (0, .ref (xad (kG κ) 33)), (1, .int x1), (2, .int x2), (3, .int x3), (4, .int x4)] dX2_spillPart_80 rfl rfl (by decide) rfl ?_
  refine X_goto C 17 dX2_spillPart_83 (by decide) ?_
  refine X_sub [1, 2, 3, 4, 5, 0] rfl ?_
  exact hR17 _ _ _ _ _ _ h
set_option maxRecDepth 100000 in
set_option maxHeartbeats 4000000 in
theorem K_X2_spillPart_17 {κ : Kx} (C : XC κ RX2 cX2_spillPart 7 3 68) {K : Mem → Prop} (E : XRet κ none (va_Qv K (XB (kG κ)) (XA (kG κ)))) (hFu : XF (kG κ)) : ∀ (n : Nat) (S : Mem) (x1 : Int32) (x2 : Int32) (x3 : Int32) (x4 : Int32) (x5 : Int32), B_X2_spillPart_17 K n S x1 x2 x3 x4 x5 → XW κ S 17 [(0, .ref (xad (kG κ) 33)), (1, .int x1), (2, .int x2), (3, .int x3), (4, .int x4), (5, .int x5)] [] := by
  intro n
  induction n with
  | zero => intro S x1 x2 x3 x4 x5 h; exact h.elim
  | succ n ih =>
    intro S x1 x2 x3 x4 x5 h
    refine X_iload C 5 dX2_spillPart_17 rfl ?_
    refine X_aload_n C 0 0 dX2_spillPart_19 rfl rfl ?_
    refine X_get C (hFu _ (by decide)) (wc_33 _ _) rfl inX2 5 (by decide) q_125 rfl dX2_spillPart_20 ?_
    refine X_callVi C eX4_length [] [.int x5] (M_X4_length C.g_J (hFu.tab (by decide)) h) (hFu _ (by decide)) (wc_42 _ _) rfl q_362 rfl ⟨(Nat.le_of_ble_eq_true rfl), (Nat.le_of_ble_eq_true rfl)⟩ rfl (Nat.le_of_ble_eq_true rfl) dX2_spillPart_23 (fun r4 S3 h => ?_)
    refine X_icmp_ge C 86 dX2_spillPart_26 (by decide) (fun c => ?_) (fun c => ?_)
    · have h := h.1 c
      refine X_sub [0, 1, 2, 3, 4] rfl ?_
      exact K_X2_spillPart_86 C E hFu h
    · have h := h.2 c
      refine X_aload_n C 0 0 dX2_spillPart_29 rfl rfl ?_
      refine X_get C (hFu _ (by decide)) (wc_33 _ _) rfl inX2 5 (by decide) q_125 rfl dX2_spillPart_30 ?_
      refine X_iload C 5 dX2_spillPart_33 rfl ?_
      refine X_iconst C (0 : Int32) dX2_spillPart_35 (by decide) ?_
      refine X_callVi C eX4_at [.int x5, .int (0 : Int32)] [] (M_X4_at C.g_J (hFu.tab (by decide)) h) (hFu _ (by decide)) (wc_42 _ _) rfl q_375 rfl ⟨(Nat.le_of_ble_eq_true rfl), (Nat.le_of_ble_eq_true rfl)⟩ rfl (Nat.le_of_ble_eq_true rfl) dX2_spillPart_36 (fun r30 S29 h => ?_)
      refine X_istore C [(6, .int r30), (0, .ref (xad (kG κ) 33)), (1, .int x1), (2, .int x2), (3, .int x3), (4, .int x4), (5, .int x5)] dX2_spillPart_39 (by decide) rfl ?_
      refine X_aload_n C 0 1 dX2_spillPart_41 rfl rfl ?_
      refine X_iload C 0 dX2_spillPart_42 rfl ?_
      refine X_iload_n C 3 4 dX2_spillPart_44 rfl rfl ?_
      refine X_callVi C eX2_partOf [.int r30, .int x3] [] (M_X2_partOf C.g_J hFu h) (hFu _ (by decide)) (wc_33 _ _) rfl q_384 rfl ⟨(Nat.le_of_ble_eq_true rfl), (Nat.le_of_ble_eq_true rfl)⟩ rfl (Nat.le_of_ble_eq_true rfl) dX2_spillPart_45 (fun r32 S31 h => ?_)
      refine X_iload_n C 2 3 dX2_spillPart_48 rfl rfl ?_
      refine X_icmp_ne C 65 dX2_spillPart_49 (by decide) (fun c => ?_) (fun c => ?_)
      · have h := h.1 c
        refine X_aload_n C 0 1 dX2_spillPart_65 rfl rfl ?_
        refine X_get C (hFu _ (by decide)) (wc_33 _ _) rfl inX2 5 (by decide) q_125 rfl dX2_spillPart_66 ?_
        refine X_iload C 5 dX2_spillPart_69 rfl ?_
        refine X_iconst C (0 : Int32) dX2_spillPart_71 (by decide) ?_
        refine X_iload C 0 dX2_spillPart_72 rfl ?_
        refine X_callVv C eX4_put [.int x4, .int (0 : Int32), .int r30] [] (M_X4_put C.g_J (hFu.tab (by decide)) h) (hFu _ (by decide)) (wc_42 _ _) rfl q_374 rfl ⟨(Nat.le_of_ble_eq_true rfl), (Nat.le_of_ble_eq_true rfl)⟩ rfl (Nat.le_of_ble_eq_true rfl) dX2_spillPart_74 (fun S33 h => ?_)
        refine X_iinc C (x4 + (1 : Int32)) 5 [(4, .int (x4 + (1 : Int32))), (6, .int r30), (0, .ref (xad (kG κ) 33)), (1, .int x1), (2, .int x2), (3, .int x3), (5, .int x5)] dX2_spillPart_77 rfl rfl (by decide) rfl ?_
        refine X_sub [2, 3, 4, 5, 0, 6] rfl ?_
        exact K_X2_spillPart_80 C E hFu (fun _ _ _ _ _ _ h => ih _ _ _ _ _ _ h) h
      · have h := h.2 c
        refine X_aload_n C 0 1 dX2_spillPart_52 rfl rfl ?_
        refine X_get C (hFu _ (by decide)) (wc_33 _ _) rfl inX2 7 (by decide) q_127 rfl dX2_spillPart_53 ?_
        refine X_iload C 0 dX2_spillPart_56 rfl ?_
        refine X_callVi C eX4_append [.int r30] [] (M_X4_append C.g_J (hFu.tab (by decide)) h) (hFu _ (by decide)) (wc_46 _ _) rfl q_373 rfl ⟨(Nat.le_of_ble_eq_true rfl), (Nat.le_of_ble_eq_true rfl)⟩ rfl (Nat.le_of_ble_eq_true rfl) dX2_spillPart_58 (fun r36 S35 h => ?_)
        refine X_pop C dX2_spillPart_61 rfl ?_
        refine X_goto C 80 dX2_spillPart_62 (by decide) ?_
        refine X_sub [1, 2, 3, 4, 5, 6] rfl ?_
        exact K_X2_spillPart_80 C E hFu (fun _ _ _ _ _ _ h => ih _ _ _ _ _ _ h) h
set_option maxRecDepth 100000 in
set_option maxHeartbeats 4000000 in
theorem M_X2_spillPart {l : Launch} {G : XG} (hJ : XJ G) (hFu : XF G) {S : Mem} {a1 : Int32} {a2 : Int32} {K : Mem → Prop} (h : P_X2_spillPart S a1 a2 K) : XMv l G yX2_spillPart cX2_spillPart 7 3 68 [.ref (xad G 33), .int a1, .int a2] S K := by
  refine X_meth RX2 rfl (by decide +kernel) hJ (Nat.le_of_ble_eq_true rfl) (fun κ hl hG C E => ?_)
  subst hl hG
  show XW κ S 0 [(0, .ref (xad (kG κ) 33)), (1, .int a1), (2, .int a2)] []
  refine X_aload_n C 0 0 dX2_spillPart_0 rfl rfl ?_
  refine X_get C (hFu _ (by decide)) (wc_33 _ _) rfl inX2 1 (by decide) q_117 rfl dX2_spillPart_1 ?_
  refine X_iload_n C 1 1 dX2_spillPart_4 rfl rfl ?_
  refine X_bipush C (6 : Int32) dX2_spillPart_5 (by decide) ?_
  refine X_callVi C eX4_at [.int a1, .int (6 : Int32)] [] (M_X4_at C.g_J (hFu.tab (by decide)) h) (hFu _ (by decide)) (wc_34 _ _) rfl q_375 rfl ⟨(Nat.le_of_ble_eq_true rfl), (Nat.le_of_ble_eq_true rfl)⟩ rfl (Nat.le_of_ble_eq_true rfl) dX2_spillPart_7 (fun r2 S1 h => ?_)
  refine X_istore_n C 3 [(3, .int r2), (0, .ref (xad (kG κ) 33)), (1, .int a1), (2, .int a2)] dX2_spillPart_10 rfl (by decide) rfl ?_
  refine X_iconst C (0 : Int32) dX2_spillPart_11 (by decide) ?_
  refine X_istore C [(4, .int (0 : Int32)), (3, .int r2), (0, .ref (xad (kG κ) 33)), (1, .int a1), (2, .int a2)] dX2_spillPart_12 (by decide) rfl ?_
  refine X_iconst C (0 : Int32) dX2_spillPart_14 (by decide) ?_
  refine X_istore C [(5, .int (0 : Int32)), (4, .int (0 : Int32)), (3, .int r2), (0, .ref (xad (kG κ) 33)), (1, .int a1), (2, .int a2)] dX2_spillPart_15 (by decide) rfl ?_
  refine X_sub [3, 4, 5, 2, 1, 0] rfl ?_
  obtain ⟨n37, h⟩ := h
  exact K_X2_spillPart_17 C E hFu n37 _ _ _ _ _ _ h
set_option maxRecDepth 100000 in
set_option maxHeartbeats 4000000 in
theorem K_X2_layGroup_24 {κ : Kx} (C : XC κ RX2 cX2_layGroup 4 3 83) {K : Mem → Prop} (E : XRet κ none (va_Qv K (XB (kG κ)) (XA (kG κ)))) (hFu : XF (kG κ)) {S : Mem} {x1 : Int32} {x2 : Int32} {x3 : Int32} (h : B_X2_layGroup_24 K S x1 x2 x3) : XW κ S 24 [(0, .ref (xad (kG κ) 33)), (1, .int x1), (2, .int x2), (3, .int x3)] [] := by
  refine X_aload_n C 0 0 dX2_layGroup_24 rfl rfl ?_
  refine X_get C (hFu _ (by decide)) (wc_33 _ _) rfl inX2 5 (by decide) q_125 rfl dX2_layGroup_25 ?_
  refine X_aload_n C 0 0 dX2_layGroup_28 rfl rfl ?_
  refine X_get C (hFu _ (by decide)) (wc_33 _ _) rfl inX2 5 (by decide) q_125 rfl dX2_layGroup_29 ?_
  refine X_iload_n C 3 3 dX2_layGroup_32 rfl rfl ?_
  refine X_callVi C eX4_placeOf [.int x3] [.ref (xad (kG κ) 42)] (M_X4_placeOf C.g_J (hFu.tab (by decide)) h) (hFu _ (by decide)) (wc_42 _ _) rfl q_396 rfl ⟨(Nat.le_of_ble_eq_true rfl), (Nat.le_of_ble_eq_true rfl)⟩ rfl (Nat.le_of_ble_eq_true rfl) dX2_layGroup_33 (fun r4 S3 h => ?_)
  refine X_iload_n C 3 3 dX2_layGroup_36 rfl rfl ?_
  refine X_callVv C eX4_insert [.int r4, .int x3] [] (M_X4_insert C.g_J (hFu.tab (by decide)) h) (hFu _ (by decide)) (wc_42 _ _) rfl q_414 rfl ⟨(Nat.le_of_ble_eq_true rfl), (Nat.le_of_ble_eq_true rfl)⟩ rfl (Nat.le_of_ble_eq_true rfl) dX2_layGroup_37 (fun S5 h => ?_)
  refine X_aload_n C 0 0 dX2_layGroup_40 rfl rfl ?_
  refine X_get C (hFu _ (by decide)) (wc_33 _ _) rfl inX2 6 (by decide) q_126 rfl dX2_layGroup_41 ?_
  refine X_iload_n C 2 2 dX2_layGroup_44 rfl rfl ?_
  refine X_iconst C (0 : Int32) dX2_layGroup_45 (by decide) ?_
  refine X_iconst C (1 : Int32) dX2_layGroup_46 (by decide) ?_
  refine X_callVv C eX4_raise [.int x2, .int (0 : Int32), .int (1 : Int32)] [] (M_X4_raise C.g_J (hFu.tab (by decide)) h) (hFu _ (by decide)) (wc_44 _ _) rfl q_405 rfl ⟨(Nat.le_of_ble_eq_true rfl), (Nat.le_of_ble_eq_true rfl)⟩ rfl (Nat.le_of_ble_eq_true rfl) dX2_layGroup_47 (fun S7 h => ?_)
  refine X_aload_n C 0 0 dX2_layGroup_50 rfl rfl ?_
  refine X_get C (hFu _ (by decide)) (wc_33 _ _) rfl inX2 1 (by decide) q_117 rfl dX2_layGroup_51 ?_
  refine X_iload_n C 1 1 dX2_layGroup_54 rfl rfl ?_
  refine X_iconst C (4 : Int32) dX2_layGroup_55 (by decide) ?_
  refine X_aload_n C 0 0 dX2_layGroup_56 rfl rfl ?_
  refine X_get C (hFu _ (by decide)) (wc_33 _ _) rfl inX2 1 (by decide) q_117 rfl dX2_layGroup_57 ?_
  refine X_iload_n C 1 1 dX2_layGroup_60 rfl rfl ?_
  refine X_iconst C (4 : Int32) dX2_layGroup_61 (by decide) ?_
  refine X_callVi C eX4_at [.int x1, .int (4 : Int32)] [.int (4 : Int32), .int x1, .ref (xad (kG κ) 34)] (M_X4_at C.g_J (hFu.tab (by decide)) h) (hFu _ (by decide)) (wc_34 _ _) rfl q_375 rfl ⟨(Nat.le_of_ble_eq_true rfl), (Nat.le_of_ble_eq_true rfl)⟩ rfl (Nat.le_of_ble_eq_true rfl) dX2_layGroup_62 (fun r10 S9 h => ?_)
  refine X_aload_n C 0 0 dX2_layGroup_65 rfl rfl ?_
  refine X_get C (hFu _ (by decide)) (wc_33 _ _) rfl inX2 5 (by decide) q_125 rfl dX2_layGroup_66 ?_
  refine X_callVi C eX4_length [] [.int r10, .int (4 : Int32), .int x1, .ref (xad (kG κ) 34)] (M_X4_length C.g_J (hFu.tab (by decide)) h) (hFu _ (by decide)) (wc_42 _ _) rfl q_362 rfl ⟨(Nat.le_of_ble_eq_true rfl), (Nat.le_of_ble_eq_true rfl)⟩ rfl (Nat.le_of_ble_eq_true rfl) dX2_layGroup_69 (fun r12 S11 h => ?_)
  refine X_max C q_415 q_33 q_4 q_34 (Nat.le_of_ble_eq_true rfl) (Nat.le_trans (show _ ≤ 21 from Nat.le_of_ble_eq_true rfl) (Nat.le_of_ble_eq_true rfl)) dX2_layGroup_72 ?_
  refine X_callVv C eX4_put [.int x1, .int (4 : Int32), .int (if r10 < r12 then r12 else r10)] [] (M_X4_put C.g_J (hFu.tab (by decide)) h) (hFu _ (by decide)) (wc_34 _ _) rfl q_374 rfl ⟨(Nat.le_of_ble_eq_true rfl), (Nat.le_of_ble_eq_true rfl)⟩ rfl (Nat.le_of_ble_eq_true rfl) dX2_layGroup_75 (fun S13 h => ?_)
  exact X_vret C E h dX2_layGroup_78
set_option maxRecDepth 100000 in
set_option maxHeartbeats 4000000 in
theorem M_X2_layGroup {l : Launch} {G : XG} (hJ : XJ G) (hFu : XF G) {S : Mem} {a1 : Int32} {a2 : Int32} {a3 : Int32} {K : Mem → Prop} (h : P_X2_layGroup S a1 a2 a3 K) : XMv l G yX2_layGroup cX2_layGroup 4 3 83 [.ref (xad G 33), .int a1, .int a2, .int a3] S K := by
  refine X_meth RX2 rfl (by decide +kernel) hJ (Nat.le_of_ble_eq_true rfl) (fun κ hl hG C E => ?_)
  subst hl hG
  show XW κ S 0 [(0, .ref (xad (kG κ) 33)), (1, .int a1), (2, .int a2), (3, .int a3)] []
  refine X_aload_n C 0 0 dX2_layGroup_0 rfl rfl ?_
  refine X_get C (hFu _ (by decide)) (wc_33 _ _) rfl inX2 5 (by decide) q_125 rfl dX2_layGroup_1 ?_
  refine X_callVi C eX4_length [] [] (M_X4_length C.g_J (hFu.tab (by decide)) h) (hFu _ (by decide)) (wc_42 _ _) rfl q_362 rfl ⟨(Nat.le_of_ble_eq_true rfl), (Nat.le_of_ble_eq_true rfl)⟩ rfl (Nat.le_of_ble_eq_true rfl) dX2_layGroup_4 (fun r2 S1 h => ?_)
  refine X_aload_n C 0 0 dX2_layGroup_7 rfl rfl ?_
  refine X_get C (hFu _ (by decide)) (wc_33 _ _) rfl inX2 9 (by decide) q_130 rfl dX2_layGroup_8 ?_
  refine X_icmp_lt C 24 dX2_layGroup_11 (by decide) (fun c => ?_) (fun c => ?_)
  · have h := h.1 c
    exact K_X2_layGroup_24 C E hFu h
  · have h := h.2 c
    refine X_aload_n C 0 0 dX2_layGroup_14 rfl rfl ?_
    refine X_dup C dX2_layGroup_15 rfl ?_
    refine X_get C (hFu _ (by decide)) (wc_33 _ _) rfl inX2 8 (by decide) q_128 rfl dX2_layGroup_16 ?_
    refine X_iconst C (1 : Int32) dX2_layGroup_19 (by decide) ?_
    refine X_iadd C dX2_layGroup_20 ?_
    obtain ⟨S15, eS15⟩ : ∃ z, z = mput S1 33 8 ((S1 33 8) + (1 : Int32)) := ⟨_, rfl⟩
    have h := h S15 eS15
    refine X_put C (hFu _ (by decide)) (wc_33 _ _) rfl inX2 tyX2_ok nmX2 8 (by decide) q_128 rfl rfl rfl (Nat.le_of_ble_eq_true rfl) eS15 (wc_33 _ _) dX2_layGroup_21 ?_
    exact K_X2_layGroup_24 C E hFu h
set_option maxRecDepth 100000 in
set_option maxHeartbeats 4000000 in
theorem M_X2_takeItem {l : Launch} {G : XG} (hJ : XJ G) (hFu : XF G) {S : Mem} {a1 : Int32} {a2 : Int32} {a3 : Int32} {K : Mem → Prop} (h : P_X2_takeItem S a1 a2 a3 K) : XMv l G yX2_takeItem cX2_takeItem 5 4 106 [.ref (xad G 33), .int a1, .int a2, .int a3] S K := by
  refine X_meth RX2 rfl (by decide +kernel) hJ (Nat.le_of_ble_eq_true rfl) (fun κ hl hG C E => ?_)
  subst hl hG
  show XW κ S 0 [(0, .ref (xad (kG κ) 33)), (1, .int a1), (2, .int a2), (3, .int a3)] []
  refine X_aload_n C 0 0 dX2_takeItem_0 rfl rfl ?_
  refine X_get C (hFu _ (by decide)) (wc_33 _ _) rfl inX2 1 (by decide) q_117 rfl dX2_takeItem_1 ?_
  refine X_iload_n C 1 1 dX2_takeItem_4 rfl rfl ?_
  refine X_iconst C (0 : Int32) dX2_takeItem_5 (by decide) ?_
  refine X_iconst C (1 : Int32) dX2_takeItem_6 (by decide) ?_
  refine X_callVv C eX4_raise [.int a1, .int (0 : Int32), .int (1 : Int32)] [] (M_X4_raise C.g_J (hFu.tab (by decide)) h) (hFu _ (by decide)) (wc_34 _ _) rfl q_405 rfl ⟨(Nat.le_of_ble_eq_true rfl), (Nat.le_of_ble_eq_true rfl)⟩ rfl (Nat.le_of_ble_eq_true rfl) dX2_takeItem_7 (fun S1 h => ?_)
  refine X_aload_n C 0 0 dX2_takeItem_10 rfl rfl ?_
  refine X_iload_n C 3 3 dX2_takeItem_11 rfl rfl ?_
  refine X_iload_n C 2 2 dX2_takeItem_12 rfl rfl ?_
  refine X_callVi C eX2_partOf [.int a3, .int a2] [] (M_X2_partOf C.g_J hFu h) (hFu _ (by decide)) (wc_33 _ _) rfl q_384 rfl ⟨(Nat.le_of_ble_eq_true rfl), (Nat.le_of_ble_eq_true rfl)⟩ rfl (Nat.le_of_ble_eq_true rfl) dX2_takeItem_13 (fun r4 S3 h => ?_)
  refine X_istore C [(4, .int r4), (0, .ref (xad (kG κ) 33)), (1, .int a1), (2, .int a2), (3, .int a3)] dX2_takeItem_16 (by decide) rfl ?_
  refine X_aload_n C 0 1 dX2_takeItem_18 rfl rfl ?_
  refine X_iload_n C 1 2 dX2_takeItem_19 rfl rfl ?_
  refine X_iload C 0 dX2_takeItem_20 rfl ?_
  refine X_callVi C eX2_isSpilled [.int a1, .int r4] [] (M_X2_isSpilled C.g_J hFu h) (hFu _ (by decide)) (wc_33 _ _) rfl q_388 rfl ⟨(Nat.le_of_ble_eq_true rfl), (Nat.le_of_ble_eq_true rfl)⟩ rfl (Nat.le_of_ble_eq_true rfl) dX2_takeItem_22 (fun r6 S5 h => ?_)
  refine X_if_eq C 69 dX2_takeItem_25 (by decide) (fun c => ?_) (fun c => ?_)
  · have h := h.1 c
    refine X_aload_n C 0 1 dX2_takeItem_69 rfl rfl ?_
    refine X_iload_n C 3 4 dX2_takeItem_70 rfl rfl ?_
    refine X_callVi C eX2_isHeld [.int a3] [] (M_X2_isHeld C.g_J hFu h) (hFu _ (by decide)) (wc_33 _ _) rfl q_392 rfl ⟨(Nat.le_of_ble_eq_true rfl), (Nat.le_of_ble_eq_true rfl)⟩ rfl (Nat.le_of_ble_eq_true rfl) dX2_takeItem_71 (fun r8 S7 h => ?_)
    refine X_if_ne C 85 dX2_takeItem_74 (by decide) (fun c => ?_) (fun c => ?_)
    · have h := h.1 c
      exact X_vret C E h dX2_takeItem_85
    · have h := h.2 c
      refine X_aload_n C 0 1 dX2_takeItem_77 rfl rfl ?_
      refine X_iload_n C 1 2 dX2_takeItem_78 rfl rfl ?_
      refine X_iload C 0 dX2_takeItem_79 rfl ?_
      refine X_iload_n C 3 4 dX2_takeItem_81 rfl rfl ?_
      refine X_callVv C eX2_layGroup [.int a1, .int r4, .int a3] [] (M_X2_layGroup C.g_J hFu h) (hFu _ (by decide)) (wc_33 _ _) rfl q_410 rfl ⟨(Nat.le_of_ble_eq_true rfl), (Nat.le_of_ble_eq_true rfl)⟩ rfl (Nat.le_of_ble_eq_true rfl) dX2_takeItem_82 (fun S9 h => ?_)
      exact X_vret C E h dX2_takeItem_85
  · have h := h.2 c
    refine X_aload_n C 0 1 dX2_takeItem_28 rfl rfl ?_
    refine X_get C (hFu _ (by decide)) (wc_33 _ _) rfl inX2 7 (by decide) q_127 rfl dX2_takeItem_29 ?_
    refine X_iload_n C 3 4 dX2_takeItem_32 rfl rfl ?_
    refine X_callVi C eX4_append [.int a3] [] (M_X4_append C.g_J (hFu.tab (by decide)) h) (hFu _ (by decide)) (wc_46 _ _) rfl q_373 rfl ⟨(Nat.le_of_ble_eq_true rfl), (Nat.le_of_ble_eq_true rfl)⟩ rfl (Nat.le_of_ble_eq_true rfl) dX2_takeItem_33 (fun r12 S11 h => ?_)
    refine X_pop C dX2_takeItem_36 rfl ?_
    refine X_aload_n C 0 1 dX2_takeItem_37 rfl rfl ?_
    refine X_get C (hFu _ (by decide)) (wc_33 _ _) rfl inX2 1 (by decide) q_117 rfl dX2_takeItem_38 ?_
    refine X_iload_n C 1 2 dX2_takeItem_41 rfl rfl ?_
    refine X_iconst C (3 : Int32) dX2_takeItem_42 (by decide) ?_
    refine X_iconst C (1 : Int32) dX2_takeItem_43 (by decide) ?_
    refine X_callVv C eX4_raise [.int a1, .int (3 : Int32), .int (1 : Int32)] [] (M_X4_raise C.g_J (hFu.tab (by decide)) h) (hFu _ (by decide)) (wc_34 _ _) rfl q_405 rfl ⟨(Nat.le_of_ble_eq_true rfl), (Nat.le_of_ble_eq_true rfl)⟩ rfl (Nat.le_of_ble_eq_true rfl) dX2_takeItem_44 (fun S13 h => ?_)
    refine X_aload_n C 0 1 dX2_takeItem_47 rfl rfl ?_
    refine X_get C (hFu _ (by decide)) (wc_33 _ _) rfl inX2 2 (by decide) q_119 rfl dX2_takeItem_48 ?_
    refine X_aload_n C 0 1 dX2_takeItem_51 rfl rfl ?_
    refine X_get C (hFu _ (by decide)) (wc_33 _ _) rfl inX2 6 (by decide) q_126 rfl dX2_takeItem_52 ?_
    refine X_iload C 0 dX2_takeItem_55 rfl ?_
    refine X_iconst C (1 : Int32) dX2_takeItem_57 (by decide) ?_
    refine X_callVi C eX4_at [.int r4, .int (1 : Int32)] [.ref (xad (kG κ) 36)] (M_X4_at C.g_J (hFu.tab (by decide)) h) (hFu _ (by decide)) (wc_44 _ _) rfl q_375 rfl ⟨(Nat.le_of_ble_eq_true rfl), (Nat.le_of_ble_eq_true rfl)⟩ rfl (Nat.le_of_ble_eq_true rfl) dX2_takeItem_58 (fun r16 S15 h => ?_)
    refine X_iconst C (4 : Int32) dX2_takeItem_61 (by decide) ?_
    refine X_iconst C (1 : Int32) dX2_takeItem_62 (by decide) ?_
    refine X_callVv C eX4_raise [.int r16, .int (4 : Int32), .int (1 : Int32)] [] (M_X4_raise C.g_J (hFu.tab (by decide)) h) (hFu _ (by decide)) (wc_36 _ _) rfl q_405 rfl ⟨(Nat.le_of_ble_eq_true rfl), (Nat.le_of_ble_eq_true rfl)⟩ rfl (Nat.le_of_ble_eq_true rfl) dX2_takeItem_63 (fun S17 h => ?_)
    refine X_goto C 85 dX2_takeItem_66 (by decide) ?_
    exact X_vret C E h dX2_takeItem_85
set_option maxRecDepth 100000 in
set_option maxHeartbeats 4000000 in
theorem K_X2_finishMemory_90 {κ : Kx} (C : XC κ RX2 cX2_finishMemory 6 3 68) {K : Mem → Prop} (E : XRet κ none (va_Qv K (XB (kG κ)) (XA (kG κ)))) (hFu : XF (kG κ)) {S : Mem} (h : B_X2_finishMemory_90 K S) : XW κ S 90 [(0, .ref (xad (kG κ) 33))] [] := by
  refine X_aload_n C 0 0 dX2_finishMemory_90 rfl rfl ?_
  refine X_get C (hFu _ (by decide)) (wc_33 _ _) rfl inX2 5 (by decide) q_125 rfl dX2_finishMemory_91 ?_
  refine X_iconst C (0 : Int32) dX2_finishMemory_94 (by decide) ?_
  refine X_callVv C eX4_shorten [.int (0 : Int32)] [] (M_X4_shorten C.g_J (hFu.tab (by decide)) h) (hFu _ (by decide)) (wc_42 _ _) rfl q_361 rfl ⟨(Nat.le_of_ble_eq_true rfl), (Nat.le_of_ble_eq_true rfl)⟩ rfl (Nat.le_of_ble_eq_true rfl) dX2_finishMemory_95 (fun S7 h => ?_)
  exact X_vret C E h dX2_finishMemory_98
set_option maxRecDepth 100000 in
set_option maxHeartbeats 4000000 in
theorem K_X2_finishMemory_19 {κ : Kx} (C : XC κ RX2 cX2_finishMemory 6 3 68) {K : Mem → Prop} (E : XRet κ none (va_Qv K (XB (kG κ)) (XA (kG κ)))) (hFu : XF (kG κ)) : ∀ (n : Nat) (S : Mem) (x2 : Int32) (x3 : Int32) (x4 : Int32), B_X2_finishMemory_19 K n S x2 x3 x4 → XW κ S 19 [(0, .ref (xad (kG κ) 33)), (2, .int x2), (3, .int x3), (4, .int x4)] [] := by
  intro n
  induction n with
  | zero => intro S x2 x3 x4 h; exact h.elim
  | succ n ih =>
    intro S x2 x3 x4 h
    refine X_iload C 3 dX2_finishMemory_19 rfl ?_
    refine X_aload_n C 0 0 dX2_finishMemory_21 rfl rfl ?_
    refine X_get C (hFu _ (by decide)) (wc_33 _ _) rfl inX2 5 (by decide) q_125 rfl dX2_finishMemory_22 ?_
    refine X_callVi C eX4_length [] [.int x4] (M_X4_length C.g_J (hFu.tab (by decide)) h) (hFu _ (by decide)) (wc_42 _ _) rfl q_362 rfl ⟨(Nat.le_of_ble_eq_true rfl), (Nat.le_of_ble_eq_true rfl)⟩ rfl (Nat.le_of_ble_eq_true rfl) dX2_finishMemory_25 (fun r6 S5 h => ?_)
    refine X_icmp_ge C 90 dX2_finishMemory_28 (by decide) (fun c => ?_) (fun c => ?_)
    · have h := h.1 c
      refine X_sub [0] rfl ?_
      exact K_X2_finishMemory_90 C E hFu h
    · have h := h.2 c
      refine X_aload_n C 0 0 dX2_finishMemory_31 rfl rfl ?_
      refine X_get C (hFu _ (by decide)) (wc_33 _ _) rfl inX2 5 (by decide) q_125 rfl dX2_finishMemory_32 ?_
      refine X_iload C 3 dX2_finishMemory_35 rfl ?_
      refine X_iconst C (0 : Int32) dX2_finishMemory_37 (by decide) ?_
      refine X_callVi C eX4_at [.int x4, .int (0 : Int32)] [] (M_X4_at C.g_J (hFu.tab (by decide)) h) (hFu _ (by decide)) (wc_42 _ _) rfl q_375 rfl ⟨(Nat.le_of_ble_eq_true rfl), (Nat.le_of_ble_eq_true rfl)⟩ rfl (Nat.le_of_ble_eq_true rfl) dX2_finishMemory_38 (fun r10 S9 h => ?_)
      refine X_istore C [(5, .int r10), (0, .ref (xad (kG κ) 33)), (2, .int x2), (3, .int x3), (4, .int x4)] dX2_finishMemory_41 (by decide) rfl ?_
      refine X_aload_n C 0 1 dX2_finishMemory_43 rfl rfl ?_
      refine X_get C (hFu _ (by decide)) (wc_33 _ _) rfl inX2 3 (by decide) q_121 rfl dX2_finishMemory_44 ?_
      refine X_iload C 0 dX2_finishMemory_47 rfl ?_
      refine X_iconst C (0 : Int32) dX2_finishMemory_49 (by decide) ?_
      refine X_iload_n C 2 2 dX2_finishMemory_50 rfl rfl ?_
      refine X_callVv C eX4_put [.int r10, .int (0 : Int32), .int x2] [] (M_X4_put C.g_J (hFu.tab (by decide)) h) (hFu _ (by decide)) (wc_38 _ _) rfl q_374 rfl ⟨(Nat.le_of_ble_eq_true rfl), (Nat.le_of_ble_eq_true rfl)⟩ rfl (Nat.le_of_ble_eq_true rfl) dX2_finishMemory_51 (fun S11 h => ?_)
      refine X_aload_n C 0 1 dX2_finishMemory_54 rfl rfl ?_
      refine X_get C (hFu _ (by decide)) (wc_33 _ _) rfl inX2 3 (by decide) q_121 rfl dX2_finishMemory_55 ?_
      refine X_iload C 0 dX2_finishMemory_58 rfl ?_
      refine X_iconst C (1 : Int32) dX2_finishMemory_60 (by decide) ?_
      refine X_iload_n C 3 3 dX2_finishMemory_61 rfl rfl ?_
      refine X_callVv C eX4_put [.int r10, .int (1 : Int32), .int x3] [] (M_X4_put C.g_J (hFu.tab (by decide)) h) (hFu _ (by decide)) (wc_38 _ _) rfl q_374 rfl ⟨(Nat.le_of_ble_eq_true rfl), (Nat.le_of_ble_eq_true rfl)⟩ rfl (Nat.le_of_ble_eq_true rfl) dX2_finishMemory_62 (fun S13 h => ?_)
      refine X_aload_n C 0 1 dX2_finishMemory_65 rfl rfl ?_
      refine X_get C (hFu _ (by decide)) (wc_33 _ _) rfl inX2 3 (by decide) q_121 rfl dX2_finishMemory_66 ?_
      refine X_iload C 0 dX2_finishMemory_69 rfl ?_
      refine X_iconst C (2 : Int32) dX2_finishMemory_71 (by decide) ?_
      refine X_aload_n C 0 1 dX2_finishMemory_72 rfl rfl ?_
      refine X_get C (hFu _ (by decide)) (wc_33 _ _) rfl inX2 4 (by decide) q_123 rfl dX2_finishMemory_73 ?_
      refine X_iload C 0 dX2_finishMemory_76 rfl ?_
      refine X_callVi C eX4_append [.int r10] [.int (2 : Int32), .int r10, .ref (xad (kG κ) 38)] (M_X4_append C.g_J (hFu.tab (by decide)) h) (hFu _ (by decide)) (wc_40 _ _) rfl q_373 rfl ⟨(Nat.le_of_ble_eq_true rfl), (Nat.le_of_ble_eq_true rfl)⟩ rfl (Nat.le_of_ble_eq_true rfl) dX2_finishMemory_78 (fun r16 S15 h => ?_)
      refine X_callVv C eX4_put [.int r10, .int (2 : Int32), .int r16] [] (M_X4_put C.g_J (hFu.tab (by decide)) h) (hFu _ (by decide)) (wc_38 _ _) rfl q_374 rfl ⟨(Nat.le_of_ble_eq_true rfl), (Nat.le_of_ble_eq_true rfl)⟩ rfl (Nat.le_of_ble_eq_true rfl) dX2_finishMemory_81 (fun S17 h => ?_)
      refine X_iinc C (x4 + (1 : Int32)) 4 [(4, .int (x4 + (1 : Int32))), (5, .int r10), (0, .ref (xad (kG κ) 33)), (2, .int x2), (3, .int x3)] dX2_finishMemory_84 rfl rfl (by decide) rfl ?_
      refine X_goto C 19 dX2_finishMemory_87 (by decide) ?_
      refine X_sub [2, 3, 4, 0] rfl ?_
      exact ih _ _ _ _ h
set_option maxRecDepth 100000 in
set_option maxHeartbeats 4000000 in
theorem M_X2_finishMemory {l : Launch} {G : XG} (hJ : XJ G) (hFu : XF G) {S : Mem} {a1 : Int32} {a2 : Int32} {a3 : Int32} {K : Mem → Prop} (h : P_X2_finishMemory S a1 a2 a3 K) : XMv l G yX2_finishMemory cX2_finishMemory 6 3 68 [.ref (xad G 33), .int a1, .int a2, .int a3] S K := by
  refine X_meth RX2 rfl (by decide +kernel) hJ (Nat.le_of_ble_eq_true rfl) (fun κ hl hG C E => ?_)
  subst hl hG
  show XW κ S 0 [(0, .ref (xad (kG κ) 33)), (1, .int a1), (2, .int a2), (3, .int a3)] []
  refine X_aload_n C 0 0 dX2_finishMemory_0 rfl rfl ?_
  refine X_get C (hFu _ (by decide)) (wc_33 _ _) rfl inX2 1 (by decide) q_117 rfl dX2_finishMemory_1 ?_
  refine X_iload_n C 1 1 dX2_finishMemory_4 rfl rfl ?_
  refine X_iconst C (1 : Int32) dX2_finishMemory_5 (by decide) ?_
  refine X_aload_n C 0 0 dX2_finishMemory_6 rfl rfl ?_
  refine X_get C (hFu _ (by decide)) (wc_33 _ _) rfl inX2 5 (by decide) q_125 rfl dX2_finishMemory_7 ?_
  refine X_callVi C eX4_length [] [.int (1 : Int32), .int a1, .ref (xad (kG κ) 34)] (M_X4_length C.g_J (hFu.tab (by decide)) h) (hFu _ (by decide)) (wc_42 _ _) rfl q_362 rfl ⟨(Nat.le_of_ble_eq_true rfl), (Nat.le_of_ble_eq_true rfl)⟩ rfl (Nat.le_of_ble_eq_true rfl) dX2_finishMemory_10 (fun r2 S1 h => ?_)
  refine X_callVv C eX4_put [.int a1, .int (1 : Int32), .int r2] [] (M_X4_put C.g_J (hFu.tab (by decide)) h) (hFu _ (by decide)) (wc_34 _ _) rfl q_374 rfl ⟨(Nat.le_of_ble_eq_true rfl), (Nat.le_of_ble_eq_true rfl)⟩ rfl (Nat.le_of_ble_eq_true rfl) dX2_finishMemory_13 (fun S3 h => ?_)
  refine X_iconst C (0 : Int32) dX2_finishMemory_16 (by decide) ?_
  refine X_istore C [(4, .int (0 : Int32)), (0, .ref (xad (kG κ) 33)), (1, .int a1), (2, .int a2), (3, .int a3)] dX2_finishMemory_17 (by decide) rfl ?_
  refine X_sub [1, 3, 4, 0] rfl ?_
  obtain ⟨n19, h⟩ := h
  exact K_X2_finishMemory_19 C E hFu n19 _ _ _ _ h
set_option maxRecDepth 100000 in
set_option maxHeartbeats 4000000 in
theorem K_X2_runFiles_42 {κ : Kx} {RP : Mem → Int32 → Int32 → Int32 → (Mem → Prop) → Prop} {Fp Np : Nat} (C : XC κ RX2 cX2_runFiles 6 (Fp + 1) (Np + 27)) {K : Mem → Prop} (E : XRet κ none (va_Qv K (XB (kG κ)) (XA (kG κ)))) (hFu : XF (kG κ)) {R3 : Mem → Int32 → Int32 → Int32 → Int32 → Int32 → Prop} (hR3 : ∀ (S : Mem) (x1 x2 x3 x4 x5 : Int32), R3 S x1 x2 x3 x4 x5 → XW κ S 3 [(0, .ref (xad (kG κ) 33)), (1, .int x1), (2, .int x2), (3, .int x3), (4, .int x4), (5, .int x5)] []) (hRP : ∀ (S : Mem) (a b c : Int32) (K : Mem → Prop), RP S a b c K → XMv (kl κ) (kG κ) yX2_runPass cX2_runPass 8 Fp Np [.ref (xad (kG κ) 33), .int a, .int b, .int c] S K) {S : Mem} {x1 : Int32} {x2 : Int32} {x3 : Int32} {x4 : Int32} {x5 : Int32} (h : B_X2_runFiles_42 RP R3 K S x1 x2 x3 x4 x5) : XW κ S 42 [(0, .ref (xad (kG κ) 33)), (1, .int x1), (2, .int x2), (3, .int x3), (4, .int x4), (5, .int x5)] [] := by
  refine X_iinc C (x5 + (1 : Int32)) 5 [(5, .int (x5 + (1 : Int32))), (0, .ref (xad (kG κ) 33)), (1, .int x1), (2, .int x2), (3, .int x3), (4, .int x4)] dX2_runFiles_42 rfl rfl (by decide) rfl ?_
  refine X_goto C 3 dX2_runFiles_45 (by decide) ?_
  refine X_sub [1, 2, 3, 4, 5, 0] rfl ?_
  exact hR3 _ _ _ _ _ _ h
set_option maxRecDepth 100000 in
set_option maxHeartbeats 4000000 in
theorem K_X2_runFiles_3 {κ : Kx} {RP : Mem → Int32 → Int32 → Int32 → (Mem → Prop) → Prop} {Fp Np : Nat} (C : XC κ RX2 cX2_runFiles 6 (Fp + 1) (Np + 27)) {K : Mem → Prop} (E : XRet κ none (va_Qv K (XB (kG κ)) (XA (kG κ)))) (hFu : XF (kG κ)) (hRP : ∀ (S : Mem) (a b c : Int32) (K : Mem → Prop), RP S a b c K → XMv (kl κ) (kG κ) yX2_runPass cX2_runPass 8 Fp Np [.ref (xad (kG κ) 33), .int a, .int b, .int c] S K) : ∀ (n : Nat) (S : Mem) (x1 : Int32) (x2 : Int32) (x3 : Int32) (x4 : Int32) (x5 : Int32), B_X2_runFiles_3 RP K n S x1 x2 x3 x4 x5 → XW κ S 3 [(0, .ref (xad (kG κ) 33)), (1, .int x1), (2, .int x2), (3, .int x3), (4, .int x4), (5, .int x5)] [] := by
  intro n
  induction n with
  | zero => intro S x1 x2 x3 x4 x5 h; exact h.elim
  | succ n ih =>
    intro S x1 x2 x3 x4 x5 h
    refine X_iload C 5 dX2_runFiles_3 rfl ?_
    refine X_iconst C (1 : Int32) dX2_runFiles_5 (by decide) ?_
    refine X_aload_n C 0 0 dX2_runFiles_6 rfl rfl ?_
    refine X_get C (hFu _ (by decide)) (wc_33 _ _) rfl inX2 10 (by decide) q_131 rfl dX2_runFiles_7 ?_
    refine X_ishl C dX2_runFiles_10 ?_
    refine X_icmp_ge C 48 dX2_runFiles_11 (by decide) (fun c => ?_) (fun c => ?_)
    · have h := h.1 c
      exact X_vret C E h dX2_runFiles_48
    · have h := h.2 c
      refine X_iload_n C 3 3 dX2_runFiles_14 rfl rfl ?_
      refine X_iload C 5 dX2_runFiles_15 rfl ?_
      refine X_ishr C dX2_runFiles_17 ?_
      refine X_iconst C (1 : Int32) dX2_runFiles_18 (by decide) ?_
      refine X_iand C dX2_runFiles_19 ?_
      refine X_iconst C (1 : Int32) dX2_runFiles_20 (by decide) ?_
      refine X_icmp_ne C 42 dX2_runFiles_21 (by decide) (fun c => ?_) (fun c => ?_)
      · have h := h.1 c
        exact K_X2_runFiles_42 C E hFu (fun _ _ _ _ _ _ h => ih _ _ _ _ _ _ h) hRP h
      · have h := h.2 c
        refine X_aload_n C 0 0 dX2_runFiles_24 rfl rfl ?_
        refine X_iload_n C 1 1 dX2_runFiles_25 rfl rfl ?_
        refine X_iconst C (1 : Int32) dX2_runFiles_26 (by decide) ?_
        refine X_iadd C dX2_runFiles_27 ?_
        refine X_iload_n C 2 2 dX2_runFiles_28 rfl rfl ?_
        refine X_aload_n C 0 0 dX2_runFiles_29 rfl rfl ?_
        refine X_get C (hFu _ (by decide)) (wc_33 _ _) rfl inX2 10 (by decide) q_131 rfl dX2_runFiles_30 ?_
        refine X_ishl C dX2_runFiles_33 ?_
        refine X_iload C 5 dX2_runFiles_34 rfl ?_
        refine X_ior C dX2_runFiles_36 ?_
        refine X_iload C 4 dX2_runFiles_37 rfl ?_
        refine X_callVv C eX2_runPass [.int (x1 + (1 : Int32)), .int ((x2 <<< ((S 33 10) &&& 31)) ||| x5), .int x4] [] (hRP _ _ _ _ _ h) (hFu _ (by decide)) (wc_33 _ _) rfl q_369 rfl ⟨by omega, by omega⟩ rfl (Nat.le_of_ble_eq_true rfl) dX2_runFiles_39 (fun S1 h => ?_)
        exact K_X2_runFiles_42 C E hFu (fun _ _ _ _ _ _ h => ih _ _ _ _ _ _ h) hRP h
set_option maxRecDepth 100000 in
set_option maxHeartbeats 4000000 in
theorem M_X2_runFiles {l : Launch} {G : XG} (hJ : XJ G) (hFu : XF G) {RP : Mem → Int32 → Int32 → Int32 → (Mem → Prop) → Prop} {Fp Np : Nat} (hRP : ∀ (S : Mem) (a b c : Int32) (K : Mem → Prop), RP S a b c K → XMv l G yX2_runPass cX2_runPass 8 Fp Np [.ref (xad G 33), .int a, .int b, .int c] S K) {S : Mem} {a1 : Int32} {a2 : Int32} {a3 : Int32} {a4 : Int32} {K : Mem → Prop} (h : P_X2_runFiles RP S a1 a2 a3 a4 K) : XMv l G yX2_runFiles cX2_runFiles 6 (Fp + 1) (Np + 27) [.ref (xad G 33), .int a1, .int a2, .int a3, .int a4] S K := by
  refine X_meth RX2 rfl (by decide +kernel) hJ (Nat.le_of_ble_eq_true rfl) (fun κ hl hG C E => ?_)
  subst hl hG
  show XW κ S 0 [(0, .ref (xad (kG κ) 33)), (1, .int a1), (2, .int a2), (3, .int a3), (4, .int a4)] []
  refine X_iconst C (0 : Int32) dX2_runFiles_0 (by decide) ?_
  refine X_istore C [(5, .int (0 : Int32)), (0, .ref (xad (kG κ) 33)), (1, .int a1), (2, .int a2), (3, .int a3), (4, .int a4)] dX2_runFiles_1 (by decide) rfl ?_
  refine X_sub [1, 2, 3, 4, 5, 0] rfl ?_
  obtain ⟨n3, h⟩ := h
  exact K_X2_runFiles_3 C E hFu hRP n3 _ _ _ _ _ _ h
set_option maxRecDepth 100000 in
set_option maxHeartbeats 4000000 in
theorem K_X2_runPass_147 {κ : Kx} {RP : Mem → Int32 → Int32 → Int32 → (Mem → Prop) → Prop} {Fp Np : Nat} (C : XC κ RX2 cX2_runPass 8 (Fp + 8) (Np + 182)) {K : Mem → Prop} (E : XRet κ none (va_Qv K (XB (kG κ)) (XA (kG κ)))) (hFu : XF (kG κ)) (hRP : ∀ (S : Mem) (a b c : Int32) (K : Mem → Prop), RP S a b c K → XMv (kl κ) (kG κ) yX2_runPass cX2_runPass 8 Fp Np [.ref (xad (kG κ) 33), .int a, .int b, .int c] S K) {S : Mem} {x1 : Int32} {x2 : Int32} {x4 : Int32} {x5 : Int32} (h : B_X2_runPass_147 RP K S x1 x2 x4 x5) : XW κ S 147 [(0, .ref (xad (kG κ) 33)), (1, .int x1), (2, .int x2), (4, .int x4), (5, .int x5)] [] := by
  refine X_aload_n C 0 0 dX2_runPass_147 rfl rfl ?_
  refine X_iload C 3 dX2_runPass_148 rfl ?_
  refine X_iload_n C 1 1 dX2_runPass_150 rfl rfl ?_
  refine X_iload_n C 2 2 dX2_runPass_151 rfl rfl ?_
  refine X_callVv C eX2_finishMemory [.int x4, .int x1, .int x2] [] (M_X2_finishMemory C.g_J hFu h) (hFu _ (by decide)) (wc_33 _ _) rfl q_416 rfl ⟨(by omega), (by omega)⟩ rfl (Nat.le_of_ble_eq_true rfl) dX2_runPass_152 (fun S13 h => ?_)
  refine X_aload_n C 0 0 dX2_runPass_155 rfl rfl ?_
  refine X_iload_n C 1 1 dX2_runPass_156 rfl rfl ?_
  refine X_iload_n C 2 2 dX2_runPass_157 rfl rfl ?_
  refine X_aload_n C 0 0 dX2_runPass_158 rfl rfl ?_
  refine X_get C (hFu _ (by decide)) (wc_33 _ _) rfl inX2 1 (by decide) q_117 rfl dX2_runPass_159 ?_
  refine X_iload C 3 dX2_runPass_162 rfl ?_
  refine X_iconst C (2 : Int32) dX2_runPass_164 (by decide) ?_
  refine X_callVi C eX4_at [.int x4, .int (2 : Int32)] [.int x2, .int x1, .ref (xad (kG κ) 33)] (M_X4_at C.g_J (hFu.tab (by decide)) h) (hFu _ (by decide)) (wc_34 _ _) rfl q_375 rfl ⟨(by omega), (by omega)⟩ rfl (Nat.le_of_ble_eq_true rfl) dX2_runPass_165 (fun r16 S15 h => ?_)
  refine X_iload C 4 dX2_runPass_168 rfl ?_
  refine X_callVv C eX2_runFiles [.int x1, .int x2, .int r16, .int x5] [] (M_X2_runFiles C.g_J hFu hRP h) (hFu _ (by decide)) (wc_33 _ _) rfl q_420 rfl ⟨(by omega), (by omega)⟩ rfl (Nat.le_of_ble_eq_true rfl) dX2_runPass_170 (fun S17 h => ?_)
  refine X_aload_n C 0 0 dX2_runPass_173 rfl rfl ?_
  refine X_get C (hFu _ (by decide)) (wc_33 _ _) rfl inX2 7 (by decide) q_127 rfl dX2_runPass_174 ?_
  refine X_iload C 4 dX2_runPass_177 rfl ?_
  refine X_callVv C eX4_shorten [.int x5] [] (M_X4_shorten C.g_J (hFu.tab (by decide)) h) (hFu _ (by decide)) (wc_46 _ _) rfl q_361 rfl ⟨(by omega), (by omega)⟩ rfl (Nat.le_of_ble_eq_true rfl) dX2_runPass_179 (fun S19 h => ?_)
  exact X_vret C E h dX2_runPass_182
set_option maxRecDepth 100000 in
set_option maxHeartbeats 4000000 in
theorem K_X2_runPass_141 {κ : Kx} {RP : Mem → Int32 → Int32 → Int32 → (Mem → Prop) → Prop} {Fp Np : Nat} (C : XC κ RX2 cX2_runPass 8 (Fp + 8) (Np + 182)) {K : Mem → Prop} (E : XRet κ none (va_Qv K (XB (kG κ)) (XA (kG κ)))) (hFu : XF (kG κ)) {R80 : Mem → Int32 → Int32 → Int32 → Int32 → Int32 → Prop} (hR80 : ∀ (S : Mem) (x1 x2 x4 x5 x6 : Int32), R80 S x1 x2 x4 x5 x6 → XW κ S 80 [(0, .ref (xad (kG κ) 33)), (1, .int x1), (2, .int x2), (4, .int x4), (5, .int x5), (6, .int x6)] []) (hRP : ∀ (S : Mem) (a b c : Int32) (K : Mem → Prop), RP S a b c K → XMv (kl κ) (kG κ) yX2_runPass cX2_runPass 8 Fp Np [.ref (xad (kG κ) 33), .int a, .int b, .int c] S K) {S : Mem} {x1 : Int32} {x2 : Int32} {x4 : Int32} {x5 : Int32} {x6 : Int32} (h : B_X2_runPass_141 RP R80 K S x1 x2 x4 x5 x6) : XW κ S 141 [(0, .ref (xad (kG κ) 33)), (1, .int x1), (2, .int x2), (4, .int x4), (5, .int x5), (6, .int x6)] [] := by
  refine X_iinc C (x6 + (1 : Int32)) 5 [(6, .int (x6 + (1 : Int32))), (0, .ref (xad (kG κ) 33)), (1, .int x1), (2, .int x2), (4, .int x4), (5, .int x5)] dX2_runPass_141 rfl rfl (by decide) rfl ?_
  refine X_goto C 80 dX2_runPass_144 (by decide) ?_
  refine X_sub [1, 2, 3, 4, 5, 0] rfl ?_
  exact hR80 _ _ _ _ _ _ h
set_option maxRecDepth 100000 in
set_option maxHeartbeats 4000000 in
theorem K_X2_runPass_132 {κ : Kx} {RP : Mem → Int32 → Int32 → Int32 → (Mem → Prop) → Prop} {Fp Np : Nat} (C : XC κ RX2 cX2_runPass 8 (Fp + 8) (Np + 182)) {K : Mem → Prop} (E : XRet κ none (va_Qv K (XB (kG κ)) (XA (kG κ)))) (hFu : XF (kG κ)) {R80 : Mem → Int32 → Int32 → Int32 → Int32 → Int32 → Prop} (hR80 : ∀ (S : Mem) (x1 x2 x4 x5 x6 : Int32), R80 S x1 x2 x4 x5 x6 → XW κ S 80 [(0, .ref (xad (kG κ) 33)), (1, .int x1), (2, .int x2), (4, .int x4), (5, .int x5), (6, .int x6)] []) (hRP : ∀ (S : Mem) (a b c : Int32) (K : Mem → Prop), RP S a b c K → XMv (kl κ) (kG κ) yX2_runPass cX2_runPass 8 Fp Np [.ref (xad (kG κ) 33), .int a, .int b, .int c] S K) {S : Mem} {x1 : Int32} {x2 : Int32} {x4 : Int32} {x5 : Int32} {x6 : Int32} {x7 : Int32} (h : B_X2_runPass_132 RP R80 K S x1 x2 x4 x5 x6 x7) : XW κ S 132 [(0, .ref (xad (kG κ) 33)), (1, .int x1), (2, .int x2), (4, .int x4), (5, .int x5), (6, .int x6), (7, .int x7)] [] := by
  refine X_aload_n C 0 0 dX2_runPass_132 rfl rfl ?_
  refine X_iload C 3 dX2_runPass_133 rfl ?_
  refine X_iload_n C 1 1 dX2_runPass_135 rfl rfl ?_
  refine X_iload C 6 dX2_runPass_136 rfl ?_
  refine X_callVv C eX2_takeItem [.int x4, .int x1, .int x7] [] (M_X2_takeItem C.g_J hFu h) (hFu _ (by decide)) (wc_33 _ _) rfl q_406 rfl ⟨(by omega), (by omega)⟩ rfl (Nat.le_of_ble_eq_true rfl) dX2_runPass_138 (fun S27 h => ?_)
  refine X_sub [0, 1, 2, 3, 4, 5] rfl ?_
  exact K_X2_runPass_141 C E hFu hR80 hRP h
set_option maxRecDepth 100000 in
set_option maxHeartbeats 4000000 in
theorem K_X2_runPass_80 {κ : Kx} {RP : Mem → Int32 → Int32 → Int32 → (Mem → Prop) → Prop} {Fp Np : Nat} (C : XC κ RX2 cX2_runPass 8 (Fp + 8) (Np + 182)) {K : Mem → Prop} (E : XRet κ none (va_Qv K (XB (kG κ)) (XA (kG κ)))) (hFu : XF (kG κ)) (hRP : ∀ (S : Mem) (a b c : Int32) (K : Mem → Prop), RP S a b c K → XMv (kl κ) (kG κ) yX2_runPass cX2_runPass 8 Fp Np [.ref (xad (kG κ) 33), .int a, .int b, .int c] S K) : ∀ (n : Nat) (S : Mem) (x1 : Int32) (x2 : Int32) (x4 : Int32) (x5 : Int32) (x6 : Int32), B_X2_runPass_80 RP K n S x1 x2 x4 x5 x6 → XW κ S 80 [(0, .ref (xad (kG κ) 33)), (1, .int x1), (2, .int x2), (4, .int x4), (5, .int x5), (6, .int x6)] [] := by
  intro n
  induction n with
  | zero => intro S x1 x2 x4 x5 x6 h; exact h.elim
  | succ n ih =>
    intro S x1 x2 x4 x5 x6 h
    refine X_iload C 5 dX2_runPass_80 rfl ?_
    refine X_iload C 4 dX2_runPass_82 rfl ?_
    refine X_icmp_ge C 147 dX2_runPass_84 (by decide) (fun c => ?_) (fun c => ?_)
    · have h := h.1 c
      refine X_sub [0, 1, 2, 3, 4] rfl ?_
      exact K_X2_runPass_147 C E hFu hRP h
    · have h := h.2 c
      refine X_aload_n C 0 0 dX2_runPass_87 rfl rfl ?_
      refine X_get C (hFu _ (by decide)) (wc_33 _ _) rfl inX2 7 (by decide) q_127 rfl dX2_runPass_88 ?_
      refine X_iload C 5 dX2_runPass_91 rfl ?_
      refine X_iconst C (0 : Int32) dX2_runPass_93 (by decide) ?_
      refine X_callVi C eX4_at [.int x6, .int (0 : Int32)] [] (M_X4_at C.g_J (hFu.tab (by decide)) h) (hFu _ (by decide)) (wc_46 _ _) rfl q_375 rfl ⟨(by omega), (by omega)⟩ rfl (Nat.le_of_ble_eq_true rfl) dX2_runPass_94 (fun r22 S21 h => ?_)
      refine X_istore C [(7, .int r22), (0, .ref (xad (kG κ) 33)), (1, .int x1), (2, .int x2), (4, .int x4), (5, .int x5), (6, .int x6)] dX2_runPass_97 (by decide) rfl ?_
      refine X_aload_n C 0 1 dX2_runPass_99 rfl rfl ?_
      refine X_iload C 0 dX2_runPass_100 rfl ?_
      refine X_iload_n C 1 2 dX2_runPass_102 rfl rfl ?_
      refine X_callVi C eX2_prefixOf [.int r22, .int x1] [] (M_X2_prefixOf C.g_J hFu h) (hFu _ (by decide)) (wc_33 _ _) rfl q_376 rfl ⟨(by omega), (by omega)⟩ rfl (Nat.le_of_ble_eq_true rfl) dX2_runPass_103 (fun r24 S23 h => ?_)
      refine X_iload_n C 2 3 dX2_runPass_106 rfl rfl ?_
      refine X_icmp_ne C 141 dX2_runPass_107 (by decide) (fun c => ?_) (fun c => ?_)
      · have h := h.1 c
        refine X_sub [1, 2, 3, 4, 5, 6] rfl ?_
        exact K_X2_runPass_141 C E hFu (fun _ _ _ _ _ _ h => ih _ _ _ _ _ _ h) hRP h
      · have h := h.2 c
        refine X_aload_n C 0 1 dX2_runPass_110 rfl rfl ?_
        refine X_iload C 4 dX2_runPass_111 rfl ?_
        refine X_iload_n C 1 2 dX2_runPass_113 rfl rfl ?_
        refine X_iload C 0 dX2_runPass_114 rfl ?_
        refine X_callVi C eX2_needsSpill [.int x4, .int x1, .int r22] [] (M_X2_needsSpill C.g_J hFu h) (hFu _ (by decide)) (wc_33 _ _) rfl q_380 rfl ⟨(by omega), (by omega)⟩ rfl (Nat.le_of_ble_eq_true rfl) dX2_runPass_116 (fun r26 S25 h => ?_)
        refine X_if_eq C 132 dX2_runPass_119 (by decide) (fun c => ?_) (fun c => ?_)
        · have h := h.1 c
          refine X_sub [1, 2, 3, 4, 5, 6, 0] rfl ?_
          exact K_X2_runPass_132 C E hFu (fun _ _ _ _ _ _ h => ih _ _ _ _ _ _ h) hRP h
        · have h := h.2 c
          refine X_aload_n C 0 1 dX2_runPass_122 rfl rfl ?_
          refine X_iload C 4 dX2_runPass_123 rfl ?_
          refine X_aload_n C 0 1 dX2_runPass_125 rfl rfl ?_
          refine X_callVi C eX2_fullestPart [] [.int x4, .ref (xad (kG κ) 33)] (M_X2_fullestPart C.g_J hFu h) (hFu _ (by decide)) (wc_33 _ _) rfl q_397 rfl ⟨(by omega), (by omega)⟩ rfl (Nat.le_of_ble_eq_true rfl) dX2_runPass_126 (fun r30 S29 h => ?_)
          refine X_callVv C eX2_spillPart [.int x4, .int r30] [] (M_X2_spillPart C.g_J hFu h) (hFu _ (by decide)) (wc_33 _ _) rfl q_401 rfl ⟨(by omega), (by omega)⟩ rfl (Nat.le_of_ble_eq_true rfl) dX2_runPass_129 (fun S31 h => ?_)
          refine X_sub [1, 2, 3, 4, 5, 6, 0] rfl ?_
          exact K_X2_runPass_132 C E hFu (fun _ _ _ _ _ _ h => ih _ _ _ _ _ _ h) hRP h
set_option maxRecDepth 100000 in
set_option maxHeartbeats 4000000 in
theorem M_X2_runPassF {l : Launch} {G : XG} (hJ : XJ G) (hFu : XF G) {RP : Mem → Int32 → Int32 → Int32 → (Mem → Prop) → Prop} {Fp Np : Nat} (hRP : ∀ (S : Mem) (a b c : Int32) (K : Mem → Prop), RP S a b c K → XMv l G yX2_runPass cX2_runPass 8 Fp Np [.ref (xad G 33), .int a, .int b, .int c] S K) {S : Mem} {a1 : Int32} {a2 : Int32} {a3 : Int32} {K : Mem → Prop} (h : P_X2_runPassF RP S a1 a2 a3 K) : XMv l G yX2_runPass cX2_runPass 8 (Fp + 8) (Np + 182) [.ref (xad G 33), .int a1, .int a2, .int a3] S K := by
  refine X_meth RX2 rfl (by decide +kernel) hJ (Nat.le_of_ble_eq_true rfl) (fun κ hl hG C E => ?_)
  subst hl hG
  show XW κ S 0 [(0, .ref (xad (kG κ) 33)), (1, .int a1), (2, .int a2), (3, .int a3)] []
  refine X_iload_n C 1 1 dX2_runPass_0 rfl rfl ?_
  refine X_aload_n C 0 0 dX2_runPass_1 rfl rfl ?_
  refine X_get C (hFu _ (by decide)) (wc_33 _ _) rfl inX2 11 (by decide) q_132 rfl dX2_runPass_2 ?_
  refine X_icmp_le C 9 dX2_runPass_5 (by decide) (fun c => ?_) (fun c => ?_)
  · have h := h.1 c
    refine X_aload_n C 0 0 dX2_runPass_9 rfl rfl ?_
    refine X_get C (hFu _ (by decide)) (wc_33 _ _) rfl inX2 1 (by decide) q_117 rfl dX2_runPass_10 ?_
    refine X_iconst C (0 : Int32) dX2_runPass_13 (by decide) ?_
    refine X_callVi C eX4_append [.int (0 : Int32)] [] (M_X4_append C.g_J (hFu.tab (by decide)) h) (hFu _ (by decide)) (wc_34 _ _) rfl q_373 rfl ⟨(by omega), (by omega)⟩ rfl (Nat.le_of_ble_eq_true rfl) dX2_runPass_14 (fun r2 S1 h => ?_)
    refine X_istore C [(4, .int r2), (0, .ref (xad (kG κ) 33)), (1, .int a1), (2, .int a2), (3, .int a3)] dX2_runPass_17 (by decide) rfl ?_
    refine X_aload_n C 0 1 dX2_runPass_19 rfl rfl ?_
    refine X_get C (hFu _ (by decide)) (wc_33 _ _) rfl inX2 1 (by decide) q_117 rfl dX2_runPass_20 ?_
    refine X_iload C 0 dX2_runPass_23 rfl ?_
    refine X_iconst C (5 : Int32) dX2_runPass_25 (by decide) ?_
    refine X_iload C 0 dX2_runPass_26 rfl ?_
    refine X_callVv C eX4_put [.int r2, .int (5 : Int32), .int r2] [] (M_X4_put C.g_J (hFu.tab (by decide)) h) (hFu _ (by decide)) (wc_34 _ _) rfl q_374 rfl ⟨(by omega), (by omega)⟩ rfl (Nat.le_of_ble_eq_true rfl) dX2_runPass_28 (fun S3 h => ?_)
    refine X_aload_n C 0 1 dX2_runPass_31 rfl rfl ?_
    refine X_get C (hFu _ (by decide)) (wc_33 _ _) rfl inX2 1 (by decide) q_117 rfl dX2_runPass_32 ?_
    refine X_iload C 0 dX2_runPass_35 rfl ?_
    refine X_bipush C (6 : Int32) dX2_runPass_37 (by decide) ?_
    refine X_iload_n C 1 2 dX2_runPass_39 rfl rfl ?_
    refine X_callVv C eX4_put [.int r2, .int (6 : Int32), .int a1] [] (M_X4_put C.g_J (hFu.tab (by decide)) h) (hFu _ (by decide)) (wc_34 _ _) rfl q_374 rfl ⟨(by omega), (by omega)⟩ rfl (Nat.le_of_ble_eq_true rfl) dX2_runPass_40 (fun S5 h => ?_)
    refine X_aload_n C 0 1 dX2_runPass_43 rfl rfl ?_
    refine X_get C (hFu _ (by decide)) (wc_33 _ _) rfl inX2 1 (by decide) q_117 rfl dX2_runPass_44 ?_
    refine X_iload C 0 dX2_runPass_47 rfl ?_
    refine X_bipush C (7 : Int32) dX2_runPass_49 (by decide) ?_
    refine X_iload_n C 2 3 dX2_runPass_51 rfl rfl ?_
    refine X_callVv C eX4_put [.int r2, .int (7 : Int32), .int a2] [] (M_X4_put C.g_J (hFu.tab (by decide)) h) (hFu _ (by decide)) (wc_34 _ _) rfl q_374 rfl ⟨(by omega), (by omega)⟩ rfl (Nat.le_of_ble_eq_true rfl) dX2_runPass_52 (fun S7 h => ?_)
    refine X_aload_n C 0 1 dX2_runPass_55 rfl rfl ?_
    refine X_get C (hFu _ (by decide)) (wc_33 _ _) rfl inX2 6 (by decide) q_126 rfl dX2_runPass_56 ?_
    refine X_iconst C (1 : Int32) dX2_runPass_59 (by decide) ?_
    refine X_aload_n C 0 1 dX2_runPass_60 rfl rfl ?_
    refine X_get C (hFu _ (by decide)) (wc_33 _ _) rfl inX2 10 (by decide) q_131 rfl dX2_runPass_61 ?_
    refine X_ishl C dX2_runPass_64 ?_
    refine X_callVv C eX4_reset [.int ((1 : Int32) <<< ((S7 33 10) &&& 31))] [] (M_X4_reset C.g_J (hFu.tab (by decide)) h) (hFu _ (by decide)) (wc_44 _ _) rfl q_363 rfl ⟨(by omega), (by omega)⟩ rfl (Nat.le_of_ble_eq_true rfl) dX2_runPass_65 (fun S9 h => ?_)
    refine X_aload_n C 0 1 dX2_runPass_68 rfl rfl ?_
    refine X_get C (hFu _ (by decide)) (wc_33 _ _) rfl inX2 7 (by decide) q_127 rfl dX2_runPass_69 ?_
    refine X_callVi C eX4_length [] [] (M_X4_length C.g_J (hFu.tab (by decide)) h) (hFu _ (by decide)) (wc_46 _ _) rfl q_362 rfl ⟨(by omega), (by omega)⟩ rfl (Nat.le_of_ble_eq_true rfl) dX2_runPass_72 (fun r12 S11 h => ?_)
    refine X_istore C [(5, .int r12), (4, .int r2), (0, .ref (xad (kG κ) 33)), (1, .int a1), (2, .int a2), (3, .int a3)] dX2_runPass_75 (by decide) rfl ?_
    refine X_iload_n C 3 5 dX2_runPass_77 rfl rfl ?_
    refine X_istore C [(6, .int a3), (5, .int r12), (4, .int r2), (0, .ref (xad (kG κ) 33)), (1, .int a1), (2, .int a2), (3, .int a3)] dX2_runPass_78 (by decide) rfl ?_
    refine X_sub [3, 4, 5, 2, 1, 0] rfl ?_
    obtain ⟨n33, h⟩ := h
    exact K_X2_runPass_80 C E hFu hRP n33 _ _ _ _ _ _ h
  · have h := h.2 c
    exact X_vret C E h dX2_runPass_8
theorem M_X2_runPass {l : Launch} {G : XG} (hJ : XJ G) (hFu : XF G) : ∀ (d : Nat) {S : Mem} {a1 a2 a3 : Int32} {K : Mem → Prop} (h : P_X2_runPass d S a1 a2 a3 K), XMv l G yX2_runPass cX2_runPass 8 (8 * d) (182 * d) [.ref (xad G 33), .int a1, .int a2, .int a3] S K := by
  intro d
  induction d with
  | zero => intro S a1 a2 a3 K h; exact h.elim
  | succ d ih => intro S a1 a2 a3 K h; exact M_X2_runPassF hJ hFu (Fp := 8 * d) (Np := 182 * d) (fun S a b c K h => ih h) h
set_option maxRecDepth 100000 in
set_option maxHeartbeats 4000000 in
theorem K_X2_run_22 {κ : Kx} (C : XC κ RX2 cX2_run 3 137 3121) {K : Mem → Prop} (E : XRet κ none (va_Qv K (XB (kG κ)) (XA (kG κ)))) (hFu : XF (kG κ)) {S : Mem} {x1 : Int32} {x2 : Int32} (h : B_X2_run_22 K S x1 x2) : XW κ S 22 [(0, .ref (xad (kG κ) 33)), (1, .int x1), (2, .int x2)] [] := by
  refine X_aload_n C 0 0 dX2_run_22 rfl rfl ?_
  refine X_iload_n C 1 1 dX2_run_23 rfl rfl ?_
  obtain ⟨S1, eS1⟩ : ∃ z, z = mput S 33 9 x1 := ⟨_, rfl⟩
  have h := h S1 eS1
  refine X_put C (hFu _ (by decide)) (wc_33 _ _) rfl inX2 tyX2_ok nmX2 9 (by decide) q_130 rfl rfl rfl (Nat.le_of_ble_eq_true rfl) eS1 (wc_33 _ _) dX2_run_24 ?_
  refine X_aload_n C 0 0 dX2_run_27 rfl rfl ?_
  refine X_iload_n C 2 2 dX2_run_28 rfl rfl ?_
  obtain ⟨S2, eS2⟩ : ∃ z, z = mput S1 33 10 x2 := ⟨_, rfl⟩
  have h := h S2 eS2
  refine X_put C (hFu _ (by decide)) (wc_33 _ _) rfl inX2 tyX2_ok nmX2 10 (by decide) q_131 rfl rfl rfl (Nat.le_of_ble_eq_true rfl) eS2 (wc_33 _ _) dX2_run_29 ?_
  refine X_aload_n C 0 0 dX2_run_32 rfl rfl ?_
  refine X_bipush C (16 : Int32) dX2_run_33 (by decide) ?_
  refine X_iload_n C 2 2 dX2_run_35 rfl rfl ?_
  obtain ⟨hne, h⟩ := h
  refine X_idiv C dX2_run_36 hne ?_
  refine X_iconst C (1 : Int32) dX2_run_37 (by decide) ?_
  refine X_isub C dX2_run_38 ?_
  obtain ⟨S3, eS3⟩ : ∃ z, z = mput S2 33 11 (((16 : Int32) / x2) - (1 : Int32)) := ⟨_, rfl⟩
  have h := h S3 eS3
  refine X_put C (hFu _ (by decide)) (wc_33 _ _) rfl inX2 tyX2_ok nmX2 11 (by decide) q_132 rfl rfl rfl (Nat.le_of_ble_eq_true rfl) eS3 (wc_33 _ _) dX2_run_39 ?_
  refine X_aload_n C 0 0 dX2_run_42 rfl rfl ?_
  refine X_iconst C (0 : Int32) dX2_run_43 (by decide) ?_
  obtain ⟨S4, eS4⟩ : ∃ z, z = mput S3 33 8 (0 : Int32) := ⟨_, rfl⟩
  have h := h S4 eS4
  refine X_put C (hFu _ (by decide)) (wc_33 _ _) rfl inX2 tyX2_ok nmX2 8 (by decide) q_128 rfl rfl rfl (Nat.le_of_ble_eq_true rfl) eS4 (wc_33 _ _) dX2_run_44 ?_
  refine X_aload_n C 0 0 dX2_run_47 rfl rfl ?_
  refine X_get C (hFu _ (by decide)) (wc_33 _ _) rfl inX2 1 (by decide) q_117 rfl dX2_run_48 ?_
  refine X_iconst C (0 : Int32) dX2_run_51 (by decide) ?_
  refine X_callVv C eX4_shorten [.int (0 : Int32)] [] (M_X4_shorten C.g_J (hFu.tab (by decide)) h) (hFu _ (by decide)) (wc_34 _ _) rfl q_361 rfl ⟨(Nat.le_of_ble_eq_true rfl), (Nat.le_of_ble_eq_true rfl)⟩ rfl (Nat.le_of_ble_eq_true rfl) dX2_run_52 (fun S5 h => ?_)
  refine X_aload_n C 0 0 dX2_run_55 rfl rfl ?_
  refine X_get C (hFu _ (by decide)) (wc_33 _ _) rfl inX2 2 (by decide) q_119 rfl dX2_run_56 ?_
  refine X_iconst C (0 : Int32) dX2_run_59 (by decide) ?_
  refine X_callVv C eX4_shorten [.int (0 : Int32)] [] (M_X4_shorten C.g_J (hFu.tab (by decide)) h) (hFu _ (by decide)) (wc_36 _ _) rfl q_361 rfl ⟨(Nat.le_of_ble_eq_true rfl), (Nat.le_of_ble_eq_true rfl)⟩ rfl (Nat.le_of_ble_eq_true rfl) dX2_run_60 (fun S7 h => ?_)
  refine X_aload_n C 0 0 dX2_run_63 rfl rfl ?_
  refine X_get C (hFu _ (by decide)) (wc_33 _ _) rfl inX2 4 (by decide) q_123 rfl dX2_run_64 ?_
  refine X_iconst C (0 : Int32) dX2_run_67 (by decide) ?_
  refine X_callVv C eX4_shorten [.int (0 : Int32)] [] (M_X4_shorten C.g_J (hFu.tab (by decide)) h) (hFu _ (by decide)) (wc_40 _ _) rfl q_361 rfl ⟨(Nat.le_of_ble_eq_true rfl), (Nat.le_of_ble_eq_true rfl)⟩ rfl (Nat.le_of_ble_eq_true rfl) dX2_run_68 (fun S9 h => ?_)
  refine X_aload_n C 0 0 dX2_run_71 rfl rfl ?_
  refine X_get C (hFu _ (by decide)) (wc_33 _ _) rfl inX2 3 (by decide) q_121 rfl dX2_run_72 ?_
  refine X_aload_n C 0 0 dX2_run_75 rfl rfl ?_
  refine X_get C (hFu _ (by decide)) (wc_33 _ _) rfl inX2 0 (by decide) q_115 rfl dX2_run_76 ?_
  refine X_getN C (hFu _ (by decide)) (wc_28 _ _) rfl inX0 0 (by decide) z_104 rfl dX2_run_79 ?_
  refine X_callVi C eX4_length [] [.ref (xad (kG κ) 38)] (M_X4_length C.g_J (hFu.tab (by decide)) h) (hFu _ (by decide)) (wc_29 _ _) rfl q_362 rfl ⟨(Nat.le_of_ble_eq_true rfl), (Nat.le_of_ble_eq_true rfl)⟩ rfl (Nat.le_of_ble_eq_true rfl) dX2_run_82 (fun r12 S11 h => ?_)
  refine X_callVv C eX4_reset [.int r12] [] (M_X4_reset C.g_J (hFu.tab (by decide)) h) (hFu _ (by decide)) (wc_38 _ _) rfl q_363 rfl ⟨(Nat.le_of_ble_eq_true rfl), (Nat.le_of_ble_eq_true rfl)⟩ rfl (Nat.le_of_ble_eq_true rfl) dX2_run_85 (fun S13 h => ?_)
  refine X_aload_n C 0 0 dX2_run_88 rfl rfl ?_
  refine X_get C (hFu _ (by decide)) (wc_33 _ _) rfl inX2 7 (by decide) q_127 rfl dX2_run_89 ?_
  refine X_aload_n C 0 0 dX2_run_92 rfl rfl ?_
  refine X_get C (hFu _ (by decide)) (wc_33 _ _) rfl inX2 0 (by decide) q_115 rfl dX2_run_93 ?_
  refine X_getN C (hFu _ (by decide)) (wc_28 _ _) rfl inX0 1 (by decide) z_107 rfl dX2_run_96 ?_
  refine X_callVv C eX4_copyFrom [.ref (xad (kG κ) 31)] [] (M_X4_copyFrom C.g_J (hFu.tab (by decide)) (hFu.tab (by decide)) h) (hFu _ (by decide)) (wc_46 _ _) rfl q_368 rfl ⟨(Nat.le_of_ble_eq_true rfl), (Nat.le_of_ble_eq_true rfl)⟩ rfl (Nat.le_of_ble_eq_true rfl) dX2_run_99 (fun S15 h => ?_)
  refine X_aload_n C 0 0 dX2_run_102 rfl rfl ?_
  refine X_iconst C (0 : Int32) dX2_run_103 (by decide) ?_
  refine X_iconst C (0 : Int32) dX2_run_104 (by decide) ?_
  refine X_iconst C (0 : Int32) dX2_run_105 (by decide) ?_
  refine X_callVv C eX2_runPass [.int (0 : Int32), .int (0 : Int32), .int (0 : Int32)] [] (M_X2_runPass C.g_J hFu 17 h) (hFu _ (by decide)) (wc_33 _ _) rfl q_369 rfl ⟨(Nat.le_of_ble_eq_true rfl), (Nat.le_of_ble_eq_true rfl)⟩ rfl (Nat.le_of_ble_eq_true rfl) dX2_run_106 (fun S17 h => ?_)
  exact X_vret C E h dX2_run_109
set_option maxRecDepth 100000 in
set_option maxHeartbeats 4000000 in
theorem M_X2_run {l : Launch} {G : XG} (hJ : XJ G) (hFu : XF G) {S : Mem} {a1 : Int32} {a2 : Int32} {K : Mem → Prop} (h : P_X2_run S a1 a2 K) : XMv l G yX2_run cX2_run 3 137 3121 [.ref (xad G 33), .int a1, .int a2] S K := by
  refine X_meth RX2 rfl (by decide +kernel) hJ (Nat.le_of_ble_eq_true rfl) (fun κ hl hG C E => ?_)
  subst hl hG
  show XW κ S 0 [(0, .ref (xad (kG κ) 33)), (1, .int a1), (2, .int a2)] []
  refine X_iload_n C 2 2 dX2_run_0 rfl rfl ?_
  refine X_iconst C (1 : Int32) dX2_run_1 (by decide) ?_
  refine X_icmp_lt C 21 dX2_run_2 (by decide) (fun c => ?_) (fun c => ?_)
  · have h := h.1 c
    exact X_vret C E h dX2_run_21
  · have h := h.2 c
    refine X_aload_n C 0 0 dX2_run_5 rfl rfl ?_
    refine X_get C (hFu _ (by decide)) (wc_33 _ _) rfl inX2 9 (by decide) q_130 rfl dX2_run_6 ?_
    refine X_iload_n C 1 1 dX2_run_9 rfl rfl ?_
    refine X_icmp_ne C 22 dX2_run_10 (by decide) (fun c => ?_) (fun c => ?_)
    · have h := h.1 c
      exact K_X2_run_22 C E hFu h
    · have h := h.2 c
      refine X_aload_n C 0 0 dX2_run_13 rfl rfl ?_
      refine X_get C (hFu _ (by decide)) (wc_33 _ _) rfl inX2 10 (by decide) q_131 rfl dX2_run_14 ?_
      refine X_iload_n C 2 2 dX2_run_17 rfl rfl ?_
      refine X_icmp_ne C 22 dX2_run_18 (by decide) (fun c => ?_) (fun c => ?_)
      · have h := h.1 c
        exact K_X2_run_22 C E hFu h
      · have h := h.2 c
        exact X_vret C E h dX2_run_21
set_option maxRecDepth 100000 in
set_option maxHeartbeats 4000000 in
theorem K_X2_find_43 {κ : Kx} (C : XC κ RX2 cX2_find 4 1 22) {K : Int32 → Mem → Prop} (E : XRet κ (some .int) (va_Qi K (XB (kG κ)) (XA (kG κ)))) (hFu : XF (kG κ)) {R2 : Mem → Int32 → Int32 → Int32 → Prop} (hR2 : ∀ (S : Mem) (x1 x2 x3 : Int32), R2 S x1 x2 x3 → XW κ S 2 [(0, .ref (xad (kG κ) 33)), (1, .int x1), (2, .int x2), (3, .int x3)] []) {S : Mem} {x1 : Int32} {x2 : Int32} {x3 : Int32} (h : B_X2_find_43 R2 K S x1 x2 x3) : XW κ S 43 [(0, .ref (xad (kG κ) 33)), (1, .int x1), (2, .int x2), (3, .int x3)] [] := by
  refine X_iinc C (x3 + (1 : Int32)) 3 [(3, .int (x3 + (1 : Int32))), (0, .ref (xad (kG κ) 33)), (1, .int x1), (2, .int x2)] dX2_find_43 rfl rfl (by decide) rfl ?_
  refine X_goto C 2 dX2_find_46 (by decide) ?_
  refine X_sub [1, 2, 3, 0] rfl ?_
  exact hR2 _ _ _ _ h
set_option maxRecDepth 100000 in
set_option maxHeartbeats 4000000 in
theorem K_X2_find_2 {κ : Kx} (C : XC κ RX2 cX2_find 4 1 22) {K : Int32 → Mem → Prop} (E : XRet κ (some .int) (va_Qi K (XB (kG κ)) (XA (kG κ)))) (hFu : XF (kG κ)) : ∀ (n : Nat) (S : Mem) (x1 : Int32) (x2 : Int32) (x3 : Int32), B_X2_find_2 K n S x1 x2 x3 → XW κ S 2 [(0, .ref (xad (kG κ) 33)), (1, .int x1), (2, .int x2), (3, .int x3)] [] := by
  intro n
  induction n with
  | zero => intro S x1 x2 x3 h; exact h.elim
  | succ n ih =>
    intro S x1 x2 x3 h
    refine X_iload_n C 3 3 dX2_find_2 rfl rfl ?_
    refine X_aload_n C 0 0 dX2_find_3 rfl rfl ?_
    refine X_get C (hFu _ (by decide)) (wc_33 _ _) rfl inX2 1 (by decide) q_117 rfl dX2_find_4 ?_
    refine X_callVi C eX4_length [] [.int x3] (M_X4_length C.g_J (hFu.tab (by decide)) h) (hFu _ (by decide)) (wc_34 _ _) rfl q_362 rfl ⟨(Nat.le_of_ble_eq_true rfl), (Nat.le_of_ble_eq_true rfl)⟩ rfl (Nat.le_of_ble_eq_true rfl) dX2_find_7 (fun r2 S1 h => ?_)
    refine X_icmp_ge C 49 dX2_find_10 (by decide) (fun c => ?_) (fun c => ?_)
    · have h := h.1 c
      refine X_iconst C (-1 : Int32) dX2_find_49 (by decide) ?_
      exact X_iret C E rfl h dX2_find_50
    · have h := h.2 c
      refine X_aload_n C 0 0 dX2_find_13 rfl rfl ?_
      refine X_get C (hFu _ (by decide)) (wc_33 _ _) rfl inX2 1 (by decide) q_117 rfl dX2_find_14 ?_
      refine X_iload_n C 3 3 dX2_find_17 rfl rfl ?_
      refine X_bipush C (6 : Int32) dX2_find_18 (by decide) ?_
      refine X_callVi C eX4_at [.int x3, .int (6 : Int32)] [] (M_X4_at C.g_J (hFu.tab (by decide)) h) (hFu _ (by decide)) (wc_34 _ _) rfl q_375 rfl ⟨(Nat.le_of_ble_eq_true rfl), (Nat.le_of_ble_eq_true rfl)⟩ rfl (Nat.le_of_ble_eq_true rfl) dX2_find_20 (fun r4 S3 h => ?_)
      refine X_iload_n C 1 1 dX2_find_23 rfl rfl ?_
      refine X_icmp_ne C 43 dX2_find_24 (by decide) (fun c => ?_) (fun c => ?_)
      · have h := h.1 c
        exact K_X2_find_43 C E hFu (fun _ _ _ _ h => ih _ _ _ _ h) h
      · have h := h.2 c
        refine X_aload_n C 0 0 dX2_find_27 rfl rfl ?_
        refine X_get C (hFu _ (by decide)) (wc_33 _ _) rfl inX2 1 (by decide) q_117 rfl dX2_find_28 ?_
        refine X_iload_n C 3 3 dX2_find_31 rfl rfl ?_
        refine X_bipush C (7 : Int32) dX2_find_32 (by decide) ?_
        refine X_callVi C eX4_at [.int x3, .int (7 : Int32)] [] (M_X4_at C.g_J (hFu.tab (by decide)) h) (hFu _ (by decide)) (wc_34 _ _) rfl q_375 rfl ⟨(Nat.le_of_ble_eq_true rfl), (Nat.le_of_ble_eq_true rfl)⟩ rfl (Nat.le_of_ble_eq_true rfl) dX2_find_34 (fun r6 S5 h => ?_)
        refine X_iload_n C 2 2 dX2_find_37 rfl rfl ?_
        refine X_icmp_ne C 43 dX2_find_38 (by decide) (fun c => ?_) (fun c => ?_)
        · have h := h.1 c
          exact K_X2_find_43 C E hFu (fun _ _ _ _ h => ih _ _ _ _ h) h
        · have h := h.2 c
          refine X_iload_n C 3 3 dX2_find_41 rfl rfl ?_
          exact X_iret C E rfl h dX2_find_42
set_option maxRecDepth 100000 in
set_option maxHeartbeats 4000000 in
theorem M_X2_find {l : Launch} {G : XG} (hJ : XJ G) (hFu : XF G) {S : Mem} {a1 : Int32} {a2 : Int32} {K : Int32 → Mem → Prop} (h : P_X2_find S a1 a2 K) : XMi l G yX2_find cX2_find 4 .int 1 22 [.ref (xad G 33), .int a1, .int a2] S K := by
  refine X_meth RX2 rfl (by decide +kernel) hJ (Nat.le_of_ble_eq_true rfl) (fun κ hl hG C E => ?_)
  subst hl hG
  show XW κ S 0 [(0, .ref (xad (kG κ) 33)), (1, .int a1), (2, .int a2)] []
  refine X_iconst C (0 : Int32) dX2_find_0 (by decide) ?_
  refine X_istore_n C 3 [(3, .int (0 : Int32)), (0, .ref (xad (kG κ) 33)), (1, .int a1), (2, .int a2)] dX2_find_1 rfl (by decide) rfl ?_
  refine X_sub [1, 2, 3, 0] rfl ?_
  obtain ⟨n7, h⟩ := h
  exact K_X2_find_2 C E hFu n7 _ _ _ _ h
set_option maxRecDepth 100000 in
set_option maxHeartbeats 4000000 in
theorem M_X2_itemsFiled {l : Launch} {G : XG} (hJ : XJ G) (hFu : XF G) {S : Mem} {K : Int32 → Mem → Prop} (h : P_X2_itemsFiled S K) : XMi l G yX2_itemsFiled cX2_itemsFiled 1 .int 2 45 [.ref (xad G 33)] S K := by
  refine X_meth RX2 rfl (by decide +kernel) hJ (Nat.le_of_ble_eq_true rfl) (fun κ hl hG C E => ?_)
  subst hl hG
  show XW κ S 0 [(0, .ref (xad (kG κ) 33))] []
  refine X_aload_n C 0 0 dX2_itemsFiled_0 rfl rfl ?_
  refine X_get C (hFu _ (by decide)) (wc_33 _ _) rfl inX2 1 (by decide) q_117 rfl dX2_itemsFiled_1 ?_
  refine X_iconst C (3 : Int32) dX2_itemsFiled_4 (by decide) ?_
  refine X_callVi C eX4_sumOf [.int (3 : Int32)] [] (M_X4_sumOf C.g_J (hFu.tab (by decide)) h) (hFu _ (by decide)) (wc_34 _ _) rfl q_448 rfl ⟨(Nat.le_of_ble_eq_true rfl), (Nat.le_of_ble_eq_true rfl)⟩ rfl (Nat.le_of_ble_eq_true rfl) dX2_itemsFiled_5 (fun r2 S1 h => ?_)
  exact X_iret C E rfl h dX2_itemsFiled_8
set_option maxRecDepth 100000 in
set_option maxHeartbeats 4000000 in
theorem M_X2_itemsRead {l : Launch} {G : XG} (hJ : XJ G) (hFu : XF G) {S : Mem} {K : Int32 → Mem → Prop} (h : P_X2_itemsRead S K) : XMi l G yX2_itemsRead cX2_itemsRead 1 .int 2 45 [.ref (xad G 33)] S K := by
  refine X_meth RX2 rfl (by decide +kernel) hJ (Nat.le_of_ble_eq_true rfl) (fun κ hl hG C E => ?_)
  subst hl hG
  show XW κ S 0 [(0, .ref (xad (kG κ) 33))] []
  refine X_aload_n C 0 0 dX2_itemsRead_0 rfl rfl ?_
  refine X_get C (hFu _ (by decide)) (wc_33 _ _) rfl inX2 1 (by decide) q_117 rfl dX2_itemsRead_1 ?_
  refine X_iconst C (0 : Int32) dX2_itemsRead_4 (by decide) ?_
  refine X_callVi C eX4_sumOf [.int (0 : Int32)] [] (M_X4_sumOf C.g_J (hFu.tab (by decide)) h) (hFu _ (by decide)) (wc_34 _ _) rfl q_448 rfl ⟨(Nat.le_of_ble_eq_true rfl), (Nat.le_of_ble_eq_true rfl)⟩ rfl (Nat.le_of_ble_eq_true rfl) dX2_itemsRead_5 (fun r2 S1 h => ?_)
  refine X_aload_n C 0 0 dX2_itemsRead_8 rfl rfl ?_
  refine X_get C (hFu _ (by decide)) (wc_33 _ _) rfl inX2 1 (by decide) q_117 rfl dX2_itemsRead_9 ?_
  refine X_iconst C (0 : Int32) dX2_itemsRead_12 (by decide) ?_
  refine X_iconst C (0 : Int32) dX2_itemsRead_13 (by decide) ?_
  refine X_callVi C eX4_at [.int (0 : Int32), .int (0 : Int32)] [.int r2] (M_X4_at C.g_J (hFu.tab (by decide)) h) (hFu _ (by decide)) (wc_34 _ _) rfl q_375 rfl ⟨(Nat.le_of_ble_eq_true rfl), (Nat.le_of_ble_eq_true rfl)⟩ rfl (Nat.le_of_ble_eq_true rfl) dX2_itemsRead_14 (fun r4 S3 h => ?_)
  refine X_isub C dX2_itemsRead_17 ?_
  exact X_iret C E rfl h dX2_itemsRead_18
