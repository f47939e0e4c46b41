set_option maxRecDepth 100000 in
set_option maxHeartbeats 4000000 in
theorem K_X5_readNumber_4 {κ : Kx} (C : XC κ RX5 cX5_readNumber 5 1 22) {K : Int32 → Mem → Prop} (E : XRet κ (some .int) (va_Qi K (XB (kG κ)) (XA (kG κ)))) (hFu : XF (kG κ)) : ∀ (n : Nat) (S : Mem) (x1 : Int32) (x2 : Int32) (x3 : Int32), B_X5_readNumber_4 K n S x1 x2 x3 → XW κ S 4 [(0, .ref (xad (kG κ) 48)), (1, .int x1), (2, .int x2), (3, .int x3)] [] := by
  intro n
  induction n with
  | zero => intro S x1 x2 x3 h; exact h.elim
  | succ n ih =>
    intro S x1 x2 x3 h
    refine X_iload_n C 3 3 dX5_readNumber_4 rfl rfl ?_
    refine X_iload_n C 1 1 dX5_readNumber_5 rfl rfl ?_
    refine X_icmp_ge C 67 dX5_readNumber_6 (by decide) (fun c => ?_) (fun c => ?_)
    · have h := h.1 c
      refine X_iload_n C 2 2 dX5_readNumber_67 rfl rfl ?_
      exact X_iret C E rfl h dX5_readNumber_68
    · have h := h.2 c
      refine X_aload_n C 0 0 dX5_readNumber_9 rfl rfl ?_
      refine X_get C (hFu _ (by decide)) (wc_48 _ _) rfl inX5 0 (by decide) q_166 rfl dX5_readNumber_10 ?_
      refine X_aload_n C 0 0 dX5_readNumber_13 rfl rfl ?_
      refine X_get C (hFu _ (by decide)) (wc_48 _ _) rfl inX5 5 (by decide) q_176 rfl dX5_readNumber_14 ?_
      refine X_iconst C (0 : Int32) dX5_readNumber_17 (by decide) ?_
      refine X_callVi C eX4_at [.int (S 48 5), .int (0 : Int32)] [] (M_X4_at C.g_J (hFu.tab (by decide)) h) (hFu _ (by decide)) (wc_49 _ _) rfl q_534 rfl ⟨(Nat.le_of_ble_eq_true rfl), (Nat.le_of_ble_eq_true rfl)⟩ rfl (Nat.le_of_ble_eq_true rfl) dX5_readNumber_18 (fun r2 S1 h => ?_)
      refine X_bipush C (48 : Int32) dX5_readNumber_21 (by decide) ?_
      refine X_isub C dX5_readNumber_23 ?_
      refine X_istore C [(4, .int (r2 - (48 : Int32))), (0, .ref (xad (kG κ) 48)), (1, .int x1), (2, .int x2), (3, .int x3)] dX5_readNumber_24 (by decide) rfl ?_
      refine X_iload C 0 dX5_readNumber_26 rfl ?_
      refine X_iconst C (0 : Int32) dX5_readNumber_28 (by decide) ?_
      refine X_bipush C (9 : Int32) dX5_readNumber_29 (by decide) ?_
      refine X_callSNi C eX6_isOutside [.int (r2 - (48 : Int32)), .int (0 : Int32), .int (9 : Int32)] [] (M_X6_isOutside C.g_J hFu h) z_535 rfl ⟨(Nat.le_of_ble_eq_true rfl), (Nat.le_of_ble_eq_true rfl)⟩ rfl (Nat.le_of_ble_eq_true rfl) dX5_readNumber_31 (fun r4 S3 h => ?_)
      refine X_if_eq C 39 dX5_readNumber_34 (by decide) (fun c => ?_) (fun c => ?_)
      · have h := h.1 c
        refine X_iload_n C 2 3 dX5_readNumber_39 rfl rfl ?_
        refine X_iconst C (0 : Int32) dX5_readNumber_40 (by decide) ?_
        refine X_max C q_536 q_33 q_4 q_34 (Nat.le_of_ble_eq_true rfl) (Nat.le_trans (show _ ≤ 21 from Nat.le_of_ble_eq_true rfl) (Nat.le_of_ble_eq_true rfl)) dX5_readNumber_41 ?_
        refine X_bipush C (10 : Int32) dX5_readNumber_44 (by decide) ?_
        refine X_imul C dX5_readNumber_46 ?_
        refine X_iload C 0 dX5_readNumber_47 rfl ?_
        refine X_iadd C dX5_readNumber_49 ?_
        refine X_istore_n C 2 [(2, .int (((if x2 < (0 : Int32) then (0 : Int32) else x2) * (10 : Int32)) + (r2 - (48 : Int32)))), (4, .int (r2 - (48 : Int32))), (0, .ref (xad (kG κ) 48)), (1, .int x1), (3, .int x3)] dX5_readNumber_50 rfl (by decide) rfl ?_
        refine X_aload_n C 0 2 dX5_readNumber_51 rfl rfl ?_
        refine X_dup C dX5_readNumber_52 rfl ?_
        refine X_get C (hFu _ (by decide)) (wc_48 _ _) rfl inX5 5 (by decide) q_176 rfl dX5_readNumber_53 ?_
        refine X_iconst C (1 : Int32) dX5_readNumber_56 (by decide) ?_
        refine X_iadd C dX5_readNumber_57 ?_
        obtain ⟨S5, eS5⟩ : ∃ z, z = mput S3 48 5 ((S3 48 5) + (1 : Int32)) := ⟨_, rfl⟩
        have h := h S5 eS5
        refine X_put C (hFu _ (by decide)) (wc_48 _ _) rfl inX5 tyX5_ok nmX5 5 (by decide) q_176 rfl rfl rfl (Nat.le_of_ble_eq_true rfl) eS5 (wc_48 _ _) dX5_readNumber_58 ?_
        refine X_iinc C (x3 + (1 : Int32)) 4 [(3, .int (x3 + (1 : Int32))), (2, .int (((if x2 < (0 : Int32) then (0 : Int32) else x2) * (10 : Int32)) + (r2 - (48 : Int32)))), (4, .int (r2 - (48 : Int32))), (0, .ref (xad (kG κ) 48)), (1, .int x1)] dX5_readNumber_61 rfl rfl (by decide) rfl ?_
        refine X_goto C 4 dX5_readNumber_64 (by decide) ?_
        refine X_sub [3, 4, 1, 0] rfl ?_
        exact ih _ _ _ _ h
      · have h := h.2 c
        refine X_iload_n C 2 3 dX5_readNumber_37 rfl rfl ?_
        exact X_iret C E rfl h dX5_readNumber_38
set_option maxRecDepth 100000 in
set_option maxHeartbeats 4000000 in
theorem M_X5_readNumber {l : Launch} {G : XG} (hJ : XJ G) (hFu : XF G) {S : Mem} {a1 : Int32} {K : Int32 → Mem → Prop} (h : P_X5_readNumber S a1 K) : XMi l G yX5_readNumber cX5_readNumber 5 .int 1 22 [.ref (xad G 48), .int a1] S K := by
  refine X_meth RX5 rfl (by decide +kernel) hJ (Nat.le_of_ble_eq_true rfl) (fun κ hl hG C E => ?_)
  subst hl hG
  show XW κ S 0 [(0, .ref (xad (kG κ) 48)), (1, .int a1)] []
  refine X_iconst C (-1 : Int32) dX5_readNumber_0 (by decide) ?_
  refine X_istore_n C 2 [(2, .int (-1 : Int32)), (0, .ref (xad (kG κ) 48)), (1, .int a1)] dX5_readNumber_1 rfl (by decide) rfl ?_
  refine X_iconst C (0 : Int32) dX5_readNumber_2 (by decide) ?_
  refine X_istore_n C 3 [(3, .int (0 : Int32)), (2, .int (-1 : Int32)), (0, .ref (xad (kG κ) 48)), (1, .int a1)] dX5_readNumber_3 rfl (by decide) rfl ?_
  refine X_sub [2, 3, 1, 0] rfl ?_
  obtain ⟨n6, h⟩ := h
  exact K_X5_readNumber_4 C E hFu n6 _ _ _ _ h
set_option maxRecDepth 100000 in
set_option maxHeartbeats 4000000 in
theorem M_X5_readSign {l : Launch} {G : XG} (hJ : XJ G) (hFu : XF G) {S : Mem} {a1 : Int32} {K : Int32 → Mem → Prop} (h : P_X5_readSign S a1 K) : XMi l G yX5_readSign cX5_readSign 2 .boolean 1 22 [.ref (xad G 48), .int a1] S K := by
  refine X_meth RX5 rfl (by decide +kernel) hJ (Nat.le_of_ble_eq_true rfl) (fun κ hl hG C E => ?_)
  subst hl hG
  show XW κ S 0 [(0, .ref (xad (kG κ) 48)), (1, .int a1)] []
  refine X_aload_n C 0 0 dX5_readSign_0 rfl rfl ?_
  refine X_get C (hFu _ (by decide)) (wc_48 _ _) rfl inX5 0 (by decide) q_166 rfl dX5_readSign_1 ?_
  refine X_aload_n C 0 0 dX5_readSign_4 rfl rfl ?_
  refine X_get C (hFu _ (by decide)) (wc_48 _ _) rfl inX5 5 (by decide) q_176 rfl dX5_readSign_5 ?_
  refine X_iconst C (0 : Int32) dX5_readSign_8 (by decide) ?_
  refine X_callVi C eX4_at [.int (S 48 5), .int (0 : Int32)] [] (M_X4_at C.g_J (hFu.tab (by decide)) h) (hFu _ (by decide)) (wc_49 _ _) rfl q_534 rfl ⟨(Nat.le_of_ble_eq_true rfl), (Nat.le_of_ble_eq_true rfl)⟩ rfl (Nat.le_of_ble_eq_true rfl) dX5_readSign_9 (fun r2 S1 h => ?_)
  refine X_iload_n C 1 1 dX5_readSign_12 rfl rfl ?_
  refine X_icmp_eq C 18 dX5_readSign_13 (by decide) (fun c => ?_) (fun c => ?_)
  · have h := h.1 c
    refine X_aload_n C 0 0 dX5_readSign_18 rfl rfl ?_
    refine X_dup C dX5_readSign_19 rfl ?_
    refine X_get C (hFu _ (by decide)) (wc_48 _ _) rfl inX5 5 (by decide) q_176 rfl dX5_readSign_20 ?_
    refine X_iconst C (1 : Int32) dX5_readSign_23 (by decide) ?_
    refine X_iadd C dX5_readSign_24 ?_
    obtain ⟨S3, eS3⟩ : ∃ z, z = mput S1 48 5 ((S1 48 5) + (1 : Int32)) := ⟨_, rfl⟩
    have h := h S3 eS3
    refine X_put C (hFu _ (by decide)) (wc_48 _ _) rfl inX5 tyX5_ok nmX5 5 (by decide) q_176 rfl rfl rfl (Nat.le_of_ble_eq_true rfl) eS3 (wc_48 _ _) dX5_readSign_25 ?_
    refine X_iconst C (1 : Int32) dX5_readSign_28 (by decide) ?_
    exact X_iret C E rfl h dX5_readSign_29
  · have h := h.2 c
    refine X_iconst C (0 : Int32) dX5_readSign_16 (by decide) ?_
    exact X_iret C E rfl h dX5_readSign_17
set_option maxRecDepth 100000 in
set_option maxHeartbeats 4000000 in
theorem K_X5_readRow_74 {κ : Kx} (C : XC κ RX5 cX5_readRow 4 3 68) {K : Int32 → Mem → Prop} (E : XRet κ (some .boolean) (va_Qi K (XB (kG κ)) (XA (kG κ)))) (hFu : XF (kG κ)) {S : Mem} {y0 : Int32} {y1 : Int32} {y2 : Int32} (h : B_X5_readRow_74 K S y0 y1 y2) : XW κ S 74 [] [.int y0, .int y1, .int y2, .ref (xad (kG κ) 51)] := by
  refine X_callVv C eX4_put [.int y2, .int y1, .int y0] [] (M_X4_put C.g_J (hFu.tab (by decide)) h) (hFu _ (by decide)) (wc_51 _ _) rfl q_542 rfl ⟨(Nat.le_of_ble_eq_true rfl), (Nat.le_of_ble_eq_true rfl)⟩ rfl (Nat.le_of_ble_eq_true rfl) dX5_readRow_74 (fun S13 h => ?_)
  refine X_iconst C (1 : Int32) dX5_readRow_77 (by decide) ?_
  exact X_iret C E rfl h dX5_readRow_78
set_option maxRecDepth 100000 in
set_option maxHeartbeats 4000000 in
theorem M_X5_readRow {l : Launch} {G : XG} (hJ : XJ G) (hFu : XF G) {S : Mem} {K : Int32 → Mem → Prop} (h : P_X5_readRow S K) : XMi l G yX5_readRow cX5_readRow 4 .boolean 3 68 [.ref (xad G 48)] S K := by
  refine X_meth RX5 rfl (by decide +kernel) hJ (Nat.le_of_ble_eq_true rfl) (fun κ hl hG C E => ?_)
  subst hl hG
  show XW κ S 0 [(0, .ref (xad (kG κ) 48))] []
  refine X_aload_n C 0 0 dX5_readRow_0 rfl rfl ?_
  refine X_iconst C (4 : Int32) dX5_readRow_1 (by decide) ?_
  refine X_callVi C eX5_readNumber [.int (4 : Int32)] [] (M_X5_readNumber C.g_J hFu h) (hFu _ (by decide)) (wc_48 _ _) rfl q_530 rfl ⟨(Nat.le_of_ble_eq_true rfl), (Nat.le_of_ble_eq_true rfl)⟩ rfl (Nat.le_of_ble_eq_true rfl) dX5_readRow_2 (fun r2 S1 h => ?_)
  refine X_istore_n C 1 [(1, .int r2), (0, .ref (xad (kG κ) 48))] dX5_readRow_5 rfl (by decide) rfl ?_
  refine X_iload_n C 1 0 dX5_readRow_6 rfl rfl ?_
  refine X_iconst C (-1 : Int32) dX5_readRow_7 (by decide) ?_
  refine X_icmp_eq C 20 dX5_readRow_8 (by decide) (fun c => ?_) (fun c => ?_)
  · have h := h.1 c
    refine X_iconst C (0 : Int32) dX5_readRow_20 (by decide) ?_
    exact X_iret C E rfl h dX5_readRow_21
  · have h := h.2 c
    refine X_aload_n C 0 1 dX5_readRow_11 rfl rfl ?_
    refine X_bipush C (61 : Int32) dX5_readRow_12 (by decide) ?_
    refine X_callVi C eX5_readSign [.int (61 : Int32)] [] (M_X5_readSign C.g_J hFu h) (hFu _ (by decide)) (wc_48 _ _) rfl q_537 rfl ⟨(Nat.le_of_ble_eq_true rfl), (Nat.le_of_ble_eq_true rfl)⟩ rfl (Nat.le_of_ble_eq_true rfl) dX5_readRow_14 (fun r4 S3 h => ?_)
    refine X_if_ne C 22 dX5_readRow_17 (by decide) (fun c => ?_) (fun c => ?_)
    · have h := h.1 c
      refine X_aload_n C 0 1 dX5_readRow_22 rfl rfl ?_
      refine X_bipush C (45 : Int32) dX5_readRow_23 (by decide) ?_
      refine X_callVi C eX5_readSign [.int (45 : Int32)] [] (M_X5_readSign C.g_J hFu h) (hFu _ (by decide)) (wc_48 _ _) rfl q_537 rfl ⟨(Nat.le_of_ble_eq_true rfl), (Nat.le_of_ble_eq_true rfl)⟩ rfl (Nat.le_of_ble_eq_true rfl) dX5_readRow_25 (fun r6 S5 h => ?_)
      refine X_istore_n C 2 [(2, .int r6), (1, .int r2), (0, .ref (xad (kG κ) 48))] dX5_readRow_28 rfl (by decide) rfl ?_
      refine X_aload_n C 0 2 dX5_readRow_29 rfl rfl ?_
      refine X_iconst C (3 : Int32) dX5_readRow_30 (by decide) ?_
      refine X_callVi C eX5_readNumber [.int (3 : Int32)] [] (M_X5_readNumber C.g_J hFu h) (hFu _ (by decide)) (wc_48 _ _) rfl q_530 rfl ⟨(Nat.le_of_ble_eq_true rfl), (Nat.le_of_ble_eq_true rfl)⟩ rfl (Nat.le_of_ble_eq_true rfl) dX5_readRow_31 (fun r8 S7 h => ?_)
      refine X_istore_n C 3 [(3, .int r8), (2, .int r6), (1, .int r2), (0, .ref (xad (kG κ) 48))] dX5_readRow_34 rfl (by decide) rfl ?_
      refine X_iload_n C 3 0 dX5_readRow_35 rfl rfl ?_
      refine X_iconst C (-1 : Int32) dX5_readRow_36 (by decide) ?_
      refine X_icmp_eq C 49 dX5_readRow_37 (by decide) (fun c => ?_) (fun c => ?_)
      · have h := h.1 c
        refine X_iconst C (0 : Int32) dX5_readRow_49 (by decide) ?_
        exact X_iret C E rfl h dX5_readRow_50
      · have h := h.2 c
        refine X_aload_n C 0 3 dX5_readRow_40 rfl rfl ?_
        refine X_bipush C (59 : Int32) dX5_readRow_41 (by decide) ?_
        refine X_callVi C eX5_readSign [.int (59 : Int32)] [] (M_X5_readSign C.g_J hFu h) (hFu _ (by decide)) (wc_48 _ _) rfl q_537 rfl ⟨(Nat.le_of_ble_eq_true rfl), (Nat.le_of_ble_eq_true rfl)⟩ rfl (Nat.le_of_ble_eq_true rfl) dX5_readRow_43 (fun r10 S9 h => ?_)
        refine X_if_ne C 51 dX5_readRow_46 (by decide) (fun c => ?_) (fun c => ?_)
        · have h := h.1 c
          refine X_aload_n C 0 3 dX5_readRow_51 rfl rfl ?_
          refine X_get C (hFu _ (by decide)) (wc_48 _ _) rfl inX5 1 (by decide) q_168 rfl dX5_readRow_52 ?_
          refine X_aload_n C 0 3 dX5_readRow_55 rfl rfl ?_
          refine X_get C (hFu _ (by decide)) (wc_48 _ _) rfl inX5 1 (by decide) q_168 rfl dX5_readRow_56 ?_
          refine X_iload_n C 1 2 dX5_readRow_59 rfl rfl ?_
          refine X_callVi C eX4_append [.int r2] [.ref (xad (kG κ) 51)] (M_X4_append C.g_J (hFu.tab (by decide)) h) (hFu _ (by decide)) (wc_51 _ _) rfl q_541 rfl ⟨(Nat.le_of_ble_eq_true rfl), (Nat.le_of_ble_eq_true rfl)⟩ rfl (Nat.le_of_ble_eq_true rfl) dX5_readRow_60 (fun r12 S11 h => ?_)
          refine X_iconst C (1 : Int32) dX5_readRow_63 (by decide) ?_
          refine X_iload_n C 2 1 dX5_readRow_64 rfl rfl ?_
          refine X_if_eq C 73 dX5_readRow_65 (by decide) (fun c => ?_) (fun c => ?_)
          · have h := h.1 c
            refine X_iload_n C 3 0 dX5_readRow_73 rfl rfl ?_
            refine X_sub [] rfl ?_
            exact K_X5_readRow_74 C E hFu h
          · have h := h.2 c
            refine X_iload_n C 3 0 dX5_readRow_68 rfl rfl ?_
            refine X_ineg C dX5_readRow_69 ?_
            refine X_goto C 74 dX5_readRow_70 (by decide) ?_
            refine X_sub [] rfl ?_
            exact K_X5_readRow_74 C E hFu h
        · have h := h.2 c
          refine X_iconst C (0 : Int32) dX5_readRow_49 (by decide) ?_
          exact X_iret C E rfl h dX5_readRow_50
    · have h := h.2 c
      refine X_iconst C (0 : Int32) dX5_readRow_20 (by decide) ?_
      exact X_iret C E rfl h dX5_readRow_21
set_option maxRecDepth 100000 in
set_option maxHeartbeats 4000000 in
theorem K_X5_read_88 {κ : Kx} (C : XC κ RX5 cX5_read 3 4 91) {K : Mem → Prop} (E : XRet κ none (va_Qv K (XB (kG κ)) (XA (kG κ)))) (hFu : XF (kG κ)) {S : Mem} {x1 : Int32} (h : B_X5_read_88 K S x1) : XW κ S 88 [(0, .ref (xad (kG κ) 48)), (1, .int x1)] [] := by
  refine X_aload_n C 0 0 dX5_read_88 rfl rfl ?_
  refine X_iconst C (2 : Int32) dX5_read_89 (by decide) ?_
  obtain ⟨S12, eS12⟩ : ∃ z, z = mput S 48 3 (2 : Int32) := ⟨_, rfl⟩
  have h := h S12 eS12
  refine X_put C (hFu _ (by decide)) (wc_48 _ _) rfl inX5 tyX5_ok nmX5 3 (by decide) q_172 rfl rfl rfl (Nat.le_of_ble_eq_true rfl) eS12 (wc_48 _ _) dX5_read_90 ?_
  refine X_aload_n C 0 0 dX5_read_93 rfl rfl ?_
  refine X_bipush C (100 : Int32) dX5_read_94 (by decide) ?_
  refine X_iload_n C 1 1 dX5_read_96 rfl rfl ?_
  refine X_isub C dX5_read_97 ?_
  obtain ⟨S13, eS13⟩ : ∃ z, z = mput S12 48 4 ((100 : Int32) - x1) := ⟨_, rfl⟩
  have h := h S13 eS13
  refine X_put C (hFu _ (by decide)) (wc_48 _ _) rfl inX5 tyX5_ok nmX5 4 (by decide) q_174 rfl rfl rfl (Nat.le_of_ble_eq_true rfl) eS13 (wc_48 _ _) dX5_read_98 ?_
  exact X_vret C E h dX5_read_101
set_option maxRecDepth 100000 in
set_option maxHeartbeats 4000000 in
theorem K_X5_read_55 {κ : Kx} (C : XC κ RX5 cX5_read 3 4 91) {K : Mem → Prop} (E : XRet κ none (va_Qv K (XB (kG κ)) (XA (kG κ)))) (hFu : XF (kG κ)) {S : Mem} (h : B_X5_read_55 K S) : XW κ S 55 [(0, .ref (xad (kG κ) 48))] [] := by
  refine X_aload_n C 0 0 dX5_read_55 rfl rfl ?_
  refine X_iconst C (1 : Int32) dX5_read_56 (by decide) ?_
  obtain ⟨S14, eS14⟩ : ∃ z, z = mput S 48 3 (1 : Int32) := ⟨_, rfl⟩
  have h := h S14 eS14
  refine X_put C (hFu _ (by decide)) (wc_48 _ _) rfl inX5 tyX5_ok nmX5 3 (by decide) q_172 rfl rfl rfl (Nat.le_of_ble_eq_true rfl) eS14 (wc_48 _ _) dX5_read_57 ?_
  refine X_aload_n C 0 0 dX5_read_60 rfl rfl ?_
  refine X_aload_n C 0 0 dX5_read_61 rfl rfl ?_
  refine X_get C (hFu _ (by decide)) (wc_48 _ _) rfl inX5 5 (by decide) q_176 rfl dX5_read_62 ?_
  refine X_aload_n C 0 0 dX5_read_65 rfl rfl ?_
  refine X_get C (hFu _ (by decide)) (wc_48 _ _) rfl inX5 2 (by decide) q_170 rfl dX5_read_66 ?_
  refine X_isub C dX5_read_69 ?_
  obtain ⟨S15, eS15⟩ : ∃ z, z = mput S14 48 4 ((S14 48 5) - (S14 48 2)) := ⟨_, rfl⟩
  have h := h S15 eS15
  refine X_put C (hFu _ (by decide)) (wc_48 _ _) rfl inX5 tyX5_ok nmX5 4 (by decide) q_174 rfl rfl rfl (Nat.le_of_ble_eq_true rfl) eS15 (wc_48 _ _) dX5_read_70 ?_
  exact X_vret C E h dX5_read_73
set_option maxRecDepth 100000 in
set_option maxHeartbeats 4000000 in
theorem K_X5_read_20 {κ : Kx} (C : XC κ RX5 cX5_read 3 4 91) {K : Mem → Prop} (E : XRet κ none (va_Qv K (XB (kG κ)) (XA (kG κ)))) (hFu : XF (kG κ)) : ∀ (n : Nat) (S : Mem) (x1 : Int32) (x2 : Int32), B_X5_read_20 K n S x1 x2 → XW κ S 20 [(0, .ref (xad (kG κ) 48)), (1, .int x1), (2, .int x2)] [] := by
  intro n
  induction n with
  | zero => intro S x1 x2 h; exact h.elim
  | succ n ih =>
    intro S x1 x2 h
    refine X_iload_n C 2 2 dX5_read_20 rfl rfl ?_
    refine X_bipush C (60 : Int32) dX5_read_21 (by decide) ?_
    refine X_icmp_ge C 108 dX5_read_23 (by decide) (fun c => ?_) (fun c => ?_)
    · have h := h.1 c
      exact X_vret C E h dX5_read_108
    · have h := h.2 c
      refine X_aload_n C 0 0 dX5_read_26 rfl rfl ?_
      refine X_get C (hFu _ (by decide)) (wc_48 _ _) rfl inX5 5 (by decide) q_176 rfl dX5_read_27 ?_
      refine X_aload_n C 0 0 dX5_read_30 rfl rfl ?_
      refine X_get C (hFu _ (by decide)) (wc_48 _ _) rfl inX5 0 (by decide) q_166 rfl dX5_read_31 ?_
      refine X_callVi C eX4_length [] [.int (S 48 5)] (M_X4_length C.g_J (hFu.tab (by decide)) h) (hFu _ (by decide)) (wc_49 _ _) rfl q_525 rfl ⟨(Nat.le_of_ble_eq_true rfl), (Nat.le_of_ble_eq_true rfl)⟩ rfl (Nat.le_of_ble_eq_true rfl) dX5_read_34 (fun r6 S5 h => ?_)
      refine X_icmp_ge C 108 dX5_read_37 (by decide) (fun c => ?_) (fun c => ?_)
      · have h := h.1 c
        exact X_vret C E h dX5_read_108
      · have h := h.2 c
        refine X_aload_n C 0 0 dX5_read_40 rfl rfl ?_
        refine X_aload_n C 0 0 dX5_read_41 rfl rfl ?_
        refine X_get C (hFu _ (by decide)) (wc_48 _ _) rfl inX5 5 (by decide) q_176 rfl dX5_read_42 ?_
        obtain ⟨S7, eS7⟩ : ∃ z, z = mput S5 48 2 (S5 48 5) := ⟨_, rfl⟩
        have h := h S7 eS7
        refine X_put C (hFu _ (by decide)) (wc_48 _ _) rfl inX5 tyX5_ok nmX5 2 (by decide) q_170 rfl rfl rfl (Nat.le_of_ble_eq_true rfl) eS7 (wc_48 _ _) dX5_read_45 ?_
        refine X_aload_n C 0 0 dX5_read_48 rfl rfl ?_
        refine X_callVi C eX5_readRow [] [] (M_X5_readRow C.g_J hFu h) (hFu _ (by decide)) (wc_48 _ _) rfl q_526 rfl ⟨(Nat.le_of_ble_eq_true rfl), (Nat.le_of_ble_eq_true rfl)⟩ rfl (Nat.le_of_ble_eq_true rfl) dX5_read_49 (fun r9 S8 h => ?_)
        refine X_if_ne C 74 dX5_read_52 (by decide) (fun c => ?_) (fun c => ?_)
        · have h := h.1 c
          refine X_iload_n C 1 1 dX5_read_74 rfl rfl ?_
          refine X_aload_n C 0 0 dX5_read_75 rfl rfl ?_
          refine X_get C (hFu _ (by decide)) (wc_48 _ _) rfl inX5 1 (by decide) q_168 rfl dX5_read_76 ?_
          refine X_callVi C eX4_length [] [.int x1] (M_X4_length C.g_J (hFu.tab (by decide)) h) (hFu _ (by decide)) (wc_51 _ _) rfl q_525 rfl ⟨(Nat.le_of_ble_eq_true rfl), (Nat.le_of_ble_eq_true rfl)⟩ rfl (Nat.le_of_ble_eq_true rfl) dX5_read_79 (fun r11 S10 h => ?_)
          refine X_iadd C dX5_read_82 ?_
          refine X_bipush C (100 : Int32) dX5_read_83 (by decide) ?_
          refine X_icmp_le C 102 dX5_read_85 (by decide) (fun c => ?_) (fun c => ?_)
          · have h := h.1 c
            refine X_iinc C (x2 + (1 : Int32)) 2 [(2, .int (x2 + (1 : Int32))), (0, .ref (xad (kG κ) 48)), (1, .int x1)] dX5_read_102 rfl rfl (by decide) rfl ?_
            refine X_goto C 20 dX5_read_105 (by decide) ?_
            refine X_sub [1, 2, 0] rfl ?_
            exact ih _ _ _ h
          · have h := h.2 c
            refine X_sub [0, 1] rfl ?_
            exact K_X5_read_88 C E hFu h
        · have h := h.2 c
          refine X_sub [0] rfl ?_
          exact K_X5_read_55 C E hFu h
set_option maxRecDepth 100000 in
set_option maxHeartbeats 4000000 in
theorem M_X5_read {l : Launch} {G : XG} (hJ : XJ G) (hFu : XF G) {S : Mem} {a1 : Int32} {K : Mem → Prop} (h : P_X5_read S a1 K) : XMv l G yX5_read cX5_read 3 4 91 [.ref (xad G 48), .int a1] S K := by
  refine X_meth RX5 rfl (by decide +kernel) hJ (Nat.le_of_ble_eq_true rfl) (fun κ hl hG C E => ?_)
  subst hl hG
  show XW κ S 0 [(0, .ref (xad (kG κ) 48)), (1, .int a1)] []
  refine X_aload_n C 0 0 dX5_read_0 rfl rfl ?_
  refine X_iconst C (0 : Int32) dX5_read_1 (by decide) ?_
  obtain ⟨S1, eS1⟩ : ∃ z, z = mput S 48 3 (0 : Int32) := ⟨_, rfl⟩
  have h := h S1 eS1
  refine X_put C (hFu _ (by decide)) (wc_48 _ _) rfl inX5 tyX5_ok nmX5 3 (by decide) q_172 rfl rfl rfl (Nat.le_of_ble_eq_true rfl) eS1 (wc_48 _ _) dX5_read_2 ?_
  refine X_aload_n C 0 0 dX5_read_5 rfl rfl ?_
  refine X_get C (hFu _ (by decide)) (wc_48 _ _) rfl inX5 1 (by decide) q_168 rfl dX5_read_6 ?_
  refine X_iconst C (0 : Int32) dX5_read_9 (by decide) ?_
  refine X_callVv C eX4_shorten [.int (0 : Int32)] [] (M_X4_shorten C.g_J (hFu.tab (by decide)) h) (hFu _ (by decide)) (wc_51 _ _) rfl q_524 rfl ⟨(Nat.le_of_ble_eq_true rfl), (Nat.le_of_ble_eq_true rfl)⟩ rfl (Nat.le_of_ble_eq_true rfl) dX5_read_10 (fun S2 h => ?_)
  refine X_aload_n C 0 0 dX5_read_13 rfl rfl ?_
  refine X_iconst C (0 : Int32) dX5_read_14 (by decide) ?_
  obtain ⟨S4, eS4⟩ : ∃ z, z = mput S2 48 5 (0 : Int32) := ⟨_, rfl⟩
  have h := h S4 eS4
  refine X_put C (hFu _ (by decide)) (wc_48 _ _) rfl inX5 tyX5_ok nmX5 5 (by decide) q_176 rfl rfl rfl (Nat.le_of_ble_eq_true rfl) eS4 (wc_48 _ _) dX5_read_15 ?_
  refine X_iconst C (0 : Int32) dX5_read_18 (by decide) ?_
  refine X_istore_n C 2 [(2, .int (0 : Int32)), (0, .ref (xad (kG κ) 48)), (1, .int a1)] dX5_read_19 rfl (by decide) rfl ?_
  refine X_sub [1, 2, 0] rfl ?_
  obtain ⟨n16, h⟩ := h
  exact K_X5_read_20 C E hFu n16 _ _ _ h
