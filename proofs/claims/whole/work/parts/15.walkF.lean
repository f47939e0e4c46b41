set_option maxRecDepth 100000 in
set_option maxHeartbeats 4000000 in
theorem M_X7_in {l : Launch} {G : XG} (hJ : XJ G) (hFu : XF G) {S : Mem} {a0 : Int64} {a2 : Int64} {a4 : Int64} {K : Int32 → Mem → Prop} (h : P_X7_in S a0 a2 a4 K) : XMi l G yX7_in cX7_in 6 .boolean 0 0 [.long a0, .long a2, .long a4] S K := by
  refine X_meth RX7 rfl (by decide +kernel) hJ (Nat.le_of_ble_eq_true rfl) (fun κ hl hG C E => ?_)
  subst hl hG
  show XW κ S 0 [(0, .long a0), (2, .long a2), (4, .long a4)] []
  refine X_lload_n C 0 0 dX7_in_0 rfl rfl ?_
  refine X_lload_n C 2 1 dX7_in_1 rfl rfl ?_
  refine X_lcmp C dX7_in_2 ?_
  refine X_if_lt C 17 dX7_in_3 (by decide) (fun c => ?_) (fun c => ?_)
  · have h := h.1 c
    refine X_iconst C (0 : Int32) dX7_in_17 (by decide) ?_
    exact X_iret C E rfl h dX7_in_18
  · have h := h.2 c
    refine X_lload_n C 0 0 dX7_in_6 rfl rfl ?_
    refine X_lload C 2 dX7_in_7 rfl ?_
    refine X_lcmp C dX7_in_9 ?_
    refine X_if_gt C 17 dX7_in_10 (by decide) (fun c => ?_) (fun c => ?_)
    · have h := h.1 c
      refine X_iconst C (0 : Int32) dX7_in_17 (by decide) ?_
      exact X_iret C E rfl h dX7_in_18
    · have h := h.2 c
      refine X_iconst C (1 : Int32) dX7_in_13 (by decide) ?_
      refine X_goto C 18 dX7_in_14 (by decide) ?_
      exact X_iret C E rfl h dX7_in_18
set_option maxRecDepth 100000 in
set_option maxHeartbeats 4000000 in
theorem K_X7_record_85 {κ : Kx} (C : XC κ RX7 cX7_record 2 0 0) {K : Mem → Prop} (E : XRet κ none (va_Qv K (XB (kG κ)) (XA (kG κ)))) (hFu : XF (kG κ)) {S : Mem} (h : B_X7_record_85 K S) : XW κ S 85 [(0, .ref (xad (kG κ) 53))] [] := by
  refine X_aload_n C 0 0 dX7_record_85 rfl rfl ?_
  refine X_dup C dX7_record_86 rfl ?_
  refine X_get C (hFu _ (by decide)) (wc_53 _ _) rfl inX7 2 (by decide) q_556 rfl dX7_record_87 ?_
  refine X_iconst C (1 : Int32) dX7_record_90 (by decide) ?_
  refine X_iadd C dX7_record_91 ?_
  obtain ⟨S1, eS1⟩ : ∃ z, z = mput S 53 2 ((S 53 2) + (1 : Int32)) := ⟨_, rfl⟩
  have h := h S1 eS1
  refine X_put C (hFu _ (by decide)) (wc_53 _ _) rfl inX7 tyX7_ok nmX7 2 (by decide) q_556 rfl rfl rfl (Nat.le_of_ble_eq_true rfl) eS1 (wc_53 _ _) dX7_record_92 ?_
  exact X_vret C E h dX7_record_95
set_option maxRecDepth 100000 in
set_option maxHeartbeats 4000000 in
theorem K_X7_record_51 {κ : Kx} (C : XC κ RX7 cX7_record 2 0 0) {K : Mem → Prop} (E : XRet κ none (va_Qv K (XB (kG κ)) (XA (kG κ)))) (hFu : XF (kG κ)) : ∀ (n : Nat) (S : Mem) (x1 : Int32), B_X7_record_51 K n S x1 → XW κ S 51 [(0, .ref (xad (kG κ) 53)), (1, .int x1)] [] := by
  intro n
  induction n with
  | zero => intro S x1 h; exact h.elim
  | succ n ih =>
    intro S x1 h
    refine X_iload_n C 1 1 dX7_record_51 rfl rfl ?_
    refine X_sipush C (204 : Int32) dX7_record_52 (by decide) ?_
    refine X_icmp_ge C 85 dX7_record_55 (by decide) (fun c => ?_) (fun c => ?_)
    · have h := h.1 c
      refine X_sub [0] rfl ?_
      exact K_X7_record_85 C E hFu h
    · have h := h.2 c
      refine X_aload_n C 0 0 dX7_record_58 rfl rfl ?_
      refine X_get C (hFu _ (by decide)) (wc_53 _ _) rfl inX7 1 (by decide) q_555 rfl dX7_record_59 ?_
      refine X_sipush C (204 : Int32) dX7_record_62 (by decide) ?_
      refine X_aload_n C 0 0 dX7_record_65 rfl rfl ?_
      refine X_get C (hFu _ (by decide)) (wc_53 _ _) rfl inX7 2 (by decide) q_556 rfl dX7_record_66 ?_
      refine X_imul C dX7_record_69 ?_
      refine X_iload_n C 1 1 dX7_record_70 rfl rfl ?_
      refine X_iadd C dX7_record_71 ?_
      refine X_aload_n C 0 0 dX7_record_72 rfl rfl ?_
      refine X_get C (hFu _ (by decide)) (wc_53 _ _) rfl inX7 0 (by decide) q_554 rfl dX7_record_73 ?_
      refine X_iload_n C 1 1 dX7_record_76 rfl rfl ?_
      obtain ⟨hin, h⟩ := h
      refine X_iald C (hFu _ (by decide)) (wc_54 _ _) hin dX7_record_77 ?_
      obtain ⟨hin, h⟩ := h
      obtain ⟨S2, eS2⟩ : ∃ z, z = mput S 55 (Int32.toNatClampNeg (((204 : Int32) * (S 53 2)) + x1)) (S 54 (Int32.toNatClampNeg x1)) := ⟨_, rfl⟩
      have h := h S2 eS2
      refine X_iast C (hFu _ (by decide)) (wc_55 _ _) hin eS2 (wc_55 _ _) dX7_record_78 ?_
      refine X_iinc C (x1 + (1 : Int32)) 1 [(1, .int (x1 + (1 : Int32))), (0, .ref (xad (kG κ) 53))] dX7_record_79 rfl rfl (by decide) rfl ?_
      refine X_goto C 51 dX7_record_82 (by decide) ?_
      refine X_sub [1, 0] rfl ?_
      exact ih _ _ h
set_option maxRecDepth 100000 in
set_option maxHeartbeats 4000000 in
theorem K_X7_record_49 {κ : Kx} (C : XC κ RX7 cX7_record 2 0 0) {K : Mem → Prop} (E : XRet κ none (va_Qv K (XB (kG κ)) (XA (kG κ)))) (hFu : XF (kG κ)) {S : Mem} (h : B_X7_record_49 K S) : XW κ S 49 [(0, .ref (xad (kG κ) 53))] [] := by
  refine X_iconst C (0 : Int32) dX7_record_49 (by decide) ?_
  refine X_istore_n C 1 [(1, .int (0 : Int32)), (0, .ref (xad (kG κ) 53))] dX7_record_50 rfl (by decide) rfl ?_
  refine X_sub [1, 0] rfl ?_
  obtain ⟨n3, h⟩ := h
  exact K_X7_record_51 C E hFu n3 _ _ h
set_option maxRecDepth 100000 in
set_option maxHeartbeats 4000000 in
theorem K_X7_record_39 {κ : Kx} (C : XC κ RX7 cX7_record 2 0 0) {K : Mem → Prop} (E : XRet κ none (va_Qv K (XB (kG κ)) (XA (kG κ)))) (hFu : XF (kG κ)) {S : Mem} (h : B_X7_record_39 K S) : XW κ S 39 [(0, .ref (xad (kG κ) 53))] [] := by
  refine X_aload_n C 0 0 dX7_record_39 rfl rfl ?_
  refine X_dup C dX7_record_40 rfl ?_
  refine X_get C (hFu _ (by decide)) (wc_53 _ _) rfl inX7 2 (by decide) q_556 rfl dX7_record_41 ?_
  refine X_iconst C (1 : Int32) dX7_record_44 (by decide) ?_
  refine X_isub C dX7_record_45 ?_
  obtain ⟨S4, eS4⟩ : ∃ z, z = mput S 53 2 ((S 53 2) - (1 : Int32)) := ⟨_, rfl⟩
  have h := h S4 eS4
  refine X_put C (hFu _ (by decide)) (wc_53 _ _) rfl inX7 tyX7_ok nmX7 2 (by decide) q_556 rfl rfl rfl (Nat.le_of_ble_eq_true rfl) eS4 (wc_53 _ _) dX7_record_46 ?_
  exact K_X7_record_49 C E hFu h
set_option maxRecDepth 100000 in
set_option maxHeartbeats 4000000 in
theorem K_X7_record_10 {κ : Kx} (C : XC κ RX7 cX7_record 2 0 0) {K : Mem → Prop} (E : XRet κ none (va_Qv K (XB (kG κ)) (XA (kG κ)))) (hFu : XF (kG κ)) : ∀ (n : Nat) (S : Mem) (x1 : Int32), B_X7_record_10 K n S x1 → XW κ S 10 [(0, .ref (xad (kG κ) 53)), (1, .int x1)] [] := by
  intro n
  induction n with
  | zero => intro S x1 h; exact h.elim
  | succ n ih =>
    intro S x1 h
    refine X_iload_n C 1 1 dX7_record_10 rfl rfl ?_
    refine X_sipush C (612 : Int32) dX7_record_11 (by decide) ?_
    refine X_icmp_ge C 39 dX7_record_14 (by decide) (fun c => ?_) (fun c => ?_)
    · have h := h.1 c
      refine X_sub [0] rfl ?_
      exact K_X7_record_39 C E hFu h
    · have h := h.2 c
      refine X_aload_n C 0 0 dX7_record_17 rfl rfl ?_
      refine X_get C (hFu _ (by decide)) (wc_53 _ _) rfl inX7 1 (by decide) q_555 rfl dX7_record_18 ?_
      refine X_iload_n C 1 1 dX7_record_21 rfl rfl ?_
      refine X_aload_n C 0 0 dX7_record_22 rfl rfl ?_
      refine X_get C (hFu _ (by decide)) (wc_53 _ _) rfl inX7 1 (by decide) q_555 rfl dX7_record_23 ?_
      refine X_iload_n C 1 1 dX7_record_26 rfl rfl ?_
      refine X_sipush C (204 : Int32) dX7_record_27 (by decide) ?_
      refine X_iadd C dX7_record_30 ?_
      obtain ⟨hin, h⟩ := h
      refine X_iald C (hFu _ (by decide)) (wc_55 _ _) hin dX7_record_31 ?_
      obtain ⟨hin, h⟩ := h
      obtain ⟨S5, eS5⟩ : ∃ z, z = mput S 55 (Int32.toNatClampNeg x1) (S 55 (Int32.toNatClampNeg (x1 + (204 : Int32)))) := ⟨_, rfl⟩
      have h := h S5 eS5
      refine X_iast C (hFu _ (by decide)) (wc_55 _ _) hin eS5 (wc_55 _ _) dX7_record_32 ?_
      refine X_iinc C (x1 + (1 : Int32)) 1 [(1, .int (x1 + (1 : Int32))), (0, .ref (xad (kG κ) 53))] dX7_record_33 rfl rfl (by decide) rfl ?_
      refine X_goto C 10 dX7_record_36 (by decide) ?_
      refine X_sub [1, 0] rfl ?_
      exact ih _ _ h
set_option maxRecDepth 100000 in
set_option maxHeartbeats 4000000 in
theorem M_X7_record {l : Launch} {G : XG} (hJ : XJ G) (hFu : XF G) {S : Mem} {K : Mem → Prop} (h : P_X7_record S K) : XMv l G yX7_record cX7_record 2 0 0 [.ref (xad G 53)] S K := by
  refine X_meth RX7 rfl (by decide +kernel) hJ (Nat.le_of_ble_eq_true rfl) (fun κ hl hG C E => ?_)
  subst hl hG
  show XW κ S 0 [(0, .ref (xad (kG κ) 53))] []
  refine X_aload_n C 0 0 dX7_record_0 rfl rfl ?_
  refine X_get C (hFu _ (by decide)) (wc_53 _ _) rfl inX7 2 (by decide) q_556 rfl dX7_record_1 ?_
  refine X_iconst C (4 : Int32) dX7_record_4 (by decide) ?_
  refine X_icmp_ne C 49 dX7_record_5 (by decide) (fun c => ?_) (fun c => ?_)
  · have h := h.1 c
    exact K_X7_record_49 C E hFu h
  · have h := h.2 c
    refine X_iconst C (0 : Int32) dX7_record_8 (by decide) ?_
    refine X_istore_n C 1 [(1, .int (0 : Int32)), (0, .ref (xad (kG κ) 53))] dX7_record_9 rfl (by decide) rfl ?_
    refine X_sub [1, 0] rfl ?_
    obtain ⟨n6, h⟩ := h
    exact K_X7_record_10 C E hFu n6 _ _ h
set_option maxRecDepth 100000 in
set_option maxHeartbeats 4000000 in
theorem M_X7_isRow {l : Launch} {G : XG} (hJ : XJ G) (hFu : XF G) {S : Mem} {a0 : Int32} {a1 : Int32} {K : Int32 → Mem → Prop} (h : P_X7_isRow S a0 a1 K) : XMi l G yX7_isRow cX7_isRow 2 .boolean 1 25 [.int a0, .int a1] S K := by
  refine X_meth RX7 rfl (by decide +kernel) hJ (Nat.le_of_ble_eq_true rfl) (fun κ hl hG C E => ?_)
  subst hl hG
  show XW κ S 0 [(0, .int a0), (1, .int a1)] []
  refine X_iload_n C 0 0 dX7_isRow_0 rfl rfl ?_
  refine X_i2l C dX7_isRow_1 ?_
  refine X_lconst C (0 : Int64) dX7_isRow_2 (by decide) ?_
  refine X_ldc2 C (9999 : Int64) q_652 dX7_isRow_3 ?_
  refine X_callSi C eX7_in [.long (Int32.toInt64 a0), .long (0 : Int64), .long (9999 : Int64)] [] (M_X7_in C.g_J hFu h) q_653 rfl ⟨(Nat.le_of_ble_eq_true rfl), (Nat.le_of_ble_eq_true rfl)⟩ rfl (Nat.le_of_ble_eq_true rfl) dX7_isRow_6 (fun r2 S1 h => ?_)
  refine X_if_eq C 30 dX7_isRow_9 (by decide) (fun c => ?_) (fun c => ?_)
  · have h := h.1 c
    refine X_iconst C (0 : Int32) dX7_isRow_30 (by decide) ?_
    exact X_iret C E rfl h dX7_isRow_31
  · have h := h.2 c
    refine X_iload_n C 1 1 dX7_isRow_12 rfl rfl ?_
    refine X_i2l C dX7_isRow_13 ?_
    refine X_ldc2 C (-999 : Int64) q_656 dX7_isRow_14 ?_
    refine X_ldc2 C (999 : Int64) q_657 dX7_isRow_17 ?_
    refine X_callSi C eX7_in [.long (Int32.toInt64 a1), .long (-999 : Int64), .long (999 : Int64)] [] (M_X7_in C.g_J hFu h) q_653 rfl ⟨(Nat.le_of_ble_eq_true rfl), (Nat.le_of_ble_eq_true rfl)⟩ rfl (Nat.le_of_ble_eq_true rfl) dX7_isRow_20 (fun r4 S3 h => ?_)
    refine X_if_eq C 30 dX7_isRow_23 (by decide) (fun c => ?_) (fun c => ?_)
    · have h := h.1 c
      refine X_iconst C (0 : Int32) dX7_isRow_30 (by decide) ?_
      exact X_iret C E rfl h dX7_isRow_31
    · have h := h.2 c
      refine X_iconst C (1 : Int32) dX7_isRow_26 (by decide) ?_
      refine X_goto C 31 dX7_isRow_27 (by decide) ?_
      exact X_iret C E rfl h dX7_isRow_31
set_option maxRecDepth 100000 in
set_option maxHeartbeats 4000000 in
theorem M_X7_adds {l : Launch} {G : XG} (hJ : XJ G) (hFu : XF G) {S : Mem} {a1 : Int32} {a2 : Int32} {K : Mem → Prop} (h : P_X7_adds S a1 a2 K) : XMv l G yX7_adds cX7_adds 3 0 0 [.ref (xad G 53), .int a1, .int a2] S K := by
  refine X_meth RX7 rfl (by decide +kernel) hJ (Nat.le_of_ble_eq_true rfl) (fun κ hl hG C E => ?_)
  subst hl hG
  show XW κ S 0 [(0, .ref (xad (kG κ) 53)), (1, .int a1), (2, .int a2)] []
  refine X_aload_n C 0 0 dX7_adds_0 rfl rfl ?_
  refine X_get C (hFu _ (by decide)) (wc_53 _ _) rfl inX7 0 (by decide) q_554 rfl dX7_adds_1 ?_
  refine X_iconst C (4 : Int32) dX7_adds_4 (by decide) ?_
  refine X_aload_n C 0 0 dX7_adds_5 rfl rfl ?_
  refine X_get C (hFu _ (by decide)) (wc_53 _ _) rfl inX7 0 (by decide) q_554 rfl dX7_adds_6 ?_
  refine X_iconst C (0 : Int32) dX7_adds_9 (by decide) ?_
  obtain ⟨hin, h⟩ := h
  refine X_iald C (hFu _ (by decide)) (wc_54 _ _) hin dX7_adds_10 ?_
  refine X_iadd C dX7_adds_11 ?_
  refine X_iload_n C 1 1 dX7_adds_12 rfl rfl ?_
  obtain ⟨hin, h⟩ := h
  obtain ⟨S1, eS1⟩ : ∃ z, z = mput S 54 (Int32.toNatClampNeg ((4 : Int32) + (S 54 (Int32.toNatClampNeg (0 : Int32))))) a1 := ⟨_, rfl⟩
  have h := h S1 eS1
  refine X_iast C (hFu _ (by decide)) (wc_54 _ _) hin eS1 (wc_54 _ _) dX7_adds_13 ?_
  refine X_aload_n C 0 0 dX7_adds_14 rfl rfl ?_
  refine X_get C (hFu _ (by decide)) (wc_53 _ _) rfl inX7 0 (by decide) q_554 rfl dX7_adds_15 ?_
  refine X_bipush C (104 : Int32) dX7_adds_18 (by decide) ?_
  refine X_aload_n C 0 0 dX7_adds_20 rfl rfl ?_
  refine X_get C (hFu _ (by decide)) (wc_53 _ _) rfl inX7 0 (by decide) q_554 rfl dX7_adds_21 ?_
  refine X_iconst C (0 : Int32) dX7_adds_24 (by decide) ?_
  obtain ⟨hin, h⟩ := h
  refine X_iald C (hFu _ (by decide)) (wc_54 _ _) hin dX7_adds_25 ?_
  refine X_iadd C dX7_adds_26 ?_
  refine X_iload_n C 2 2 dX7_adds_27 rfl rfl ?_
  obtain ⟨hin, h⟩ := h
  obtain ⟨S2, eS2⟩ : ∃ z, z = mput S1 54 (Int32.toNatClampNeg ((104 : Int32) + (S1 54 (Int32.toNatClampNeg (0 : Int32))))) a2 := ⟨_, rfl⟩
  have h := h S2 eS2
  refine X_iast C (hFu _ (by decide)) (wc_54 _ _) hin eS2 (wc_54 _ _) dX7_adds_28 ?_
  refine X_aload_n C 0 0 dX7_adds_29 rfl rfl ?_
  refine X_get C (hFu _ (by decide)) (wc_53 _ _) rfl inX7 0 (by decide) q_554 rfl dX7_adds_30 ?_
  refine X_iconst C (0 : Int32) dX7_adds_33 (by decide) ?_
  refine X_dup2 C dX7_adds_34 rfl rfl ?_
  obtain ⟨hin, h⟩ := h
  refine X_iald C (hFu _ (by decide)) (wc_54 _ _) hin dX7_adds_35 ?_
  refine X_iconst C (1 : Int32) dX7_adds_36 (by decide) ?_
  refine X_iadd C dX7_adds_37 ?_
  obtain ⟨hin, h⟩ := h
  obtain ⟨S3, eS3⟩ : ∃ z, z = mput S2 54 (Int32.toNatClampNeg (0 : Int32)) ((S2 54 (Int32.toNatClampNeg (0 : Int32))) + (1 : Int32)) := ⟨_, rfl⟩
  have h := h S3 eS3
  refine X_iast C (hFu _ (by decide)) (wc_54 _ _) hin eS3 (wc_54 _ _) dX7_adds_38 ?_
  exact X_vret C E h dX7_adds_39
set_option maxRecDepth 100000 in
set_option maxHeartbeats 4000000 in
theorem M_X7_row {l : Launch} {G : XG} (hJ : XJ G) (hFu : XF G) {S : Mem} {a1 : Int32} {a2 : Int32} {K : Int32 → Mem → Prop} (h : P_X7_row S a1 a2 K) : XMi l G yX7_row cX7_row 3 .int 2 46 [.ref (xad G 53), .int a1, .int a2] S K := by
  refine X_meth RX7 rfl (by decide +kernel) hJ (Nat.le_of_ble_eq_true rfl) (fun κ hl hG C E => ?_)
  subst hl hG
  show XW κ S 0 [(0, .ref (xad (kG κ) 53)), (1, .int a1), (2, .int a2)] []
  refine X_iload_n C 1 1 dX7_row_0 rfl rfl ?_
  refine X_iload_n C 2 2 dX7_row_1 rfl rfl ?_
  refine X_callSi C eX7_isRow [.int a1, .int a2] [] (M_X7_isRow C.g_J hFu h) q_649 rfl ⟨(Nat.le_of_ble_eq_true rfl), (Nat.le_of_ble_eq_true rfl)⟩ rfl (Nat.le_of_ble_eq_true rfl) dX7_row_2 (fun r2 S1 h => ?_)
  refine X_if_ne C 11 dX7_row_5 (by decide) (fun c => ?_) (fun c => ?_)
  · have h := h.1 c
    refine X_aload_n C 0 0 dX7_row_11 rfl rfl ?_
    refine X_get C (hFu _ (by decide)) (wc_53 _ _) rfl inX7 0 (by decide) q_554 rfl dX7_row_12 ?_
    refine X_iconst C (0 : Int32) dX7_row_15 (by decide) ?_
    obtain ⟨hin, h⟩ := h
    refine X_iald C (hFu _ (by decide)) (wc_54 _ _) hin dX7_row_16 ?_
    refine X_bipush C (100 : Int32) dX7_row_17 (by decide) ?_
    refine X_icmp_ne C 25 dX7_row_19 (by decide) (fun c => ?_) (fun c => ?_)
    · have h := h.1 c
      refine X_aload_n C 0 0 dX7_row_25 rfl rfl ?_
      refine X_callVv C eX7_record [] [] (M_X7_record C.g_J hFu h) (hFu _ (by decide)) (wc_53 _ _) rfl q_660 rfl ⟨(Nat.le_of_ble_eq_true rfl), (Nat.le_of_ble_eq_true rfl)⟩ rfl (Nat.le_of_ble_eq_true rfl) dX7_row_26 (fun S3 h => ?_)
      refine X_aload_n C 0 0 dX7_row_29 rfl rfl ?_
      refine X_iload_n C 1 1 dX7_row_30 rfl rfl ?_
      refine X_iload_n C 2 2 dX7_row_31 rfl rfl ?_
      refine X_callVv C eX7_adds [.int a1, .int a2] [] (M_X7_adds C.g_J hFu h) (hFu _ (by decide)) (wc_53 _ _) rfl q_664 rfl ⟨(Nat.le_of_ble_eq_true rfl), (Nat.le_of_ble_eq_true rfl)⟩ rfl (Nat.le_of_ble_eq_true rfl) dX7_row_32 (fun S5 h => ?_)
      refine X_aload_n C 0 0 dX7_row_35 rfl rfl ?_
      refine X_get C (hFu _ (by decide)) (wc_53 _ _) rfl inX7 0 (by decide) q_554 rfl dX7_row_36 ?_
      refine X_iconst C (0 : Int32) dX7_row_39 (by decide) ?_
      obtain ⟨hin, h⟩ := h
      refine X_iald C (hFu _ (by decide)) (wc_54 _ _) hin dX7_row_40 ?_
      refine X_iconst C (1 : Int32) dX7_row_41 (by decide) ?_
      refine X_isub C dX7_row_42 ?_
      exact X_iret C E rfl h dX7_row_43
    · have h := h.2 c
      refine X_ldc C (-1000003 : Int32) q_659 dX7_row_22 ?_
      exact X_iret C E rfl h dX7_row_24
  · have h := h.2 c
    refine X_ldc C (-1000001 : Int32) q_658 dX7_row_8 ?_
    exact X_iret C E rfl h dX7_row_10
set_option maxRecDepth 100000 in
set_option maxHeartbeats 4000000 in
theorem K_X7_drop_90 {κ : Kx} (C : XC κ RX7 cX7_drop 3 1 21) {K : Int32 → Mem → Prop} (E : XRet κ (some .int) (va_Qi K (XB (kG κ)) (XA (kG κ)))) (hFu : XF (kG κ)) {S : Mem} (h : B_X7_drop_90 K S) : XW κ S 90 [(0, .ref (xad (kG κ) 53))] [] := by
  refine X_aload_n C 0 0 dX7_drop_90 rfl rfl ?_
  refine X_get C (hFu _ (by decide)) (wc_53 _ _) rfl inX7 0 (by decide) q_554 rfl dX7_drop_91 ?_
  refine X_iconst C (0 : Int32) dX7_drop_94 (by decide) ?_
  obtain ⟨hin, h⟩ := h
  refine X_iald C (hFu _ (by decide)) (wc_54 _ _) hin dX7_drop_95 ?_
  exact X_iret C E rfl h dX7_drop_96
set_option maxRecDepth 100000 in
set_option maxHeartbeats 4000000 in
theorem K_X7_drop_36 {κ : Kx} (C : XC κ RX7 cX7_drop 3 1 21) {K : Int32 → Mem → Prop} (E : XRet κ (some .int) (va_Qi K (XB (kG κ)) (XA (kG κ)))) (hFu : XF (kG κ)) : ∀ (n : Nat) (S : Mem) (x2 : Int32), B_X7_drop_36 K n S x2 → XW κ S 36 [(0, .ref (xad (kG κ) 53)), (2, .int x2)] [] := by
  intro n
  induction n with
  | zero => intro S x2 h; exact h.elim
  | succ n ih =>
    intro S x2 h
    refine X_iload_n C 2 1 dX7_drop_36 rfl rfl ?_
    refine X_aload_n C 0 0 dX7_drop_37 rfl rfl ?_
    refine X_get C (hFu _ (by decide)) (wc_53 _ _) rfl inX7 0 (by decide) q_554 rfl dX7_drop_38 ?_
    refine X_iconst C (0 : Int32) dX7_drop_41 (by decide) ?_
    obtain ⟨hin, h⟩ := h
    refine X_iald C (hFu _ (by decide)) (wc_54 _ _) hin dX7_drop_42 ?_
    refine X_icmp_ge C 90 dX7_drop_43 (by decide) (fun c => ?_) (fun c => ?_)
    · have h := h.1 c
      refine X_sub [0] rfl ?_
      exact K_X7_drop_90 C E hFu h
    · have h := h.2 c
      refine X_aload_n C 0 0 dX7_drop_46 rfl rfl ?_
      refine X_get C (hFu _ (by decide)) (wc_53 _ _) rfl inX7 0 (by decide) q_554 rfl dX7_drop_47 ?_
      refine X_iconst C (4 : Int32) dX7_drop_50 (by decide) ?_
      refine X_iload_n C 2 1 dX7_drop_51 rfl rfl ?_
      refine X_iadd C dX7_drop_52 ?_
      refine X_aload_n C 0 0 dX7_drop_53 rfl rfl ?_
      refine X_get C (hFu _ (by decide)) (wc_53 _ _) rfl inX7 0 (by decide) q_554 rfl dX7_drop_54 ?_
      refine X_iconst C (4 : Int32) dX7_drop_57 (by decide) ?_
      refine X_iload_n C 2 1 dX7_drop_58 rfl rfl ?_
      refine X_iadd C dX7_drop_59 ?_
      refine X_iconst C (1 : Int32) dX7_drop_60 (by decide) ?_
      refine X_iadd C dX7_drop_61 ?_
      obtain ⟨hin, h⟩ := h
      refine X_iald C (hFu _ (by decide)) (wc_54 _ _) hin dX7_drop_62 ?_
      obtain ⟨hin, h⟩ := h
      obtain ⟨S4, eS4⟩ : ∃ z, z = mput S 54 (Int32.toNatClampNeg ((4 : Int32) + x2)) (S 54 (Int32.toNatClampNeg (((4 : Int32) + x2) + (1 : Int32)))) := ⟨_, rfl⟩
      have h := h S4 eS4
      refine X_iast C (hFu _ (by decide)) (wc_54 _ _) hin eS4 (wc_54 _ _) dX7_drop_63 ?_
      refine X_aload_n C 0 0 dX7_drop_64 rfl rfl ?_
      refine X_get C (hFu _ (by decide)) (wc_53 _ _) rfl inX7 0 (by decide) q_554 rfl dX7_drop_65 ?_
      refine X_bipush C (104 : Int32) dX7_drop_68 (by decide) ?_
      refine X_iload_n C 2 1 dX7_drop_70 rfl rfl ?_
      refine X_iadd C dX7_drop_71 ?_
      refine X_aload_n C 0 0 dX7_drop_72 rfl rfl ?_
      refine X_get C (hFu _ (by decide)) (wc_53 _ _) rfl inX7 0 (by decide) q_554 rfl dX7_drop_73 ?_
      refine X_bipush C (104 : Int32) dX7_drop_76 (by decide) ?_
      refine X_iload_n C 2 1 dX7_drop_78 rfl rfl ?_
      refine X_iadd C dX7_drop_79 ?_
      refine X_iconst C (1 : Int32) dX7_drop_80 (by decide) ?_
      refine X_iadd C dX7_drop_81 ?_
      obtain ⟨hin, h⟩ := h
      refine X_iald C (hFu _ (by decide)) (wc_54 _ _) hin dX7_drop_82 ?_
      obtain ⟨hin, h⟩ := h
      obtain ⟨S5, eS5⟩ : ∃ z, z = mput S4 54 (Int32.toNatClampNeg ((104 : Int32) + x2)) (S4 54 (Int32.toNatClampNeg (((104 : Int32) + x2) + (1 : Int32)))) := ⟨_, rfl⟩
      have h := h S5 eS5
      refine X_iast C (hFu _ (by decide)) (wc_54 _ _) hin eS5 (wc_54 _ _) dX7_drop_83 ?_
      refine X_iinc C (x2 + (1 : Int32)) 1 [(2, .int (x2 + (1 : Int32))), (0, .ref (xad (kG κ) 53))] dX7_drop_84 rfl rfl (by decide) rfl ?_
      refine X_goto C 36 dX7_drop_87 (by decide) ?_
      refine X_sub [1, 0] rfl ?_
      exact ih _ _ h
set_option maxRecDepth 100000 in
set_option maxHeartbeats 4000000 in
theorem M_X7_drop {l : Launch} {G : XG} (hJ : XJ G) (hFu : XF G) {S : Mem} {a1 : Int32} {K : Int32 → Mem → Prop} (h : P_X7_drop S a1 K) : XMi l G yX7_drop cX7_drop 3 .int 1 21 [.ref (xad G 53), .int a1] S K := by
  refine X_meth RX7 rfl (by decide +kernel) hJ (Nat.le_of_ble_eq_true rfl) (fun κ hl hG C E => ?_)
  subst hl hG
  show XW κ S 0 [(0, .ref (xad (kG κ) 53)), (1, .int a1)] []
  refine X_iload_n C 1 1 dX7_drop_0 rfl rfl ?_
  refine X_if_ge C 7 dX7_drop_1 (by decide) (fun c => ?_) (fun c => ?_)
  · have h := h.1 c
    refine X_iload_n C 1 1 dX7_drop_7 rfl rfl ?_
    refine X_aload_n C 0 0 dX7_drop_8 rfl rfl ?_
    refine X_get C (hFu _ (by decide)) (wc_53 _ _) rfl inX7 0 (by decide) q_554 rfl dX7_drop_9 ?_
    refine X_iconst C (0 : Int32) dX7_drop_12 (by decide) ?_
    obtain ⟨hin, h⟩ := h
    refine X_iald C (hFu _ (by decide)) (wc_54 _ _) hin dX7_drop_13 ?_
    refine X_icmp_lt C 20 dX7_drop_14 (by decide) (fun c => ?_) (fun c => ?_)
    · have h := h.1 c
      refine X_aload_n C 0 0 dX7_drop_20 rfl rfl ?_
      refine X_callVv C eX7_record [] [] (M_X7_record C.g_J hFu h) (hFu _ (by decide)) (wc_53 _ _) rfl q_660 rfl ⟨(Nat.le_of_ble_eq_true rfl), (Nat.le_of_ble_eq_true rfl)⟩ rfl (Nat.le_of_ble_eq_true rfl) dX7_drop_21 (fun S1 h => ?_)
      refine X_aload_n C 0 0 dX7_drop_24 rfl rfl ?_
      refine X_get C (hFu _ (by decide)) (wc_53 _ _) rfl inX7 0 (by decide) q_554 rfl dX7_drop_25 ?_
      refine X_iconst C (0 : Int32) dX7_drop_28 (by decide) ?_
      refine X_dup2 C dX7_drop_29 rfl rfl ?_
      obtain ⟨hin, h⟩ := h
      refine X_iald C (hFu _ (by decide)) (wc_54 _ _) hin dX7_drop_30 ?_
      refine X_iconst C (1 : Int32) dX7_drop_31 (by decide) ?_
      refine X_isub C dX7_drop_32 ?_
      obtain ⟨hin, h⟩ := h
      obtain ⟨S3, eS3⟩ : ∃ z, z = mput S1 54 (Int32.toNatClampNeg (0 : Int32)) ((S1 54 (Int32.toNatClampNeg (0 : Int32))) - (1 : Int32)) := ⟨_, rfl⟩
      have h := h S3 eS3
      refine X_iast C (hFu _ (by decide)) (wc_54 _ _) hin eS3 (wc_54 _ _) dX7_drop_33 ?_
      refine X_iload_n C 1 1 dX7_drop_34 rfl rfl ?_
      refine X_istore_n C 2 [(2, .int a1), (0, .ref (xad (kG κ) 53)), (1, .int a1)] dX7_drop_35 rfl (by decide) rfl ?_
      refine X_sub [1, 0] rfl ?_
      obtain ⟨n6, h⟩ := h
      exact K_X7_drop_36 C E hFu n6 _ _ h
    · have h := h.2 c
      refine X_ldc C (-1000002 : Int32) q_672 dX7_drop_17 ?_
      exact X_iret C E rfl h dX7_drop_19
  · have h := h.2 c
    refine X_ldc C (-1000001 : Int32) q_658 dX7_drop_4 ?_
    exact X_iret C E rfl h dX7_drop_6
set_option maxRecDepth 100000 in
set_option maxHeartbeats 4000000 in
theorem M_X7_clear {l : Launch} {G : XG} (hJ : XJ G) (hFu : XF G) {S : Mem} {K : Int32 → Mem → Prop} (h : P_X7_clear S K) : XMi l G yX7_clear cX7_clear 2 .int 1 21 [.ref (xad G 53)] S K := by
  refine X_meth RX7 rfl (by decide +kernel) hJ (Nat.le_of_ble_eq_true rfl) (fun κ hl hG C E => ?_)
  subst hl hG
  show XW κ S 0 [(0, .ref (xad (kG κ) 53))] []
  refine X_aload_n C 0 0 dX7_clear_0 rfl rfl ?_
  refine X_callVv C eX7_record [] [] (M_X7_record C.g_J hFu h) (hFu _ (by decide)) (wc_53 _ _) rfl q_660 rfl ⟨(Nat.le_of_ble_eq_true rfl), (Nat.le_of_ble_eq_true rfl)⟩ rfl (Nat.le_of_ble_eq_true rfl) dX7_clear_1 (fun S1 h => ?_)
  refine X_aload_n C 0 0 dX7_clear_4 rfl rfl ?_
  refine X_get C (hFu _ (by decide)) (wc_53 _ _) rfl inX7 0 (by decide) q_554 rfl dX7_clear_5 ?_
  refine X_iconst C (0 : Int32) dX7_clear_8 (by decide) ?_
  obtain ⟨hin, h⟩ := h
  refine X_iald C (hFu _ (by decide)) (wc_54 _ _) hin dX7_clear_9 ?_
  refine X_istore_n C 1 [(1, .int (S1 54 (Int32.toNatClampNeg (0 : Int32)))), (0, .ref (xad (kG κ) 53))] dX7_clear_10 rfl (by decide) rfl ?_
  refine X_aload_n C 0 1 dX7_clear_11 rfl rfl ?_
  refine X_get C (hFu _ (by decide)) (wc_53 _ _) rfl inX7 0 (by decide) q_554 rfl dX7_clear_12 ?_
  refine X_iconst C (0 : Int32) dX7_clear_15 (by decide) ?_
  refine X_iconst C (0 : Int32) dX7_clear_16 (by decide) ?_
  obtain ⟨hin, h⟩ := h
  obtain ⟨S3, eS3⟩ : ∃ z, z = mput S1 54 (Int32.toNatClampNeg (0 : Int32)) (0 : Int32) := ⟨_, rfl⟩
  have h := h S3 eS3
  refine X_iast C (hFu _ (by decide)) (wc_54 _ _) hin eS3 (wc_54 _ _) dX7_clear_17 ?_
  refine X_iload_n C 1 0 dX7_clear_18 rfl rfl ?_
  exact X_iret C E rfl h dX7_clear_19
set_option maxRecDepth 100000 in
set_option maxHeartbeats 4000000 in
theorem K_X7_set_62 {κ : Kx} (C : XC κ RX7 cX7_set 5 1 25) {K : Int32 → Mem → Prop} (E : XRet κ (some .int) (va_Qi K (XB (kG κ)) (XA (kG κ)))) (hFu : XF (kG κ)) {S : Mem} {x1 : Int32} {x2 : Int32} {y0 : Int32} (h : B_X7_set_62 K S x1 x2 y0) : XW κ S 62 [(0, .ref (xad (kG κ) 53)), (1, .int x1), (2, .int x2)] [.int y0] := by
  refine X_istore_n C 3 [(3, .int y0), (0, .ref (xad (kG κ) 53)), (1, .int x1), (2, .int x2)] dX7_set_62 rfl (by decide) rfl ?_
  refine X_iload_n C 3 0 dX7_set_63 rfl rfl ?_
  refine X_if_ne C 70 dX7_set_64 (by decide) (fun c => ?_) (fun c => ?_)
  · have h := h.1 c
    refine X_aload_n C 0 1 dX7_set_70 rfl rfl ?_
    refine X_callVv C eX7_record [] [] (M_X7_record C.g_J hFu h) (hFu _ (by decide)) (wc_53 _ _) rfl q_660 rfl ⟨(Nat.le_of_ble_eq_true rfl), (Nat.le_of_ble_eq_true rfl)⟩ rfl (Nat.le_of_ble_eq_true rfl) dX7_set_71 (fun S1 h => ?_)
    refine X_aload_n C 0 1 dX7_set_74 rfl rfl ?_
    refine X_get C (hFu _ (by decide)) (wc_53 _ _) rfl inX7 0 (by decide) q_554 rfl dX7_set_75 ?_
    refine X_iconst C (1 : Int32) dX7_set_78 (by decide) ?_
    refine X_iload_n C 1 2 dX7_set_79 rfl rfl ?_
    refine X_iadd C dX7_set_80 ?_
    obtain ⟨hin, h⟩ := h
    refine X_iald C (hFu _ (by decide)) (wc_54 _ _) hin dX7_set_81 ?_
    refine X_istore C [(4, .int (S1 54 (Int32.toNatClampNeg ((1 : Int32) + x1)))), (3, .int y0), (0, .ref (xad (kG κ) 53)), (1, .int x1), (2, .int x2)] dX7_set_82 (by decide) rfl ?_
    refine X_aload_n C 0 2 dX7_set_84 rfl rfl ?_
    refine X_get C (hFu _ (by decide)) (wc_53 _ _) rfl inX7 0 (by decide) q_554 rfl dX7_set_85 ?_
    refine X_iconst C (1 : Int32) dX7_set_88 (by decide) ?_
    refine X_iload_n C 1 3 dX7_set_89 rfl rfl ?_
    refine X_iadd C dX7_set_90 ?_
    refine X_iload_n C 2 4 dX7_set_91 rfl rfl ?_
    obtain ⟨hin, h⟩ := h
    obtain ⟨S3, eS3⟩ : ∃ z, z = mput S1 54 (Int32.toNatClampNeg ((1 : Int32) + x1)) x2 := ⟨_, rfl⟩
    have h := h S3 eS3
    refine X_iast C (hFu _ (by decide)) (wc_54 _ _) hin eS3 (wc_54 _ _) dX7_set_92 ?_
    refine X_iload C 0 dX7_set_93 rfl ?_
    exact X_iret C E rfl h dX7_set_95
  · have h := h.2 c
    refine X_ldc C (-1000001 : Int32) q_658 dX7_set_67 ?_
    exact X_iret C E rfl h dX7_set_69
set_option maxRecDepth 100000 in
set_option maxHeartbeats 4000000 in
theorem K_X7_set_61 {κ : Kx} (C : XC κ RX7 cX7_set 5 1 25) {K : Int32 → Mem → Prop} (E : XRet κ (some .int) (va_Qi K (XB (kG κ)) (XA (kG κ)))) (hFu : XF (kG κ)) {S : Mem} {x1 : Int32} {x2 : Int32} (h : B_X7_set_61 K S x1 x2) : XW κ S 61 [(0, .ref (xad (kG κ) 53)), (1, .int x1), (2, .int x2)] [] := by
  refine X_iconst C (0 : Int32) dX7_set_61 (by decide) ?_
  exact K_X7_set_62 C E hFu h
set_option maxRecDepth 100000 in
set_option maxHeartbeats 4000000 in
theorem M_X7_set {l : Launch} {G : XG} (hJ : XJ G) (hFu : XF G) {S : Mem} {a1 : Int32} {a2 : Int32} {K : Int32 → Mem → Prop} (h : P_X7_set S a1 a2 K) : XMi l G yX7_set cX7_set 5 .int 1 25 [.ref (xad G 53), .int a1, .int a2] S K := by
  refine X_meth RX7 rfl (by decide +kernel) hJ (Nat.le_of_ble_eq_true rfl) (fun κ hl hG C E => ?_)
  subst hl hG
  show XW κ S 0 [(0, .ref (xad (kG κ) 53)), (1, .int a1), (2, .int a2)] []
  refine X_iload_n C 1 1 dX7_set_0 rfl rfl ?_
  refine X_if_ne C 16 dX7_set_1 (by decide) (fun c => ?_) (fun c => ?_)
  · have h := h.1 c
    refine X_iload_n C 1 1 dX7_set_16 rfl rfl ?_
    refine X_iconst C (1 : Int32) dX7_set_17 (by decide) ?_
    refine X_icmp_ne C 33 dX7_set_18 (by decide) (fun c => ?_) (fun c => ?_)
    · have h := h.1 c
      refine X_iload_n C 1 1 dX7_set_33 rfl rfl ?_
      refine X_iconst C (2 : Int32) dX7_set_34 (by decide) ?_
      refine X_icmp_ne C 61 dX7_set_35 (by decide) (fun c => ?_) (fun c => ?_)
      · have h := h.1 c
        exact K_X7_set_61 C E hFu h
      · have h := h.2 c
        refine X_iload_n C 2 2 dX7_set_38 rfl rfl ?_
        refine X_i2l C dX7_set_39 ?_
        refine X_lconst C (1 : Int64) dX7_set_40 (by decide) ?_
        refine X_ldc2 C (65535 : Int64) q_683 dX7_set_41 ?_
        refine X_callSi C eX7_in [.long (Int32.toInt64 a2), .long (1 : Int64), .long (65535 : Int64)] [] (M_X7_in C.g_J hFu h) q_653 rfl ⟨(Nat.le_of_ble_eq_true rfl), (Nat.le_of_ble_eq_true rfl)⟩ rfl (Nat.le_of_ble_eq_true rfl) dX7_set_44 (fun r5 S4 h => ?_)
        refine X_if_eq C 61 dX7_set_47 (by decide) (fun c => ?_) (fun c => ?_)
        · have h := h.1 c
          exact K_X7_set_61 C E hFu h
        · have h := h.2 c
          refine X_iload_n C 2 2 dX7_set_50 rfl rfl ?_
          refine X_iconst C (2 : Int32) dX7_set_51 (by decide) ?_
          refine X_irem C dX7_set_52 (by decide) ?_
          refine X_iconst C (1 : Int32) dX7_set_53 (by decide) ?_
          refine X_icmp_ne C 61 dX7_set_54 (by decide) (fun c => ?_) (fun c => ?_)
          · have h := h.1 c
            exact K_X7_set_61 C E hFu h
          · have h := h.2 c
            refine X_iconst C (1 : Int32) dX7_set_57 (by decide) ?_
            refine X_goto C 62 dX7_set_58 (by decide) ?_
            exact K_X7_set_62 C E hFu h
    · have h := h.2 c
      refine X_iload_n C 2 2 dX7_set_21 rfl rfl ?_
      refine X_i2l C dX7_set_22 ?_
      refine X_lconst C (1 : Int64) dX7_set_23 (by decide) ?_
      refine X_ldc2 C (4 : Int64) q_682 dX7_set_24 ?_
      refine X_callSi C eX7_in [.long (Int32.toInt64 a2), .long (1 : Int64), .long (4 : Int64)] [] (M_X7_in C.g_J hFu h) q_653 rfl ⟨(Nat.le_of_ble_eq_true rfl), (Nat.le_of_ble_eq_true rfl)⟩ rfl (Nat.le_of_ble_eq_true rfl) dX7_set_27 (fun r7 S6 h => ?_)
      refine X_goto C 62 dX7_set_30 (by decide) ?_
      exact K_X7_set_62 C E hFu h
  · have h := h.2 c
    refine X_iload_n C 2 2 dX7_set_4 rfl rfl ?_
    refine X_i2l C dX7_set_5 ?_
    refine X_lconst C (1 : Int64) dX7_set_6 (by decide) ?_
    refine X_ldc2 C (12 : Int64) q_681 dX7_set_7 ?_
    refine X_callSi C eX7_in [.long (Int32.toInt64 a2), .long (1 : Int64), .long (12 : Int64)] [] (M_X7_in C.g_J hFu h) q_653 rfl ⟨(Nat.le_of_ble_eq_true rfl), (Nat.le_of_ble_eq_true rfl)⟩ rfl (Nat.le_of_ble_eq_true rfl) dX7_set_10 (fun r9 S8 h => ?_)
    refine X_goto C 62 dX7_set_13 (by decide) ?_
    exact K_X7_set_62 C E hFu h
set_option maxRecDepth 100000 in
set_option maxHeartbeats 4000000 in
theorem M_X7_hashOf {l : Launch} {G : XG} (hJ : XJ G) (hFu : XF G) {S : Mem} {a1 : Int32} {K : Int32 → Mem → Prop} (h : P_X7_hashOf S a1 K) : XMi l G yX7_hashOf cX7_hashOf 2 .int 0 0 [.ref (xad G 53), .int a1] S K := by
  refine X_meth RX7 rfl (by decide +kernel) hJ (Nat.le_of_ble_eq_true rfl) (fun κ hl hG C E => ?_)
  subst hl hG
  show XW κ S 0 [(0, .ref (xad (kG κ) 53)), (1, .int a1)] []
  refine X_iload_n C 1 1 dX7_hashOf_0 rfl rfl ?_
  refine X_aload_n C 0 0 dX7_hashOf_1 rfl rfl ?_
  refine X_get C (hFu _ (by decide)) (wc_53 _ _) rfl inX7 0 (by decide) q_554 rfl dX7_hashOf_2 ?_
  refine X_iconst C (3 : Int32) dX7_hashOf_5 (by decide) ?_
  obtain ⟨hin, h⟩ := h
  refine X_iald C (hFu _ (by decide)) (wc_54 _ _) hin dX7_hashOf_6 ?_
  refine X_imul C dX7_hashOf_7 ?_
  refine X_sipush C (7919 : Int32) dX7_hashOf_8 (by decide) ?_
  refine X_iadd C dX7_hashOf_11 ?_
  refine X_ldc C (65536 : Int32) q_694 dX7_hashOf_12 ?_
  refine X_irem C dX7_hashOf_14 (by decide) ?_
  exact X_iret C E rfl h dX7_hashOf_15
set_option maxRecDepth 100000 in
set_option maxHeartbeats 4000000 in
theorem M_X7_partOf {l : Launch} {G : XG} (hJ : XJ G) (hFu : XF G) {S : Mem} {a1 : Int32} {a2 : Int32} {a3 : Int32} {K : Int32 → Mem → Prop} (h : P_X7_partOf S a1 a2 a3 K) : XMi l G yX7_partOf cX7_partOf 4 .int 1 21 [.ref (xad G 53), .int a1, .int a2, .int a3] S K := by
  refine X_meth RX7 rfl (by decide +kernel) hJ (Nat.le_of_ble_eq_true rfl) (fun κ hl hG C E => ?_)
  subst hl hG
  show XW κ S 0 [(0, .ref (xad (kG κ) 53)), (1, .int a1), (2, .int a2), (3, .int a3)] []
  refine X_aload_n C 0 0 dX7_partOf_0 rfl rfl ?_
  refine X_iload_n C 1 1 dX7_partOf_1 rfl rfl ?_
  refine X_callVi C eX7_hashOf [.int a1] [] (M_X7_hashOf C.g_J hFu h) (hFu _ (by decide)) (wc_53 _ _) rfl q_690 rfl ⟨(Nat.le_of_ble_eq_true rfl), (Nat.le_of_ble_eq_true rfl)⟩ rfl (Nat.le_of_ble_eq_true rfl) dX7_partOf_2 (fun r2 S1 h => ?_)
  refine X_bipush C (16 : Int32) dX7_partOf_5 (by decide) ?_
  refine X_iload_n C 2 2 dX7_partOf_7 rfl rfl ?_
  refine X_iconst C (1 : Int32) dX7_partOf_8 (by decide) ?_
  refine X_iadd C dX7_partOf_9 ?_
  refine X_iload_n C 3 3 dX7_partOf_10 rfl rfl ?_
  refine X_imul C dX7_partOf_11 ?_
  refine X_isub C dX7_partOf_12 ?_
  refine X_ishr C dX7_partOf_13 ?_
  refine X_iconst C (1 : Int32) dX7_partOf_14 (by decide) ?_
  refine X_iload_n C 3 3 dX7_partOf_15 rfl rfl ?_
  refine X_ishl C dX7_partOf_16 ?_
  refine X_iconst C (1 : Int32) dX7_partOf_17 (by decide) ?_
  refine X_isub C dX7_partOf_18 ?_
  refine X_iand C dX7_partOf_19 ?_
  exact X_iret C E rfl h dX7_partOf_20
set_option maxRecDepth 100000 in
set_option maxHeartbeats 4000000 in
theorem M_X7_rowOf {l : Launch} {G : XG} (hJ : XJ G) (hFu : XF G) {S : Mem} {a1 : Int32} {a2 : Int32} {K : Int32 → Mem → Prop} (h : P_X7_rowOf S a1 a2 K) : XMi l G yX7_rowOf cX7_rowOf 4 .int 2 44 [.ref (xad G 53), .int a1, .int a2] S K := by
  refine X_meth RX7 rfl (by decide +kernel) hJ (Nat.le_of_ble_eq_true rfl) (fun κ hl hG C E => ?_)
  subst hl hG
  show XW κ S 0 [(0, .ref (xad (kG κ) 53)), (1, .int a1), (2, .int a2)] []
  refine X_iload_n C 1 1 dX7_rowOf_0 rfl rfl ?_
  refine X_if_lt C 16 dX7_rowOf_1 (by decide) (fun c => ?_) (fun c => ?_)
  · have h := h.1 c
    refine X_ldc C (-1000001 : Int32) q_658 dX7_rowOf_16 ?_
    exact X_iret C E rfl h dX7_rowOf_18
  · have h := h.2 c
    refine X_iload_n C 2 2 dX7_rowOf_4 rfl rfl ?_
    refine X_i2l C dX7_rowOf_5 ?_
    refine X_lconst C (0 : Int64) dX7_rowOf_6 (by decide) ?_
    refine X_ldc2 C (3 : Int64) q_688 dX7_rowOf_7 ?_
    refine X_callSi C eX7_in [.long (Int32.toInt64 a2), .long (0 : Int64), .long (3 : Int64)] [] (M_X7_in C.g_J hFu h) q_653 rfl ⟨(Nat.le_of_ble_eq_true rfl), (Nat.le_of_ble_eq_true rfl)⟩ rfl (Nat.le_of_ble_eq_true rfl) dX7_rowOf_10 (fun r2 S1 h => ?_)
    refine X_if_ne C 19 dX7_rowOf_13 (by decide) (fun c => ?_) (fun c => ?_)
    · have h := h.1 c
      refine X_iload_n C 1 1 dX7_rowOf_19 rfl rfl ?_
      refine X_aload_n C 0 0 dX7_rowOf_20 rfl rfl ?_
      refine X_get C (hFu _ (by decide)) (wc_53 _ _) rfl inX7 0 (by decide) q_554 rfl dX7_rowOf_21 ?_
      refine X_iconst C (0 : Int32) dX7_rowOf_24 (by decide) ?_
      obtain ⟨hin, h⟩ := h
      refine X_iald C (hFu _ (by decide)) (wc_54 _ _) hin dX7_rowOf_25 ?_
      refine X_icmp_lt C 32 dX7_rowOf_26 (by decide) (fun c => ?_) (fun c => ?_)
      · have h := h.1 c
        refine X_aload_n C 0 0 dX7_rowOf_32 rfl rfl ?_
        refine X_get C (hFu _ (by decide)) (wc_53 _ _) rfl inX7 0 (by decide) q_554 rfl dX7_rowOf_33 ?_
        refine X_iconst C (4 : Int32) dX7_rowOf_36 (by decide) ?_
        refine X_iload_n C 1 1 dX7_rowOf_37 rfl rfl ?_
        refine X_iadd C dX7_rowOf_38 ?_
        obtain ⟨hin, h⟩ := h
        refine X_iald C (hFu _ (by decide)) (wc_54 _ _) hin dX7_rowOf_39 ?_
        refine X_istore_n C 3 [(3, .int (S1 54 (Int32.toNatClampNeg ((4 : Int32) + a1)))), (0, .ref (xad (kG κ) 53)), (1, .int a1), (2, .int a2)] dX7_rowOf_40 rfl (by decide) rfl ?_
        refine X_iload_n C 2 3 dX7_rowOf_41 rfl rfl ?_
        refine X_if_ne C 49 dX7_rowOf_42 (by decide) (fun c => ?_) (fun c => ?_)
        · have h := h.1 c
          refine X_iload_n C 2 3 dX7_rowOf_49 rfl rfl ?_
          refine X_iconst C (1 : Int32) dX7_rowOf_50 (by decide) ?_
          refine X_icmp_ne C 66 dX7_rowOf_51 (by decide) (fun c => ?_) (fun c => ?_)
          · have h := h.1 c
            refine X_iload_n C 2 3 dX7_rowOf_66 rfl rfl ?_
            refine X_iconst C (2 : Int32) dX7_rowOf_67 (by decide) ?_
            refine X_icmp_ne C 79 dX7_rowOf_68 (by decide) (fun c => ?_) (fun c => ?_)
            · have h := h.1 c
              refine X_aload_n C 0 1 dX7_rowOf_79 rfl rfl ?_
              refine X_iload_n C 3 0 dX7_rowOf_80 rfl rfl ?_
              refine X_iconst C (0 : Int32) dX7_rowOf_81 (by decide) ?_
              refine X_aload_n C 0 1 dX7_rowOf_82 rfl rfl ?_
              refine X_get C (hFu _ (by decide)) (wc_53 _ _) rfl inX7 0 (by decide) q_554 rfl dX7_rowOf_83 ?_
              refine X_iconst C (2 : Int32) dX7_rowOf_86 (by decide) ?_
              obtain ⟨hin, h⟩ := h
              refine X_iald C (hFu _ (by decide)) (wc_54 _ _) hin dX7_rowOf_87 ?_
              refine X_callVi C eX7_partOf [.int (S1 54 (Int32.toNatClampNeg ((4 : Int32) + a1))), .int (0 : Int32), .int (S1 54 (Int32.toNatClampNeg (2 : Int32)))] [] (M_X7_partOf C.g_J hFu h) (hFu _ (by decide)) (wc_53 _ _) rfl q_695 rfl ⟨(Nat.le_of_ble_eq_true rfl), (Nat.le_of_ble_eq_true rfl)⟩ rfl (Nat.le_of_ble_eq_true rfl) dX7_rowOf_88 (fun r4 S3 h => ?_)
              exact X_iret C E rfl h dX7_rowOf_91
            · have h := h.2 c
              refine X_aload_n C 0 1 dX7_rowOf_71 rfl rfl ?_
              refine X_iload_n C 3 0 dX7_rowOf_72 rfl rfl ?_
              refine X_callVi C eX7_hashOf [.int (S1 54 (Int32.toNatClampNeg ((4 : Int32) + a1)))] [] (M_X7_hashOf C.g_J hFu h) (hFu _ (by decide)) (wc_53 _ _) rfl q_690 rfl ⟨(Nat.le_of_ble_eq_true rfl), (Nat.le_of_ble_eq_true rfl)⟩ rfl (Nat.le_of_ble_eq_true rfl) dX7_rowOf_73 (fun r6 S5 h => ?_)
              refine X_goto C 91 dX7_rowOf_76 (by decide) ?_
              exact X_iret C E rfl h dX7_rowOf_91
          · have h := h.2 c
            refine X_aload_n C 0 1 dX7_rowOf_54 rfl rfl ?_
            refine X_get C (hFu _ (by decide)) (wc_53 _ _) rfl inX7 0 (by decide) q_554 rfl dX7_rowOf_55 ?_
            refine X_bipush C (104 : Int32) dX7_rowOf_58 (by decide) ?_
            refine X_iload_n C 1 2 dX7_rowOf_60 rfl rfl ?_
            refine X_iadd C dX7_rowOf_61 ?_
            obtain ⟨hin, h⟩ := h
            refine X_iald C (hFu _ (by decide)) (wc_54 _ _) hin dX7_rowOf_62 ?_
            refine X_goto C 91 dX7_rowOf_63 (by decide) ?_
            exact X_iret C E rfl h dX7_rowOf_91
        · have h := h.2 c
          refine X_iload_n C 3 0 dX7_rowOf_45 rfl rfl ?_
          refine X_goto C 91 dX7_rowOf_46 (by decide) ?_
          exact X_iret C E rfl h dX7_rowOf_91
      · have h := h.2 c
        refine X_ldc C (-1000004 : Int32) q_689 dX7_rowOf_29 ?_
        exact X_iret C E rfl h dX7_rowOf_31
    · have h := h.2 c
      refine X_ldc C (-1000001 : Int32) q_658 dX7_rowOf_16 ?_
      exact X_iret C E rfl h dX7_rowOf_18
set_option maxRecDepth 100000 in
set_option maxHeartbeats 4000000 in
theorem M_X7_makes {l : Launch} {G : XG} (hJ : XJ G) (hFu : XF G) {S : Mem} {a1 : Int32} {a2 : Int32} {a3 : Int32} {a4 : Int32} {a5 : Int32} {K : Int32 → Mem → Prop} (h : P_X7_makes S a1 a2 a3 a4 a5 K) : XMi l G yX7_makes cX7_makes 7 .int 0 0 [.ref (xad G 53), .int a1, .int a2, .int a3, .int a4, .int a5] S K := by
  refine X_meth RX7 rfl (by decide +kernel) hJ (Nat.le_of_ble_eq_true rfl) (fun κ hl hG C E => ?_)
  subst hl hG
  show XW κ S 0 [(0, .ref (xad (kG κ) 53)), (1, .int a1), (2, .int a2), (3, .int a3), (4, .int a4), (5, .int a5)] []
  refine X_bipush C (6 : Int32) dX7_makes_0 (by decide) ?_
  refine X_aload_n C 0 0 dX7_makes_2 rfl rfl ?_
  refine X_get C (hFu _ (by decide)) (wc_53 _ _) rfl inX7 4 (by decide) q_558 rfl dX7_makes_3 ?_
  refine X_imul C dX7_makes_6 ?_
  refine X_istore C [(6, .int ((6 : Int32) * (S 53 4))), (0, .ref (xad (kG κ) 53)), (1, .int a1), (2, .int a2), (3, .int a3), (4, .int a4), (5, .int a5)] dX7_makes_7 (by decide) rfl ?_
  refine X_aload_n C 0 1 dX7_makes_9 rfl rfl ?_
  refine X_get C (hFu _ (by decide)) (wc_53 _ _) rfl inX7 3 (by decide) q_557 rfl dX7_makes_10 ?_
  refine X_iload C 0 dX7_makes_13 rfl ?_
  refine X_iload_n C 1 2 dX7_makes_15 rfl rfl ?_
  obtain ⟨hin, h⟩ := h
  obtain ⟨S1, eS1⟩ : ∃ z, z = mput S 56 (Int32.toNatClampNeg ((6 : Int32) * (S 53 4))) a1 := ⟨_, rfl⟩
  have h := h S1 eS1
  refine X_iast C (hFu _ (by decide)) (wc_56 _ _) hin eS1 (wc_56 _ _) dX7_makes_16 ?_
  refine X_aload_n C 0 1 dX7_makes_17 rfl rfl ?_
  refine X_get C (hFu _ (by decide)) (wc_53 _ _) rfl inX7 3 (by decide) q_557 rfl dX7_makes_18 ?_
  refine X_iload C 0 dX7_makes_21 rfl ?_
  refine X_iconst C (1 : Int32) dX7_makes_23 (by decide) ?_
  refine X_iadd C dX7_makes_24 ?_
  refine X_iload_n C 2 3 dX7_makes_25 rfl rfl ?_
  obtain ⟨hin, h⟩ := h
  obtain ⟨S2, eS2⟩ : ∃ z, z = mput S1 56 (Int32.toNatClampNeg (((6 : Int32) * (S 53 4)) + (1 : Int32))) a2 := ⟨_, rfl⟩
  have h := h S2 eS2
  refine X_iast C (hFu _ (by decide)) (wc_56 _ _) hin eS2 (wc_56 _ _) dX7_makes_26 ?_
  refine X_aload_n C 0 1 dX7_makes_27 rfl rfl ?_
  refine X_get C (hFu _ (by decide)) (wc_53 _ _) rfl inX7 3 (by decide) q_557 rfl dX7_makes_28 ?_
  refine X_iload C 0 dX7_makes_31 rfl ?_
  refine X_iconst C (2 : Int32) dX7_makes_33 (by decide) ?_
  refine X_iadd C dX7_makes_34 ?_
  refine X_iload_n C 3 4 dX7_makes_35 rfl rfl ?_
  obtain ⟨hin, h⟩ := h
  obtain ⟨S3, eS3⟩ : ∃ z, z = mput S2 56 (Int32.toNatClampNeg (((6 : Int32) * (S 53 4)) + (2 : Int32))) a3 := ⟨_, rfl⟩
  have h := h S3 eS3
  refine X_iast C (hFu _ (by decide)) (wc_56 _ _) hin eS3 (wc_56 _ _) dX7_makes_36 ?_
  refine X_aload_n C 0 1 dX7_makes_37 rfl rfl ?_
  refine X_get C (hFu _ (by decide)) (wc_53 _ _) rfl inX7 3 (by decide) q_557 rfl dX7_makes_38 ?_
  refine X_iload C 0 dX7_makes_41 rfl ?_
  refine X_iconst C (3 : Int32) dX7_makes_43 (by decide) ?_
  refine X_iadd C dX7_makes_44 ?_
  refine X_iload C 5 dX7_makes_45 rfl ?_
  obtain ⟨hin, h⟩ := h
  obtain ⟨S4, eS4⟩ : ∃ z, z = mput S3 56 (Int32.toNatClampNeg (((6 : Int32) * (S 53 4)) + (3 : Int32))) a4 := ⟨_, rfl⟩
  have h := h S4 eS4
  refine X_iast C (hFu _ (by decide)) (wc_56 _ _) hin eS4 (wc_56 _ _) dX7_makes_47 ?_
  refine X_aload_n C 0 1 dX7_makes_48 rfl rfl ?_
  refine X_get C (hFu _ (by decide)) (wc_53 _ _) rfl inX7 3 (by decide) q_557 rfl dX7_makes_49 ?_
  refine X_iload C 0 dX7_makes_52 rfl ?_
  refine X_iconst C (4 : Int32) dX7_makes_54 (by decide) ?_
  refine X_iadd C dX7_makes_55 ?_
  refine X_iload C 6 dX7_makes_56 rfl ?_
  obtain ⟨hin, h⟩ := h
  obtain ⟨S5, eS5⟩ : ∃ z, z = mput S4 56 (Int32.toNatClampNeg (((6 : Int32) * (S 53 4)) + (4 : Int32))) a5 := ⟨_, rfl⟩
  have h := h S5 eS5
  refine X_iast C (hFu _ (by decide)) (wc_56 _ _) hin eS5 (wc_56 _ _) dX7_makes_58 ?_
  refine X_aload_n C 0 1 dX7_makes_59 rfl rfl ?_
  refine X_get C (hFu _ (by decide)) (wc_53 _ _) rfl inX7 3 (by decide) q_557 rfl dX7_makes_60 ?_
  refine X_iload C 0 dX7_makes_63 rfl ?_
  refine X_iconst C (5 : Int32) dX7_makes_65 (by decide) ?_
  refine X_iadd C dX7_makes_66 ?_
  refine X_iconst C (-1 : Int32) dX7_makes_67 (by decide) ?_
  obtain ⟨hin, h⟩ := h
  obtain ⟨S6, eS6⟩ : ∃ z, z = mput S5 56 (Int32.toNatClampNeg (((6 : Int32) * (S 53 4)) + (5 : Int32))) (-1 : Int32) := ⟨_, rfl⟩
  have h := h S6 eS6
  refine X_iast C (hFu _ (by decide)) (wc_56 _ _) hin eS6 (wc_56 _ _) dX7_makes_68 ?_
  refine X_aload_n C 0 1 dX7_makes_69 rfl rfl ?_
  refine X_dup C dX7_makes_70 rfl ?_
  refine X_get C (hFu _ (by decide)) (wc_53 _ _) rfl inX7 4 (by decide) q_558 rfl dX7_makes_71 ?_
  refine X_iconst C (1 : Int32) dX7_makes_74 (by decide) ?_
  refine X_iadd C dX7_makes_75 ?_
  obtain ⟨S7, eS7⟩ : ∃ z, z = mput S6 53 4 ((S6 53 4) + (1 : Int32)) := ⟨_, rfl⟩
  have h := h S7 eS7
  refine X_put C (hFu _ (by decide)) (wc_53 _ _) rfl inX7 tyX7_ok nmX7 4 (by decide) q_558 rfl rfl rfl (Nat.le_of_ble_eq_true rfl) eS7 (wc_53 _ _) dX7_makes_76 ?_
  refine X_aload_n C 0 1 dX7_makes_79 rfl rfl ?_
  refine X_get C (hFu _ (by decide)) (wc_53 _ _) rfl inX7 4 (by decide) q_558 rfl dX7_makes_80 ?_
  refine X_iconst C (1 : Int32) dX7_makes_83 (by decide) ?_
  refine X_isub C dX7_makes_84 ?_
  exact X_iret C E rfl h dX7_makes_85
set_option maxRecDepth 100000 in
set_option maxHeartbeats 4000000 in
theorem M_X7_of {l : Launch} {G : XG} (hJ : XJ G) (hFu : XF G) {S : Mem} {a1 : Int32} {a2 : Int32} {K : Int32 → Mem → Prop} (h : P_X7_of S a1 a2 K) : XMi l G yX7_of cX7_of 3 .int 0 0 [.ref (xad G 53), .int a1, .int a2] S K := by
  refine X_meth RX7 rfl (by decide +kernel) hJ (Nat.le_of_ble_eq_true rfl) (fun κ hl hG C E => ?_)
  subst hl hG
  show XW κ S 0 [(0, .ref (xad (kG κ) 53)), (1, .int a1), (2, .int a2)] []
  refine X_aload_n C 0 0 dX7_of_0 rfl rfl ?_
  refine X_get C (hFu _ (by decide)) (wc_53 _ _) rfl inX7 3 (by decide) q_557 rfl dX7_of_1 ?_
  refine X_bipush C (6 : Int32) dX7_of_4 (by decide) ?_
  refine X_iload_n C 1 1 dX7_of_6 rfl rfl ?_
  refine X_imul C dX7_of_7 ?_
  refine X_iload_n C 2 2 dX7_of_8 rfl rfl ?_
  refine X_iadd C dX7_of_9 ?_
  obtain ⟨hin, h⟩ := h
  refine X_iald C (hFu _ (by decide)) (wc_56 _ _) hin dX7_of_10 ?_
  exact X_iret C E rfl h dX7_of_11
set_option maxRecDepth 100000 in
set_option maxHeartbeats 4000000 in
theorem K_X7_inMemory_28 {κ : Kx} (C : XC κ RX7 cX7_inMemory 3 0 0) {K : Int32 → Mem → Prop} (E : XRet κ (some .int) (va_Qi K (XB (kG κ)) (XA (kG κ)))) (hFu : XF (kG κ)) {S : Mem} {x2 : Int32} (h : B_X7_inMemory_28 K S x2) : XW κ S 28 [(0, .ref (xad (kG κ) 53)), (2, .int x2)] [] := by
  refine X_iload_n C 2 1 dX7_inMemory_28 rfl rfl ?_
  refine X_aload_n C 0 0 dX7_inMemory_29 rfl rfl ?_
  refine X_get C (hFu _ (by decide)) (wc_53 _ _) rfl inX7 6 (by decide) q_560 rfl dX7_inMemory_30 ?_
  refine X_icmp_ge C 40 dX7_inMemory_33 (by decide) (fun c => ?_) (fun c => ?_)
  · have h := h.1 c
    refine X_iconst C (-1 : Int32) dX7_inMemory_40 (by decide) ?_
    exact X_iret C E rfl h dX7_inMemory_41
  · have h := h.2 c
    refine X_iload_n C 2 1 dX7_inMemory_36 rfl rfl ?_
    refine X_goto C 41 dX7_inMemory_37 (by decide) ?_
    exact X_iret C E rfl h dX7_inMemory_41
set_option maxRecDepth 100000 in
set_option maxHeartbeats 4000000 in
theorem K_X7_inMemory_2 {κ : Kx} (C : XC κ RX7 cX7_inMemory 3 0 0) {K : Int32 → Mem → Prop} (E : XRet κ (some .int) (va_Qi K (XB (kG κ)) (XA (kG κ)))) (hFu : XF (kG κ)) : ∀ (n : Nat) (S : Mem) (x1 : Int32) (x2 : Int32), B_X7_inMemory_2 K n S x1 x2 → XW κ S 2 [(0, .ref (xad (kG κ) 53)), (1, .int x1), (2, .int x2)] [] := by
  intro n
  induction n with
  | zero => intro S x1 x2 h; exact h.elim
  | succ n ih =>
    intro S x1 x2 h
    refine X_iload_n C 2 2 dX7_inMemory_2 rfl rfl ?_
    refine X_aload_n C 0 0 dX7_inMemory_3 rfl rfl ?_
    refine X_get C (hFu _ (by decide)) (wc_53 _ _) rfl inX7 6 (by decide) q_560 rfl dX7_inMemory_4 ?_
    refine X_icmp_ge C 28 dX7_inMemory_7 (by decide) (fun c => ?_) (fun c => ?_)
    · have h := h.1 c
      refine X_sub [0, 2] rfl ?_
      exact K_X7_inMemory_28 C E hFu h
    · have h := h.2 c
      refine X_aload_n C 0 0 dX7_inMemory_10 rfl rfl ?_
      refine X_get C (hFu _ (by decide)) (wc_53 _ _) rfl inX7 5 (by decide) q_559 rfl dX7_inMemory_11 ?_
      refine X_iconst C (5 : Int32) dX7_inMemory_14 (by decide) ?_
      refine X_iload_n C 2 2 dX7_inMemory_15 rfl rfl ?_
      refine X_imul C dX7_inMemory_16 ?_
      obtain ⟨hin, h⟩ := h
      refine X_iald C (hFu _ (by decide)) (wc_57 _ _) hin dX7_inMemory_17 ?_
      refine X_iload_n C 1 1 dX7_inMemory_18 rfl rfl ?_
      refine X_icmp_eq C 28 dX7_inMemory_19 (by decide) (fun c => ?_) (fun c => ?_)
      · have h := h.1 c
        refine X_sub [0, 2] rfl ?_
        exact K_X7_inMemory_28 C E hFu h
      · have h := h.2 c
        refine X_iinc C (x2 + (1 : Int32)) 2 [(2, .int (x2 + (1 : Int32))), (0, .ref (xad (kG κ) 53)), (1, .int x1)] dX7_inMemory_22 rfl rfl (by decide) rfl ?_
        refine X_goto C 2 dX7_inMemory_25 (by decide) ?_
        refine X_sub [1, 2, 0] rfl ?_
        exact ih _ _ _ h
set_option maxRecDepth 100000 in
set_option maxHeartbeats 4000000 in
theorem M_X7_inMemory {l : Launch} {G : XG} (hJ : XJ G) (hFu : XF G) {S : Mem} {a1 : Int32} {K : Int32 → Mem → Prop} (h : P_X7_inMemory S a1 K) : XMi l G yX7_inMemory cX7_inMemory 3 .int 0 0 [.ref (xad G 53), .int a1] S K := by
  refine X_meth RX7 rfl (by decide +kernel) hJ (Nat.le_of_ble_eq_true rfl) (fun κ hl hG C E => ?_)
  subst hl hG
  show XW κ S 0 [(0, .ref (xad (kG κ) 53)), (1, .int a1)] []
  refine X_iconst C (0 : Int32) dX7_inMemory_0 (by decide) ?_
  refine X_istore_n C 2 [(2, .int (0 : Int32)), (0, .ref (xad (kG κ) 53)), (1, .int a1)] dX7_inMemory_1 rfl (by decide) rfl ?_
  refine X_sub [1, 2, 0] rfl ?_
  obtain ⟨n1, h⟩ := h
  exact K_X7_inMemory_2 C E hFu n1 _ _ _ h
set_option maxRecDepth 100000 in
set_option maxHeartbeats 4000000 in
theorem K_X7_addsTo_133 {κ : Kx} (C : XC κ RX7 cX7_addsTo 3 1 22) {K : Mem → Prop} (E : XRet κ none (va_Qv K (XB (kG κ)) (XA (kG κ)))) (hFu : XF (kG κ)) {S : Mem} {y0 : Int32} {y1 : Int32} (h : B_X7_addsTo_133 K S y0 y1) : XW κ S 133 [] [.int y0, .int y1, .ref (xad (kG κ) 57)] := by
  obtain ⟨hin, h⟩ := h
  obtain ⟨S12, eS12⟩ : ∃ z, z = mput S 57 (Int32.toNatClampNeg y1) y0 := ⟨_, rfl⟩
  have h := h S12 eS12
  refine X_iast C (hFu _ (by decide)) (wc_57 _ _) hin eS12 (wc_57 _ _) dX7_addsTo_133 ?_
  exact X_vret C E h dX7_addsTo_134
set_option maxRecDepth 100000 in
set_option maxHeartbeats 4000000 in
theorem K_X7_addsTo_85 {κ : Kx} (C : XC κ RX7 cX7_addsTo 3 1 22) {K : Mem → Prop} (E : XRet κ none (va_Qv K (XB (kG κ)) (XA (kG κ)))) (hFu : XF (kG κ)) {S : Mem} {x1 : Int32} {x2 : Int32} {y0 : Int32} {y1 : Int32} (h : B_X7_addsTo_85 K S x1 x2 y0 y1) : XW κ S 85 [(0, .ref (xad (kG κ) 53)), (1, .int x1), (2, .int x2)] [.int y0, .int y1, .ref (xad (kG κ) 57)] := by
  obtain ⟨hin, h⟩ := h
  obtain ⟨S9, eS9⟩ : ∃ z, z = mput S 57 (Int32.toNatClampNeg y1) y0 := ⟨_, rfl⟩
  have h := h S9 eS9
  refine X_iast C (hFu _ (by decide)) (wc_57 _ _) hin eS9 (wc_57 _ _) dX7_addsTo_85 ?_
  refine X_aload_n C 0 0 dX7_addsTo_86 rfl rfl ?_
  refine X_get C (hFu _ (by decide)) (wc_53 _ _) rfl inX7 5 (by decide) q_559 rfl dX7_addsTo_87 ?_
  refine X_iconst C (5 : Int32) dX7_addsTo_90 (by decide) ?_
  refine X_iload_n C 1 1 dX7_addsTo_91 rfl rfl ?_
  refine X_imul C dX7_addsTo_92 ?_
  refine X_iconst C (4 : Int32) dX7_addsTo_93 (by decide) ?_
  refine X_iadd C dX7_addsTo_94 ?_
  refine X_aload_n C 0 0 dX7_addsTo_95 rfl rfl ?_
  refine X_iload_n C 2 2 dX7_addsTo_96 rfl rfl ?_
  refine X_iconst C (4 : Int32) dX7_addsTo_97 (by decide) ?_
  refine X_callVi C eX7_of [.int x2, .int (4 : Int32)] [.int (((5 : Int32) * x1) + (4 : Int32)), .ref (xad (kG κ) 57)] (M_X7_of C.g_J hFu h) (hFu _ (by decide)) (wc_53 _ _) rfl q_720 rfl ⟨(Nat.le_of_ble_eq_true rfl), (Nat.le_of_ble_eq_true rfl)⟩ rfl (Nat.le_of_ble_eq_true rfl) dX7_addsTo_98 (fun r11 S10 h => ?_)
  refine X_aload_n C 0 0 dX7_addsTo_101 rfl rfl ?_
  refine X_get C (hFu _ (by decide)) (wc_53 _ _) rfl inX7 5 (by decide) q_559 rfl dX7_addsTo_102 ?_
  refine X_iconst C (5 : Int32) dX7_addsTo_105 (by decide) ?_
  refine X_iload_n C 1 1 dX7_addsTo_106 rfl rfl ?_
  refine X_imul C dX7_addsTo_107 ?_
  refine X_iconst C (4 : Int32) dX7_addsTo_108 (by decide) ?_
  refine X_iadd C dX7_addsTo_109 ?_
  obtain ⟨hin, h⟩ := h
  refine X_iald C (hFu _ (by decide)) (wc_57 _ _) hin dX7_addsTo_110 ?_
  refine X_icmp_le C 123 dX7_addsTo_111 (by decide) (fun c => ?_) (fun c => ?_)
  · have h := h.1 c
    refine X_aload_n C 0 0 dX7_addsTo_123 rfl rfl ?_
    refine X_get C (hFu _ (by decide)) (wc_53 _ _) rfl inX7 5 (by decide) q_559 rfl dX7_addsTo_124 ?_
    refine X_iconst C (5 : Int32) dX7_addsTo_127 (by decide) ?_
    refine X_iload_n C 1 1 dX7_addsTo_128 rfl rfl ?_
    refine X_imul C dX7_addsTo_129 ?_
    refine X_iconst C (4 : Int32) dX7_addsTo_130 (by decide) ?_
    refine X_iadd C dX7_addsTo_131 ?_
    obtain ⟨hin, h⟩ := h
    refine X_iald C (hFu _ (by decide)) (wc_57 _ _) hin dX7_addsTo_132 ?_
    refine X_sub [] rfl ?_
    exact K_X7_addsTo_133 C E hFu h
  · have h := h.2 c
    refine X_aload_n C 0 0 dX7_addsTo_114 rfl rfl ?_
    refine X_iload_n C 2 2 dX7_addsTo_115 rfl rfl ?_
    refine X_iconst C (4 : Int32) dX7_addsTo_116 (by decide) ?_
    refine X_callVi C eX7_of [.int x2, .int (4 : Int32)] [.int (((5 : Int32) * x1) + (4 : Int32)), .ref (xad (kG κ) 57)] (M_X7_of C.g_J hFu h) (hFu _ (by decide)) (wc_53 _ _) rfl q_720 rfl ⟨(Nat.le_of_ble_eq_true rfl), (Nat.le_of_ble_eq_true rfl)⟩ rfl (Nat.le_of_ble_eq_true rfl) dX7_addsTo_117 (fun r14 S13 h => ?_)
    refine X_goto C 133 dX7_addsTo_120 (by decide) ?_
    refine X_sub [] rfl ?_
    exact K_X7_addsTo_133 C E hFu h
set_option maxRecDepth 100000 in
set_option maxHeartbeats 4000000 in
theorem M_X7_addsTo {l : Launch} {G : XG} (hJ : XJ G) (hFu : XF G) {S : Mem} {a1 : Int32} {a2 : Int32} {K : Mem → Prop} (h : P_X7_addsTo S a1 a2 K) : XMv l G yX7_addsTo cX7_addsTo 3 1 22 [.ref (xad G 53), .int a1, .int a2] S K := by
  refine X_meth RX7 rfl (by decide +kernel) hJ (Nat.le_of_ble_eq_true rfl) (fun κ hl hG C E => ?_)
  subst hl hG
  show XW κ S 0 [(0, .ref (xad (kG κ) 53)), (1, .int a1), (2, .int a2)] []
  refine X_aload_n C 0 0 dX7_addsTo_0 rfl rfl ?_
  refine X_get C (hFu _ (by decide)) (wc_53 _ _) rfl inX7 5 (by decide) q_559 rfl dX7_addsTo_1 ?_
  refine X_iconst C (5 : Int32) dX7_addsTo_4 (by decide) ?_
  refine X_iload_n C 1 1 dX7_addsTo_5 rfl rfl ?_
  refine X_imul C dX7_addsTo_6 ?_
  refine X_iconst C (1 : Int32) dX7_addsTo_7 (by decide) ?_
  refine X_iadd C dX7_addsTo_8 ?_
  refine X_dup2 C dX7_addsTo_9 rfl rfl ?_
  obtain ⟨hin, h⟩ := h
  refine X_iald C (hFu _ (by decide)) (wc_57 _ _) hin dX7_addsTo_10 ?_
  refine X_aload_n C 0 0 dX7_addsTo_11 rfl rfl ?_
  refine X_iload_n C 2 2 dX7_addsTo_12 rfl rfl ?_
  refine X_iconst C (1 : Int32) dX7_addsTo_13 (by decide) ?_
  refine X_callVi C eX7_of [.int a2, .int (1 : Int32)] [.int (S 57 (Int32.toNatClampNeg (((5 : Int32) * a1) + (1 : Int32)))), .int (((5 : Int32) * a1) + (1 : Int32)), .ref (xad (kG κ) 57)] (M_X7_of C.g_J hFu h) (hFu _ (by decide)) (wc_53 _ _) rfl q_720 rfl ⟨(Nat.le_of_ble_eq_true rfl), (Nat.le_of_ble_eq_true rfl)⟩ rfl (Nat.le_of_ble_eq_true rfl) dX7_addsTo_14 (fun r2 S1 h => ?_)
  refine X_iadd C dX7_addsTo_17 ?_
  obtain ⟨hin, h⟩ := h
  obtain ⟨S3, eS3⟩ : ∃ z, z = mput S1 57 (Int32.toNatClampNeg (((5 : Int32) * a1) + (1 : Int32))) ((S 57 (Int32.toNatClampNeg (((5 : Int32) * a1) + (1 : Int32)))) + r2) := ⟨_, rfl⟩
  have h := h S3 eS3
  refine X_iast C (hFu _ (by decide)) (wc_57 _ _) hin eS3 (wc_57 _ _) dX7_addsTo_18 ?_
  refine X_aload_n C 0 0 dX7_addsTo_19 rfl rfl ?_
  refine X_get C (hFu _ (by decide)) (wc_53 _ _) rfl inX7 5 (by decide) q_559 rfl dX7_addsTo_20 ?_
  refine X_iconst C (5 : Int32) dX7_addsTo_23 (by decide) ?_
  refine X_iload_n C 1 1 dX7_addsTo_24 rfl rfl ?_
  refine X_imul C dX7_addsTo_25 ?_
  refine X_iconst C (2 : Int32) dX7_addsTo_26 (by decide) ?_
  refine X_iadd C dX7_addsTo_27 ?_
  refine X_dup2 C dX7_addsTo_28 rfl rfl ?_
  obtain ⟨hin, h⟩ := h
  refine X_iald C (hFu _ (by decide)) (wc_57 _ _) hin dX7_addsTo_29 ?_
  refine X_aload_n C 0 0 dX7_addsTo_30 rfl rfl ?_
  refine X_iload_n C 2 2 dX7_addsTo_31 rfl rfl ?_
  refine X_iconst C (2 : Int32) dX7_addsTo_32 (by decide) ?_
  refine X_callVi C eX7_of [.int a2, .int (2 : Int32)] [.int (S3 57 (Int32.toNatClampNeg (((5 : Int32) * a1) + (2 : Int32)))), .int (((5 : Int32) * a1) + (2 : Int32)), .ref (xad (kG κ) 57)] (M_X7_of C.g_J hFu h) (hFu _ (by decide)) (wc_53 _ _) rfl q_720 rfl ⟨(Nat.le_of_ble_eq_true rfl), (Nat.le_of_ble_eq_true rfl)⟩ rfl (Nat.le_of_ble_eq_true rfl) dX7_addsTo_33 (fun r5 S4 h => ?_)
  refine X_iadd C dX7_addsTo_36 ?_
  obtain ⟨hin, h⟩ := h
  obtain ⟨S6, eS6⟩ : ∃ z, z = mput S4 57 (Int32.toNatClampNeg (((5 : Int32) * a1) + (2 : Int32))) ((S3 57 (Int32.toNatClampNeg (((5 : Int32) * a1) + (2 : Int32)))) + r5) := ⟨_, rfl⟩
  have h := h S6 eS6
  refine X_iast C (hFu _ (by decide)) (wc_57 _ _) hin eS6 (wc_57 _ _) dX7_addsTo_37 ?_
  refine X_aload_n C 0 0 dX7_addsTo_38 rfl rfl ?_
  refine X_get C (hFu _ (by decide)) (wc_53 _ _) rfl inX7 5 (by decide) q_559 rfl dX7_addsTo_39 ?_
  refine X_iconst C (5 : Int32) dX7_addsTo_42 (by decide) ?_
  refine X_iload_n C 1 1 dX7_addsTo_43 rfl rfl ?_
  refine X_imul C dX7_addsTo_44 ?_
  refine X_iconst C (3 : Int32) dX7_addsTo_45 (by decide) ?_
  refine X_iadd C dX7_addsTo_46 ?_
  refine X_aload_n C 0 0 dX7_addsTo_47 rfl rfl ?_
  refine X_iload_n C 2 2 dX7_addsTo_48 rfl rfl ?_
  refine X_iconst C (3 : Int32) dX7_addsTo_49 (by decide) ?_
  refine X_callVi C eX7_of [.int a2, .int (3 : Int32)] [.int (((5 : Int32) * a1) + (3 : Int32)), .ref (xad (kG κ) 57)] (M_X7_of C.g_J hFu h) (hFu _ (by decide)) (wc_53 _ _) rfl q_720 rfl ⟨(Nat.le_of_ble_eq_true rfl), (Nat.le_of_ble_eq_true rfl)⟩ rfl (Nat.le_of_ble_eq_true rfl) dX7_addsTo_50 (fun r8 S7 h => ?_)
  refine X_aload_n C 0 0 dX7_addsTo_53 rfl rfl ?_
  refine X_get C (hFu _ (by decide)) (wc_53 _ _) rfl inX7 5 (by decide) q_559 rfl dX7_addsTo_54 ?_
  refine X_iconst C (5 : Int32) dX7_addsTo_57 (by decide) ?_
  refine X_iload_n C 1 1 dX7_addsTo_58 rfl rfl ?_
  refine X_imul C dX7_addsTo_59 ?_
  refine X_iconst C (3 : Int32) dX7_addsTo_60 (by decide) ?_
  refine X_iadd C dX7_addsTo_61 ?_
  obtain ⟨hin, h⟩ := h
  refine X_iald C (hFu _ (by decide)) (wc_57 _ _) hin dX7_addsTo_62 ?_
  refine X_icmp_ge C 75 dX7_addsTo_63 (by decide) (fun c => ?_) (fun c => ?_)
  · have h := h.1 c
    refine X_aload_n C 0 0 dX7_addsTo_75 rfl rfl ?_
    refine X_get C (hFu _ (by decide)) (wc_53 _ _) rfl inX7 5 (by decide) q_559 rfl dX7_addsTo_76 ?_
    refine X_iconst C (5 : Int32) dX7_addsTo_79 (by decide) ?_
    refine X_iload_n C 1 1 dX7_addsTo_80 rfl rfl ?_
    refine X_imul C dX7_addsTo_81 ?_
    refine X_iconst C (3 : Int32) dX7_addsTo_82 (by decide) ?_
    refine X_iadd C dX7_addsTo_83 ?_
    obtain ⟨hin, h⟩ := h
    refine X_iald C (hFu _ (by decide)) (wc_57 _ _) hin dX7_addsTo_84 ?_
    exact K_X7_addsTo_85 C E hFu h
  · have h := h.2 c
    refine X_aload_n C 0 0 dX7_addsTo_66 rfl rfl ?_
    refine X_iload_n C 2 2 dX7_addsTo_67 rfl rfl ?_
    refine X_iconst C (3 : Int32) dX7_addsTo_68 (by decide) ?_
    refine X_callVi C eX7_of [.int a2, .int (3 : Int32)] [.int (((5 : Int32) * a1) + (3 : Int32)), .ref (xad (kG κ) 57)] (M_X7_of C.g_J hFu h) (hFu _ (by decide)) (wc_53 _ _) rfl q_720 rfl ⟨(Nat.le_of_ble_eq_true rfl), (Nat.le_of_ble_eq_true rfl)⟩ rfl (Nat.le_of_ble_eq_true rfl) dX7_addsTo_69 (fun r16 S15 h => ?_)
    refine X_goto C 85 dX7_addsTo_72 (by decide) ?_
    exact K_X7_addsTo_85 C E hFu h
set_option maxRecDepth 100000 in
set_option maxHeartbeats 4000000 in
theorem K_X7_laysGroup_98 {κ : Kx} (C : XC κ RX7 cX7_laysGroup 4 1 22) {K : Mem → Prop} (E : XRet κ none (va_Qv K (XB (kG κ)) (XA (kG κ)))) (hFu : XF (kG κ)) {S : Mem} (h : B_X7_laysGroup_98 K S) : XW κ S 98 [(0, .ref (xad (kG κ) 53))] [] := by
  refine X_aload_n C 0 0 dX7_laysGroup_98 rfl rfl ?_
  refine X_dup C dX7_laysGroup_99 rfl ?_
  refine X_get C (hFu _ (by decide)) (wc_53 _ _) rfl inX7 6 (by decide) q_560 rfl dX7_laysGroup_100 ?_
  refine X_iconst C (1 : Int32) dX7_laysGroup_103 (by decide) ?_
  refine X_iadd C dX7_laysGroup_104 ?_
  obtain ⟨S1, eS1⟩ : ∃ z, z = mput S 53 6 ((S 53 6) + (1 : Int32)) := ⟨_, rfl⟩
  have h := h S1 eS1
  refine X_put C (hFu _ (by decide)) (wc_53 _ _) rfl inX7 tyX7_ok nmX7 6 (by decide) q_560 rfl rfl rfl (Nat.le_of_ble_eq_true rfl) eS1 (wc_53 _ _) dX7_laysGroup_105 ?_
  exact X_vret C E h dX7_laysGroup_108
set_option maxRecDepth 100000 in
set_option maxHeartbeats 4000000 in
theorem K_X7_laysGroup_71 {κ : Kx} (C : XC κ RX7 cX7_laysGroup 4 1 22) {K : Mem → Prop} (E : XRet κ none (va_Qv K (XB (kG κ)) (XA (kG κ)))) (hFu : XF (kG κ)) : ∀ (n : Nat) (S : Mem) (x1 : Int32) (x2 : Int32) (x3 : Int32), B_X7_laysGroup_71 K n S x1 x2 x3 → XW κ S 71 [(0, .ref (xad (kG κ) 53)), (1, .int x1), (2, .int x2), (3, .int x3)] [] := by
  intro n
  induction n with
  | zero => intro S x1 x2 x3 h; exact h.elim
  | succ n ih =>
    intro S x1 x2 x3 h
    refine X_iload_n C 3 3 dX7_laysGroup_71 rfl rfl ?_
    refine X_iconst C (5 : Int32) dX7_laysGroup_72 (by decide) ?_
    refine X_icmp_ge C 98 dX7_laysGroup_73 (by decide) (fun c => ?_) (fun c => ?_)
    · have h := h.1 c
      refine X_sub [0] rfl ?_
      exact K_X7_laysGroup_98 C E hFu h
    · have h := h.2 c
      refine X_aload_n C 0 0 dX7_laysGroup_76 rfl rfl ?_
      refine X_get C (hFu _ (by decide)) (wc_53 _ _) rfl inX7 5 (by decide) q_559 rfl dX7_laysGroup_77 ?_
      refine X_iconst C (5 : Int32) dX7_laysGroup_80 (by decide) ?_
      refine X_iload_n C 2 2 dX7_laysGroup_81 rfl rfl ?_
      refine X_imul C dX7_laysGroup_82 ?_
      refine X_iload_n C 3 3 dX7_laysGroup_83 rfl rfl ?_
      refine X_iadd C dX7_laysGroup_84 ?_
      refine X_aload_n C 0 0 dX7_laysGroup_85 rfl rfl ?_
      refine X_iload_n C 1 1 dX7_laysGroup_86 rfl rfl ?_
      refine X_iload_n C 3 3 dX7_laysGroup_87 rfl rfl ?_
      refine X_callVi C eX7_of [.int x1, .int x3] [.int (((5 : Int32) * x2) + x3), .ref (xad (kG κ) 57)] (M_X7_of C.g_J hFu h) (hFu _ (by decide)) (wc_53 _ _) rfl q_720 rfl ⟨(Nat.le_of_ble_eq_true rfl), (Nat.le_of_ble_eq_true rfl)⟩ rfl (Nat.le_of_ble_eq_true rfl) dX7_laysGroup_88 (fun r3 S2 h => ?_)
      obtain ⟨hin, h⟩ := h
      obtain ⟨S4, eS4⟩ : ∃ z, z = mput S2 57 (Int32.toNatClampNeg (((5 : Int32) * x2) + x3)) r3 := ⟨_, rfl⟩
      have h := h S4 eS4
      refine X_iast C (hFu _ (by decide)) (wc_57 _ _) hin eS4 (wc_57 _ _) dX7_laysGroup_91 ?_
      refine X_iinc C (x3 + (1 : Int32)) 3 [(3, .int (x3 + (1 : Int32))), (0, .ref (xad (kG κ) 53)), (1, .int x1), (2, .int x2)] dX7_laysGroup_92 rfl rfl (by decide) rfl ?_
      refine X_goto C 71 dX7_laysGroup_95 (by decide) ?_
      refine X_sub [1, 2, 3, 0] rfl ?_
      exact ih _ _ _ _ h
set_option maxRecDepth 100000 in
set_option maxHeartbeats 4000000 in
theorem K_X7_laysGroup_69 {κ : Kx} (C : XC κ RX7 cX7_laysGroup 4 1 22) {K : Mem → Prop} (E : XRet κ none (va_Qv K (XB (kG κ)) (XA (kG κ)))) (hFu : XF (kG κ)) {S : Mem} {x1 : Int32} {x2 : Int32} (h : B_X7_laysGroup_69 K S x1 x2) : XW κ S 69 [(0, .ref (xad (kG κ) 53)), (1, .int x1), (2, .int x2)] [] := by
  refine X_iconst C (0 : Int32) dX7_laysGroup_69 (by decide) ?_
  refine X_istore_n C 3 [(3, .int (0 : Int32)), (0, .ref (xad (kG κ) 53)), (1, .int x1), (2, .int x2)] dX7_laysGroup_70 rfl (by decide) rfl ?_
  refine X_sub [1, 2, 3, 0] rfl ?_
  obtain ⟨n5, h⟩ := h
  exact K_X7_laysGroup_71 C E hFu n5 _ _ _ _ h
set_option maxRecDepth 100000 in
set_option maxHeartbeats 4000000 in
theorem K_X7_laysGroup_63 {κ : Kx} (C : XC κ RX7 cX7_laysGroup 4 1 22) {K : Mem → Prop} (E : XRet κ none (va_Qv K (XB (kG κ)) (XA (kG κ)))) (hFu : XF (kG κ)) {R5 : Mem → Int32 → Int32 → Prop} (hR5 : ∀ (S : Mem) (x1 x2 : Int32), R5 S x1 x2 → XW κ S 5 [(0, .ref (xad (kG κ) 53)), (1, .int x1), (2, .int x2)] []) {S : Mem} {x1 : Int32} {x2 : Int32} (h : B_X7_laysGroup_63 R5 K S x1 x2) : XW κ S 63 [(0, .ref (xad (kG κ) 53)), (1, .int x1), (2, .int x2)] [] := by
  refine X_iinc C (x2 + (-1 : Int32)) 2 [(2, .int (x2 + (-1 : Int32))), (0, .ref (xad (kG κ) 53)), (1, .int x1)] dX7_laysGroup_63 rfl rfl (by decide) rfl ?_
  refine X_goto C 5 dX7_laysGroup_66 (by decide) ?_
  refine X_sub [1, 2, 0] rfl ?_
  exact hR5 _ _ _ h
set_option maxRecDepth 100000 in
set_option maxHeartbeats 4000000 in
theorem K_X7_laysGroup_30 {κ : Kx} (C : XC κ RX7 cX7_laysGroup 4 1 22) {K : Mem → Prop} (E : XRet κ none (va_Qv K (XB (kG κ)) (XA (kG κ)))) (hFu : XF (kG κ)) {R5 : Mem → Int32 → Int32 → Prop} (hR5 : ∀ (S : Mem) (x1 x2 : Int32), R5 S x1 x2 → XW κ S 5 [(0, .ref (xad (kG κ) 53)), (1, .int x1), (2, .int x2)] []) : ∀ (n : Nat) (S : Mem) (x1 : Int32) (x2 : Int32) (x3 : Int32), B_X7_laysGroup_30 R5 K n S x1 x2 x3 → XW κ S 30 [(0, .ref (xad (kG κ) 53)), (1, .int x1), (2, .int x2), (3, .int x3)] [] := by
  intro n
  induction n with
  | zero => intro S x1 x2 x3 h; exact h.elim
  | succ n ih =>
    intro S x1 x2 x3 h
    refine X_iload_n C 3 3 dX7_laysGroup_30 rfl rfl ?_
    refine X_iconst C (5 : Int32) dX7_laysGroup_31 (by decide) ?_
    refine X_icmp_ge C 63 dX7_laysGroup_32 (by decide) (fun c => ?_) (fun c => ?_)
    · have h := h.1 c
      refine X_sub [0, 1, 2] rfl ?_
      exact K_X7_laysGroup_63 C E hFu hR5 h
    · have h := h.2 c
      refine X_aload_n C 0 0 dX7_laysGroup_35 rfl rfl ?_
      refine X_get C (hFu _ (by decide)) (wc_53 _ _) rfl inX7 5 (by decide) q_559 rfl dX7_laysGroup_36 ?_
      refine X_iconst C (5 : Int32) dX7_laysGroup_39 (by decide) ?_
      refine X_iload_n C 2 2 dX7_laysGroup_40 rfl rfl ?_
      refine X_imul C dX7_laysGroup_41 ?_
      refine X_iload_n C 3 3 dX7_laysGroup_42 rfl rfl ?_
      refine X_iadd C dX7_laysGroup_43 ?_
      refine X_aload_n C 0 0 dX7_laysGroup_44 rfl rfl ?_
      refine X_get C (hFu _ (by decide)) (wc_53 _ _) rfl inX7 5 (by decide) q_559 rfl dX7_laysGroup_45 ?_
      refine X_iconst C (5 : Int32) dX7_laysGroup_48 (by decide) ?_
      refine X_iload_n C 2 2 dX7_laysGroup_49 rfl rfl ?_
      refine X_imul C dX7_laysGroup_50 ?_
      refine X_iconst C (5 : Int32) dX7_laysGroup_51 (by decide) ?_
      refine X_isub C dX7_laysGroup_52 ?_
      refine X_iload_n C 3 3 dX7_laysGroup_53 rfl rfl ?_
      refine X_iadd C dX7_laysGroup_54 ?_
      obtain ⟨hin, h⟩ := h
      refine X_iald C (hFu _ (by decide)) (wc_57 _ _) hin dX7_laysGroup_55 ?_
      obtain ⟨hin, h⟩ := h
      obtain ⟨S8, eS8⟩ : ∃ z, z = mput S 57 (Int32.toNatClampNeg (((5 : Int32) * x2) + x3)) (S 57 (Int32.toNatClampNeg ((((5 : Int32) * x2) - (5 : Int32)) + x3))) := ⟨_, rfl⟩
      have h := h S8 eS8
      refine X_iast C (hFu _ (by decide)) (wc_57 _ _) hin eS8 (wc_57 _ _) dX7_laysGroup_56 ?_
      refine X_iinc C (x3 + (1 : Int32)) 3 [(3, .int (x3 + (1 : Int32))), (0, .ref (xad (kG κ) 53)), (1, .int x1), (2, .int x2)] dX7_laysGroup_57 rfl rfl (by decide) rfl ?_
      refine X_goto C 30 dX7_laysGroup_60 (by decide) ?_
      refine X_sub [1, 2, 3, 0] rfl ?_
      exact ih _ _ _ _ h
set_option maxRecDepth 100000 in
set_option maxHeartbeats 4000000 in
theorem K_X7_laysGroup_5 {κ : Kx} (C : XC κ RX7 cX7_laysGroup 4 1 22) {K : Mem → Prop} (E : XRet κ none (va_Qv K (XB (kG κ)) (XA (kG κ)))) (hFu : XF (kG κ)) : ∀ (n : Nat) (S : Mem) (x1 : Int32) (x2 : Int32), B_X7_laysGroup_5 K n S x1 x2 → XW κ S 5 [(0, .ref (xad (kG κ) 53)), (1, .int x1), (2, .int x2)] [] := by
  intro n
  induction n with
  | zero => intro S x1 x2 h; exact h.elim
  | succ n ih =>
    intro S x1 x2 h
    refine X_iload_n C 2 2 dX7_laysGroup_5 rfl rfl ?_
    refine X_if_le C 69 dX7_laysGroup_6 (by decide) (fun c => ?_) (fun c => ?_)
    · have h := h.1 c
      exact K_X7_laysGroup_69 C E hFu h
    · have h := h.2 c
      refine X_aload_n C 0 0 dX7_laysGroup_9 rfl rfl ?_
      refine X_get C (hFu _ (by decide)) (wc_53 _ _) rfl inX7 5 (by decide) q_559 rfl dX7_laysGroup_10 ?_
      refine X_iconst C (5 : Int32) dX7_laysGroup_13 (by decide) ?_
      refine X_iload_n C 2 2 dX7_laysGroup_14 rfl rfl ?_
      refine X_imul C dX7_laysGroup_15 ?_
      refine X_iconst C (5 : Int32) dX7_laysGroup_16 (by decide) ?_
      refine X_isub C dX7_laysGroup_17 ?_
      obtain ⟨hin, h⟩ := h
      refine X_iald C (hFu _ (by decide)) (wc_57 _ _) hin dX7_laysGroup_18 ?_
      refine X_aload_n C 0 0 dX7_laysGroup_19 rfl rfl ?_
      refine X_iload_n C 1 1 dX7_laysGroup_20 rfl rfl ?_
      refine X_iconst C (0 : Int32) dX7_laysGroup_21 (by decide) ?_
      refine X_callVi C eX7_of [.int x1, .int (0 : Int32)] [.int (S 57 (Int32.toNatClampNeg (((5 : Int32) * x2) - (5 : Int32))))] (M_X7_of C.g_J hFu h) (hFu _ (by decide)) (wc_53 _ _) rfl q_720 rfl ⟨(Nat.le_of_ble_eq_true rfl), (Nat.le_of_ble_eq_true rfl)⟩ rfl (Nat.le_of_ble_eq_true rfl) dX7_laysGroup_22 (fun r7 S6 h => ?_)
      refine X_icmp_le C 69 dX7_laysGroup_25 (by decide) (fun c => ?_) (fun c => ?_)
      · have h := h.1 c
        exact K_X7_laysGroup_69 C E hFu h
      · have h := h.2 c
        refine X_iconst C (0 : Int32) dX7_laysGroup_28 (by decide) ?_
        refine X_istore_n C 3 [(3, .int (0 : Int32)), (0, .ref (xad (kG κ) 53)), (1, .int x1), (2, .int x2)] dX7_laysGroup_29 rfl (by decide) rfl ?_
        refine X_sub [1, 2, 3, 0] rfl ?_
        obtain ⟨n9, h⟩ := h
        exact K_X7_laysGroup_30 C E hFu (fun _ _ _ h => ih _ _ _ h) n9 _ _ _ _ h
set_option maxRecDepth 100000 in
set_option maxHeartbeats 4000000 in
theorem M_X7_laysGroup {l : Launch} {G : XG} (hJ : XJ G) (hFu : XF G) {S : Mem} {a1 : Int32} {K : Mem → Prop} (h : P_X7_laysGroup S a1 K) : XMv l G yX7_laysGroup cX7_laysGroup 4 1 22 [.ref (xad G 53), .int a1] S K := by
  refine X_meth RX7 rfl (by decide +kernel) hJ (Nat.le_of_ble_eq_true rfl) (fun κ hl hG C E => ?_)
  subst hl hG
  show XW κ S 0 [(0, .ref (xad (kG κ) 53)), (1, .int a1)] []
  refine X_aload_n C 0 0 dX7_laysGroup_0 rfl rfl ?_
  refine X_get C (hFu _ (by decide)) (wc_53 _ _) rfl inX7 6 (by decide) q_560 rfl dX7_laysGroup_1 ?_
  refine X_istore_n C 2 [(2, .int (S 53 6)), (0, .ref (xad (kG κ) 53)), (1, .int a1)] dX7_laysGroup_4 rfl (by decide) rfl ?_
  refine X_sub [1, 2, 0] rfl ?_
  obtain ⟨n10, h⟩ := h
  exact K_X7_laysGroup_5 C E hFu n10 _ _ _ h
set_option maxRecDepth 100000 in
set_option maxHeartbeats 4000000 in
theorem K_X7_takesOut_14 {κ : Kx} (C : XC κ RX7 cX7_takesOut 3 0 0) {K : Mem → Prop} (E : XRet κ none (va_Qv K (XB (kG κ)) (XA (kG κ)))) (hFu : XF (kG κ)) : ∀ (n : Nat) (S : Mem) (x2 : Int32), B_X7_takesOut_14 K n S x2 → XW κ S 14 [(0, .ref (xad (kG κ) 53)), (2, .int x2)] [] := by
  intro n
  induction n with
  | zero => intro S x2 h; exact h.elim
  | succ n ih =>
    intro S x2 h
    refine X_iload_n C 2 1 dX7_takesOut_14 rfl rfl ?_
    refine X_iconst C (5 : Int32) dX7_takesOut_15 (by decide) ?_
    refine X_aload_n C 0 0 dX7_takesOut_16 rfl rfl ?_
    refine X_get C (hFu _ (by decide)) (wc_53 _ _) rfl inX7 6 (by decide) q_560 rfl dX7_takesOut_17 ?_
    refine X_imul C dX7_takesOut_20 ?_
    refine X_icmp_ge C 44 dX7_takesOut_21 (by decide) (fun c => ?_) (fun c => ?_)
    · have h := h.1 c
      exact X_vret C E h dX7_takesOut_44
    · have h := h.2 c
      refine X_aload_n C 0 0 dX7_takesOut_24 rfl rfl ?_
      refine X_get C (hFu _ (by decide)) (wc_53 _ _) rfl inX7 5 (by decide) q_559 rfl dX7_takesOut_25 ?_
      refine X_iload_n C 2 1 dX7_takesOut_28 rfl rfl ?_
      refine X_aload_n C 0 0 dX7_takesOut_29 rfl rfl ?_
      refine X_get C (hFu _ (by decide)) (wc_53 _ _) rfl inX7 5 (by decide) q_559 rfl dX7_takesOut_30 ?_
      refine X_iload_n C 2 1 dX7_takesOut_33 rfl rfl ?_
      refine X_iconst C (5 : Int32) dX7_takesOut_34 (by decide) ?_
      refine X_iadd C dX7_takesOut_35 ?_
      obtain ⟨hin, h⟩ := h
      refine X_iald C (hFu _ (by decide)) (wc_57 _ _) hin dX7_takesOut_36 ?_
      obtain ⟨hin, h⟩ := h
      obtain ⟨S2, eS2⟩ : ∃ z, z = mput S 57 (Int32.toNatClampNeg x2) (S 57 (Int32.toNatClampNeg (x2 + (5 : Int32)))) := ⟨_, rfl⟩
      have h := h S2 eS2
      refine X_iast C (hFu _ (by decide)) (wc_57 _ _) hin eS2 (wc_57 _ _) dX7_takesOut_37 ?_
      refine X_iinc C (x2 + (1 : Int32)) 1 [(2, .int (x2 + (1 : Int32))), (0, .ref (xad (kG κ) 53))] dX7_takesOut_38 rfl rfl (by decide) rfl ?_
      refine X_goto C 14 dX7_takesOut_41 (by decide) ?_
      refine X_sub [1, 0] rfl ?_
      exact ih _ _ h
set_option maxRecDepth 100000 in
set_option maxHeartbeats 4000000 in
theorem M_X7_takesOut {l : Launch} {G : XG} (hJ : XJ G) (hFu : XF G) {S : Mem} {a1 : Int32} {K : Mem → Prop} (h : P_X7_takesOut S a1 K) : XMv l G yX7_takesOut cX7_takesOut 3 0 0 [.ref (xad G 53), .int a1] S K := by
  refine X_meth RX7 rfl (by decide +kernel) hJ (Nat.le_of_ble_eq_true rfl) (fun κ hl hG C E => ?_)
  subst hl hG
  show XW κ S 0 [(0, .ref (xad (kG κ) 53)), (1, .int a1)] []
  refine X_aload_n C 0 0 dX7_takesOut_0 rfl rfl ?_
  refine X_dup C dX7_takesOut_1 rfl ?_
  refine X_get C (hFu _ (by decide)) (wc_53 _ _) rfl inX7 6 (by decide) q_560 rfl dX7_takesOut_2 ?_
  refine X_iconst C (1 : Int32) dX7_takesOut_5 (by decide) ?_
  refine X_isub C dX7_takesOut_6 ?_
  obtain ⟨S1, eS1⟩ : ∃ z, z = mput S 53 6 ((S 53 6) - (1 : Int32)) := ⟨_, rfl⟩
  have h := h S1 eS1
  refine X_put C (hFu _ (by decide)) (wc_53 _ _) rfl inX7 tyX7_ok nmX7 6 (by decide) q_560 rfl rfl rfl (Nat.le_of_ble_eq_true rfl) eS1 (wc_53 _ _) dX7_takesOut_7 ?_
  refine X_iconst C (5 : Int32) dX7_takesOut_10 (by decide) ?_
  refine X_iload_n C 1 1 dX7_takesOut_11 rfl rfl ?_
  refine X_imul C dX7_takesOut_12 ?_
  refine X_istore_n C 2 [(2, .int ((5 : Int32) * a1)), (0, .ref (xad (kG κ) 53)), (1, .int a1)] dX7_takesOut_13 rfl (by decide) rfl ?_
  refine X_sub [1, 0] rfl ?_
  obtain ⟨n3, h⟩ := h
  exact K_X7_takesOut_14 C E hFu n3 _ _ h
set_option maxRecDepth 100000 in
set_option maxHeartbeats 4000000 in
theorem M_X7_last {l : Launch} {G : XG} (hJ : XJ G) (hFu : XF G) {S : Mem} {a1 : Int32} {K : Int32 → Mem → Prop} (h : P_X7_last S a1 K) : XMi l G yX7_last cX7_last 2 .int 0 0 [.ref (xad G 53), .int a1] S K := by
  refine X_meth RX7 rfl (by decide +kernel) hJ (Nat.le_of_ble_eq_true rfl) (fun κ hl hG C E => ?_)
  subst hl hG
  show XW κ S 0 [(0, .ref (xad (kG κ) 53)), (1, .int a1)] []
  refine X_aload_n C 0 0 dX7_last_0 rfl rfl ?_
  refine X_get C (hFu _ (by decide)) (wc_53 _ _) rfl inX7 7 (by decide) q_561 rfl dX7_last_1 ?_
  refine X_bipush C (7 : Int32) dX7_last_4 (by decide) ?_
  refine X_aload_n C 0 0 dX7_last_6 rfl rfl ?_
  refine X_get C (hFu _ (by decide)) (wc_53 _ _) rfl inX7 8 (by decide) q_562 rfl dX7_last_7 ?_
  refine X_iconst C (1 : Int32) dX7_last_10 (by decide) ?_
  refine X_isub C dX7_last_11 ?_
  refine X_imul C dX7_last_12 ?_
  refine X_iload_n C 1 1 dX7_last_13 rfl rfl ?_
  refine X_iadd C dX7_last_14 ?_
  obtain ⟨hin, h⟩ := h
  refine X_iald C (hFu _ (by decide)) (wc_58 _ _) hin dX7_last_15 ?_
  exact X_iret C E rfl h dX7_last_16
set_option maxRecDepth 100000 in
set_option maxHeartbeats 4000000 in
theorem M_X7_counts {l : Launch} {G : XG} (hJ : XJ G) (hFu : XF G) {S : Mem} {a1 : Int32} {K : Mem → Prop} (h : P_X7_counts S a1 K) : XMv l G yX7_counts cX7_counts 2 0 0 [.ref (xad G 53), .int a1] S K := by
  refine X_meth RX7 rfl (by decide +kernel) hJ (Nat.le_of_ble_eq_true rfl) (fun κ hl hG C E => ?_)
  subst hl hG
  show XW κ S 0 [(0, .ref (xad (kG κ) 53)), (1, .int a1)] []
  refine X_aload_n C 0 0 dX7_counts_0 rfl rfl ?_
  refine X_get C (hFu _ (by decide)) (wc_53 _ _) rfl inX7 7 (by decide) q_561 rfl dX7_counts_1 ?_
  refine X_bipush C (7 : Int32) dX7_counts_4 (by decide) ?_
  refine X_aload_n C 0 0 dX7_counts_6 rfl rfl ?_
  refine X_get C (hFu _ (by decide)) (wc_53 _ _) rfl inX7 8 (by decide) q_562 rfl dX7_counts_7 ?_
  refine X_iconst C (1 : Int32) dX7_counts_10 (by decide) ?_
  refine X_isub C dX7_counts_11 ?_
  refine X_imul C dX7_counts_12 ?_
  refine X_iload_n C 1 1 dX7_counts_13 rfl rfl ?_
  refine X_iadd C dX7_counts_14 ?_
  refine X_dup2 C dX7_counts_15 rfl rfl ?_
  obtain ⟨hin, h⟩ := h
  refine X_iald C (hFu _ (by decide)) (wc_58 _ _) hin dX7_counts_16 ?_
  refine X_iconst C (1 : Int32) dX7_counts_17 (by decide) ?_
  refine X_iadd C dX7_counts_18 ?_
  obtain ⟨hin, h⟩ := h
  obtain ⟨S1, eS1⟩ : ∃ z, z = mput S 58 (Int32.toNatClampNeg (((7 : Int32) * ((S 53 8) - (1 : Int32))) + a1)) ((S 58 (Int32.toNatClampNeg (((7 : Int32) * ((S 53 8) - (1 : Int32))) + a1))) + (1 : Int32)) := ⟨_, rfl⟩
  have h := h S1 eS1
  refine X_iast C (hFu _ (by decide)) (wc_58 _ _) hin eS1 (wc_58 _ _) dX7_counts_19 ?_
  exact X_vret C E h dX7_counts_20
set_option maxRecDepth 100000 in
set_option maxHeartbeats 4000000 in
theorem K_X7_writes_48 {κ : Kx} (C : XC κ RX7 cX7_writes 3 1 21) {K : Mem → Prop} (E : XRet κ none (va_Qv K (XB (kG κ)) (XA (kG κ)))) (hFu : XF (kG κ)) {S : Mem} {x1 : Int32} {x2 : Int32} (h : B_X7_writes_48 K S x1 x2) : XW κ S 48 [(0, .ref (xad (kG κ) 53)), (1, .int x1), (2, .int x2)] [] := by
  refine X_aload_n C 0 0 dX7_writes_48 rfl rfl ?_
  refine X_get C (hFu _ (by decide)) (wc_53 _ _) rfl inX7 19 (by decide) q_573 rfl dX7_writes_49 ?_
  refine X_iload_n C 2 2 dX7_writes_52 rfl rfl ?_
  refine X_iload_n C 1 1 dX7_writes_53 rfl rfl ?_
  obtain ⟨hin, h⟩ := h
  obtain ⟨S3, eS3⟩ : ∃ z, z = mput S 63 (Int32.toNatClampNeg x2) x1 := ⟨_, rfl⟩
  have h := h S3 eS3
  refine X_iast C (hFu _ (by decide)) (wc_63 _ _) hin eS3 (wc_63 _ _) dX7_writes_54 ?_
  refine X_aload_n C 0 0 dX7_writes_55 rfl rfl ?_
  refine X_get C (hFu _ (by decide)) (wc_53 _ _) rfl inX7 20 (by decide) q_574 rfl dX7_writes_56 ?_
  refine X_iload_n C 2 2 dX7_writes_59 rfl rfl ?_
  refine X_dup2 C dX7_writes_60 rfl rfl ?_
  obtain ⟨hin, h⟩ := h
  refine X_iald C (hFu _ (by decide)) (wc_64 _ _) hin dX7_writes_61 ?_
  refine X_iconst C (1 : Int32) dX7_writes_62 (by decide) ?_
  refine X_iadd C dX7_writes_63 ?_
  obtain ⟨hin, h⟩ := h
  obtain ⟨S4, eS4⟩ : ∃ z, z = mput S3 64 (Int32.toNatClampNeg x2) ((S3 64 (Int32.toNatClampNeg x2)) + (1 : Int32)) := ⟨_, rfl⟩
  have h := h S4 eS4
  refine X_iast C (hFu _ (by decide)) (wc_64 _ _) hin eS4 (wc_64 _ _) dX7_writes_64 ?_
  refine X_aload_n C 0 0 dX7_writes_65 rfl rfl ?_
  refine X_iconst C (5 : Int32) dX7_writes_66 (by decide) ?_
  refine X_callVv C eX7_counts [.int (5 : Int32)] [] (M_X7_counts C.g_J hFu h) (hFu _ (by decide)) (wc_53 _ _) rfl q_724 rfl ⟨(Nat.le_of_ble_eq_true rfl), (Nat.le_of_ble_eq_true rfl)⟩ rfl (Nat.le_of_ble_eq_true rfl) dX7_writes_67 (fun S5 h => ?_)
  exact X_vret C E h dX7_writes_70
set_option maxRecDepth 100000 in
set_option maxHeartbeats 4000000 in
theorem M_X7_writes {l : Launch} {G : XG} (hJ : XJ G) (hFu : XF G) {S : Mem} {a1 : Int32} {a2 : Int32} {K : Mem → Prop} (h : P_X7_writes S a1 a2 K) : XMv l G yX7_writes cX7_writes 3 1 21 [.ref (xad G 53), .int a1, .int a2] S K := by
  refine X_meth RX7 rfl (by decide +kernel) hJ (Nat.le_of_ble_eq_true rfl) (fun κ hl hG C E => ?_)
  subst hl hG
  show XW κ S 0 [(0, .ref (xad (kG κ) 53)), (1, .int a1), (2, .int a2)] []
  refine X_aload_n C 0 0 dX7_writes_0 rfl rfl ?_
  refine X_get C (hFu _ (by decide)) (wc_53 _ _) rfl inX7 3 (by decide) q_557 rfl dX7_writes_1 ?_
  refine X_bipush C (6 : Int32) dX7_writes_4 (by decide) ?_
  refine X_iload_n C 1 1 dX7_writes_6 rfl rfl ?_
  refine X_imul C dX7_writes_7 ?_
  refine X_iconst C (5 : Int32) dX7_writes_8 (by decide) ?_
  refine X_iadd C dX7_writes_9 ?_
  refine X_iconst C (-1 : Int32) dX7_writes_10 (by decide) ?_
  obtain ⟨hin, h⟩ := h
  obtain ⟨S1, eS1⟩ : ∃ z, z = mput S 56 (Int32.toNatClampNeg (((6 : Int32) * a1) + (5 : Int32))) (-1 : Int32) := ⟨_, rfl⟩
  have h := h S1 eS1
  refine X_iast C (hFu _ (by decide)) (wc_56 _ _) hin eS1 (wc_56 _ _) dX7_writes_11 ?_
  refine X_aload_n C 0 0 dX7_writes_12 rfl rfl ?_
  refine X_get C (hFu _ (by decide)) (wc_53 _ _) rfl inX7 20 (by decide) q_574 rfl dX7_writes_13 ?_
  refine X_iload_n C 2 2 dX7_writes_16 rfl rfl ?_
  obtain ⟨hin, h⟩ := h
  refine X_iald C (hFu _ (by decide)) (wc_64 _ _) hin dX7_writes_17 ?_
  refine X_if_ne C 31 dX7_writes_18 (by decide) (fun c => ?_) (fun c => ?_)
  · have h := h.1 c
    refine X_aload_n C 0 0 dX7_writes_31 rfl rfl ?_
    refine X_get C (hFu _ (by decide)) (wc_53 _ _) rfl inX7 3 (by decide) q_557 rfl dX7_writes_32 ?_
    refine X_bipush C (6 : Int32) dX7_writes_35 (by decide) ?_
    refine X_aload_n C 0 0 dX7_writes_37 rfl rfl ?_
    refine X_get C (hFu _ (by decide)) (wc_53 _ _) rfl inX7 19 (by decide) q_573 rfl dX7_writes_38 ?_
    refine X_iload_n C 2 2 dX7_writes_41 rfl rfl ?_
    obtain ⟨hin, h⟩ := h
    refine X_iald C (hFu _ (by decide)) (wc_63 _ _) hin dX7_writes_42 ?_
    refine X_imul C dX7_writes_43 ?_
    refine X_iconst C (5 : Int32) dX7_writes_44 (by decide) ?_
    refine X_iadd C dX7_writes_45 ?_
    refine X_iload_n C 1 1 dX7_writes_46 rfl rfl ?_
    obtain ⟨hin, h⟩ := h
    obtain ⟨S2, eS2⟩ : ∃ z, z = mput S1 56 (Int32.toNatClampNeg (((6 : Int32) * (S1 63 (Int32.toNatClampNeg a2))) + (5 : Int32))) a1 := ⟨_, rfl⟩
    have h := h S2 eS2
    refine X_iast C (hFu _ (by decide)) (wc_56 _ _) hin eS2 (wc_56 _ _) dX7_writes_47 ?_
    exact K_X7_writes_48 C E hFu h
  · have h := h.2 c
    refine X_aload_n C 0 0 dX7_writes_21 rfl rfl ?_
    refine X_get C (hFu _ (by decide)) (wc_53 _ _) rfl inX7 18 (by decide) q_572 rfl dX7_writes_22 ?_
    refine X_iload_n C 2 2 dX7_writes_25 rfl rfl ?_
    refine X_iload_n C 1 1 dX7_writes_26 rfl rfl ?_
    obtain ⟨hin, h⟩ := h
    obtain ⟨S7, eS7⟩ : ∃ z, z = mput S1 62 (Int32.toNatClampNeg a2) a1 := ⟨_, rfl⟩
    have h := h S7 eS7
    refine X_iast C (hFu _ (by decide)) (wc_62 _ _) hin eS7 (wc_62 _ _) dX7_writes_27 ?_
    refine X_goto C 48 dX7_writes_28 (by decide) ?_
    exact K_X7_writes_48 C E hFu h
set_option maxRecDepth 100000 in
set_option maxHeartbeats 4000000 in
theorem K_X7_manyOf_43 {κ : Kx} (C : XC κ RX7 cX7_manyOf 4 2 44) {K : Int32 → Mem → Prop} (E : XRet κ (some .int) (va_Qi K (XB (kG κ)) (XA (kG κ)))) (hFu : XF (kG κ)) {R4 : Mem → Int32 → Int32 → Int32 → Prop} (hR4 : ∀ (S : Mem) (x1 x2 x3 : Int32), R4 S x1 x2 x3 → XW κ S 4 [(0, .ref (xad (kG κ) 53)), (1, .int x1), (2, .int x2), (3, .int x3)] []) {S : Mem} {x1 : Int32} {x3 : Int32} {y0 : Int32} {y1 : Int32} (h : B_X7_manyOf_43 R4 K S x1 x3 y0 y1) : XW κ S 43 [(0, .ref (xad (kG κ) 53)), (1, .int x1), (3, .int x3)] [.int y0, .int y1] := by
  refine X_iadd C dX7_manyOf_43 ?_
  refine X_istore_n C 2 [(2, .int (y1 + y0)), (0, .ref (xad (kG κ) 53)), (1, .int x1), (3, .int x3)] dX7_manyOf_44 rfl (by decide) rfl ?_
  refine X_iinc C (x3 + (1 : Int32)) 3 [(3, .int (x3 + (1 : Int32))), (2, .int (y1 + y0)), (0, .ref (xad (kG κ) 53)), (1, .int x1)] dX7_manyOf_45 rfl rfl (by decide) rfl ?_
  refine X_goto C 4 dX7_manyOf_48 (by decide) ?_
  refine X_sub [2, 3, 1, 0] rfl ?_
  exact hR4 _ _ _ _ h
set_option maxRecDepth 100000 in
set_option maxHeartbeats 4000000 in
theorem K_X7_manyOf_4 {κ : Kx} (C : XC κ RX7 cX7_manyOf 4 2 44) {K : Int32 → Mem → Prop} (E : XRet κ (some .int) (va_Qi K (XB (kG κ)) (XA (kG κ)))) (hFu : XF (kG κ)) : ∀ (n : Nat) (S : Mem) (x1 : Int32) (x2 : Int32) (x3 : Int32), B_X7_manyOf_4 K n S x1 x2 x3 → XW κ S 4 [(0, .ref (xad (kG κ) 53)), (1, .int x1), (2, .int x2), (3, .int x3)] [] := by
  intro n
  induction n with
  | zero => intro S x1 x2 x3 h; exact h.elim
  | succ n ih =>
    intro S x1 x2 x3 h
    refine X_iload_n C 3 3 dX7_manyOf_4 rfl rfl ?_
    refine X_aload_n C 0 0 dX7_manyOf_5 rfl rfl ?_
    refine X_get C (hFu _ (by decide)) (wc_53 _ _) rfl inX7 6 (by decide) q_560 rfl dX7_manyOf_6 ?_
    refine X_icmp_ge C 51 dX7_manyOf_9 (by decide) (fun c => ?_) (fun c => ?_)
    · have h := h.1 c
      refine X_iload_n C 2 2 dX7_manyOf_51 rfl rfl ?_
      exact X_iret C E rfl h dX7_manyOf_52
    · have h := h.2 c
      refine X_iload_n C 2 2 dX7_manyOf_12 rfl rfl ?_
      refine X_aload_n C 0 0 dX7_manyOf_13 rfl rfl ?_
      refine X_aload_n C 0 0 dX7_manyOf_14 rfl rfl ?_
      refine X_get C (hFu _ (by decide)) (wc_53 _ _) rfl inX7 5 (by decide) q_559 rfl dX7_manyOf_15 ?_
      refine X_iconst C (5 : Int32) dX7_manyOf_18 (by decide) ?_
      refine X_iload_n C 3 3 dX7_manyOf_19 rfl rfl ?_
      refine X_imul C dX7_manyOf_20 ?_
      obtain ⟨hin, h⟩ := h
      refine X_iald C (hFu _ (by decide)) (wc_57 _ _) hin dX7_manyOf_21 ?_
      refine X_aload_n C 0 0 dX7_manyOf_22 rfl rfl ?_
      refine X_iconst C (0 : Int32) dX7_manyOf_23 (by decide) ?_
      refine X_callVi C eX7_last [.int (0 : Int32)] [.int (S 57 (Int32.toNatClampNeg ((5 : Int32) * x3))), .ref (xad (kG κ) 53), .int x2] (M_X7_last C.g_J hFu h) (hFu _ (by decide)) (wc_53 _ _) rfl q_732 rfl ⟨(Nat.le_of_ble_eq_true rfl), (Nat.le_of_ble_eq_true rfl)⟩ rfl (Nat.le_of_ble_eq_true rfl) dX7_manyOf_24 (fun r2 S1 h => ?_)
      refine X_aload_n C 0 0 dX7_manyOf_27 rfl rfl ?_
      refine X_get C (hFu _ (by decide)) (wc_53 _ _) rfl inX7 14 (by decide) q_568 rfl dX7_manyOf_28 ?_
      refine X_callVi C eX7_partOf [.int (S 57 (Int32.toNatClampNeg ((5 : Int32) * x3))), .int r2, .int (S1 53 14)] [.int x2] (M_X7_partOf C.g_J hFu h) (hFu _ (by decide)) (wc_53 _ _) rfl q_695 rfl ⟨(Nat.le_of_ble_eq_true rfl), (Nat.le_of_ble_eq_true rfl)⟩ rfl (Nat.le_of_ble_eq_true rfl) dX7_manyOf_31 (fun r4 S3 h => ?_)
      refine X_iload_n C 1 1 dX7_manyOf_34 rfl rfl ?_
      refine X_icmp_ne C 42 dX7_manyOf_35 (by decide) (fun c => ?_) (fun c => ?_)
      · have h := h.1 c
        refine X_iconst C (0 : Int32) dX7_manyOf_42 (by decide) ?_
        refine X_sub [0, 1, 3] rfl ?_
        exact K_X7_manyOf_43 C E hFu (fun _ _ _ _ h => ih _ _ _ _ h) h
      · have h := h.2 c
        refine X_iconst C (1 : Int32) dX7_manyOf_38 (by decide) ?_
        refine X_goto C 43 dX7_manyOf_39 (by decide) ?_
        refine X_sub [0, 1, 3] rfl ?_
        exact K_X7_manyOf_43 C E hFu (fun _ _ _ _ h => ih _ _ _ _ h) h
set_option maxRecDepth 100000 in
set_option maxHeartbeats 4000000 in
theorem M_X7_manyOf {l : Launch} {G : XG} (hJ : XJ G) (hFu : XF G) {S : Mem} {a1 : Int32} {K : Int32 → Mem → Prop} (h : P_X7_manyOf S a1 K) : XMi l G yX7_manyOf cX7_manyOf 4 .int 2 44 [.ref (xad G 53), .int a1] S K := by
  refine X_meth RX7 rfl (by decide +kernel) hJ (Nat.le_of_ble_eq_true rfl) (fun κ hl hG C E => ?_)
  subst hl hG
  show XW κ S 0 [(0, .ref (xad (kG κ) 53)), (1, .int a1)] []
  refine X_iconst C (0 : Int32) dX7_manyOf_0 (by decide) ?_
  refine X_istore_n C 2 [(2, .int (0 : Int32)), (0, .ref (xad (kG κ) 53)), (1, .int a1)] dX7_manyOf_1 rfl (by decide) rfl ?_
  refine X_iconst C (0 : Int32) dX7_manyOf_2 (by decide) ?_
  refine X_istore_n C 3 [(3, .int (0 : Int32)), (2, .int (0 : Int32)), (0, .ref (xad (kG κ) 53)), (1, .int a1)] dX7_manyOf_3 rfl (by decide) rfl ?_
  refine X_sub [2, 3, 1, 0] rfl ?_
  obtain ⟨n5, h⟩ := h
  exact K_X7_manyOf_4 C E hFu n5 _ _ _ _ h
set_option maxRecDepth 100000 in
set_option maxHeartbeats 4000000 in
theorem K_X7_spillsOne_150 {κ : Kx} (C : XC κ RX7 cX7_spillsOne 4 3 67) {K : Mem → Prop} (E : XRet κ none (va_Qv K (XB (kG κ)) (XA (kG κ)))) (hFu : XF (kG κ)) {S : Mem} {x1 : Int32} {x2 : Int32} (h : B_X7_spillsOne_150 K S x1 x2) : XW κ S 150 [(0, .ref (xad (kG κ) 53)), (1, .int x1), (2, .int x2)] [] := by
  refine X_aload_n C 0 0 dX7_spillsOne_150 rfl rfl ?_
  refine X_get C (hFu _ (by decide)) (wc_53 _ _) rfl inX7 7 (by decide) q_561 rfl dX7_spillsOne_151 ?_
  refine X_bipush C (7 : Int32) dX7_spillsOne_154 (by decide) ?_
  refine X_aload_n C 0 0 dX7_spillsOne_156 rfl rfl ?_
  refine X_get C (hFu _ (by decide)) (wc_53 _ _) rfl inX7 8 (by decide) q_562 rfl dX7_spillsOne_157 ?_
  refine X_iconst C (1 : Int32) dX7_spillsOne_160 (by decide) ?_
  refine X_isub C dX7_spillsOne_161 ?_
  refine X_imul C dX7_spillsOne_162 ?_
  refine X_iconst C (4 : Int32) dX7_spillsOne_163 (by decide) ?_
  refine X_iadd C dX7_spillsOne_164 ?_
  refine X_dup2 C dX7_spillsOne_165 rfl rfl ?_
  obtain ⟨hin, h⟩ := h
  refine X_iald C (hFu _ (by decide)) (wc_58 _ _) hin dX7_spillsOne_166 ?_
  refine X_iconst C (1 : Int32) dX7_spillsOne_167 (by decide) ?_
  refine X_iload_n C 1 1 dX7_spillsOne_168 rfl rfl ?_
  refine X_ishl C dX7_spillsOne_169 ?_
  refine X_ior C dX7_spillsOne_170 ?_
  obtain ⟨hin, h⟩ := h
  obtain ⟨S1, eS1⟩ : ∃ z, z = mput S 58 (Int32.toNatClampNeg (((7 : Int32) * ((S 53 8) - (1 : Int32))) + (4 : Int32))) ((S 58 (Int32.toNatClampNeg (((7 : Int32) * ((S 53 8) - (1 : Int32))) + (4 : Int32)))) ||| ((1 : Int32) <<< (x1 &&& 31))) := ⟨_, rfl⟩
  have h := h S1 eS1
  refine X_iast C (hFu _ (by decide)) (wc_58 _ _) hin eS1 (wc_58 _ _) dX7_spillsOne_171 ?_
  refine X_iconst C (5 : Int32) dX7_spillsOne_172 (by decide) ?_
  refine X_aload_n C 0 0 dX7_spillsOne_173 rfl rfl ?_
  refine X_get C (hFu _ (by decide)) (wc_53 _ _) rfl inX7 10 (by decide) q_564 rfl dX7_spillsOne_174 ?_
  refine X_imul C dX7_spillsOne_177 ?_
  refine X_istore_n C 3 [(3, .int ((5 : Int32) * (S1 53 10))), (0, .ref (xad (kG κ) 53)), (1, .int x1), (2, .int x2)] dX7_spillsOne_178 rfl (by decide) rfl ?_
  refine X_aload_n C 0 1 dX7_spillsOne_179 rfl rfl ?_
  refine X_get C (hFu _ (by decide)) (wc_53 _ _) rfl inX7 9 (by decide) q_563 rfl dX7_spillsOne_180 ?_
  refine X_iload_n C 3 0 dX7_spillsOne_183 rfl rfl ?_
  refine X_aload_n C 0 1 dX7_spillsOne_184 rfl rfl ?_
  refine X_iconst C (0 : Int32) dX7_spillsOne_185 (by decide) ?_
  refine X_callVi C eX7_last [.int (0 : Int32)] [.int ((5 : Int32) * (S1 53 10)), .ref (xad (kG κ) 59)] (M_X7_last C.g_J hFu h) (hFu _ (by decide)) (wc_53 _ _) rfl q_732 rfl ⟨(Nat.le_of_ble_eq_true rfl), (Nat.le_of_ble_eq_true rfl)⟩ rfl (Nat.le_of_ble_eq_true rfl) dX7_spillsOne_186 (fun r3 S2 h => ?_)
  obtain ⟨hin, h⟩ := h
  obtain ⟨S4, eS4⟩ : ∃ z, z = mput S2 59 (Int32.toNatClampNeg ((5 : Int32) * (S1 53 10))) r3 := ⟨_, rfl⟩
  have h := h S4 eS4
  refine X_iast C (hFu _ (by decide)) (wc_59 _ _) hin eS4 (wc_59 _ _) dX7_spillsOne_189 ?_
  refine X_aload_n C 0 1 dX7_spillsOne_190 rfl rfl ?_
  refine X_get C (hFu _ (by decide)) (wc_53 _ _) rfl inX7 9 (by decide) q_563 rfl dX7_spillsOne_191 ?_
  refine X_iload_n C 3 0 dX7_spillsOne_194 rfl rfl ?_
  refine X_iconst C (1 : Int32) dX7_spillsOne_195 (by decide) ?_
  refine X_iadd C dX7_spillsOne_196 ?_
  refine X_aload_n C 0 1 dX7_spillsOne_197 rfl rfl ?_
  refine X_iconst C (1 : Int32) dX7_spillsOne_198 (by decide) ?_
  refine X_callVi C eX7_last [.int (1 : Int32)] [.int (((5 : Int32) * (S1 53 10)) + (1 : Int32)), .ref (xad (kG κ) 59)] (M_X7_last C.g_J hFu h) (hFu _ (by decide)) (wc_53 _ _) rfl q_732 rfl ⟨(Nat.le_of_ble_eq_true rfl), (Nat.le_of_ble_eq_true rfl)⟩ rfl (Nat.le_of_ble_eq_true rfl) dX7_spillsOne_199 (fun r6 S5 h => ?_)
  obtain ⟨hin, h⟩ := h
  obtain ⟨S7, eS7⟩ : ∃ z, z = mput S5 59 (Int32.toNatClampNeg (((5 : Int32) * (S1 53 10)) + (1 : Int32))) r6 := ⟨_, rfl⟩
  have h := h S7 eS7
  refine X_iast C (hFu _ (by decide)) (wc_59 _ _) hin eS7 (wc_59 _ _) dX7_spillsOne_202 ?_
  refine X_aload_n C 0 1 dX7_spillsOne_203 rfl rfl ?_
  refine X_get C (hFu _ (by decide)) (wc_53 _ _) rfl inX7 9 (by decide) q_563 rfl dX7_spillsOne_204 ?_
  refine X_iload_n C 3 0 dX7_spillsOne_207 rfl rfl ?_
  refine X_iconst C (2 : Int32) dX7_spillsOne_208 (by decide) ?_
  refine X_iadd C dX7_spillsOne_209 ?_
  refine X_iload_n C 1 2 dX7_spillsOne_210 rfl rfl ?_
  obtain ⟨hin, h⟩ := h
  obtain ⟨S8, eS8⟩ : ∃ z, z = mput S7 59 (Int32.toNatClampNeg (((5 : Int32) * (S1 53 10)) + (2 : Int32))) x1 := ⟨_, rfl⟩
  have h := h S8 eS8
  refine X_iast C (hFu _ (by decide)) (wc_59 _ _) hin eS8 (wc_59 _ _) dX7_spillsOne_211 ?_
  refine X_aload_n C 0 1 dX7_spillsOne_212 rfl rfl ?_
  refine X_get C (hFu _ (by decide)) (wc_53 _ _) rfl inX7 9 (by decide) q_563 rfl dX7_spillsOne_213 ?_
  refine X_iload_n C 3 0 dX7_spillsOne_216 rfl rfl ?_
  refine X_iconst C (3 : Int32) dX7_spillsOne_217 (by decide) ?_
  refine X_iadd C dX7_spillsOne_218 ?_
  refine X_iload_n C 2 3 dX7_spillsOne_219 rfl rfl ?_
  obtain ⟨hin, h⟩ := h
  obtain ⟨S9, eS9⟩ : ∃ z, z = mput S8 59 (Int32.toNatClampNeg (((5 : Int32) * (S1 53 10)) + (3 : Int32))) x2 := ⟨_, rfl⟩
  have h := h S9 eS9
  refine X_iast C (hFu _ (by decide)) (wc_59 _ _) hin eS9 (wc_59 _ _) dX7_spillsOne_220 ?_
  refine X_aload_n C 0 1 dX7_spillsOne_221 rfl rfl ?_
  refine X_dup C dX7_spillsOne_222 rfl ?_
  refine X_get C (hFu _ (by decide)) (wc_53 _ _) rfl inX7 10 (by decide) q_564 rfl dX7_spillsOne_223 ?_
  refine X_iconst C (1 : Int32) dX7_spillsOne_226 (by decide) ?_
  refine X_iadd C dX7_spillsOne_227 ?_
  obtain ⟨S10, eS10⟩ : ∃ z, z = mput S9 53 10 ((S9 53 10) + (1 : Int32)) := ⟨_, rfl⟩
  have h := h S10 eS10
  refine X_put C (hFu _ (by decide)) (wc_53 _ _) rfl inX7 tyX7_ok nmX7 10 (by decide) q_564 rfl rfl rfl (Nat.le_of_ble_eq_true rfl) eS10 (wc_53 _ _) dX7_spillsOne_228 ?_
  exact X_vret C E h dX7_spillsOne_231
set_option maxRecDepth 100000 in
set_option maxHeartbeats 4000000 in
theorem K_X7_spillsOne_144 {κ : Kx} (C : XC κ RX7 cX7_spillsOne 4 3 67) {K : Mem → Prop} (E : XRet κ none (va_Qv K (XB (kG κ)) (XA (kG κ)))) (hFu : XF (kG κ)) {R43 : Mem → Int32 → Int32 → Int32 → Prop} (hR43 : ∀ (S : Mem) (x1 x2 x3 : Int32), R43 S x1 x2 x3 → XW κ S 43 [(0, .ref (xad (kG κ) 53)), (1, .int x1), (2, .int x2), (3, .int x3)] []) {S : Mem} {x1 : Int32} {x2 : Int32} {x3 : Int32} (h : B_X7_spillsOne_144 R43 K S x1 x2 x3) : XW κ S 144 [(0, .ref (xad (kG κ) 53)), (1, .int x1), (2, .int x2), (3, .int x3)] [] := by
  refine X_iinc C (x3 + (1 : Int32)) 3 [(3, .int (x3 + (1 : Int32))), (0, .ref (xad (kG κ) 53)), (1, .int x1), (2, .int x2)] dX7_spillsOne_144 rfl rfl (by decide) rfl ?_
  refine X_goto C 43 dX7_spillsOne_147 (by decide) ?_
  refine X_sub [1, 2, 3, 0] rfl ?_
  exact hR43 _ _ _ _ h
set_option maxRecDepth 100000 in
set_option maxHeartbeats 4000000 in
theorem K_X7_spillsOne_43 {κ : Kx} (C : XC κ RX7 cX7_spillsOne 4 3 67) {K : Mem → Prop} (E : XRet κ none (va_Qv K (XB (kG κ)) (XA (kG κ)))) (hFu : XF (kG κ)) : ∀ (n : Nat) (S : Mem) (x1 : Int32) (x2 : Int32) (x3 : Int32), B_X7_spillsOne_43 K n S x1 x2 x3 → XW κ S 43 [(0, .ref (xad (kG κ) 53)), (1, .int x1), (2, .int x2), (3, .int x3)] [] := by
  intro n
  induction n with
  | zero => intro S x1 x2 x3 h; exact h.elim
  | succ n ih =>
    intro S x1 x2 x3 h
    refine X_iload_n C 3 3 dX7_spillsOne_43 rfl rfl ?_
    refine X_aload_n C 0 0 dX7_spillsOne_44 rfl rfl ?_
    refine X_get C (hFu _ (by decide)) (wc_53 _ _) rfl inX7 6 (by decide) q_560 rfl dX7_spillsOne_45 ?_
    refine X_icmp_ge C 150 dX7_spillsOne_48 (by decide) (fun c => ?_) (fun c => ?_)
    · have h := h.1 c
      refine X_sub [0, 1, 2] rfl ?_
      exact K_X7_spillsOne_150 C E hFu h
    · have h := h.2 c
      refine X_aload_n C 0 0 dX7_spillsOne_51 rfl rfl ?_
      refine X_aload_n C 0 0 dX7_spillsOne_52 rfl rfl ?_
      refine X_get C (hFu _ (by decide)) (wc_53 _ _) rfl inX7 5 (by decide) q_559 rfl dX7_spillsOne_53 ?_
      refine X_iconst C (5 : Int32) dX7_spillsOne_56 (by decide) ?_
      refine X_iload_n C 3 3 dX7_spillsOne_57 rfl rfl ?_
      refine X_imul C dX7_spillsOne_58 ?_
      obtain ⟨hin, h⟩ := h
      refine X_iald C (hFu _ (by decide)) (wc_57 _ _) hin dX7_spillsOne_59 ?_
      refine X_aload_n C 0 0 dX7_spillsOne_60 rfl rfl ?_
      refine X_iconst C (0 : Int32) dX7_spillsOne_61 (by decide) ?_
      refine X_callVi C eX7_last [.int (0 : Int32)] [.int (S 57 (Int32.toNatClampNeg ((5 : Int32) * x3))), .ref (xad (kG κ) 53)] (M_X7_last C.g_J hFu h) (hFu _ (by decide)) (wc_53 _ _) rfl q_732 rfl ⟨(Nat.le_of_ble_eq_true rfl), (Nat.le_of_ble_eq_true rfl)⟩ rfl (Nat.le_of_ble_eq_true rfl) dX7_spillsOne_62 (fun r12 S11 h => ?_)
      refine X_aload_n C 0 0 dX7_spillsOne_65 rfl rfl ?_
      refine X_get C (hFu _ (by decide)) (wc_53 _ _) rfl inX7 14 (by decide) q_568 rfl dX7_spillsOne_66 ?_
      refine X_callVi C eX7_partOf [.int (S 57 (Int32.toNatClampNeg ((5 : Int32) * x3))), .int r12, .int (S11 53 14)] [] (M_X7_partOf C.g_J hFu h) (hFu _ (by decide)) (wc_53 _ _) rfl q_695 rfl ⟨(Nat.le_of_ble_eq_true rfl), (Nat.le_of_ble_eq_true rfl)⟩ rfl (Nat.le_of_ble_eq_true rfl) dX7_spillsOne_69 (fun r14 S13 h => ?_)
      refine X_iload_n C 1 1 dX7_spillsOne_72 rfl rfl ?_
      refine X_icmp_ne C 144 dX7_spillsOne_73 (by decide) (fun c => ?_) (fun c => ?_)
      · have h := h.1 c
        exact K_X7_spillsOne_144 C E hFu (fun _ _ _ _ h => ih _ _ _ _ h) h
      · have h := h.2 c
        refine X_aload_n C 0 0 dX7_spillsOne_76 rfl rfl ?_
        refine X_aload_n C 0 0 dX7_spillsOne_77 rfl rfl ?_
        refine X_aload_n C 0 0 dX7_spillsOne_78 rfl rfl ?_
        refine X_get C (hFu _ (by decide)) (wc_53 _ _) rfl inX7 5 (by decide) q_559 rfl dX7_spillsOne_79 ?_
        refine X_iconst C (5 : Int32) dX7_spillsOne_82 (by decide) ?_
        refine X_iload_n C 3 3 dX7_spillsOne_83 rfl rfl ?_
        refine X_imul C dX7_spillsOne_84 ?_
        obtain ⟨hin, h⟩ := h
        refine X_iald C (hFu _ (by decide)) (wc_57 _ _) hin dX7_spillsOne_85 ?_
        refine X_aload_n C 0 0 dX7_spillsOne_86 rfl rfl ?_
        refine X_get C (hFu _ (by decide)) (wc_53 _ _) rfl inX7 5 (by decide) q_559 rfl dX7_spillsOne_87 ?_
        refine X_iconst C (5 : Int32) dX7_spillsOne_90 (by decide) ?_
        refine X_iload_n C 3 3 dX7_spillsOne_91 rfl rfl ?_
        refine X_imul C dX7_spillsOne_92 ?_
        refine X_iconst C (1 : Int32) dX7_spillsOne_93 (by decide) ?_
        refine X_iadd C dX7_spillsOne_94 ?_
        obtain ⟨hin, h⟩ := h
        refine X_iald C (hFu _ (by decide)) (wc_57 _ _) hin dX7_spillsOne_95 ?_
        refine X_aload_n C 0 0 dX7_spillsOne_96 rfl rfl ?_
        refine X_get C (hFu _ (by decide)) (wc_53 _ _) rfl inX7 5 (by decide) q_559 rfl dX7_spillsOne_97 ?_
        refine X_iconst C (5 : Int32) dX7_spillsOne_100 (by decide) ?_
        refine X_iload_n C 3 3 dX7_spillsOne_101 rfl rfl ?_
        refine X_imul C dX7_spillsOne_102 ?_
        refine X_iconst C (2 : Int32) dX7_spillsOne_103 (by decide) ?_
        refine X_iadd C dX7_spillsOne_104 ?_
        obtain ⟨hin, h⟩ := h
        refine X_iald C (hFu _ (by decide)) (wc_57 _ _) hin dX7_spillsOne_105 ?_
        refine X_aload_n C 0 0 dX7_spillsOne_106 rfl rfl ?_
        refine X_get C (hFu _ (by decide)) (wc_53 _ _) rfl inX7 5 (by decide) q_559 rfl dX7_spillsOne_107 ?_
        refine X_iconst C (5 : Int32) dX7_spillsOne_110 (by decide) ?_
        refine X_iload_n C 3 3 dX7_spillsOne_111 rfl rfl ?_
        refine X_imul C dX7_spillsOne_112 ?_
        refine X_iconst C (3 : Int32) dX7_spillsOne_113 (by decide) ?_
        refine X_iadd C dX7_spillsOne_114 ?_
        obtain ⟨hin, h⟩ := h
        refine X_iald C (hFu _ (by decide)) (wc_57 _ _) hin dX7_spillsOne_115 ?_
        refine X_aload_n C 0 0 dX7_spillsOne_116 rfl rfl ?_
        refine X_get C (hFu _ (by decide)) (wc_53 _ _) rfl inX7 5 (by decide) q_559 rfl dX7_spillsOne_117 ?_
        refine X_iconst C (5 : Int32) dX7_spillsOne_120 (by decide) ?_
        refine X_iload_n C 3 3 dX7_spillsOne_121 rfl rfl ?_
        refine X_imul C dX7_spillsOne_122 ?_
        refine X_iconst C (4 : Int32) dX7_spillsOne_123 (by decide) ?_
        refine X_iadd C dX7_spillsOne_124 ?_
        obtain ⟨hin, h⟩ := h
        refine X_iald C (hFu _ (by decide)) (wc_57 _ _) hin dX7_spillsOne_125 ?_
        refine X_callVi C eX7_makes [.int (S13 57 (Int32.toNatClampNeg ((5 : Int32) * x3))), .int (S13 57 (Int32.toNatClampNeg (((5 : Int32) * x3) + (1 : Int32)))), .int (S13 57 (Int32.toNatClampNeg (((5 : Int32) * x3) + (2 : Int32)))), .int (S13 57 (Int32.toNatClampNeg (((5 : Int32) * x3) + (3 : Int32)))), .int (S13 57 (Int32.toNatClampNeg (((5 : Int32) * x3) + (4 : Int32))))] [.ref (xad (kG κ) 53)] (M_X7_makes C.g_J hFu h) (hFu _ (by decide)) (wc_53 _ _) rfl q_712 rfl ⟨(Nat.le_of_ble_eq_true rfl), (Nat.le_of_ble_eq_true rfl)⟩ rfl (Nat.le_of_ble_eq_true rfl) dX7_spillsOne_126 (fun r16 S15 h => ?_)
        refine X_iload_n C 1 1 dX7_spillsOne_129 rfl rfl ?_
        refine X_callVv C eX7_writes [.int r16, .int x1] [] (M_X7_writes C.g_J hFu h) (hFu _ (by decide)) (wc_53 _ _) rfl q_736 rfl ⟨(Nat.le_of_ble_eq_true rfl), (Nat.le_of_ble_eq_true rfl)⟩ rfl (Nat.le_of_ble_eq_true rfl) dX7_spillsOne_130 (fun S17 h => ?_)
        refine X_aload_n C 0 0 dX7_spillsOne_133 rfl rfl ?_
        refine X_iload_n C 3 3 dX7_spillsOne_134 rfl rfl ?_
        refine X_callVv C eX7_takesOut [.int x3] [] (M_X7_takesOut C.g_J hFu h) (hFu _ (by decide)) (wc_53 _ _) rfl q_756 rfl ⟨(Nat.le_of_ble_eq_true rfl), (Nat.le_of_ble_eq_true rfl)⟩ rfl (Nat.le_of_ble_eq_true rfl) dX7_spillsOne_135 (fun S19 h => ?_)
        refine X_iinc C (x3 + (-1 : Int32)) 3 [(3, .int (x3 + (-1 : Int32))), (0, .ref (xad (kG κ) 53)), (1, .int x1), (2, .int x2)] dX7_spillsOne_138 rfl rfl (by decide) rfl ?_
        refine X_iinc C (x2 + (1 : Int32)) 3 [(2, .int (x2 + (1 : Int32))), (3, .int (x3 + (-1 : Int32))), (0, .ref (xad (kG κ) 53)), (1, .int x1)] dX7_spillsOne_141 rfl rfl (by decide) rfl ?_
        refine X_sub [2, 3, 0, 1] rfl ?_
        exact K_X7_spillsOne_144 C E hFu (fun _ _ _ _ h => ih _ _ _ _ h) h
set_option maxRecDepth 100000 in
set_option maxHeartbeats 4000000 in
theorem K_X7_spillsOne_39 {κ : Kx} (C : XC κ RX7 cX7_spillsOne 4 3 67) {K : Mem → Prop} (E : XRet κ none (va_Qv K (XB (kG κ)) (XA (kG κ)))) (hFu : XF (kG κ)) {S : Mem} {x1 : Int32} (h : B_X7_spillsOne_39 K S x1) : XW κ S 39 [(0, .ref (xad (kG κ) 53)), (1, .int x1)] [] := by
  refine X_iconst C (0 : Int32) dX7_spillsOne_39 (by decide) ?_
  refine X_istore_n C 2 [(2, .int (0 : Int32)), (0, .ref (xad (kG κ) 53)), (1, .int x1)] dX7_spillsOne_40 rfl (by decide) rfl ?_
  refine X_iconst C (0 : Int32) dX7_spillsOne_41 (by decide) ?_
  refine X_istore_n C 3 [(3, .int (0 : Int32)), (2, .int (0 : Int32)), (0, .ref (xad (kG κ) 53)), (1, .int x1)] dX7_spillsOne_42 rfl (by decide) rfl ?_
  refine X_sub [2, 3, 1, 0] rfl ?_
  obtain ⟨n21, h⟩ := h
  exact K_X7_spillsOne_43 C E hFu n21 _ _ _ _ h
set_option maxRecDepth 100000 in
set_option maxHeartbeats 4000000 in
theorem K_X7_spillsOne_32 {κ : Kx} (C : XC κ RX7 cX7_spillsOne 4 3 67) {K : Mem → Prop} (E : XRet κ none (va_Qv K (XB (kG κ)) (XA (kG κ)))) (hFu : XF (kG κ)) {R4 : Mem → Int32 → Int32 → Prop} (hR4 : ∀ (S : Mem) (x1 x2 : Int32), R4 S x1 x2 → XW κ S 4 [(0, .ref (xad (kG κ) 53)), (1, .int x1), (2, .int x2)] []) {S : Mem} {x2 : Int32} {y0 : Int32} (h : B_X7_spillsOne_32 R4 K S x2 y0) : XW κ S 32 [(0, .ref (xad (kG κ) 53)), (2, .int x2)] [.int y0] := by
  refine X_istore_n C 1 [(1, .int y0), (0, .ref (xad (kG κ) 53)), (2, .int x2)] dX7_spillsOne_32 rfl (by decide) rfl ?_
  refine X_iinc C (x2 + (1 : Int32)) 2 [(2, .int (x2 + (1 : Int32))), (1, .int y0), (0, .ref (xad (kG κ) 53))] dX7_spillsOne_33 rfl rfl (by decide) rfl ?_
  refine X_goto C 4 dX7_spillsOne_36 (by decide) ?_
  refine X_sub [2, 1, 0] rfl ?_
  exact hR4 _ _ _ h
set_option maxRecDepth 100000 in
set_option maxHeartbeats 4000000 in
theorem K_X7_spillsOne_4 {κ : Kx} (C : XC κ RX7 cX7_spillsOne 4 3 67) {K : Mem → Prop} (E : XRet κ none (va_Qv K (XB (kG κ)) (XA (kG κ)))) (hFu : XF (kG κ)) : ∀ (n : Nat) (S : Mem) (x1 : Int32) (x2 : Int32), B_X7_spillsOne_4 K n S x1 x2 → XW κ S 4 [(0, .ref (xad (kG κ) 53)), (1, .int x1), (2, .int x2)] [] := by
  intro n
  induction n with
  | zero => intro S x1 x2 h; exact h.elim
  | succ n ih =>
    intro S x1 x2 h
    refine X_iload_n C 2 2 dX7_spillsOne_4 rfl rfl ?_
    refine X_iconst C (1 : Int32) dX7_spillsOne_5 (by decide) ?_
    refine X_aload_n C 0 0 dX7_spillsOne_6 rfl rfl ?_
    refine X_get C (hFu _ (by decide)) (wc_53 _ _) rfl inX7 14 (by decide) q_568 rfl dX7_spillsOne_7 ?_
    refine X_ishl C dX7_spillsOne_10 ?_
    refine X_icmp_ge C 39 dX7_spillsOne_11 (by decide) (fun c => ?_) (fun c => ?_)
    · have h := h.1 c
      refine X_sub [0, 1] rfl ?_
      exact K_X7_spillsOne_39 C E hFu h
    · have h := h.2 c
      refine X_aload_n C 0 0 dX7_spillsOne_14 rfl rfl ?_
      refine X_iload_n C 2 2 dX7_spillsOne_15 rfl rfl ?_
      refine X_callVi C eX7_manyOf [.int x2] [] (M_X7_manyOf C.g_J hFu h) (hFu _ (by decide)) (wc_53 _ _) rfl q_752 rfl ⟨(Nat.le_of_ble_eq_true rfl), (Nat.le_of_ble_eq_true rfl)⟩ rfl (Nat.le_of_ble_eq_true rfl) dX7_spillsOne_16 (fun r23 S22 h => ?_)
      refine X_aload_n C 0 0 dX7_spillsOne_19 rfl rfl ?_
      refine X_iload_n C 1 1 dX7_spillsOne_20 rfl rfl ?_
      refine X_callVi C eX7_manyOf [.int x1] [.int r23] (M_X7_manyOf C.g_J hFu h) (hFu _ (by decide)) (wc_53 _ _) rfl q_752 rfl ⟨(Nat.le_of_ble_eq_true rfl), (Nat.le_of_ble_eq_true rfl)⟩ rfl (Nat.le_of_ble_eq_true rfl) dX7_spillsOne_21 (fun r25 S24 h => ?_)
      refine X_icmp_le C 31 dX7_spillsOne_24 (by decide) (fun c => ?_) (fun c => ?_)
      · have h := h.1 c
        refine X_iload_n C 1 1 dX7_spillsOne_31 rfl rfl ?_
        refine X_sub [0, 2] rfl ?_
        exact K_X7_spillsOne_32 C E hFu (fun _ _ _ h => ih _ _ _ h) h
      · have h := h.2 c
        refine X_iload_n C 2 2 dX7_spillsOne_27 rfl rfl ?_
        refine X_goto C 32 dX7_spillsOne_28 (by decide) ?_
        refine X_sub [0, 2] rfl ?_
        exact K_X7_spillsOne_32 C E hFu (fun _ _ _ h => ih _ _ _ h) h
set_option maxRecDepth 100000 in
set_option maxHeartbeats 4000000 in
theorem M_X7_spillsOne {l : Launch} {G : XG} (hJ : XJ G) (hFu : XF G) {S : Mem} {K : Mem → Prop} (h : P_X7_spillsOne S K) : XMv l G yX7_spillsOne cX7_spillsOne 4 3 67 [.ref (xad G 53)] S K := by
  refine X_meth RX7 rfl (by decide +kernel) hJ (Nat.le_of_ble_eq_true rfl) (fun κ hl hG C E => ?_)
  subst hl hG
  show XW κ S 0 [(0, .ref (xad (kG κ) 53))] []
  refine X_iconst C (0 : Int32) dX7_spillsOne_0 (by decide) ?_
  refine X_istore_n C 1 [(1, .int (0 : Int32)), (0, .ref (xad (kG κ) 53))] dX7_spillsOne_1 rfl (by decide) rfl ?_
  refine X_iconst C (1 : Int32) dX7_spillsOne_2 (by decide) ?_
  refine X_istore_n C 2 [(2, .int (1 : Int32)), (1, .int (0 : Int32)), (0, .ref (xad (kG κ) 53))] dX7_spillsOne_3 rfl (by decide) rfl ?_
  refine X_sub [2, 1, 0] rfl ?_
  obtain ⟨n26, h⟩ := h
  exact K_X7_spillsOne_4 C E hFu n26 _ _ _ h
set_option maxRecDepth 100000 in
set_option maxHeartbeats 4000000 in
theorem K_X7_takes_183 {κ : Kx} (C : XC κ RX7 cX7_takes 6 4 90) {K : Int32 → Mem → Prop} (E : XRet κ (some .boolean) (va_Qi K (XB (kG κ)) (XA (kG κ)))) (hFu : XF (kG κ)) {S : Mem} {y0 : Int32} {y1 : Int32} (h : B_X7_takes_183 K S y0 y1) : XW κ S 183 [] [.int y0, .int y1, .ref (xad (kG κ) 58)] := by
  obtain ⟨hin, h⟩ := h
  obtain ⟨S16, eS16⟩ : ∃ z, z = mput S 58 (Int32.toNatClampNeg y1) y0 := ⟨_, rfl⟩
  have h := h S16 eS16
  refine X_iast C (hFu _ (by decide)) (wc_58 _ _) hin eS16 (wc_58 _ _) dX7_takes_183 ?_
  refine X_iconst C (1 : Int32) dX7_takes_184 (by decide) ?_
  exact X_iret C E rfl h dX7_takes_185
set_option maxRecDepth 100000 in
set_option maxHeartbeats 4000000 in
theorem K_X7_takes_126 {κ : Kx} (C : XC κ RX7 cX7_takes 6 4 90) {K : Int32 → Mem → Prop} (E : XRet κ (some .boolean) (va_Qi K (XB (kG κ)) (XA (kG κ)))) (hFu : XF (kG κ)) {S : Mem} {x1 : Int32} {y0 : Int32} {y1 : Int32} (h : B_X7_takes_126 K S x1 y0 y1) : XW κ S 126 [(0, .ref (xad (kG κ) 53)), (1, .int x1)] [.int y0, .int y1, .ref (xad (kG κ) 53)] := by
  refine X_iadd C dX7_takes_126 ?_
  obtain ⟨S13, eS13⟩ : ∃ z, z = mput S 53 13 (y1 + y0) := ⟨_, rfl⟩
  have h := h S13 eS13
  refine X_put C (hFu _ (by decide)) (wc_53 _ _) rfl inX7 tyX7_ok nmX7 13 (by decide) q_567 rfl rfl rfl (Nat.le_of_ble_eq_true rfl) eS13 (wc_53 _ _) dX7_takes_127 ?_
  refine X_aload_n C 0 0 dX7_takes_130 rfl rfl ?_
  refine X_iload_n C 1 1 dX7_takes_131 rfl rfl ?_
  refine X_callVv C eX7_laysGroup [.int x1] [] (M_X7_laysGroup C.g_J hFu h) (hFu _ (by decide)) (wc_53 _ _) rfl q_760 rfl ⟨(Nat.le_of_ble_eq_true rfl), (Nat.le_of_ble_eq_true rfl)⟩ rfl (Nat.le_of_ble_eq_true rfl) dX7_takes_132 (fun S14 h => ?_)
  refine X_bipush C (7 : Int32) dX7_takes_135 (by decide) ?_
  refine X_aload_n C 0 0 dX7_takes_137 rfl rfl ?_
  refine X_get C (hFu _ (by decide)) (wc_53 _ _) rfl inX7 8 (by decide) q_562 rfl dX7_takes_138 ?_
  refine X_iconst C (1 : Int32) dX7_takes_141 (by decide) ?_
  refine X_isub C dX7_takes_142 ?_
  refine X_imul C dX7_takes_143 ?_
  refine X_bipush C (6 : Int32) dX7_takes_144 (by decide) ?_
  refine X_iadd C dX7_takes_146 ?_
  refine X_istore C [(5, .int (((7 : Int32) * ((S14 53 8) - (1 : Int32))) + (6 : Int32))), (0, .ref (xad (kG κ) 53)), (1, .int x1)] dX7_takes_147 (by decide) rfl ?_
  refine X_aload_n C 0 1 dX7_takes_149 rfl rfl ?_
  refine X_get C (hFu _ (by decide)) (wc_53 _ _) rfl inX7 7 (by decide) q_561 rfl dX7_takes_150 ?_
  refine X_iload C 0 dX7_takes_153 rfl ?_
  refine X_aload_n C 0 1 dX7_takes_155 rfl rfl ?_
  refine X_get C (hFu _ (by decide)) (wc_53 _ _) rfl inX7 6 (by decide) q_560 rfl dX7_takes_156 ?_
  refine X_aload_n C 0 1 dX7_takes_159 rfl rfl ?_
  refine X_get C (hFu _ (by decide)) (wc_53 _ _) rfl inX7 7 (by decide) q_561 rfl dX7_takes_160 ?_
  refine X_iload C 0 dX7_takes_163 rfl ?_
  obtain ⟨hin, h⟩ := h
  refine X_iald C (hFu _ (by decide)) (wc_58 _ _) hin dX7_takes_165 ?_
  refine X_icmp_le C 176 dX7_takes_166 (by decide) (fun c => ?_) (fun c => ?_)
  · have h := h.1 c
    refine X_aload_n C 0 1 dX7_takes_176 rfl rfl ?_
    refine X_get C (hFu _ (by decide)) (wc_53 _ _) rfl inX7 7 (by decide) q_561 rfl dX7_takes_177 ?_
    refine X_iload C 0 dX7_takes_180 rfl ?_
    obtain ⟨hin, h⟩ := h
    refine X_iald C (hFu _ (by decide)) (wc_58 _ _) hin dX7_takes_182 ?_
    refine X_sub [] rfl ?_
    exact K_X7_takes_183 C E hFu h
  · have h := h.2 c
    refine X_aload_n C 0 1 dX7_takes_169 rfl rfl ?_
    refine X_get C (hFu _ (by decide)) (wc_53 _ _) rfl inX7 6 (by decide) q_560 rfl dX7_takes_170 ?_
    refine X_goto C 183 dX7_takes_173 (by decide) ?_
    refine X_sub [] rfl ?_
    exact K_X7_takes_183 C E hFu h
set_option maxRecDepth 100000 in
set_option maxHeartbeats 4000000 in
theorem K_X7_takes_111 {κ : Kx} (C : XC κ RX7 cX7_takes 6 4 90) {K : Int32 → Mem → Prop} (E : XRet κ (some .boolean) (va_Qi K (XB (kG κ)) (XA (kG κ)))) (hFu : XF (kG κ)) {S : Mem} {x1 : Int32} {x4 : Int32} (h : B_X7_takes_111 K S x1 x4) : XW κ S 111 [(0, .ref (xad (kG κ) 53)), (1, .int x1), (4, .int x4)] [] := by
  refine X_aload_n C 0 0 dX7_takes_111 rfl rfl ?_
  refine X_dup C dX7_takes_112 rfl ?_
  refine X_get C (hFu _ (by decide)) (wc_53 _ _) rfl inX7 13 (by decide) q_567 rfl dX7_takes_113 ?_
  refine X_iload C 2 dX7_takes_116 rfl ?_
  refine X_if_eq C 125 dX7_takes_118 (by decide) (fun c => ?_) (fun c => ?_)
  · have h := h.1 c
    refine X_iconst C (0 : Int32) dX7_takes_125 (by decide) ?_
    refine X_sub [0, 1] rfl ?_
    exact K_X7_takes_126 C E hFu h
  · have h := h.2 c
    refine X_iconst C (1 : Int32) dX7_takes_121 (by decide) ?_
    refine X_goto C 126 dX7_takes_122 (by decide) ?_
    refine X_sub [0, 1] rfl ?_
    exact K_X7_takes_126 C E hFu h
set_option maxRecDepth 100000 in
set_option maxHeartbeats 4000000 in
theorem K_X7_takes_81 {κ : Kx} (C : XC κ RX7 cX7_takes 6 4 90) {K : Int32 → Mem → Prop} (E : XRet κ (some .boolean) (va_Qi K (XB (kG κ)) (XA (kG κ)))) (hFu : XF (kG κ)) {S : Mem} {x1 : Int32} {y0 : Int32} (h : B_X7_takes_81 K S x1 y0) : XW κ S 81 [(0, .ref (xad (kG κ) 53)), (1, .int x1)] [.int y0] := by
  refine X_istore C [(4, .int y0), (0, .ref (xad (kG κ) 53)), (1, .int x1)] dX7_takes_81 (by decide) rfl ?_
  refine X_iload C 0 dX7_takes_83 rfl ?_
  refine X_if_eq C 111 dX7_takes_85 (by decide) (fun c => ?_) (fun c => ?_)
  · have h := h.1 c
    refine X_sub [1, 2, 0] rfl ?_
    exact K_X7_takes_111 C E hFu h
  · have h := h.2 c
    refine X_aload_n C 0 1 dX7_takes_88 rfl rfl ?_
    refine X_iconst C (0 : Int32) dX7_takes_89 (by decide) ?_
    refine X_callVi C eX7_last [.int (0 : Int32)] [] (M_X7_last C.g_J hFu h) (hFu _ (by decide)) (wc_53 _ _) rfl q_732 rfl ⟨(Nat.le_of_ble_eq_true rfl), (Nat.le_of_ble_eq_true rfl)⟩ rfl (Nat.le_of_ble_eq_true rfl) dX7_takes_90 (fun r18 S17 h => ?_)
    refine X_bipush C (16 : Int32) dX7_takes_93 (by decide) ?_
    refine X_aload_n C 0 1 dX7_takes_95 rfl rfl ?_
    refine X_get C (hFu _ (by decide)) (wc_53 _ _) rfl inX7 14 (by decide) q_568 rfl dX7_takes_96 ?_
    obtain ⟨hne, h⟩ := h
    refine X_idiv C dX7_takes_99 hne ?_
    refine X_iconst C (1 : Int32) dX7_takes_100 (by decide) ?_
    refine X_isub C dX7_takes_101 ?_
    refine X_icmp_ge C 111 dX7_takes_102 (by decide) (fun c => ?_) (fun c => ?_)
    · have h := h.1 c
      refine X_sub [1, 2, 0] rfl ?_
      exact K_X7_takes_111 C E hFu h
    · have h := h.2 c
      refine X_aload_n C 0 1 dX7_takes_105 rfl rfl ?_
      refine X_callVv C eX7_spillsOne [] [] (M_X7_spillsOne C.g_J hFu h) (hFu _ (by decide)) (wc_53 _ _) rfl q_748 rfl ⟨(Nat.le_of_ble_eq_true rfl), (Nat.le_of_ble_eq_true rfl)⟩ rfl (Nat.le_of_ble_eq_true rfl) dX7_takes_106 (fun S19 h => ?_)
      refine X_iconst C (0 : Int32) dX7_takes_109 (by decide) ?_
      exact X_iret C E rfl h dX7_takes_110
set_option maxRecDepth 100000 in
set_option maxHeartbeats 4000000 in
theorem M_X7_takes {l : Launch} {G : XG} (hJ : XJ G) (hFu : XF G) {S : Mem} {a1 : Int32} {K : Int32 → Mem → Prop} (h : P_X7_takes S a1 K) : XMi l G yX7_takes cX7_takes 6 .boolean 4 90 [.ref (xad G 53), .int a1] S K := by
  refine X_meth RX7 rfl (by decide +kernel) hJ (Nat.le_of_ble_eq_true rfl) (fun κ hl hG C E => ?_)
  subst hl hG
  show XW κ S 0 [(0, .ref (xad (kG κ) 53)), (1, .int a1)] []
  refine X_aload_n C 0 0 dX7_takes_0 rfl rfl ?_
  refine X_aload_n C 0 0 dX7_takes_1 rfl rfl ?_
  refine X_iload_n C 1 1 dX7_takes_2 rfl rfl ?_
  refine X_iconst C (0 : Int32) dX7_takes_3 (by decide) ?_
  refine X_callVi C eX7_of [.int a1, .int (0 : Int32)] [.ref (xad (kG κ) 53)] (M_X7_of C.g_J hFu h) (hFu _ (by decide)) (wc_53 _ _) rfl q_720 rfl ⟨(Nat.le_of_ble_eq_true rfl), (Nat.le_of_ble_eq_true rfl)⟩ rfl (Nat.le_of_ble_eq_true rfl) dX7_takes_4 (fun r2 S1 h => ?_)
  refine X_aload_n C 0 0 dX7_takes_7 rfl rfl ?_
  refine X_iconst C (0 : Int32) dX7_takes_8 (by decide) ?_
  refine X_callVi C eX7_last [.int (0 : Int32)] [.int r2, .ref (xad (kG κ) 53)] (M_X7_last C.g_J hFu h) (hFu _ (by decide)) (wc_53 _ _) rfl q_732 rfl ⟨(Nat.le_of_ble_eq_true rfl), (Nat.le_of_ble_eq_true rfl)⟩ rfl (Nat.le_of_ble_eq_true rfl) dX7_takes_9 (fun r4 S3 h => ?_)
  refine X_aload_n C 0 0 dX7_takes_12 rfl rfl ?_
  refine X_get C (hFu _ (by decide)) (wc_53 _ _) rfl inX7 14 (by decide) q_568 rfl dX7_takes_13 ?_
  refine X_callVi C eX7_partOf [.int r2, .int r4, .int (S3 53 14)] [] (M_X7_partOf C.g_J hFu h) (hFu _ (by decide)) (wc_53 _ _) rfl q_695 rfl ⟨(Nat.le_of_ble_eq_true rfl), (Nat.le_of_ble_eq_true rfl)⟩ rfl (Nat.le_of_ble_eq_true rfl) dX7_takes_16 (fun r6 S5 h => ?_)
  refine X_istore_n C 2 [(2, .int r6), (0, .ref (xad (kG κ) 53)), (1, .int a1)] dX7_takes_19 rfl (by decide) rfl ?_
  refine X_aload_n C 0 1 dX7_takes_20 rfl rfl ?_
  refine X_iconst C (4 : Int32) dX7_takes_21 (by decide) ?_
  refine X_callVi C eX7_last [.int (4 : Int32)] [] (M_X7_last C.g_J hFu h) (hFu _ (by decide)) (wc_53 _ _) rfl q_732 rfl ⟨(Nat.le_of_ble_eq_true rfl), (Nat.le_of_ble_eq_true rfl)⟩ rfl (Nat.le_of_ble_eq_true rfl) dX7_takes_22 (fun r8 S7 h => ?_)
  refine X_iload_n C 2 0 dX7_takes_25 rfl rfl ?_
  refine X_ishr C dX7_takes_26 ?_
  refine X_iconst C (1 : Int32) dX7_takes_27 (by decide) ?_
  refine X_iand C dX7_takes_28 ?_
  refine X_iconst C (1 : Int32) dX7_takes_29 (by decide) ?_
  refine X_icmp_ne C 41 dX7_takes_30 (by decide) (fun c => ?_) (fun c => ?_)
  · have h := h.1 c
    refine X_aload_n C 0 1 dX7_takes_41 rfl rfl ?_
    refine X_aload_n C 0 1 dX7_takes_42 rfl rfl ?_
    refine X_iload_n C 1 2 dX7_takes_43 rfl rfl ?_
    refine X_iconst C (0 : Int32) dX7_takes_44 (by decide) ?_
    refine X_callVi C eX7_of [.int a1, .int (0 : Int32)] [.ref (xad (kG κ) 53)] (M_X7_of C.g_J hFu h) (hFu _ (by decide)) (wc_53 _ _) rfl q_720 rfl ⟨(Nat.le_of_ble_eq_true rfl), (Nat.le_of_ble_eq_true rfl)⟩ rfl (Nat.le_of_ble_eq_true rfl) dX7_takes_45 (fun r10 S9 h => ?_)
    refine X_callVi C eX7_inMemory [.int r10] [] (M_X7_inMemory C.g_J hFu h) (hFu _ (by decide)) (wc_53 _ _) rfl q_740 rfl ⟨(Nat.le_of_ble_eq_true rfl), (Nat.le_of_ble_eq_true rfl)⟩ rfl (Nat.le_of_ble_eq_true rfl) dX7_takes_48 (fun r12 S11 h => ?_)
    refine X_istore_n C 3 [(3, .int r12), (2, .int r6), (0, .ref (xad (kG κ) 53)), (1, .int a1)] dX7_takes_51 rfl (by decide) rfl ?_
    refine X_iload_n C 3 0 dX7_takes_52 rfl rfl ?_
    refine X_iconst C (-1 : Int32) dX7_takes_53 (by decide) ?_
    refine X_icmp_eq C 65 dX7_takes_54 (by decide) (fun c => ?_) (fun c => ?_)
    · have h := h.1 c
      refine X_aload_n C 0 2 dX7_takes_65 rfl rfl ?_
      refine X_get C (hFu _ (by decide)) (wc_53 _ _) rfl inX7 6 (by decide) q_560 rfl dX7_takes_66 ?_
      refine X_aload_n C 0 2 dX7_takes_69 rfl rfl ?_
      refine X_get C (hFu _ (by decide)) (wc_53 _ _) rfl inX7 15 (by decide) q_569 rfl dX7_takes_70 ?_
      refine X_icmp_lt C 80 dX7_takes_73 (by decide) (fun c => ?_) (fun c => ?_)
      · have h := h.1 c
        refine X_iconst C (0 : Int32) dX7_takes_80 (by decide) ?_
        refine X_sub [2, 3] rfl ?_
        exact K_X7_takes_81 C E hFu h
      · have h := h.2 c
        refine X_iconst C (1 : Int32) dX7_takes_76 (by decide) ?_
        refine X_goto C 81 dX7_takes_77 (by decide) ?_
        refine X_sub [2, 3] rfl ?_
        exact K_X7_takes_81 C E hFu h
    · have h := h.2 c
      refine X_aload_n C 0 2 dX7_takes_57 rfl rfl ?_
      refine X_iload_n C 3 0 dX7_takes_58 rfl rfl ?_
      refine X_iload_n C 1 3 dX7_takes_59 rfl rfl ?_
      refine X_callVv C eX7_addsTo [.int r12, .int a1] [] (M_X7_addsTo C.g_J hFu h) (hFu _ (by decide)) (wc_53 _ _) rfl q_744 rfl ⟨(Nat.le_of_ble_eq_true rfl), (Nat.le_of_ble_eq_true rfl)⟩ rfl (Nat.le_of_ble_eq_true rfl) dX7_takes_60 (fun S21 h => ?_)
      refine X_iconst C (1 : Int32) dX7_takes_63 (by decide) ?_
      exact X_iret C E rfl h dX7_takes_64
  · have h := h.2 c
    refine X_aload_n C 0 1 dX7_takes_33 rfl rfl ?_
    refine X_iload_n C 1 2 dX7_takes_34 rfl rfl ?_
    refine X_iload_n C 2 0 dX7_takes_35 rfl rfl ?_
    refine X_callVv C eX7_writes [.int a1, .int r6] [] (M_X7_writes C.g_J hFu h) (hFu _ (by decide)) (wc_53 _ _) rfl q_736 rfl ⟨(Nat.le_of_ble_eq_true rfl), (Nat.le_of_ble_eq_true rfl)⟩ rfl (Nat.le_of_ble_eq_true rfl) dX7_takes_36 (fun S23 h => ?_)
    refine X_iconst C (1 : Int32) dX7_takes_39 (by decide) ?_
    exact X_iret C E rfl h dX7_takes_40
set_option maxRecDepth 100000 in
set_option maxHeartbeats 4000000 in
theorem K_X7_finishes_107 {κ : Kx} (C : XC κ RX7 cX7_finishes 3 1 21) {K : Mem → Prop} (E : XRet κ none (va_Qv K (XB (kG κ)) (XA (kG κ)))) (hFu : XF (kG κ)) {S : Mem} (h : B_X7_finishes_107 K S) : XW κ S 107 [(0, .ref (xad (kG κ) 53))] [] := by
  refine X_aload_n C 0 0 dX7_finishes_107 rfl rfl ?_
  refine X_iconst C (0 : Int32) dX7_finishes_108 (by decide) ?_
  obtain ⟨S1, eS1⟩ : ∃ z, z = mput S 53 6 (0 : Int32) := ⟨_, rfl⟩
  have h := h S1 eS1
  refine X_put C (hFu _ (by decide)) (wc_53 _ _) rfl inX7 tyX7_ok nmX7 6 (by decide) q_560 rfl rfl rfl (Nat.le_of_ble_eq_true rfl) eS1 (wc_53 _ _) dX7_finishes_109 ?_
  exact X_vret C E h dX7_finishes_112
set_option maxRecDepth 100000 in
set_option maxHeartbeats 4000000 in
theorem K_X7_finishes_47 {κ : Kx} (C : XC κ RX7 cX7_finishes 3 1 21) {K : Mem → Prop} (E : XRet κ none (va_Qv K (XB (kG κ)) (XA (kG κ)))) (hFu : XF (kG κ)) {R2 : Mem → Int32 → Prop} (hR2 : ∀ (S : Mem) (x1 : Int32), R2 S x1 → XW κ S 2 [(0, .ref (xad (kG κ) 53)), (1, .int x1)] []) {S : Mem} {x1 : Int32} (h : B_X7_finishes_47 R2 K S x1) : XW κ S 47 [(0, .ref (xad (kG κ) 53)), (1, .int x1)] [] := by
  refine X_aload_n C 0 0 dX7_finishes_47 rfl rfl ?_
  refine X_get C (hFu _ (by decide)) (wc_53 _ _) rfl inX7 11 (by decide) q_565 rfl dX7_finishes_48 ?_
  refine X_bipush C (7 : Int32) dX7_finishes_51 (by decide) ?_
  refine X_aload_n C 0 0 dX7_finishes_53 rfl rfl ?_
  refine X_get C (hFu _ (by decide)) (wc_53 _ _) rfl inX7 12 (by decide) q_566 rfl dX7_finishes_54 ?_
  refine X_imul C dX7_finishes_57 ?_
  refine X_iconst C (5 : Int32) dX7_finishes_58 (by decide) ?_
  refine X_iadd C dX7_finishes_59 ?_
  refine X_aload_n C 0 0 dX7_finishes_60 rfl rfl ?_
  refine X_iconst C (0 : Int32) dX7_finishes_61 (by decide) ?_
  refine X_callVi C eX7_last [.int (0 : Int32)] [.int (((7 : Int32) * (S 53 12)) + (5 : Int32)), .ref (xad (kG κ) 60)] (M_X7_last C.g_J hFu h) (hFu _ (by decide)) (wc_53 _ _) rfl q_732 rfl ⟨(Nat.le_of_ble_eq_true rfl), (Nat.le_of_ble_eq_true rfl)⟩ rfl (Nat.le_of_ble_eq_true rfl) dX7_finishes_62 (fun r3 S2 h => ?_)
  obtain ⟨hin, h⟩ := h
  obtain ⟨S4, eS4⟩ : ∃ z, z = mput S2 60 (Int32.toNatClampNeg (((7 : Int32) * (S 53 12)) + (5 : Int32))) r3 := ⟨_, rfl⟩
  have h := h S4 eS4
  refine X_iast C (hFu _ (by decide)) (wc_60 _ _) hin eS4 (wc_60 _ _) dX7_finishes_65 ?_
  refine X_aload_n C 0 0 dX7_finishes_66 rfl rfl ?_
  refine X_get C (hFu _ (by decide)) (wc_53 _ _) rfl inX7 11 (by decide) q_565 rfl dX7_finishes_67 ?_
  refine X_bipush C (7 : Int32) dX7_finishes_70 (by decide) ?_
  refine X_aload_n C 0 0 dX7_finishes_72 rfl rfl ?_
  refine X_get C (hFu _ (by decide)) (wc_53 _ _) rfl inX7 12 (by decide) q_566 rfl dX7_finishes_73 ?_
  refine X_imul C dX7_finishes_76 ?_
  refine X_bipush C (6 : Int32) dX7_finishes_77 (by decide) ?_
  refine X_iadd C dX7_finishes_79 ?_
  refine X_aload_n C 0 0 dX7_finishes_80 rfl rfl ?_
  refine X_iconst C (1 : Int32) dX7_finishes_81 (by decide) ?_
  refine X_callVi C eX7_last [.int (1 : Int32)] [.int (((7 : Int32) * (S4 53 12)) + (6 : Int32)), .ref (xad (kG κ) 60)] (M_X7_last C.g_J hFu h) (hFu _ (by decide)) (wc_53 _ _) rfl q_732 rfl ⟨(Nat.le_of_ble_eq_true rfl), (Nat.le_of_ble_eq_true rfl)⟩ rfl (Nat.le_of_ble_eq_true rfl) dX7_finishes_82 (fun r6 S5 h => ?_)
  obtain ⟨hin, h⟩ := h
  obtain ⟨S7, eS7⟩ : ∃ z, z = mput S5 60 (Int32.toNatClampNeg (((7 : Int32) * (S4 53 12)) + (6 : Int32))) r6 := ⟨_, rfl⟩
  have h := h S7 eS7
  refine X_iast C (hFu _ (by decide)) (wc_60 _ _) hin eS7 (wc_60 _ _) dX7_finishes_85 ?_
  refine X_aload_n C 0 0 dX7_finishes_86 rfl rfl ?_
  refine X_dup C dX7_finishes_87 rfl ?_
  refine X_get C (hFu _ (by decide)) (wc_53 _ _) rfl inX7 12 (by decide) q_566 rfl dX7_finishes_88 ?_
  refine X_iconst C (1 : Int32) dX7_finishes_91 (by decide) ?_
  refine X_iadd C dX7_finishes_92 ?_
  obtain ⟨S8, eS8⟩ : ∃ z, z = mput S7 53 12 ((S7 53 12) + (1 : Int32)) := ⟨_, rfl⟩
  have h := h S8 eS8
  refine X_put C (hFu _ (by decide)) (wc_53 _ _) rfl inX7 tyX7_ok nmX7 12 (by decide) q_566 rfl rfl rfl (Nat.le_of_ble_eq_true rfl) eS8 (wc_53 _ _) dX7_finishes_93 ?_
  refine X_aload_n C 0 0 dX7_finishes_96 rfl rfl ?_
  refine X_iconst C (3 : Int32) dX7_finishes_97 (by decide) ?_
  refine X_callVv C eX7_counts [.int (3 : Int32)] [] (M_X7_counts C.g_J hFu h) (hFu _ (by decide)) (wc_53 _ _) rfl q_724 rfl ⟨(Nat.le_of_ble_eq_true rfl), (Nat.le_of_ble_eq_true rfl)⟩ rfl (Nat.le_of_ble_eq_true rfl) dX7_finishes_98 (fun S9 h => ?_)
  refine X_iinc C (x1 + (1 : Int32)) 1 [(1, .int (x1 + (1 : Int32))), (0, .ref (xad (kG κ) 53))] dX7_finishes_101 rfl rfl (by decide) rfl ?_
  refine X_goto C 2 dX7_finishes_104 (by decide) ?_
  refine X_sub [1, 0] rfl ?_
  exact hR2 _ _ h
set_option maxRecDepth 100000 in
set_option maxHeartbeats 4000000 in
theorem K_X7_finishes_12 {κ : Kx} (C : XC κ RX7 cX7_finishes 3 1 21) {K : Mem → Prop} (E : XRet κ none (va_Qv K (XB (kG κ)) (XA (kG κ)))) (hFu : XF (kG κ)) {R2 : Mem → Int32 → Prop} (hR2 : ∀ (S : Mem) (x1 : Int32), R2 S x1 → XW κ S 2 [(0, .ref (xad (kG κ) 53)), (1, .int x1)] []) : ∀ (n : Nat) (S : Mem) (x1 : Int32) (x2 : Int32), B_X7_finishes_12 R2 K n S x1 x2 → XW κ S 12 [(0, .ref (xad (kG κ) 53)), (1, .int x1), (2, .int x2)] [] := by
  intro n
  induction n with
  | zero => intro S x1 x2 h; exact h.elim
  | succ n ih =>
    intro S x1 x2 h
    refine X_iload_n C 2 2 dX7_finishes_12 rfl rfl ?_
    refine X_iconst C (5 : Int32) dX7_finishes_13 (by decide) ?_
    refine X_icmp_ge C 47 dX7_finishes_14 (by decide) (fun c => ?_) (fun c => ?_)
    · have h := h.1 c
      refine X_sub [0, 1] rfl ?_
      exact K_X7_finishes_47 C E hFu hR2 h
    · have h := h.2 c
      refine X_aload_n C 0 0 dX7_finishes_17 rfl rfl ?_
      refine X_get C (hFu _ (by decide)) (wc_53 _ _) rfl inX7 11 (by decide) q_565 rfl dX7_finishes_18 ?_
      refine X_bipush C (7 : Int32) dX7_finishes_21 (by decide) ?_
      refine X_aload_n C 0 0 dX7_finishes_23 rfl rfl ?_
      refine X_get C (hFu _ (by decide)) (wc_53 _ _) rfl inX7 12 (by decide) q_566 rfl dX7_finishes_24 ?_
      refine X_imul C dX7_finishes_27 ?_
      refine X_iload_n C 2 2 dX7_finishes_28 rfl rfl ?_
      refine X_iadd C dX7_finishes_29 ?_
      refine X_aload_n C 0 0 dX7_finishes_30 rfl rfl ?_
      refine X_get C (hFu _ (by decide)) (wc_53 _ _) rfl inX7 5 (by decide) q_559 rfl dX7_finishes_31 ?_
      refine X_iconst C (5 : Int32) dX7_finishes_34 (by decide) ?_
      refine X_iload_n C 1 1 dX7_finishes_35 rfl rfl ?_
      refine X_imul C dX7_finishes_36 ?_
      refine X_iload_n C 2 2 dX7_finishes_37 rfl rfl ?_
      refine X_iadd C dX7_finishes_38 ?_
      obtain ⟨hin, h⟩ := h
      refine X_iald C (hFu _ (by decide)) (wc_57 _ _) hin dX7_finishes_39 ?_
      obtain ⟨hin, h⟩ := h
      obtain ⟨S11, eS11⟩ : ∃ z, z = mput S 60 (Int32.toNatClampNeg (((7 : Int32) * (S 53 12)) + x2)) (S 57 (Int32.toNatClampNeg (((5 : Int32) * x1) + x2))) := ⟨_, rfl⟩
      have h := h S11 eS11
      refine X_iast C (hFu _ (by decide)) (wc_60 _ _) hin eS11 (wc_60 _ _) dX7_finishes_40 ?_
      refine X_iinc C (x2 + (1 : Int32)) 2 [(2, .int (x2 + (1 : Int32))), (0, .ref (xad (kG κ) 53)), (1, .int x1)] dX7_finishes_41 rfl rfl (by decide) rfl ?_
      refine X_goto C 12 dX7_finishes_44 (by decide) ?_
      refine X_sub [1, 2, 0] rfl ?_
      exact ih _ _ _ h
set_option maxRecDepth 100000 in
set_option maxHeartbeats 4000000 in
theorem K_X7_finishes_2 {κ : Kx} (C : XC κ RX7 cX7_finishes 3 1 21) {K : Mem → Prop} (E : XRet κ none (va_Qv K (XB (kG κ)) (XA (kG κ)))) (hFu : XF (kG κ)) : ∀ (n : Nat) (S : Mem) (x1 : Int32), B_X7_finishes_2 K n S x1 → XW κ S 2 [(0, .ref (xad (kG κ) 53)), (1, .int x1)] [] := by
  intro n
  induction n with
  | zero => intro S x1 h; exact h.elim
  | succ n ih =>
    intro S x1 h
    refine X_iload_n C 1 1 dX7_finishes_2 rfl rfl ?_
    refine X_aload_n C 0 0 dX7_finishes_3 rfl rfl ?_
    refine X_get C (hFu _ (by decide)) (wc_53 _ _) rfl inX7 6 (by decide) q_560 rfl dX7_finishes_4 ?_
    refine X_icmp_ge C 107 dX7_finishes_7 (by decide) (fun c => ?_) (fun c => ?_)
    · have h := h.1 c
      refine X_sub [0] rfl ?_
      exact K_X7_finishes_107 C E hFu h
    · have h := h.2 c
      refine X_iconst C (0 : Int32) dX7_finishes_10 (by decide) ?_
      refine X_istore_n C 2 [(2, .int (0 : Int32)), (0, .ref (xad (kG κ) 53)), (1, .int x1)] dX7_finishes_11 rfl (by decide) rfl ?_
      refine X_sub [1, 2, 0] rfl ?_
      obtain ⟨n12, h⟩ := h
      exact K_X7_finishes_12 C E hFu (fun _ _ h => ih _ _ h) n12 _ _ _ h
set_option maxRecDepth 100000 in
set_option maxHeartbeats 4000000 in
theorem M_X7_finishes {l : Launch} {G : XG} (hJ : XJ G) (hFu : XF G) {S : Mem} {K : Mem → Prop} (h : P_X7_finishes S K) : XMv l G yX7_finishes cX7_finishes 3 1 21 [.ref (xad G 53)] S K := by
  refine X_meth RX7 rfl (by decide +kernel) hJ (Nat.le_of_ble_eq_true rfl) (fun κ hl hG C E => ?_)
  subst hl hG
  show XW κ S 0 [(0, .ref (xad (kG κ) 53))] []
  refine X_iconst C (0 : Int32) dX7_finishes_0 (by decide) ?_
  refine X_istore_n C 1 [(1, .int (0 : Int32)), (0, .ref (xad (kG κ) 53))] dX7_finishes_1 rfl (by decide) rfl ?_
  refine X_sub [1, 0] rfl ?_
  obtain ⟨n13, h⟩ := h
  exact K_X7_finishes_2 C E hFu n13 _ _ h
set_option maxRecDepth 100000 in
set_option maxHeartbeats 4000000 in
theorem K_X7_leavesFiles_139 {κ : Kx} (C : XC κ RX7 cX7_leavesFiles 3 1 21) {K : Mem → Prop} (E : XRet κ none (va_Qv K (XB (kG κ)) (XA (kG κ)))) (hFu : XF (kG κ)) {R50 : Mem → Int32 → Prop} (hR50 : ∀ (S : Mem) (x2 : Int32), R50 S x2 → XW κ S 50 [(0, .ref (xad (kG κ) 53)), (2, .int x2)] []) {S : Mem} {x2 : Int32} (h : B_X7_leavesFiles_139 R50 K S x2) : XW κ S 139 [(0, .ref (xad (kG κ) 53)), (2, .int x2)] [] := by
  refine X_iinc C (x2 + (-1 : Int32)) 1 [(2, .int (x2 + (-1 : Int32))), (0, .ref (xad (kG κ) 53))] dX7_leavesFiles_139 rfl rfl (by decide) rfl ?_
  refine X_goto C 50 dX7_leavesFiles_142 (by decide) ?_
  refine X_sub [1, 0] rfl ?_
  exact hR50 _ _ h
set_option maxRecDepth 100000 in
set_option maxHeartbeats 4000000 in
theorem K_X7_leavesFiles_50 {κ : Kx} (C : XC κ RX7 cX7_leavesFiles 3 1 21) {K : Mem → Prop} (E : XRet κ none (va_Qv K (XB (kG κ)) (XA (kG κ)))) (hFu : XF (kG κ)) : ∀ (n : Nat) (S : Mem) (x2 : Int32), B_X7_leavesFiles_50 K n S x2 → XW κ S 50 [(0, .ref (xad (kG κ) 53)), (2, .int x2)] [] := by
  intro n
  induction n with
  | zero => intro S x2 h; exact h.elim
  | succ n ih =>
    intro S x2 h
    refine X_iload_n C 2 1 dX7_leavesFiles_50 rfl rfl ?_
    refine X_if_lt C 145 dX7_leavesFiles_51 (by decide) (fun c => ?_) (fun c => ?_)
    · have h := h.1 c
      exact X_vret C E h dX7_leavesFiles_145
    · have h := h.2 c
      refine X_aload_n C 0 0 dX7_leavesFiles_54 rfl rfl ?_
      refine X_iconst C (4 : Int32) dX7_leavesFiles_55 (by decide) ?_
      refine X_callVi C eX7_last [.int (4 : Int32)] [] (M_X7_last C.g_J hFu h) (hFu _ (by decide)) (wc_53 _ _) rfl q_732 rfl ⟨(Nat.le_of_ble_eq_true rfl), (Nat.le_of_ble_eq_true rfl)⟩ rfl (Nat.le_of_ble_eq_true rfl) dX7_leavesFiles_56 (fun r2 S1 h => ?_)
      refine X_iload_n C 2 1 dX7_leavesFiles_59 rfl rfl ?_
      refine X_ishr C dX7_leavesFiles_60 ?_
      refine X_iconst C (1 : Int32) dX7_leavesFiles_61 (by decide) ?_
      refine X_iand C dX7_leavesFiles_62 ?_
      refine X_iconst C (1 : Int32) dX7_leavesFiles_63 (by decide) ?_
      refine X_icmp_ne C 139 dX7_leavesFiles_64 (by decide) (fun c => ?_) (fun c => ?_)
      · have h := h.1 c
        exact K_X7_leavesFiles_139 C E hFu (fun _ _ h => ih _ _ h) h
      · have h := h.2 c
        refine X_aload_n C 0 0 dX7_leavesFiles_67 rfl rfl ?_
        refine X_get C (hFu _ (by decide)) (wc_53 _ _) rfl inX7 16 (by decide) q_570 rfl dX7_leavesFiles_68 ?_
        refine X_iconst C (3 : Int32) dX7_leavesFiles_71 (by decide) ?_
        refine X_aload_n C 0 0 dX7_leavesFiles_72 rfl rfl ?_
        refine X_get C (hFu _ (by decide)) (wc_53 _ _) rfl inX7 17 (by decide) q_571 rfl dX7_leavesFiles_73 ?_
        refine X_imul C dX7_leavesFiles_76 ?_
        refine X_aload_n C 0 0 dX7_leavesFiles_77 rfl rfl ?_
        refine X_iconst C (0 : Int32) dX7_leavesFiles_78 (by decide) ?_
        refine X_callVi C eX7_last [.int (0 : Int32)] [.int ((3 : Int32) * (S1 53 17)), .ref (xad (kG κ) 61)] (M_X7_last C.g_J hFu h) (hFu _ (by decide)) (wc_53 _ _) rfl q_732 rfl ⟨(Nat.le_of_ble_eq_true rfl), (Nat.le_of_ble_eq_true rfl)⟩ rfl (Nat.le_of_ble_eq_true rfl) dX7_leavesFiles_79 (fun r4 S3 h => ?_)
        refine X_iconst C (1 : Int32) dX7_leavesFiles_82 (by decide) ?_
        refine X_iadd C dX7_leavesFiles_83 ?_
        obtain ⟨hin, h⟩ := h
        obtain ⟨S5, eS5⟩ : ∃ z, z = mput S3 61 (Int32.toNatClampNeg ((3 : Int32) * (S1 53 17))) (r4 + (1 : Int32)) := ⟨_, rfl⟩
        have h := h S5 eS5
        refine X_iast C (hFu _ (by decide)) (wc_61 _ _) hin eS5 (wc_61 _ _) dX7_leavesFiles_84 ?_
        refine X_aload_n C 0 0 dX7_leavesFiles_85 rfl rfl ?_
        refine X_get C (hFu _ (by decide)) (wc_53 _ _) rfl inX7 16 (by decide) q_570 rfl dX7_leavesFiles_86 ?_
        refine X_iconst C (3 : Int32) dX7_leavesFiles_89 (by decide) ?_
        refine X_aload_n C 0 0 dX7_leavesFiles_90 rfl rfl ?_
        refine X_get C (hFu _ (by decide)) (wc_53 _ _) rfl inX7 17 (by decide) q_571 rfl dX7_leavesFiles_91 ?_
        refine X_imul C dX7_leavesFiles_94 ?_
        refine X_iconst C (1 : Int32) dX7_leavesFiles_95 (by decide) ?_
        refine X_iadd C dX7_leavesFiles_96 ?_
        refine X_aload_n C 0 0 dX7_leavesFiles_97 rfl rfl ?_
        refine X_iconst C (1 : Int32) dX7_leavesFiles_98 (by decide) ?_
        refine X_callVi C eX7_last [.int (1 : Int32)] [.int (((3 : Int32) * (S5 53 17)) + (1 : Int32)), .ref (xad (kG κ) 61)] (M_X7_last C.g_J hFu h) (hFu _ (by decide)) (wc_53 _ _) rfl q_732 rfl ⟨(Nat.le_of_ble_eq_true rfl), (Nat.le_of_ble_eq_true rfl)⟩ rfl (Nat.le_of_ble_eq_true rfl) dX7_leavesFiles_99 (fun r7 S6 h => ?_)
        refine X_aload_n C 0 0 dX7_leavesFiles_102 rfl rfl ?_
        refine X_get C (hFu _ (by decide)) (wc_53 _ _) rfl inX7 14 (by decide) q_568 rfl dX7_leavesFiles_103 ?_
        refine X_ishl C dX7_leavesFiles_106 ?_
        refine X_iload_n C 2 1 dX7_leavesFiles_107 rfl rfl ?_
        refine X_iadd C dX7_leavesFiles_108 ?_
        obtain ⟨hin, h⟩ := h
        obtain ⟨S8, eS8⟩ : ∃ z, z = mput S6 61 (Int32.toNatClampNeg (((3 : Int32) * (S5 53 17)) + (1 : Int32))) ((r7 <<< ((S6 53 14) &&& 31)) + x2) := ⟨_, rfl⟩
        have h := h S8 eS8
        refine X_iast C (hFu _ (by decide)) (wc_61 _ _) hin eS8 (wc_61 _ _) dX7_leavesFiles_109 ?_
        refine X_aload_n C 0 0 dX7_leavesFiles_110 rfl rfl ?_
        refine X_get C (hFu _ (by decide)) (wc_53 _ _) rfl inX7 16 (by decide) q_570 rfl dX7_leavesFiles_111 ?_
        refine X_iconst C (3 : Int32) dX7_leavesFiles_114 (by decide) ?_
        refine X_aload_n C 0 0 dX7_leavesFiles_115 rfl rfl ?_
        refine X_get C (hFu _ (by decide)) (wc_53 _ _) rfl inX7 17 (by decide) q_571 rfl dX7_leavesFiles_116 ?_
        refine X_imul C dX7_leavesFiles_119 ?_
        refine X_iconst C (2 : Int32) dX7_leavesFiles_120 (by decide) ?_
        refine X_iadd C dX7_leavesFiles_121 ?_
        refine X_aload_n C 0 0 dX7_leavesFiles_122 rfl rfl ?_
        refine X_get C (hFu _ (by decide)) (wc_53 _ _) rfl inX7 18 (by decide) q_572 rfl dX7_leavesFiles_123 ?_
        refine X_iload_n C 2 1 dX7_leavesFiles_126 rfl rfl ?_
        obtain ⟨hin, h⟩ := h
        refine X_iald C (hFu _ (by decide)) (wc_62 _ _) hin dX7_leavesFiles_127 ?_
        obtain ⟨hin, h⟩ := h
        obtain ⟨S9, eS9⟩ : ∃ z, z = mput S8 61 (Int32.toNatClampNeg (((3 : Int32) * (S8 53 17)) + (2 : Int32))) (S8 62 (Int32.toNatClampNeg x2)) := ⟨_, rfl⟩
        have h := h S9 eS9
        refine X_iast C (hFu _ (by decide)) (wc_61 _ _) hin eS9 (wc_61 _ _) dX7_leavesFiles_128 ?_
        refine X_aload_n C 0 0 dX7_leavesFiles_129 rfl rfl ?_
        refine X_dup C dX7_leavesFiles_130 rfl ?_
        refine X_get C (hFu _ (by decide)) (wc_53 _ _) rfl inX7 17 (by decide) q_571 rfl dX7_leavesFiles_131 ?_
        refine X_iconst C (1 : Int32) dX7_leavesFiles_134 (by decide) ?_
        refine X_iadd C dX7_leavesFiles_135 ?_
        obtain ⟨S10, eS10⟩ : ∃ z, z = mput S9 53 17 ((S9 53 17) + (1 : Int32)) := ⟨_, rfl⟩
        have h := h S10 eS10
        refine X_put C (hFu _ (by decide)) (wc_53 _ _) rfl inX7 tyX7_ok nmX7 17 (by decide) q_571 rfl rfl rfl (Nat.le_of_ble_eq_true rfl) eS10 (wc_53 _ _) dX7_leavesFiles_136 ?_
        exact K_X7_leavesFiles_139 C E hFu (fun _ _ h => ih _ _ h) h
set_option maxRecDepth 100000 in
set_option maxHeartbeats 4000000 in
theorem K_X7_leavesFiles_41 {κ : Kx} (C : XC κ RX7 cX7_leavesFiles 3 1 21) {K : Mem → Prop} (E : XRet κ none (va_Qv K (XB (kG κ)) (XA (kG κ)))) (hFu : XF (kG κ)) {S : Mem} (h : B_X7_leavesFiles_41 K S) : XW κ S 41 [(0, .ref (xad (kG κ) 53))] [] := by
  refine X_iconst C (1 : Int32) dX7_leavesFiles_41 (by decide) ?_
  refine X_aload_n C 0 0 dX7_leavesFiles_42 rfl rfl ?_
  refine X_get C (hFu _ (by decide)) (wc_53 _ _) rfl inX7 14 (by decide) q_568 rfl dX7_leavesFiles_43 ?_
  refine X_ishl C dX7_leavesFiles_46 ?_
  refine X_iconst C (1 : Int32) dX7_leavesFiles_47 (by decide) ?_
  refine X_isub C dX7_leavesFiles_48 ?_
  refine X_istore_n C 2 [(2, .int (((1 : Int32) <<< ((S 53 14) &&& 31)) - (1 : Int32))), (0, .ref (xad (kG κ) 53))] dX7_leavesFiles_49 rfl (by decide) rfl ?_
  refine X_sub [1, 0] rfl ?_
  obtain ⟨n11, h⟩ := h
  exact K_X7_leavesFiles_50 C E hFu n11 _ _ h
set_option maxRecDepth 100000 in
set_option maxHeartbeats 4000000 in
theorem K_X7_leavesFiles_2 {κ : Kx} (C : XC κ RX7 cX7_leavesFiles 3 1 21) {K : Mem → Prop} (E : XRet κ none (va_Qv K (XB (kG κ)) (XA (kG κ)))) (hFu : XF (kG κ)) : ∀ (n : Nat) (S : Mem) (x2 : Int32), B_X7_leavesFiles_2 K n S x2 → XW κ S 2 [(0, .ref (xad (kG κ) 53)), (2, .int x2)] [] := by
  intro n
  induction n with
  | zero => intro S x2 h; exact h.elim
  | succ n ih =>
    intro S x2 h
    refine X_iload_n C 2 1 dX7_leavesFiles_2 rfl rfl ?_
    refine X_aload_n C 0 0 dX7_leavesFiles_3 rfl rfl ?_
    refine X_get C (hFu _ (by decide)) (wc_53 _ _) rfl inX7 10 (by decide) q_564 rfl dX7_leavesFiles_4 ?_
    refine X_icmp_ge C 41 dX7_leavesFiles_7 (by decide) (fun c => ?_) (fun c => ?_)
    · have h := h.1 c
      refine X_sub [0] rfl ?_
      exact K_X7_leavesFiles_41 C E hFu h
    · have h := h.2 c
      refine X_aload_n C 0 0 dX7_leavesFiles_10 rfl rfl ?_
      refine X_get C (hFu _ (by decide)) (wc_53 _ _) rfl inX7 9 (by decide) q_563 rfl dX7_leavesFiles_11 ?_
      refine X_iconst C (5 : Int32) dX7_leavesFiles_14 (by decide) ?_
      refine X_iload_n C 2 1 dX7_leavesFiles_15 rfl rfl ?_
      refine X_imul C dX7_leavesFiles_16 ?_
      refine X_iconst C (4 : Int32) dX7_leavesFiles_17 (by decide) ?_
      refine X_iadd C dX7_leavesFiles_18 ?_
      refine X_aload_n C 0 0 dX7_leavesFiles_19 rfl rfl ?_
      refine X_get C (hFu _ (by decide)) (wc_53 _ _) rfl inX7 20 (by decide) q_574 rfl dX7_leavesFiles_20 ?_
      refine X_aload_n C 0 0 dX7_leavesFiles_23 rfl rfl ?_
      refine X_get C (hFu _ (by decide)) (wc_53 _ _) rfl inX7 9 (by decide) q_563 rfl dX7_leavesFiles_24 ?_
      refine X_iconst C (5 : Int32) dX7_leavesFiles_27 (by decide) ?_
      refine X_iload_n C 2 1 dX7_leavesFiles_28 rfl rfl ?_
      refine X_imul C dX7_leavesFiles_29 ?_
      refine X_iconst C (2 : Int32) dX7_leavesFiles_30 (by decide) ?_
      refine X_iadd C dX7_leavesFiles_31 ?_
      obtain ⟨hin, h⟩ := h
      refine X_iald C (hFu _ (by decide)) (wc_59 _ _) hin dX7_leavesFiles_32 ?_
      obtain ⟨hin, h⟩ := h
      refine X_iald C (hFu _ (by decide)) (wc_64 _ _) hin dX7_leavesFiles_33 ?_
      obtain ⟨hin, h⟩ := h
      obtain ⟨S12, eS12⟩ : ∃ z, z = mput S 59 (Int32.toNatClampNeg (((5 : Int32) * x2) + (4 : Int32))) (S 64 (Int32.toNatClampNeg (S 59 (Int32.toNatClampNeg (((5 : Int32) * x2) + (2 : Int32)))))) := ⟨_, rfl⟩
      have h := h S12 eS12
      refine X_iast C (hFu _ (by decide)) (wc_59 _ _) hin eS12 (wc_59 _ _) dX7_leavesFiles_34 ?_
      refine X_iinc C (x2 + (1 : Int32)) 1 [(2, .int (x2 + (1 : Int32))), (0, .ref (xad (kG κ) 53))] dX7_leavesFiles_35 rfl rfl (by decide) rfl ?_
      refine X_goto C 2 dX7_leavesFiles_38 (by decide) ?_
      refine X_sub [1, 0] rfl ?_
      exact ih _ _ h
set_option maxRecDepth 100000 in
set_option maxHeartbeats 4000000 in
theorem M_X7_leavesFiles {l : Launch} {G : XG} (hJ : XJ G) (hFu : XF G) {S : Mem} {a1 : Int32} {K : Mem → Prop} (h : P_X7_leavesFiles S a1 K) : XMv l G yX7_leavesFiles cX7_leavesFiles 3 1 21 [.ref (xad G 53), .int a1] S K := by
  refine X_meth RX7 rfl (by decide +kernel) hJ (Nat.le_of_ble_eq_true rfl) (fun κ hl hG C E => ?_)
  subst hl hG
  show XW κ S 0 [(0, .ref (xad (kG κ) 53)), (1, .int a1)] []
  refine X_iload_n C 1 1 dX7_leavesFiles_0 rfl rfl ?_
  refine X_istore_n C 2 [(2, .int a1), (0, .ref (xad (kG κ) 53)), (1, .int a1)] dX7_leavesFiles_1 rfl (by decide) rfl ?_
  refine X_sub [1, 0] rfl ?_
  obtain ⟨n13, h⟩ := h
  exact K_X7_leavesFiles_2 C E hFu n13 _ _ h
set_option maxRecDepth 100000 in
set_option maxHeartbeats 4000000 in
theorem K_X7_doPass_154 {κ : Kx} (C : XC κ RX7 cX7_doPass 8 5 115) {K : Mem → Prop} (E : XRet κ none (va_Qv K (XB (kG κ)) (XA (kG κ)))) (hFu : XF (kG κ)) {S : Mem} {x4 : Int32} (h : B_X7_doPass_154 K S x4) : XW κ S 154 [(0, .ref (xad (kG κ) 53)), (4, .int x4)] [] := by
  refine X_aload_n C 0 0 dX7_doPass_154 rfl rfl ?_
  refine X_callVv C eX7_finishes [] [] (M_X7_finishes C.g_J hFu h) (hFu _ (by decide)) (wc_53 _ _) rfl q_764 rfl ⟨(Nat.le_of_ble_eq_true rfl), (Nat.le_of_ble_eq_true rfl)⟩ rfl (Nat.le_of_ble_eq_true rfl) dX7_doPass_155 (fun S4 h => ?_)
  refine X_aload_n C 0 0 dX7_doPass_158 rfl rfl ?_
  refine X_iload C 1 dX7_doPass_159 rfl ?_
  refine X_callVv C eX7_leavesFiles [.int x4] [] (M_X7_leavesFiles C.g_J hFu h) (hFu _ (by decide)) (wc_53 _ _) rfl q_768 rfl ⟨(Nat.le_of_ble_eq_true rfl), (Nat.le_of_ble_eq_true rfl)⟩ rfl (Nat.le_of_ble_eq_true rfl) dX7_doPass_161 (fun S6 h => ?_)
  exact X_vret C E h dX7_doPass_164
set_option maxRecDepth 100000 in
set_option maxHeartbeats 4000000 in
theorem K_X7_doPass_147 {κ : Kx} (C : XC κ RX7 cX7_doPass 8 5 115) {K : Mem → Prop} (E : XRet κ none (va_Qv K (XB (kG κ)) (XA (kG κ)))) (hFu : XF (kG κ)) {R103 : Mem → Int32 → Int32 → Prop} (hR103 : ∀ (S : Mem) (x4 x5 : Int32), R103 S x4 x5 → XW κ S 103 [(0, .ref (xad (kG κ) 53)), (4, .int x4), (5, .int x5)] []) {S : Mem} {x4 : Int32} {x6 : Int32} (h : B_X7_doPass_147 R103 K S x4 x6) : XW κ S 147 [(0, .ref (xad (kG κ) 53)), (4, .int x4), (6, .int x6)] [] := by
  refine X_iload C 2 dX7_doPass_147 rfl ?_
  refine X_istore C [(5, .int x6), (0, .ref (xad (kG κ) 53)), (4, .int x4), (6, .int x6)] dX7_doPass_149 (by decide) rfl ?_
  refine X_goto C 103 dX7_doPass_151 (by decide) ?_
  refine X_sub [1, 2, 0] rfl ?_
  exact hR103 _ _ _ h
set_option maxRecDepth 100000 in
set_option maxHeartbeats 4000000 in
theorem K_X7_doPass_131 {κ : Kx} (C : XC κ RX7 cX7_doPass 8 5 115) {K : Mem → Prop} (E : XRet κ none (va_Qv K (XB (kG κ)) (XA (kG κ)))) (hFu : XF (kG κ)) {R103 : Mem → Int32 → Int32 → Prop} (hR103 : ∀ (S : Mem) (x4 x5 : Int32), R103 S x4 x5 → XW κ S 103 [(0, .ref (xad (kG κ) 53)), (4, .int x4), (5, .int x5)] []) : ∀ (n : Nat) (S : Mem) (x4 : Int32) (x5 : Int32) (x6 : Int32) (x7 : Int32), B_X7_doPass_131 R103 K n S x4 x5 x6 x7 → XW κ S 131 [(0, .ref (xad (kG κ) 53)), (4, .int x4), (5, .int x5), (6, .int x6), (7, .int x7)] [] := by
  intro n
  induction n with
  | zero => intro S x4 x5 x6 x7 h; exact h.elim
  | succ n ih =>
    intro S x4 x5 x6 x7 h
    refine X_iload C 4 dX7_doPass_131 rfl ?_
    refine X_if_ne C 147 dX7_doPass_133 (by decide) (fun c => ?_) (fun c => ?_)
    · have h := h.1 c
      refine X_sub [0, 1, 3] rfl ?_
      exact K_X7_doPass_147 C E hFu hR103 h
    · have h := h.2 c
      refine X_aload_n C 0 0 dX7_doPass_136 rfl rfl ?_
      refine X_iload C 2 dX7_doPass_137 rfl ?_
      refine X_callVi C eX7_takes [.int x5] [] (M_X7_takes C.g_J hFu h) (hFu _ (by decide)) (wc_53 _ _) rfl q_728 rfl ⟨(Nat.le_of_ble_eq_true rfl), (Nat.le_of_ble_eq_true rfl)⟩ rfl (Nat.le_of_ble_eq_true rfl) dX7_doPass_139 (fun r15 S14 h => ?_)
      refine X_istore C [(7, .int r15), (0, .ref (xad (kG κ) 53)), (4, .int x4), (5, .int x5), (6, .int x6)] dX7_doPass_142 (by decide) rfl ?_
      refine X_goto C 131 dX7_doPass_144 (by decide) ?_
      refine X_sub [1, 2, 3, 4, 0] rfl ?_
      exact ih _ _ _ _ _ h
set_option maxRecDepth 100000 in
set_option maxHeartbeats 4000000 in
theorem K_X7_doPass_103 {κ : Kx} (C : XC κ RX7 cX7_doPass 8 5 115) {K : Mem → Prop} (E : XRet κ none (va_Qv K (XB (kG κ)) (XA (kG κ)))) (hFu : XF (kG κ)) : ∀ (n : Nat) (S : Mem) (x4 : Int32) (x5 : Int32), B_X7_doPass_103 K n S x4 x5 → XW κ S 103 [(0, .ref (xad (kG κ) 53)), (4, .int x4), (5, .int x5)] [] := by
  intro n
  induction n with
  | zero => intro S x4 x5 h; exact h.elim
  | succ n ih =>
    intro S x4 x5 h
    refine X_iload C 2 dX7_doPass_103 rfl ?_
    refine X_iconst C (-1 : Int32) dX7_doPass_105 (by decide) ?_
    refine X_icmp_eq C 154 dX7_doPass_106 (by decide) (fun c => ?_) (fun c => ?_)
    · have h := h.1 c
      refine X_sub [0, 1] rfl ?_
      exact K_X7_doPass_154 C E hFu h
    · have h := h.2 c
      refine X_aload_n C 0 0 dX7_doPass_109 rfl rfl ?_
      refine X_iload C 2 dX7_doPass_110 rfl ?_
      refine X_iconst C (5 : Int32) dX7_doPass_112 (by decide) ?_
      refine X_callVi C eX7_of [.int x5, .int (5 : Int32)] [] (M_X7_of C.g_J hFu h) (hFu _ (by decide)) (wc_53 _ _) rfl q_720 rfl ⟨(Nat.le_of_ble_eq_true rfl), (Nat.le_of_ble_eq_true rfl)⟩ rfl (Nat.le_of_ble_eq_true rfl) dX7_doPass_113 (fun r9 S8 h => ?_)
      refine X_istore C [(6, .int r9), (0, .ref (xad (kG κ) 53)), (4, .int x4), (5, .int x5)] dX7_doPass_116 (by decide) rfl ?_
      refine X_aload_n C 0 1 dX7_doPass_118 rfl rfl ?_
      refine X_iconst C (2 : Int32) dX7_doPass_119 (by decide) ?_
      refine X_callVv C eX7_counts [.int (2 : Int32)] [] (M_X7_counts C.g_J hFu h) (hFu _ (by decide)) (wc_53 _ _) rfl q_724 rfl ⟨(Nat.le_of_ble_eq_true rfl), (Nat.le_of_ble_eq_true rfl)⟩ rfl (Nat.le_of_ble_eq_true rfl) dX7_doPass_120 (fun S10 h => ?_)
      refine X_aload_n C 0 1 dX7_doPass_123 rfl rfl ?_
      refine X_iload C 3 dX7_doPass_124 rfl ?_
      refine X_callVi C eX7_takes [.int x5] [] (M_X7_takes C.g_J hFu h) (hFu _ (by decide)) (wc_53 _ _) rfl q_728 rfl ⟨(Nat.le_of_ble_eq_true rfl), (Nat.le_of_ble_eq_true rfl)⟩ rfl (Nat.le_of_ble_eq_true rfl) dX7_doPass_126 (fun r13 S12 h => ?_)
      refine X_istore C [(7, .int r13), (6, .int r9), (0, .ref (xad (kG κ) 53)), (4, .int x4), (5, .int x5)] dX7_doPass_129 (by decide) rfl ?_
      refine X_sub [2, 3, 4, 1, 0] rfl ?_
      obtain ⟨n16, h⟩ := h
      exact K_X7_doPass_131 C E hFu (fun _ _ _ h => ih _ _ _ h) n16 _ _ _ _ _ h
set_option maxRecDepth 100000 in
set_option maxHeartbeats 4000000 in
theorem K_X7_doPass_56 {κ : Kx} (C : XC κ RX7 cX7_doPass 8 5 115) {K : Mem → Prop} (E : XRet κ none (va_Qv K (XB (kG κ)) (XA (kG κ)))) (hFu : XF (kG κ)) {S : Mem} {x1 : Int32} {x2 : Int32} {x3 : Int32} (h : B_X7_doPass_56 K S x1 x2 x3) : XW κ S 56 [(0, .ref (xad (kG κ) 53)), (1, .int x1), (2, .int x2), (3, .int x3)] [] := by
  refine X_aload_n C 0 0 dX7_doPass_56 rfl rfl ?_
  refine X_get C (hFu _ (by decide)) (wc_53 _ _) rfl inX7 7 (by decide) q_561 rfl dX7_doPass_57 ?_
  refine X_bipush C (7 : Int32) dX7_doPass_60 (by decide) ?_
  refine X_aload_n C 0 0 dX7_doPass_62 rfl rfl ?_
  refine X_get C (hFu _ (by decide)) (wc_53 _ _) rfl inX7 8 (by decide) q_562 rfl dX7_doPass_63 ?_
  refine X_imul C dX7_doPass_66 ?_
  refine X_iload_n C 1 1 dX7_doPass_67 rfl rfl ?_
  obtain ⟨hin, h⟩ := h
  obtain ⟨S1, eS1⟩ : ∃ z, z = mput S 58 (Int32.toNatClampNeg ((7 : Int32) * (S 53 8))) x1 := ⟨_, rfl⟩
  have h := h S1 eS1
  refine X_iast C (hFu _ (by decide)) (wc_58 _ _) hin eS1 (wc_58 _ _) dX7_doPass_68 ?_
  refine X_aload_n C 0 0 dX7_doPass_69 rfl rfl ?_
  refine X_get C (hFu _ (by decide)) (wc_53 _ _) rfl inX7 7 (by decide) q_561 rfl dX7_doPass_70 ?_
  refine X_bipush C (7 : Int32) dX7_doPass_73 (by decide) ?_
  refine X_aload_n C 0 0 dX7_doPass_75 rfl rfl ?_
  refine X_get C (hFu _ (by decide)) (wc_53 _ _) rfl inX7 8 (by decide) q_562 rfl dX7_doPass_76 ?_
  refine X_imul C dX7_doPass_79 ?_
  refine X_iconst C (1 : Int32) dX7_doPass_80 (by decide) ?_
  refine X_iadd C dX7_doPass_81 ?_
  refine X_iload_n C 2 2 dX7_doPass_82 rfl rfl ?_
  obtain ⟨hin, h⟩ := h
  obtain ⟨S2, eS2⟩ : ∃ z, z = mput S1 58 (Int32.toNatClampNeg (((7 : Int32) * (S1 53 8)) + (1 : Int32))) x2 := ⟨_, rfl⟩
  have h := h S2 eS2
  refine X_iast C (hFu _ (by decide)) (wc_58 _ _) hin eS2 (wc_58 _ _) dX7_doPass_83 ?_
  refine X_aload_n C 0 0 dX7_doPass_84 rfl rfl ?_
  refine X_dup C dX7_doPass_85 rfl ?_
  refine X_get C (hFu _ (by decide)) (wc_53 _ _) rfl inX7 8 (by decide) q_562 rfl dX7_doPass_86 ?_
  refine X_iconst C (1 : Int32) dX7_doPass_89 (by decide) ?_
  refine X_iadd C dX7_doPass_90 ?_
  obtain ⟨S3, eS3⟩ : ∃ z, z = mput S2 53 8 ((S2 53 8) + (1 : Int32)) := ⟨_, rfl⟩
  have h := h S3 eS3
  refine X_put C (hFu _ (by decide)) (wc_53 _ _) rfl inX7 tyX7_ok nmX7 8 (by decide) q_562 rfl rfl rfl (Nat.le_of_ble_eq_true rfl) eS3 (wc_53 _ _) dX7_doPass_91 ?_
  refine X_aload_n C 0 0 dX7_doPass_94 rfl rfl ?_
  refine X_get C (hFu _ (by decide)) (wc_53 _ _) rfl inX7 10 (by decide) q_564 rfl dX7_doPass_95 ?_
  refine X_istore C [(4, .int (S3 53 10)), (0, .ref (xad (kG κ) 53)), (1, .int x1), (2, .int x2), (3, .int x3)] dX7_doPass_98 (by decide) rfl ?_
  refine X_iload_n C 3 4 dX7_doPass_100 rfl rfl ?_
  refine X_istore C [(5, .int x3), (4, .int (S3 53 10)), (0, .ref (xad (kG κ) 53)), (1, .int x1), (2, .int x2), (3, .int x3)] dX7_doPass_101 (by decide) rfl ?_
  refine X_sub [2, 1, 0] rfl ?_
  obtain ⟨n17, h⟩ := h
  exact K_X7_doPass_103 C E hFu n17 _ _ _ h
set_option maxRecDepth 100000 in
set_option maxHeartbeats 4000000 in
theorem K_X7_doPass_27 {κ : Kx} (C : XC κ RX7 cX7_doPass 8 5 115) {K : Mem → Prop} (E : XRet κ none (va_Qv K (XB (kG κ)) (XA (kG κ)))) (hFu : XF (kG κ)) : ∀ (n : Nat) (S : Mem) (x1 : Int32) (x2 : Int32) (x3 : Int32) (x4 : Int32), B_X7_doPass_27 K n S x1 x2 x3 x4 → XW κ S 27 [(0, .ref (xad (kG κ) 53)), (1, .int x1), (2, .int x2), (3, .int x3), (4, .int x4)] [] := by
  intro n
  induction n with
  | zero => intro S x1 x2 x3 x4 h; exact h.elim
  | succ n ih =>
    intro S x1 x2 x3 x4 h
    refine X_iload C 4 dX7_doPass_27 rfl ?_
    refine X_bipush C (7 : Int32) dX7_doPass_29 (by decide) ?_
    refine X_icmp_ge C 56 dX7_doPass_31 (by decide) (fun c => ?_) (fun c => ?_)
    · have h := h.1 c
      refine X_sub [0, 1, 2, 3] rfl ?_
      exact K_X7_doPass_56 C E hFu h
    · have h := h.2 c
      refine X_aload_n C 0 0 dX7_doPass_34 rfl rfl ?_
      refine X_get C (hFu _ (by decide)) (wc_53 _ _) rfl inX7 7 (by decide) q_561 rfl dX7_doPass_35 ?_
      refine X_bipush C (7 : Int32) dX7_doPass_38 (by decide) ?_
      refine X_aload_n C 0 0 dX7_doPass_40 rfl rfl ?_
      refine X_get C (hFu _ (by decide)) (wc_53 _ _) rfl inX7 8 (by decide) q_562 rfl dX7_doPass_41 ?_
      refine X_imul C dX7_doPass_44 ?_
      refine X_iload C 4 dX7_doPass_45 rfl ?_
      refine X_iadd C dX7_doPass_47 ?_
      refine X_iconst C (0 : Int32) dX7_doPass_48 (by decide) ?_
      obtain ⟨hin, h⟩ := h
      obtain ⟨S18, eS18⟩ : ∃ z, z = mput S 58 (Int32.toNatClampNeg (((7 : Int32) * (S 53 8)) + x4)) (0 : Int32) := ⟨_, rfl⟩
      have h := h S18 eS18
      refine X_iast C (hFu _ (by decide)) (wc_58 _ _) hin eS18 (wc_58 _ _) dX7_doPass_49 ?_
      refine X_iinc C (x4 + (1 : Int32)) 4 [(4, .int (x4 + (1 : Int32))), (0, .ref (xad (kG κ) 53)), (1, .int x1), (2, .int x2), (3, .int x3)] dX7_doPass_50 rfl rfl (by decide) rfl ?_
      refine X_goto C 27 dX7_doPass_53 (by decide) ?_
      refine X_sub [1, 2, 3, 4, 0] rfl ?_
      exact ih _ _ _ _ _ h
set_option maxRecDepth 100000 in
set_option maxHeartbeats 4000000 in
theorem K_X7_doPass_24 {κ : Kx} (C : XC κ RX7 cX7_doPass 8 5 115) {K : Mem → Prop} (E : XRet κ none (va_Qv K (XB (kG κ)) (XA (kG κ)))) (hFu : XF (kG κ)) {S : Mem} {x1 : Int32} {x2 : Int32} {x3 : Int32} (h : B_X7_doPass_24 K S x1 x2 x3) : XW κ S 24 [(0, .ref (xad (kG κ) 53)), (1, .int x1), (2, .int x2), (3, .int x3)] [] := by
  refine X_iconst C (0 : Int32) dX7_doPass_24 (by decide) ?_
  refine X_istore C [(4, .int (0 : Int32)), (0, .ref (xad (kG κ) 53)), (1, .int x1), (2, .int x2), (3, .int x3)] dX7_doPass_25 (by decide) rfl ?_
  refine X_sub [1, 2, 3, 4, 0] rfl ?_
  obtain ⟨n19, h⟩ := h
  exact K_X7_doPass_27 C E hFu n19 _ _ _ _ _ h
set_option maxRecDepth 100000 in
set_option maxHeartbeats 4000000 in
theorem K_X7_doPass_3 {κ : Kx} (C : XC κ RX7 cX7_doPass 8 5 115) {K : Mem → Prop} (E : XRet κ none (va_Qv K (XB (kG κ)) (XA (kG κ)))) (hFu : XF (kG κ)) : ∀ (n : Nat) (S : Mem) (x1 : Int32) (x2 : Int32) (x3 : Int32) (x4 : Int32), B_X7_doPass_3 K n S x1 x2 x3 x4 → XW κ S 3 [(0, .ref (xad (kG κ) 53)), (1, .int x1), (2, .int x2), (3, .int x3), (4, .int x4)] [] := by
  intro n
  induction n with
  | zero => intro S x1 x2 x3 x4 h; exact h.elim
  | succ n ih =>
    intro S x1 x2 x3 x4 h
    refine X_iload C 4 dX7_doPass_3 rfl ?_
    refine X_bipush C (16 : Int32) dX7_doPass_5 (by decide) ?_
    refine X_icmp_ge C 24 dX7_doPass_7 (by decide) (fun c => ?_) (fun c => ?_)
    · have h := h.1 c
      refine X_sub [0, 1, 2, 3] rfl ?_
      exact K_X7_doPass_24 C E hFu h
    · have h := h.2 c
      refine X_aload_n C 0 0 dX7_doPass_10 rfl rfl ?_
      refine X_get C (hFu _ (by decide)) (wc_53 _ _) rfl inX7 20 (by decide) q_574 rfl dX7_doPass_11 ?_
      refine X_iload C 4 dX7_doPass_14 rfl ?_
      refine X_iconst C (0 : Int32) dX7_doPass_16 (by decide) ?_
      obtain ⟨hin, h⟩ := h
      obtain ⟨S20, eS20⟩ : ∃ z, z = mput S 64 (Int32.toNatClampNeg x4) (0 : Int32) := ⟨_, rfl⟩
      have h := h S20 eS20
      refine X_iast C (hFu _ (by decide)) (wc_64 _ _) hin eS20 (wc_64 _ _) dX7_doPass_17 ?_
      refine X_iinc C (x4 + (1 : Int32)) 4 [(4, .int (x4 + (1 : Int32))), (0, .ref (xad (kG κ) 53)), (1, .int x1), (2, .int x2), (3, .int x3)] dX7_doPass_18 rfl rfl (by decide) rfl ?_
      refine X_goto C 3 dX7_doPass_21 (by decide) ?_
      refine X_sub [1, 2, 3, 4, 0] rfl ?_
      exact ih _ _ _ _ _ h
set_option maxRecDepth 100000 in
set_option maxHeartbeats 4000000 in
theorem M_X7_doPass {l : Launch} {G : XG} (hJ : XJ G) (hFu : XF G) {S : Mem} {a1 : Int32} {a2 : Int32} {a3 : Int32} {K : Mem → Prop} (h : P_X7_doPass S a1 a2 a3 K) : XMv l G yX7_doPass cX7_doPass 8 5 115 [.ref (xad G 53), .int a1, .int a2, .int a3] S K := by
  refine X_meth RX7 rfl (by decide +kernel) hJ (Nat.le_of_ble_eq_true rfl) (fun κ hl hG C E => ?_)
  subst hl hG
  show XW κ S 0 [(0, .ref (xad (kG κ) 53)), (1, .int a1), (2, .int a2), (3, .int a3)] []
  refine X_iconst C (0 : Int32) dX7_doPass_0 (by decide) ?_
  refine X_istore C [(4, .int (0 : Int32)), (0, .ref (xad (kG κ) 53)), (1, .int a1), (2, .int a2), (3, .int a3)] dX7_doPass_1 (by decide) rfl ?_
  refine X_sub [1, 2, 3, 4, 0] rfl ?_
  obtain ⟨n21, h⟩ := h
  exact K_X7_doPass_3 C E hFu n21 _ _ _ _ _ h
set_option maxRecDepth 100000 in
set_option maxHeartbeats 4000000 in
theorem K_X7_run_165 {κ : Kx} (C : XC κ RX7 cX7_run 5 6 142) {K : Mem → Prop} (E : XRet κ none (va_Qv K (XB (kG κ)) (XA (kG κ)))) (hFu : XF (kG κ)) : ∀ (n : Nat) (S : Mem), B_X7_run_165 K n S → XW κ S 165 [(0, .ref (xad (kG κ) 53))] [] := by
  intro n
  induction n with
  | zero => intro S h; exact h.elim
  | succ n ih =>
    intro S h
    refine X_aload_n C 0 0 dX7_run_165 rfl rfl ?_
    refine X_get C (hFu _ (by decide)) (wc_53 _ _) rfl inX7 17 (by decide) q_571 rfl dX7_run_166 ?_
    refine X_if_le C 226 dX7_run_169 (by decide) (fun c => ?_) (fun c => ?_)
    · have h := h.1 c
      exact X_vret C E h dX7_run_226
    · have h := h.2 c
      refine X_aload_n C 0 0 dX7_run_172 rfl rfl ?_
      refine X_dup C dX7_run_173 rfl ?_
      refine X_get C (hFu _ (by decide)) (wc_53 _ _) rfl inX7 17 (by decide) q_571 rfl dX7_run_174 ?_
      refine X_iconst C (1 : Int32) dX7_run_177 (by decide) ?_
      refine X_isub C dX7_run_178 ?_
      obtain ⟨S12, eS12⟩ : ∃ z, z = mput S 53 17 ((S 53 17) - (1 : Int32)) := ⟨_, rfl⟩
      have h := h S12 eS12
      refine X_put C (hFu _ (by decide)) (wc_53 _ _) rfl inX7 tyX7_ok nmX7 17 (by decide) q_571 rfl rfl rfl (Nat.le_of_ble_eq_true rfl) eS12 (wc_53 _ _) dX7_run_179 ?_
      refine X_aload_n C 0 0 dX7_run_182 rfl rfl ?_
      refine X_aload_n C 0 0 dX7_run_183 rfl rfl ?_
      refine X_get C (hFu _ (by decide)) (wc_53 _ _) rfl inX7 16 (by decide) q_570 rfl dX7_run_184 ?_
      refine X_iconst C (3 : Int32) dX7_run_187 (by decide) ?_
      refine X_aload_n C 0 0 dX7_run_188 rfl rfl ?_
      refine X_get C (hFu _ (by decide)) (wc_53 _ _) rfl inX7 17 (by decide) q_571 rfl dX7_run_189 ?_
      refine X_imul C dX7_run_192 ?_
      obtain ⟨hin, h⟩ := h
      refine X_iald C (hFu _ (by decide)) (wc_61 _ _) hin dX7_run_193 ?_
      refine X_aload_n C 0 0 dX7_run_194 rfl rfl ?_
      refine X_get C (hFu _ (by decide)) (wc_53 _ _) rfl inX7 16 (by decide) q_570 rfl dX7_run_195 ?_
      refine X_iconst C (3 : Int32) dX7_run_198 (by decide) ?_
      refine X_aload_n C 0 0 dX7_run_199 rfl rfl ?_
      refine X_get C (hFu _ (by decide)) (wc_53 _ _) rfl inX7 17 (by decide) q_571 rfl dX7_run_200 ?_
      refine X_imul C dX7_run_203 ?_
      refine X_iconst C (1 : Int32) dX7_run_204 (by decide) ?_
      refine X_iadd C dX7_run_205 ?_
      obtain ⟨hin, h⟩ := h
      refine X_iald C (hFu _ (by decide)) (wc_61 _ _) hin dX7_run_206 ?_
      refine X_aload_n C 0 0 dX7_run_207 rfl rfl ?_
      refine X_get C (hFu _ (by decide)) (wc_53 _ _) rfl inX7 16 (by decide) q_570 rfl dX7_run_208 ?_
      refine X_iconst C (3 : Int32) dX7_run_211 (by decide) ?_
      refine X_aload_n C 0 0 dX7_run_212 rfl rfl ?_
      refine X_get C (hFu _ (by decide)) (wc_53 _ _) rfl inX7 17 (by decide) q_571 rfl dX7_run_213 ?_
      refine X_imul C dX7_run_216 ?_
      refine X_iconst C (2 : Int32) dX7_run_217 (by decide) ?_
      refine X_iadd C dX7_run_218 ?_
      obtain ⟨hin, h⟩ := h
      refine X_iald C (hFu _ (by decide)) (wc_61 _ _) hin dX7_run_219 ?_
      refine X_callVv C eX7_doPass [.int (S12 61 (Int32.toNatClampNeg ((3 : Int32) * (S12 53 17)))), .int (S12 61 (Int32.toNatClampNeg (((3 : Int32) * (S12 53 17)) + (1 : Int32)))), .int (S12 61 (Int32.toNatClampNeg (((3 : Int32) * (S12 53 17)) + (2 : Int32))))] [] (M_X7_doPass C.g_J hFu h) (hFu _ (by decide)) (wc_53 _ _) rfl q_716 rfl ⟨(Nat.le_of_ble_eq_true rfl), (Nat.le_of_ble_eq_true rfl)⟩ rfl (Nat.le_of_ble_eq_true rfl) dX7_run_220 (fun S13 h => ?_)
      refine X_goto C 165 dX7_run_223 (by decide) ?_
      exact ih _ h
set_option maxRecDepth 100000 in
set_option maxHeartbeats 4000000 in
theorem K_X7_run_164 {κ : Kx} (C : XC κ RX7 cX7_run 5 6 142) {K : Mem → Prop} (E : XRet κ none (va_Qv K (XB (kG κ)) (XA (kG κ)))) (hFu : XF (kG κ)) {S : Mem} {y0 : Int32} {y1 : Int32} (h : B_X7_run_164 K S y0 y1) : XW κ S 164 [(0, .ref (xad (kG κ) 53))] [.int y0, .int y1, .ref (xad (kG κ) 61)] := by
  obtain ⟨hin, h⟩ := h
  obtain ⟨S11, eS11⟩ : ∃ z, z = mput S 61 (Int32.toNatClampNeg y1) y0 := ⟨_, rfl⟩
  have h := h S11 eS11
  refine X_iast C (hFu _ (by decide)) (wc_61 _ _) hin eS11 (wc_61 _ _) dX7_run_164 ?_
  obtain ⟨n15, h⟩ := h
  exact K_X7_run_165 C E hFu n15 _ h
set_option maxRecDepth 100000 in
set_option maxHeartbeats 4000000 in
theorem K_X7_run_126 {κ : Kx} (C : XC κ RX7 cX7_run 5 6 142) {K : Mem → Prop} (E : XRet κ none (va_Qv K (XB (kG κ)) (XA (kG κ)))) (hFu : XF (kG κ)) {S : Mem} (h : B_X7_run_126 K S) : XW κ S 126 [(0, .ref (xad (kG κ) 53))] [] := by
  refine X_aload_n C 0 0 dX7_run_126 rfl rfl ?_
  refine X_iconst C (1 : Int32) dX7_run_127 (by decide) ?_
  obtain ⟨S8, eS8⟩ : ∃ z, z = mput S 53 17 (1 : Int32) := ⟨_, rfl⟩
  have h := h S8 eS8
  refine X_put C (hFu _ (by decide)) (wc_53 _ _) rfl inX7 tyX7_ok nmX7 17 (by decide) q_571 rfl rfl rfl (Nat.le_of_ble_eq_true rfl) eS8 (wc_53 _ _) dX7_run_128 ?_
  refine X_aload_n C 0 0 dX7_run_131 rfl rfl ?_
  refine X_get C (hFu _ (by decide)) (wc_53 _ _) rfl inX7 16 (by decide) q_570 rfl dX7_run_132 ?_
  refine X_iconst C (0 : Int32) dX7_run_135 (by decide) ?_
  refine X_iconst C (0 : Int32) dX7_run_136 (by decide) ?_
  obtain ⟨hin, h⟩ := h
  obtain ⟨S9, eS9⟩ : ∃ z, z = mput S8 61 (Int32.toNatClampNeg (0 : Int32)) (0 : Int32) := ⟨_, rfl⟩
  have h := h S9 eS9
  refine X_iast C (hFu _ (by decide)) (wc_61 _ _) hin eS9 (wc_61 _ _) dX7_run_137 ?_
  refine X_aload_n C 0 0 dX7_run_138 rfl rfl ?_
  refine X_get C (hFu _ (by decide)) (wc_53 _ _) rfl inX7 16 (by decide) q_570 rfl dX7_run_139 ?_
  refine X_iconst C (1 : Int32) dX7_run_142 (by decide) ?_
  refine X_iconst C (0 : Int32) dX7_run_143 (by decide) ?_
  obtain ⟨hin, h⟩ := h
  obtain ⟨S10, eS10⟩ : ∃ z, z = mput S9 61 (Int32.toNatClampNeg (1 : Int32)) (0 : Int32) := ⟨_, rfl⟩
  have h := h S10 eS10
  refine X_iast C (hFu _ (by decide)) (wc_61 _ _) hin eS10 (wc_61 _ _) dX7_run_144 ?_
  refine X_aload_n C 0 0 dX7_run_145 rfl rfl ?_
  refine X_get C (hFu _ (by decide)) (wc_53 _ _) rfl inX7 16 (by decide) q_570 rfl dX7_run_146 ?_
  refine X_iconst C (2 : Int32) dX7_run_149 (by decide) ?_
  refine X_aload_n C 0 0 dX7_run_150 rfl rfl ?_
  refine X_get C (hFu _ (by decide)) (wc_53 _ _) rfl inX7 0 (by decide) q_554 rfl dX7_run_151 ?_
  refine X_iconst C (0 : Int32) dX7_run_154 (by decide) ?_
  obtain ⟨hin, h⟩ := h
  refine X_iald C (hFu _ (by decide)) (wc_54 _ _) hin dX7_run_155 ?_
  refine X_if_le C 163 dX7_run_156 (by decide) (fun c => ?_) (fun c => ?_)
  · have h := h.1 c
    refine X_iconst C (-1 : Int32) dX7_run_163 (by decide) ?_
    exact K_X7_run_164 C E hFu h
  · have h := h.2 c
    refine X_iconst C (0 : Int32) dX7_run_159 (by decide) ?_
    refine X_goto C 164 dX7_run_160 (by decide) ?_
    exact K_X7_run_164 C E hFu h
set_option maxRecDepth 100000 in
set_option maxHeartbeats 4000000 in
theorem K_X7_run_119 {κ : Kx} (C : XC κ RX7 cX7_run 5 6 142) {K : Mem → Prop} (E : XRet κ none (va_Qv K (XB (kG κ)) (XA (kG κ)))) (hFu : XF (kG κ)) {R37 : Mem → Int32 → Prop} (hR37 : ∀ (S : Mem) (x3 : Int32), R37 S x3 → XW κ S 37 [(0, .ref (xad (kG κ) 53)), (3, .int x3)] []) {S : Mem} {x3 : Int32} {y0 : Int32} {y1 : Int32} (h : B_X7_run_119 R37 K S x3 y0 y1) : XW κ S 119 [(0, .ref (xad (kG κ) 53)), (3, .int x3)] [.int y0, .int y1, .ref (xad (kG κ) 56)] := by
  obtain ⟨hin, h⟩ := h
  obtain ⟨S18, eS18⟩ : ∃ z, z = mput S 56 (Int32.toNatClampNeg y1) y0 := ⟨_, rfl⟩
  have h := h S18 eS18
  refine X_iast C (hFu _ (by decide)) (wc_56 _ _) hin eS18 (wc_56 _ _) dX7_run_119 ?_
  refine X_iinc C (x3 + (1 : Int32)) 1 [(3, .int (x3 + (1 : Int32))), (0, .ref (xad (kG κ) 53))] dX7_run_120 rfl rfl (by decide) rfl ?_
  refine X_goto C 37 dX7_run_123 (by decide) ?_
  refine X_sub [1, 0] rfl ?_
  exact hR37 _ _ h
set_option maxRecDepth 100000 in
set_option maxHeartbeats 4000000 in
theorem K_X7_run_37 {κ : Kx} (C : XC κ RX7 cX7_run 5 6 142) {K : Mem → Prop} (E : XRet κ none (va_Qv K (XB (kG κ)) (XA (kG κ)))) (hFu : XF (kG κ)) : ∀ (n : Nat) (S : Mem) (x3 : Int32), B_X7_run_37 K n S x3 → XW κ S 37 [(0, .ref (xad (kG κ) 53)), (3, .int x3)] [] := by
  intro n
  induction n with
  | zero => intro S x3 h; exact h.elim
  | succ n ih =>
    intro S x3 h
    refine X_iload_n C 3 1 dX7_run_37 rfl rfl ?_
    refine X_aload_n C 0 0 dX7_run_38 rfl rfl ?_
    refine X_get C (hFu _ (by decide)) (wc_53 _ _) rfl inX7 0 (by decide) q_554 rfl dX7_run_39 ?_
    refine X_iconst C (0 : Int32) dX7_run_42 (by decide) ?_
    obtain ⟨hin, h⟩ := h
    refine X_iald C (hFu _ (by decide)) (wc_54 _ _) hin dX7_run_43 ?_
    refine X_icmp_ge C 126 dX7_run_44 (by decide) (fun c => ?_) (fun c => ?_)
    · have h := h.1 c
      refine X_sub [0] rfl ?_
      exact K_X7_run_126 C E hFu h
    · have h := h.2 c
      refine X_aload_n C 0 0 dX7_run_47 rfl rfl ?_
      refine X_aload_n C 0 0 dX7_run_48 rfl rfl ?_
      refine X_get C (hFu _ (by decide)) (wc_53 _ _) rfl inX7 0 (by decide) q_554 rfl dX7_run_49 ?_
      refine X_iconst C (4 : Int32) dX7_run_52 (by decide) ?_
      refine X_iload_n C 3 1 dX7_run_53 rfl rfl ?_
      refine X_iadd C dX7_run_54 ?_
      obtain ⟨hin, h⟩ := h
      refine X_iald C (hFu _ (by decide)) (wc_54 _ _) hin dX7_run_55 ?_
      refine X_iconst C (1 : Int32) dX7_run_56 (by decide) ?_
      refine X_aload_n C 0 0 dX7_run_57 rfl rfl ?_
      refine X_get C (hFu _ (by decide)) (wc_53 _ _) rfl inX7 0 (by decide) q_554 rfl dX7_run_58 ?_
      refine X_bipush C (104 : Int32) dX7_run_61 (by decide) ?_
      refine X_iload_n C 3 1 dX7_run_63 rfl rfl ?_
      refine X_iadd C dX7_run_64 ?_
      obtain ⟨hin, h⟩ := h
      refine X_iald C (hFu _ (by decide)) (wc_54 _ _) hin dX7_run_65 ?_
      refine X_aload_n C 0 0 dX7_run_66 rfl rfl ?_
      refine X_get C (hFu _ (by decide)) (wc_53 _ _) rfl inX7 0 (by decide) q_554 rfl dX7_run_67 ?_
      refine X_bipush C (104 : Int32) dX7_run_70 (by decide) ?_
      refine X_iload_n C 3 1 dX7_run_72 rfl rfl ?_
      refine X_iadd C dX7_run_73 ?_
      obtain ⟨hin, h⟩ := h
      refine X_iald C (hFu _ (by decide)) (wc_54 _ _) hin dX7_run_74 ?_
      refine X_aload_n C 0 0 dX7_run_75 rfl rfl ?_
      refine X_get C (hFu _ (by decide)) (wc_53 _ _) rfl inX7 0 (by decide) q_554 rfl dX7_run_76 ?_
      refine X_bipush C (104 : Int32) dX7_run_79 (by decide) ?_
      refine X_iload_n C 3 1 dX7_run_81 rfl rfl ?_
      refine X_iadd C dX7_run_82 ?_
      obtain ⟨hin, h⟩ := h
      refine X_iald C (hFu _ (by decide)) (wc_54 _ _) hin dX7_run_83 ?_
      refine X_callVi C eX7_makes [.int (S 54 (Int32.toNatClampNeg ((4 : Int32) + x3))), .int (1 : Int32), .int (S 54 (Int32.toNatClampNeg ((104 : Int32) + x3))), .int (S 54 (Int32.toNatClampNeg ((104 : Int32) + x3))), .int (S 54 (Int32.toNatClampNeg ((104 : Int32) + x3)))] [] (M_X7_makes C.g_J hFu h) (hFu _ (by decide)) (wc_53 _ _) rfl q_712 rfl ⟨(Nat.le_of_ble_eq_true rfl), (Nat.le_of_ble_eq_true rfl)⟩ rfl (Nat.le_of_ble_eq_true rfl) dX7_run_84 (fun r17 S16 h => ?_)
      refine X_istore C [(4, .int r17), (0, .ref (xad (kG κ) 53)), (3, .int x3)] dX7_run_87 (by decide) rfl ?_
      refine X_aload_n C 0 1 dX7_run_89 rfl rfl ?_
      refine X_get C (hFu _ (by decide)) (wc_53 _ _) rfl inX7 3 (by decide) q_557 rfl dX7_run_90 ?_
      refine X_bipush C (6 : Int32) dX7_run_93 (by decide) ?_
      refine X_iload C 0 dX7_run_95 rfl ?_
      refine X_imul C dX7_run_97 ?_
      refine X_iconst C (5 : Int32) dX7_run_98 (by decide) ?_
      refine X_iadd C dX7_run_99 ?_
      refine X_iload_n C 3 2 dX7_run_100 rfl rfl ?_
      refine X_iconst C (1 : Int32) dX7_run_101 (by decide) ?_
      refine X_iadd C dX7_run_102 ?_
      refine X_aload_n C 0 1 dX7_run_103 rfl rfl ?_
      refine X_get C (hFu _ (by decide)) (wc_53 _ _) rfl inX7 0 (by decide) q_554 rfl dX7_run_104 ?_
      refine X_iconst C (0 : Int32) dX7_run_107 (by decide) ?_
      obtain ⟨hin, h⟩ := h
      refine X_iald C (hFu _ (by decide)) (wc_54 _ _) hin dX7_run_108 ?_
      refine X_icmp_ge C 118 dX7_run_109 (by decide) (fun c => ?_) (fun c => ?_)
      · have h := h.1 c
        refine X_iconst C (-1 : Int32) dX7_run_118 (by decide) ?_
        refine X_sub [1, 2] rfl ?_
        exact K_X7_run_119 C E hFu (fun _ _ h => ih _ _ h) h
      · have h := h.2 c
        refine X_iload_n C 3 2 dX7_run_112 rfl rfl ?_
        refine X_iconst C (1 : Int32) dX7_run_113 (by decide) ?_
        refine X_iadd C dX7_run_114 ?_
        refine X_goto C 119 dX7_run_115 (by decide) ?_
        refine X_sub [1, 2] rfl ?_
        exact K_X7_run_119 C E hFu (fun _ _ h => ih _ _ h) h
set_option maxRecDepth 100000 in
set_option maxHeartbeats 4000000 in
theorem M_X7_run {l : Launch} {G : XG} (hJ : XJ G) (hFu : XF G) {S : Mem} {a1 : Int32} {a2 : Int32} {K : Mem → Prop} (h : P_X7_run S a1 a2 K) : XMv l G yX7_run cX7_run 5 6 142 [.ref (xad G 53), .int a1, .int a2] S K := by
  refine X_meth RX7 rfl (by decide +kernel) hJ (Nat.le_of_ble_eq_true rfl) (fun κ hl hG C E => ?_)
  subst hl hG
  show XW κ S 0 [(0, .ref (xad (kG κ) 53)), (1, .int a1), (2, .int a2)] []
  refine X_aload_n C 0 0 dX7_run_0 rfl rfl ?_
  refine X_iload_n C 1 1 dX7_run_1 rfl rfl ?_
  obtain ⟨S1, eS1⟩ : ∃ z, z = mput S 53 15 a1 := ⟨_, rfl⟩
  have h := h S1 eS1
  refine X_put C (hFu _ (by decide)) (wc_53 _ _) rfl inX7 tyX7_ok nmX7 15 (by decide) q_569 rfl rfl rfl (Nat.le_of_ble_eq_true rfl) eS1 (wc_53 _ _) dX7_run_2 ?_
  refine X_aload_n C 0 0 dX7_run_5 rfl rfl ?_
  refine X_iload_n C 2 2 dX7_run_6 rfl rfl ?_
  obtain ⟨S2, eS2⟩ : ∃ z, z = mput S1 53 14 a2 := ⟨_, rfl⟩
  have h := h S2 eS2
  refine X_put C (hFu _ (by decide)) (wc_53 _ _) rfl inX7 tyX7_ok nmX7 14 (by decide) q_568 rfl rfl rfl (Nat.le_of_ble_eq_true rfl) eS2 (wc_53 _ _) dX7_run_7 ?_
  refine X_aload_n C 0 0 dX7_run_10 rfl rfl ?_
  refine X_iconst C (0 : Int32) dX7_run_11 (by decide) ?_
  obtain ⟨S3, eS3⟩ : ∃ z, z = mput S2 53 4 (0 : Int32) := ⟨_, rfl⟩
  have h := h S3 eS3
  refine X_put C (hFu _ (by decide)) (wc_53 _ _) rfl inX7 tyX7_ok nmX7 4 (by decide) q_558 rfl rfl rfl (Nat.le_of_ble_eq_true rfl) eS3 (wc_53 _ _) dX7_run_12 ?_
  refine X_aload_n C 0 0 dX7_run_15 rfl rfl ?_
  refine X_iconst C (0 : Int32) dX7_run_16 (by decide) ?_
  obtain ⟨S4, eS4⟩ : ∃ z, z = mput S3 53 8 (0 : Int32) := ⟨_, rfl⟩
  have h := h S4 eS4
  refine X_put C (hFu _ (by decide)) (wc_53 _ _) rfl inX7 tyX7_ok nmX7 8 (by decide) q_562 rfl rfl rfl (Nat.le_of_ble_eq_true rfl) eS4 (wc_53 _ _) dX7_run_17 ?_
  refine X_aload_n C 0 0 dX7_run_20 rfl rfl ?_
  refine X_iconst C (0 : Int32) dX7_run_21 (by decide) ?_
  obtain ⟨S5, eS5⟩ : ∃ z, z = mput S4 53 10 (0 : Int32) := ⟨_, rfl⟩
  have h := h S5 eS5
  refine X_put C (hFu _ (by decide)) (wc_53 _ _) rfl inX7 tyX7_ok nmX7 10 (by decide) q_564 rfl rfl rfl (Nat.le_of_ble_eq_true rfl) eS5 (wc_53 _ _) dX7_run_22 ?_
  refine X_aload_n C 0 0 dX7_run_25 rfl rfl ?_
  refine X_iconst C (0 : Int32) dX7_run_26 (by decide) ?_
  obtain ⟨S6, eS6⟩ : ∃ z, z = mput S5 53 12 (0 : Int32) := ⟨_, rfl⟩
  have h := h S6 eS6
  refine X_put C (hFu _ (by decide)) (wc_53 _ _) rfl inX7 tyX7_ok nmX7 12 (by decide) q_566 rfl rfl rfl (Nat.le_of_ble_eq_true rfl) eS6 (wc_53 _ _) dX7_run_27 ?_
  refine X_aload_n C 0 0 dX7_run_30 rfl rfl ?_
  refine X_iconst C (0 : Int32) dX7_run_31 (by decide) ?_
  obtain ⟨S7, eS7⟩ : ∃ z, z = mput S6 53 13 (0 : Int32) := ⟨_, rfl⟩
  have h := h S7 eS7
  refine X_put C (hFu _ (by decide)) (wc_53 _ _) rfl inX7 tyX7_ok nmX7 13 (by decide) q_567 rfl rfl rfl (Nat.le_of_ble_eq_true rfl) eS7 (wc_53 _ _) dX7_run_32 ?_
  refine X_iconst C (0 : Int32) dX7_run_35 (by decide) ?_
  refine X_istore_n C 3 [(3, .int (0 : Int32)), (0, .ref (xad (kG κ) 53)), (1, .int a1), (2, .int a2)] dX7_run_36 rfl (by decide) rfl ?_
  refine X_sub [1, 0] rfl ?_
  obtain ⟨n19, h⟩ := h
  exact K_X7_run_37 C E hFu n19 _ _ h
set_option maxRecDepth 100000 in
set_option maxHeartbeats 4000000 in
theorem M_X7_runNow {l : Launch} {G : XG} (hJ : XJ G) (hFu : XF G) {S : Mem} {K : Mem → Prop} (h : P_X7_runNow S K) : XMv l G yX7_runNow cX7_runNow 1 7 166 [.ref (xad G 53)] S K := by
  refine X_meth RX7 rfl (by decide +kernel) hJ (Nat.le_of_ble_eq_true rfl) (fun κ hl hG C E => ?_)
  subst hl hG
  show XW κ S 0 [(0, .ref (xad (kG κ) 53))] []
  refine X_aload_n C 0 0 dX7_runNow_0 rfl rfl ?_
  refine X_aload_n C 0 0 dX7_runNow_1 rfl rfl ?_
  refine X_get C (hFu _ (by decide)) (wc_53 _ _) rfl inX7 0 (by decide) q_554 rfl dX7_runNow_2 ?_
  refine X_iconst C (1 : Int32) dX7_runNow_5 (by decide) ?_
  obtain ⟨hin, h⟩ := h
  refine X_iald C (hFu _ (by decide)) (wc_54 _ _) hin dX7_runNow_6 ?_
  refine X_aload_n C 0 0 dX7_runNow_7 rfl rfl ?_
  refine X_get C (hFu _ (by decide)) (wc_53 _ _) rfl inX7 0 (by decide) q_554 rfl dX7_runNow_8 ?_
  refine X_iconst C (2 : Int32) dX7_runNow_11 (by decide) ?_
  obtain ⟨hin, h⟩ := h
  refine X_iald C (hFu _ (by decide)) (wc_54 _ _) hin dX7_runNow_12 ?_
  refine X_callVv C eX7_run [.int (S 54 (Int32.toNatClampNeg (1 : Int32))), .int (S 54 (Int32.toNatClampNeg (2 : Int32)))] [] (M_X7_run C.g_J hFu h) (hFu _ (by decide)) (wc_53 _ _) rfl q_708 rfl ⟨(Nat.le_of_ble_eq_true rfl), (Nat.le_of_ble_eq_true rfl)⟩ rfl (Nat.le_of_ble_eq_true rfl) dX7_runNow_13 (fun S1 h => ?_)
  exact X_vret C E h dX7_runNow_16
set_option maxRecDepth 100000 in
set_option maxHeartbeats 4000000 in
theorem K_X7_groupOf_92 {κ : Kx} (C : XC κ RX7 cX7_groupOf 6 8 186) {K : Int32 → Mem → Prop} (E : XRet κ (some .int) (va_Qi K (XB (kG κ)) (XA (kG κ)))) (hFu : XF (kG κ)) {S : Mem} {x2 : Int32} {x3 : Int32} (h : B_X7_groupOf_92 K S x2 x3) : XW κ S 92 [(0, .ref (xad (kG κ) 53)), (2, .int x2), (3, .int x3)] [] := by
  refine X_iload_n C 2 1 dX7_groupOf_92 rfl rfl ?_
  refine X_bipush C (7 : Int32) dX7_groupOf_93 (by decide) ?_
  refine X_icmp_ne C 102 dX7_groupOf_95 (by decide) (fun c => ?_) (fun c => ?_)
  · have h := h.1 c
    refine X_aload_n C 0 0 dX7_groupOf_102 rfl rfl ?_
    refine X_get C (hFu _ (by decide)) (wc_53 _ _) rfl inX7 11 (by decide) q_565 rfl dX7_groupOf_103 ?_
    refine X_bipush C (7 : Int32) dX7_groupOf_106 (by decide) ?_
    refine X_iload_n C 3 2 dX7_groupOf_108 rfl rfl ?_
    refine X_imul C dX7_groupOf_109 ?_
    refine X_iload_n C 2 1 dX7_groupOf_110 rfl rfl ?_
    refine X_iadd C dX7_groupOf_111 ?_
    obtain ⟨hin, h⟩ := h
    refine X_iald C (hFu _ (by decide)) (wc_60 _ _) hin dX7_groupOf_112 ?_
    exact X_iret C E rfl h dX7_groupOf_113
  · have h := h.2 c
    refine X_iload_n C 3 2 dX7_groupOf_98 rfl rfl ?_
    refine X_goto C 113 dX7_groupOf_99 (by decide) ?_
    exact X_iret C E rfl h dX7_groupOf_113
set_option maxRecDepth 100000 in
set_option maxHeartbeats 4000000 in
theorem K_X7_groupOf_86 {κ : Kx} (C : XC κ RX7 cX7_groupOf 6 8 186) {K : Int32 → Mem → Prop} (E : XRet κ (some .int) (va_Qi K (XB (kG κ)) (XA (kG κ)))) (hFu : XF (kG κ)) {R25 : Mem → Int32 → Int32 → Int32 → Prop} (hR25 : ∀ (S : Mem) (x1 x2 x3 : Int32), R25 S x1 x2 x3 → XW κ S 25 [(0, .ref (xad (kG κ) 53)), (1, .int x1), (2, .int x2), (3, .int x3)] []) {S : Mem} {x1 : Int32} {x2 : Int32} {x3 : Int32} {x4 : Int32} (h : B_X7_groupOf_86 R25 K S x1 x2 x3 x4) : XW κ S 86 [(0, .ref (xad (kG κ) 53)), (1, .int x1), (2, .int x2), (3, .int x3), (4, .int x4)] [] := by
  refine X_iload C 4 dX7_groupOf_86 rfl ?_
  refine X_iload_n C 1 1 dX7_groupOf_88 rfl rfl ?_
  refine X_icmp_ne C 114 dX7_groupOf_89 (by decide) (fun c => ?_) (fun c => ?_)
  · have h := h.1 c
    refine X_iinc C (x3 + (1 : Int32)) 3 [(3, .int (x3 + (1 : Int32))), (0, .ref (xad (kG κ) 53)), (1, .int x1), (2, .int x2), (4, .int x4)] dX7_groupOf_114 rfl rfl (by decide) rfl ?_
    refine X_goto C 25 dX7_groupOf_117 (by decide) ?_
    refine X_sub [1, 2, 3, 0] rfl ?_
    exact hR25 _ _ _ _ h
  · have h := h.2 c
    refine X_sub [0, 2, 3] rfl ?_
    exact K_X7_groupOf_92 C E hFu h
set_option maxRecDepth 100000 in
set_option maxHeartbeats 4000000 in
theorem K_X7_groupOf_77 {κ : Kx} (C : XC κ RX7 cX7_groupOf 6 8 186) {K : Int32 → Mem → Prop} (E : XRet κ (some .int) (va_Qi K (XB (kG κ)) (XA (kG κ)))) (hFu : XF (kG κ)) {R25 : Mem → Int32 → Int32 → Int32 → Prop} {R39 : Mem → Int32 → Int32 → Int32 → Int32 → Int32 → Prop} (hR25 : ∀ (S : Mem) (x1 x2 x3 : Int32), R25 S x1 x2 x3 → XW κ S 25 [(0, .ref (xad (kG κ) 53)), (1, .int x1), (2, .int x2), (3, .int x3)] []) (hR39 : ∀ (S : Mem) (x1 x2 x3 x4 x5 : Int32), R39 S x1 x2 x3 x4 x5 → XW κ S 39 [(0, .ref (xad (kG κ) 53)), (1, .int x1), (2, .int x2), (3, .int x3), (4, .int x4), (5, .int x5)] []) {S : Mem} {x1 : Int32} {x2 : Int32} {x3 : Int32} {x5 : Int32} {y0 : Int32} {y1 : Int32} (h : B_X7_groupOf_77 R25 R39 K S x1 x2 x3 x5 y0 y1) : XW κ S 77 [(0, .ref (xad (kG κ) 53)), (1, .int x1), (2, .int x2), (3, .int x3), (5, .int x5)] [.int y0, .int y1] := by
  refine X_iadd C dX7_groupOf_77 ?_
  refine X_istore C [(4, .int (y1 + y0)), (0, .ref (xad (kG κ) 53)), (1, .int x1), (2, .int x2), (3, .int x3), (5, .int x5)] dX7_groupOf_78 (by decide) rfl ?_
  refine X_iinc C (x5 + (1 : Int32)) 5 [(5, .int (x5 + (1 : Int32))), (4, .int (y1 + y0)), (0, .ref (xad (kG κ) 53)), (1, .int x1), (2, .int x2), (3, .int x3)] dX7_groupOf_80 rfl rfl (by decide) rfl ?_
  refine X_goto C 39 dX7_groupOf_83 (by decide) ?_
  refine X_sub [2, 3, 4, 5, 1, 0] rfl ?_
  exact hR39 _ _ _ _ _ _ h
set_option maxRecDepth 100000 in
set_option maxHeartbeats 4000000 in
theorem K_X7_groupOf_39 {κ : Kx} (C : XC κ RX7 cX7_groupOf 6 8 186) {K : Int32 → Mem → Prop} (E : XRet κ (some .int) (va_Qi K (XB (kG κ)) (XA (kG κ)))) (hFu : XF (kG κ)) {R25 : Mem → Int32 → Int32 → Int32 → Prop} (hR25 : ∀ (S : Mem) (x1 x2 x3 : Int32), R25 S x1 x2 x3 → XW κ S 25 [(0, .ref (xad (kG κ) 53)), (1, .int x1), (2, .int x2), (3, .int x3)] []) : ∀ (n : Nat) (S : Mem) (x1 : Int32) (x2 : Int32) (x3 : Int32) (x4 : Int32) (x5 : Int32), B_X7_groupOf_39 R25 K n S x1 x2 x3 x4 x5 → XW κ S 39 [(0, .ref (xad (kG κ) 53)), (1, .int x1), (2, .int x2), (3, .int x3), (4, .int x4), (5, .int x5)] [] := by
  intro n
  induction n with
  | zero => intro S x1 x2 x3 x4 x5 h; exact h.elim
  | succ n ih =>
    intro S x1 x2 x3 x4 x5 h
    refine X_iload C 5 dX7_groupOf_39 rfl ?_
    refine X_aload_n C 0 0 dX7_groupOf_41 rfl rfl ?_
    refine X_get C (hFu _ (by decide)) (wc_53 _ _) rfl inX7 12 (by decide) q_566 rfl dX7_groupOf_42 ?_
    refine X_icmp_ge C 86 dX7_groupOf_45 (by decide) (fun c => ?_) (fun c => ?_)
    · have h := h.1 c
      refine X_sub [0, 1, 2, 3, 4] rfl ?_
      exact K_X7_groupOf_86 C E hFu hR25 h
    · have h := h.2 c
      refine X_iload C 4 dX7_groupOf_48 rfl ?_
      refine X_aload_n C 0 0 dX7_groupOf_50 rfl rfl ?_
      refine X_get C (hFu _ (by decide)) (wc_53 _ _) rfl inX7 11 (by decide) q_565 rfl dX7_groupOf_51 ?_
      refine X_bipush C (7 : Int32) dX7_groupOf_54 (by decide) ?_
      refine X_iload C 5 dX7_groupOf_56 rfl ?_
      refine X_imul C dX7_groupOf_58 ?_
      obtain ⟨hin, h⟩ := h
      refine X_iald C (hFu _ (by decide)) (wc_60 _ _) hin dX7_groupOf_59 ?_
      refine X_aload_n C 0 0 dX7_groupOf_60 rfl rfl ?_
      refine X_get C (hFu _ (by decide)) (wc_53 _ _) rfl inX7 11 (by decide) q_565 rfl dX7_groupOf_61 ?_
      refine X_bipush C (7 : Int32) dX7_groupOf_64 (by decide) ?_
      refine X_iload_n C 3 3 dX7_groupOf_66 rfl rfl ?_
      refine X_imul C dX7_groupOf_67 ?_
      obtain ⟨hin, h⟩ := h
      refine X_iald C (hFu _ (by decide)) (wc_60 _ _) hin dX7_groupOf_68 ?_
      refine X_icmp_ge C 76 dX7_groupOf_69 (by decide) (fun c => ?_) (fun c => ?_)
      · have h := h.1 c
        refine X_iconst C (0 : Int32) dX7_groupOf_76 (by decide) ?_
        refine X_sub [0, 1, 2, 3, 5] rfl ?_
        exact K_X7_groupOf_77 C E hFu hR25 (fun _ _ _ _ _ _ h => ih _ _ _ _ _ _ h) h
      · have h := h.2 c
        refine X_iconst C (1 : Int32) dX7_groupOf_72 (by decide) ?_
        refine X_goto C 77 dX7_groupOf_73 (by decide) ?_
        refine X_sub [0, 1, 2, 3, 5] rfl ?_
        exact K_X7_groupOf_77 C E hFu hR25 (fun _ _ _ _ _ _ h => ih _ _ _ _ _ _ h) h
set_option maxRecDepth 100000 in
set_option maxHeartbeats 4000000 in
theorem K_X7_groupOf_25 {κ : Kx} (C : XC κ RX7 cX7_groupOf 6 8 186) {K : Int32 → Mem → Prop} (E : XRet κ (some .int) (va_Qi K (XB (kG κ)) (XA (kG κ)))) (hFu : XF (kG κ)) : ∀ (n : Nat) (S : Mem) (x1 : Int32) (x2 : Int32) (x3 : Int32), B_X7_groupOf_25 K n S x1 x2 x3 → XW κ S 25 [(0, .ref (xad (kG κ) 53)), (1, .int x1), (2, .int x2), (3, .int x3)] [] := by
  intro n
  induction n with
  | zero => intro S x1 x2 x3 h; exact h.elim
  | succ n ih =>
    intro S x1 x2 x3 h
    refine X_iload_n C 3 3 dX7_groupOf_25 rfl rfl ?_
    refine X_aload_n C 0 0 dX7_groupOf_26 rfl rfl ?_
    refine X_get C (hFu _ (by decide)) (wc_53 _ _) rfl inX7 12 (by decide) q_566 rfl dX7_groupOf_27 ?_
    refine X_icmp_ge C 120 dX7_groupOf_30 (by decide) (fun c => ?_) (fun c => ?_)
    · have h := h.1 c
      refine X_ldc C (-1000004 : Int32) q_689 dX7_groupOf_120 ?_
      exact X_iret C E rfl h dX7_groupOf_122
    · have h := h.2 c
      refine X_iconst C (0 : Int32) dX7_groupOf_33 (by decide) ?_
      refine X_istore C [(4, .int (0 : Int32)), (0, .ref (xad (kG κ) 53)), (1, .int x1), (2, .int x2), (3, .int x3)] dX7_groupOf_34 (by decide) rfl ?_
      refine X_iconst C (0 : Int32) dX7_groupOf_36 (by decide) ?_
      refine X_istore C [(5, .int (0 : Int32)), (4, .int (0 : Int32)), (0, .ref (xad (kG κ) 53)), (1, .int x1), (2, .int x2), (3, .int x3)] dX7_groupOf_37 (by decide) rfl ?_
      refine X_sub [2, 3, 4, 5, 1, 0] rfl ?_
      obtain ⟨n5, h⟩ := h
      exact K_X7_groupOf_39 C E hFu (fun _ _ _ _ h => ih _ _ _ _ h) n5 _ _ _ _ _ _ h
set_option maxRecDepth 100000 in
set_option maxHeartbeats 4000000 in
theorem M_X7_groupOf {l : Launch} {G : XG} (hJ : XJ G) (hFu : XF G) {S : Mem} {a1 : Int32} {a2 : Int32} {K : Int32 → Mem → Prop} (h : P_X7_groupOf S a1 a2 K) : XMi l G yX7_groupOf cX7_groupOf 6 .int 8 186 [.ref (xad G 53), .int a1, .int a2] S K := by
  refine X_meth RX7 rfl (by decide +kernel) hJ (Nat.le_of_ble_eq_true rfl) (fun κ hl hG C E => ?_)
  subst hl hG
  show XW κ S 0 [(0, .ref (xad (kG κ) 53)), (1, .int a1), (2, .int a2)] []
  refine X_iload_n C 1 1 dX7_groupOf_0 rfl rfl ?_
  refine X_if_lt C 16 dX7_groupOf_1 (by decide) (fun c => ?_) (fun c => ?_)
  · have h := h.1 c
    refine X_ldc C (-1000001 : Int32) q_658 dX7_groupOf_16 ?_
    exact X_iret C E rfl h dX7_groupOf_18
  · have h := h.2 c
    refine X_iload_n C 2 2 dX7_groupOf_4 rfl rfl ?_
    refine X_i2l C dX7_groupOf_5 ?_
    refine X_lconst C (0 : Int64) dX7_groupOf_6 (by decide) ?_
    refine X_ldc2 C (7 : Int64) q_703 dX7_groupOf_7 ?_
    refine X_callSi C eX7_in [.long (Int32.toInt64 a2), .long (0 : Int64), .long (7 : Int64)] [] (M_X7_in C.g_J hFu h) q_653 rfl ⟨(Nat.le_of_ble_eq_true rfl), (Nat.le_of_ble_eq_true rfl)⟩ rfl (Nat.le_of_ble_eq_true rfl) dX7_groupOf_10 (fun r2 S1 h => ?_)
    refine X_if_ne C 19 dX7_groupOf_13 (by decide) (fun c => ?_) (fun c => ?_)
    · have h := h.1 c
      refine X_aload_n C 0 0 dX7_groupOf_19 rfl rfl ?_
      refine X_callVv C eX7_runNow [] [] (M_X7_runNow C.g_J hFu h) (hFu _ (by decide)) (wc_53 _ _) rfl q_704 rfl ⟨(Nat.le_of_ble_eq_true rfl), (Nat.le_of_ble_eq_true rfl)⟩ rfl (Nat.le_of_ble_eq_true rfl) dX7_groupOf_20 (fun S3 h => ?_)
      refine X_iconst C (0 : Int32) dX7_groupOf_23 (by decide) ?_
      refine X_istore_n C 3 [(3, .int (0 : Int32)), (0, .ref (xad (kG κ) 53)), (1, .int a1), (2, .int a2)] dX7_groupOf_24 rfl (by decide) rfl ?_
      refine X_sub [1, 2, 3, 0] rfl ?_
      obtain ⟨n6, h⟩ := h
      exact K_X7_groupOf_25 C E hFu n6 _ _ _ _ h
    · have h := h.2 c
      refine X_ldc C (-1000001 : Int32) q_658 dX7_groupOf_16 ?_
      exact X_iret C E rfl h dX7_groupOf_18
set_option maxRecDepth 100000 in
set_option maxHeartbeats 4000000 in
theorem M_X7_finished {l : Launch} {G : XG} (hJ : XJ G) (hFu : XF G) {S : Mem} {a1 : Int32} {K : Int32 → Mem → Prop} (h : P_X7_finished S a1 K) : XMi l G yX7_finished cX7_finished 2 .int 8 186 [.ref (xad G 53), .int a1] S K := by
  refine X_meth RX7 rfl (by decide +kernel) hJ (Nat.le_of_ble_eq_true rfl) (fun κ hl hG C E => ?_)
  subst hl hG
  show XW κ S 0 [(0, .ref (xad (kG κ) 53)), (1, .int a1)] []
  refine X_iload_n C 1 1 dX7_finished_0 rfl rfl ?_
  refine X_if_ge C 7 dX7_finished_1 (by decide) (fun c => ?_) (fun c => ?_)
  · have h := h.1 c
    refine X_aload_n C 0 0 dX7_finished_7 rfl rfl ?_
    refine X_callVv C eX7_runNow [] [] (M_X7_runNow C.g_J hFu h) (hFu _ (by decide)) (wc_53 _ _) rfl q_704 rfl ⟨(Nat.le_of_ble_eq_true rfl), (Nat.le_of_ble_eq_true rfl)⟩ rfl (Nat.le_of_ble_eq_true rfl) dX7_finished_8 (fun S1 h => ?_)
    refine X_iload_n C 1 1 dX7_finished_11 rfl rfl ?_
    refine X_aload_n C 0 0 dX7_finished_12 rfl rfl ?_
    refine X_get C (hFu _ (by decide)) (wc_53 _ _) rfl inX7 12 (by decide) q_566 rfl dX7_finished_13 ?_
    refine X_icmp_ge C 31 dX7_finished_16 (by decide) (fun c => ?_) (fun c => ?_)
    · have h := h.1 c
      refine X_ldc C (-1000004 : Int32) q_689 dX7_finished_31 ?_
      exact X_iret C E rfl h dX7_finished_33
    · have h := h.2 c
      refine X_aload_n C 0 0 dX7_finished_19 rfl rfl ?_
      refine X_get C (hFu _ (by decide)) (wc_53 _ _) rfl inX7 11 (by decide) q_565 rfl dX7_finished_20 ?_
      refine X_bipush C (7 : Int32) dX7_finished_23 (by decide) ?_
      refine X_iload_n C 1 1 dX7_finished_25 rfl rfl ?_
      refine X_imul C dX7_finished_26 ?_
      obtain ⟨hin, h⟩ := h
      refine X_iald C (hFu _ (by decide)) (wc_60 _ _) hin dX7_finished_27 ?_
      refine X_goto C 33 dX7_finished_28 (by decide) ?_
      exact X_iret C E rfl h dX7_finished_33
  · have h := h.2 c
    refine X_ldc C (-1000001 : Int32) q_658 dX7_finished_4 ?_
    exact X_iret C E rfl h dX7_finished_6
set_option maxRecDepth 100000 in
set_option maxHeartbeats 4000000 in
theorem K_X7_passOf_110 {κ : Kx} (C : XC κ RX7 cX7_passOf 5 8 186) {K : Int32 → Mem → Prop} (E : XRet κ (some .int) (va_Qi K (XB (kG κ)) (XA (kG κ)))) (hFu : XF (kG κ)) {R46 : Mem → Int32 → Int32 → Int32 → Int32 → Prop} (hR46 : ∀ (S : Mem) (x1 x2 x3 x4 : Int32), R46 S x1 x2 x3 x4 → XW κ S 46 [(0, .ref (xad (kG κ) 53)), (1, .int x1), (2, .int x2), (3, .int x3), (4, .int x4)] []) {S : Mem} {x1 : Int32} {x2 : Int32} {x3 : Int32} {x4 : Int32} (h : B_X7_passOf_110 R46 K S x1 x2 x3 x4) : XW κ S 110 [(0, .ref (xad (kG κ) 53)), (1, .int x1), (2, .int x2), (3, .int x3), (4, .int x4)] [] := by
  refine X_iinc C (x4 + (1 : Int32)) 4 [(4, .int (x4 + (1 : Int32))), (0, .ref (xad (kG κ) 53)), (1, .int x1), (2, .int x2), (3, .int x3)] dX7_passOf_110 rfl rfl (by decide) rfl ?_
  refine X_goto C 46 dX7_passOf_113 (by decide) ?_
  refine X_sub [1, 2, 3, 4, 0] rfl ?_
  exact hR46 _ _ _ _ _ h
set_option maxRecDepth 100000 in
set_option maxHeartbeats 4000000 in
theorem K_X7_passOf_85 {κ : Kx} (C : XC κ RX7 cX7_passOf 5 8 186) {K : Int32 → Mem → Prop} (E : XRet κ (some .int) (va_Qi K (XB (kG κ)) (XA (kG κ)))) (hFu : XF (kG κ)) {S : Mem} {x3 : Int32} {x4 : Int32} (h : B_X7_passOf_85 K S x3 x4) : XW κ S 85 [(0, .ref (xad (kG κ) 53)), (3, .int x3), (4, .int x4)] [] := by
  refine X_iload_n C 3 1 dX7_passOf_85 rfl rfl ?_
  refine X_iconst C (5 : Int32) dX7_passOf_86 (by decide) ?_
  refine X_icmp_ne C 95 dX7_passOf_87 (by decide) (fun c => ?_) (fun c => ?_)
  · have h := h.1 c
    refine X_aload_n C 0 0 dX7_passOf_95 rfl rfl ?_
    refine X_get C (hFu _ (by decide)) (wc_53 _ _) rfl inX7 7 (by decide) q_561 rfl dX7_passOf_96 ?_
    refine X_bipush C (7 : Int32) dX7_passOf_99 (by decide) ?_
    refine X_iload C 2 dX7_passOf_101 rfl ?_
    refine X_imul C dX7_passOf_103 ?_
    refine X_iconst C (2 : Int32) dX7_passOf_104 (by decide) ?_
    refine X_iadd C dX7_passOf_105 ?_
    refine X_iload_n C 3 1 dX7_passOf_106 rfl rfl ?_
    refine X_iadd C dX7_passOf_107 ?_
    obtain ⟨hin, h⟩ := h
    refine X_iald C (hFu _ (by decide)) (wc_58 _ _) hin dX7_passOf_108 ?_
    exact X_iret C E rfl h dX7_passOf_109
  · have h := h.2 c
    refine X_iload C 2 dX7_passOf_90 rfl ?_
    refine X_goto C 109 dX7_passOf_92 (by decide) ?_
    exact X_iret C E rfl h dX7_passOf_109
set_option maxRecDepth 100000 in
set_option maxHeartbeats 4000000 in
theorem K_X7_passOf_46 {κ : Kx} (C : XC κ RX7 cX7_passOf 5 8 186) {K : Int32 → Mem → Prop} (E : XRet κ (some .int) (va_Qi K (XB (kG κ)) (XA (kG κ)))) (hFu : XF (kG κ)) : ∀ (n : Nat) (S : Mem) (x1 : Int32) (x2 : Int32) (x3 : Int32) (x4 : Int32), B_X7_passOf_46 K n S x1 x2 x3 x4 → XW κ S 46 [(0, .ref (xad (kG κ) 53)), (1, .int x1), (2, .int x2), (3, .int x3), (4, .int x4)] [] := by
  intro n
  induction n with
  | zero => intro S x1 x2 x3 x4 h; exact h.elim
  | succ n ih =>
    intro S x1 x2 x3 x4 h
    refine X_iload C 4 dX7_passOf_46 rfl ?_
    refine X_aload_n C 0 0 dX7_passOf_48 rfl rfl ?_
    refine X_get C (hFu _ (by decide)) (wc_53 _ _) rfl inX7 8 (by decide) q_562 rfl dX7_passOf_49 ?_
    refine X_icmp_ge C 116 dX7_passOf_52 (by decide) (fun c => ?_) (fun c => ?_)
    · have h := h.1 c
      refine X_ldc C (-1000004 : Int32) q_689 dX7_passOf_116 ?_
      exact X_iret C E rfl h dX7_passOf_118
    · have h := h.2 c
      refine X_aload_n C 0 0 dX7_passOf_55 rfl rfl ?_
      refine X_get C (hFu _ (by decide)) (wc_53 _ _) rfl inX7 7 (by decide) q_561 rfl dX7_passOf_56 ?_
      refine X_bipush C (7 : Int32) dX7_passOf_59 (by decide) ?_
      refine X_iload C 4 dX7_passOf_61 rfl ?_
      refine X_imul C dX7_passOf_63 ?_
      obtain ⟨hin, h⟩ := h
      refine X_iald C (hFu _ (by decide)) (wc_58 _ _) hin dX7_passOf_64 ?_
      refine X_iload_n C 1 1 dX7_passOf_65 rfl rfl ?_
      refine X_icmp_ne C 110 dX7_passOf_66 (by decide) (fun c => ?_) (fun c => ?_)
      · have h := h.1 c
        exact K_X7_passOf_110 C E hFu (fun _ _ _ _ _ h => ih _ _ _ _ _ h) h
      · have h := h.2 c
        refine X_aload_n C 0 0 dX7_passOf_69 rfl rfl ?_
        refine X_get C (hFu _ (by decide)) (wc_53 _ _) rfl inX7 7 (by decide) q_561 rfl dX7_passOf_70 ?_
        refine X_bipush C (7 : Int32) dX7_passOf_73 (by decide) ?_
        refine X_iload C 4 dX7_passOf_75 rfl ?_
        refine X_imul C dX7_passOf_77 ?_
        refine X_iconst C (1 : Int32) dX7_passOf_78 (by decide) ?_
        refine X_iadd C dX7_passOf_79 ?_
        obtain ⟨hin, h⟩ := h
        refine X_iald C (hFu _ (by decide)) (wc_58 _ _) hin dX7_passOf_80 ?_
        refine X_iload_n C 2 2 dX7_passOf_81 rfl rfl ?_
        refine X_icmp_ne C 110 dX7_passOf_82 (by decide) (fun c => ?_) (fun c => ?_)
        · have h := h.1 c
          exact K_X7_passOf_110 C E hFu (fun _ _ _ _ _ h => ih _ _ _ _ _ h) h
        · have h := h.2 c
          refine X_sub [0, 3, 4] rfl ?_
          exact K_X7_passOf_85 C E hFu h
set_option maxRecDepth 100000 in
set_option maxHeartbeats 4000000 in
theorem M_X7_passOf {l : Launch} {G : XG} (hJ : XJ G) (hFu : XF G) {S : Mem} {a1 : Int32} {a2 : Int32} {a3 : Int32} {K : Int32 → Mem → Prop} (h : P_X7_passOf S a1 a2 a3 K) : XMi l G yX7_passOf cX7_passOf 5 .int 8 186 [.ref (xad G 53), .int a1, .int a2, .int a3] S K := by
  refine X_meth RX7 rfl (by decide +kernel) hJ (Nat.le_of_ble_eq_true rfl) (fun κ hl hG C E => ?_)
  subst hl hG
  show XW κ S 0 [(0, .ref (xad (kG κ) 53)), (1, .int a1), (2, .int a2), (3, .int a3)] []
  refine X_iload_n C 1 1 dX7_passOf_0 rfl rfl ?_
  refine X_i2l C dX7_passOf_1 ?_
  refine X_lconst C (0 : Int64) dX7_passOf_2 (by decide) ?_
  refine X_ldc2 C (15 : Int64) q_780 dX7_passOf_3 ?_
  refine X_callSi C eX7_in [.long (Int32.toInt64 a1), .long (0 : Int64), .long (15 : Int64)] [] (M_X7_in C.g_J hFu h) q_653 rfl ⟨(Nat.le_of_ble_eq_true rfl), (Nat.le_of_ble_eq_true rfl)⟩ rfl (Nat.le_of_ble_eq_true rfl) dX7_passOf_6 (fun r2 S1 h => ?_)
  refine X_if_eq C 36 dX7_passOf_9 (by decide) (fun c => ?_) (fun c => ?_)
  · have h := h.1 c
    refine X_ldc C (-1000001 : Int32) q_658 dX7_passOf_36 ?_
    exact X_iret C E rfl h dX7_passOf_38
  · have h := h.2 c
    refine X_iload_n C 2 2 dX7_passOf_12 rfl rfl ?_
    refine X_i2l C dX7_passOf_13 ?_
    refine X_lconst C (0 : Int64) dX7_passOf_14 (by decide) ?_
    refine X_ldc2 C (65535 : Int64) q_683 dX7_passOf_15 ?_
    refine X_callSi C eX7_in [.long (Int32.toInt64 a2), .long (0 : Int64), .long (65535 : Int64)] [] (M_X7_in C.g_J hFu h) q_653 rfl ⟨(Nat.le_of_ble_eq_true rfl), (Nat.le_of_ble_eq_true rfl)⟩ rfl (Nat.le_of_ble_eq_true rfl) dX7_passOf_18 (fun r4 S3 h => ?_)
    refine X_if_eq C 36 dX7_passOf_21 (by decide) (fun c => ?_) (fun c => ?_)
    · have h := h.1 c
      refine X_ldc C (-1000001 : Int32) q_658 dX7_passOf_36 ?_
      exact X_iret C E rfl h dX7_passOf_38
    · have h := h.2 c
      refine X_iload_n C 3 3 dX7_passOf_24 rfl rfl ?_
      refine X_i2l C dX7_passOf_25 ?_
      refine X_lconst C (0 : Int64) dX7_passOf_26 (by decide) ?_
      refine X_ldc2 C (5 : Int64) q_781 dX7_passOf_27 ?_
      refine X_callSi C eX7_in [.long (Int32.toInt64 a3), .long (0 : Int64), .long (5 : Int64)] [] (M_X7_in C.g_J hFu h) q_653 rfl ⟨(Nat.le_of_ble_eq_true rfl), (Nat.le_of_ble_eq_true rfl)⟩ rfl (Nat.le_of_ble_eq_true rfl) dX7_passOf_30 (fun r6 S5 h => ?_)
      refine X_if_ne C 39 dX7_passOf_33 (by decide) (fun c => ?_) (fun c => ?_)
      · have h := h.1 c
        refine X_aload_n C 0 0 dX7_passOf_39 rfl rfl ?_
        refine X_callVv C eX7_runNow [] [] (M_X7_runNow C.g_J hFu h) (hFu _ (by decide)) (wc_53 _ _) rfl q_704 rfl ⟨(Nat.le_of_ble_eq_true rfl), (Nat.le_of_ble_eq_true rfl)⟩ rfl (Nat.le_of_ble_eq_true rfl) dX7_passOf_40 (fun S7 h => ?_)
        refine X_iconst C (0 : Int32) dX7_passOf_43 (by decide) ?_
        refine X_istore C [(4, .int (0 : Int32)), (0, .ref (xad (kG κ) 53)), (1, .int a1), (2, .int a2), (3, .int a3)] dX7_passOf_44 (by decide) rfl ?_
        refine X_sub [1, 2, 3, 4, 0] rfl ?_
        obtain ⟨n9, h⟩ := h
        exact K_X7_passOf_46 C E hFu n9 _ _ _ _ _ h
      · have h := h.2 c
        refine X_ldc C (-1000001 : Int32) q_658 dX7_passOf_36 ?_
        exact X_iret C E rfl h dX7_passOf_38
set_option maxRecDepth 100000 in
set_option maxHeartbeats 4000000 in
theorem M_X7_spillOf {l : Launch} {G : XG} (hJ : XJ G) (hFu : XF G) {S : Mem} {a1 : Int32} {a2 : Int32} {K : Int32 → Mem → Prop} (h : P_X7_spillOf S a1 a2 K) : XMi l G yX7_spillOf cX7_spillOf 3 .int 8 186 [.ref (xad G 53), .int a1, .int a2] S K := by
  refine X_meth RX7 rfl (by decide +kernel) hJ (Nat.le_of_ble_eq_true rfl) (fun κ hl hG C E => ?_)
  subst hl hG
  show XW κ S 0 [(0, .ref (xad (kG κ) 53)), (1, .int a1), (2, .int a2)] []
  refine X_iload_n C 1 1 dX7_spillOf_0 rfl rfl ?_
  refine X_if_lt C 16 dX7_spillOf_1 (by decide) (fun c => ?_) (fun c => ?_)
  · have h := h.1 c
    refine X_ldc C (-1000001 : Int32) q_658 dX7_spillOf_16 ?_
    exact X_iret C E rfl h dX7_spillOf_18
  · have h := h.2 c
    refine X_iload_n C 2 2 dX7_spillOf_4 rfl rfl ?_
    refine X_i2l C dX7_spillOf_5 ?_
    refine X_lconst C (0 : Int64) dX7_spillOf_6 (by decide) ?_
    refine X_ldc2 C (4 : Int64) q_682 dX7_spillOf_7 ?_
    refine X_callSi C eX7_in [.long (Int32.toInt64 a2), .long (0 : Int64), .long (4 : Int64)] [] (M_X7_in C.g_J hFu h) q_653 rfl ⟨(Nat.le_of_ble_eq_true rfl), (Nat.le_of_ble_eq_true rfl)⟩ rfl (Nat.le_of_ble_eq_true rfl) dX7_spillOf_10 (fun r2 S1 h => ?_)
    refine X_if_ne C 19 dX7_spillOf_13 (by decide) (fun c => ?_) (fun c => ?_)
    · have h := h.1 c
      refine X_aload_n C 0 0 dX7_spillOf_19 rfl rfl ?_
      refine X_callVv C eX7_runNow [] [] (M_X7_runNow C.g_J hFu h) (hFu _ (by decide)) (wc_53 _ _) rfl q_704 rfl ⟨(Nat.le_of_ble_eq_true rfl), (Nat.le_of_ble_eq_true rfl)⟩ rfl (Nat.le_of_ble_eq_true rfl) dX7_spillOf_20 (fun S3 h => ?_)
      refine X_iload_n C 1 1 dX7_spillOf_23 rfl rfl ?_
      refine X_aload_n C 0 0 dX7_spillOf_24 rfl rfl ?_
      refine X_get C (hFu _ (by decide)) (wc_53 _ _) rfl inX7 10 (by decide) q_564 rfl dX7_spillOf_25 ?_
      refine X_icmp_ge C 44 dX7_spillOf_28 (by decide) (fun c => ?_) (fun c => ?_)
      · have h := h.1 c
        refine X_ldc C (-1000004 : Int32) q_689 dX7_spillOf_44 ?_
        exact X_iret C E rfl h dX7_spillOf_46
      · have h := h.2 c
        refine X_aload_n C 0 0 dX7_spillOf_31 rfl rfl ?_
        refine X_get C (hFu _ (by decide)) (wc_53 _ _) rfl inX7 9 (by decide) q_563 rfl dX7_spillOf_32 ?_
        refine X_iconst C (5 : Int32) dX7_spillOf_35 (by decide) ?_
        refine X_iload_n C 1 1 dX7_spillOf_36 rfl rfl ?_
        refine X_imul C dX7_spillOf_37 ?_
        refine X_iload_n C 2 2 dX7_spillOf_38 rfl rfl ?_
        refine X_iadd C dX7_spillOf_39 ?_
        obtain ⟨hin, h⟩ := h
        refine X_iald C (hFu _ (by decide)) (wc_59 _ _) hin dX7_spillOf_40 ?_
        refine X_goto C 46 dX7_spillOf_41 (by decide) ?_
        exact X_iret C E rfl h dX7_spillOf_46
    · have h := h.2 c
      refine X_ldc C (-1000001 : Int32) q_658 dX7_spillOf_16 ?_
      exact X_iret C E rfl h dX7_spillOf_18
set_option maxRecDepth 100000 in
set_option maxHeartbeats 4000000 in
theorem K_X7_writtenInAll_4 {κ : Kx} (C : XC κ RX7 cX7_writtenInAll 3 0 0) {K : Int32 → Mem → Prop} (E : XRet κ (some .int) (va_Qi K (XB (kG κ)) (XA (kG κ)))) (hFu : XF (kG κ)) : ∀ (n : Nat) (S : Mem) (x1 : Int32) (x2 : Int32), B_X7_writtenInAll_4 K n S x1 x2 → XW κ S 4 [(0, .ref (xad (kG κ) 53)), (1, .int x1), (2, .int x2)] [] := by
  intro n
  induction n with
  | zero => intro S x1 x2 h; exact h.elim
  | succ n ih =>
    intro S x1 x2 h
    refine X_iload_n C 2 2 dX7_writtenInAll_4 rfl rfl ?_
    refine X_aload_n C 0 0 dX7_writtenInAll_5 rfl rfl ?_
    refine X_get C (hFu _ (by decide)) (wc_53 _ _) rfl inX7 8 (by decide) q_562 rfl dX7_writtenInAll_6 ?_
    refine X_icmp_ge C 32 dX7_writtenInAll_9 (by decide) (fun c => ?_) (fun c => ?_)
    · have h := h.1 c
      refine X_iload_n C 1 1 dX7_writtenInAll_32 rfl rfl ?_
      exact X_iret C E rfl h dX7_writtenInAll_33
    · have h := h.2 c
      refine X_iload_n C 1 1 dX7_writtenInAll_12 rfl rfl ?_
      refine X_aload_n C 0 0 dX7_writtenInAll_13 rfl rfl ?_
      refine X_get C (hFu _ (by decide)) (wc_53 _ _) rfl inX7 7 (by decide) q_561 rfl dX7_writtenInAll_14 ?_
      refine X_bipush C (7 : Int32) dX7_writtenInAll_17 (by decide) ?_
      refine X_iload_n C 2 2 dX7_writtenInAll_19 rfl rfl ?_
      refine X_imul C dX7_writtenInAll_20 ?_
      refine X_iconst C (5 : Int32) dX7_writtenInAll_21 (by decide) ?_
      refine X_iadd C dX7_writtenInAll_22 ?_
      obtain ⟨hin, h⟩ := h
      refine X_iald C (hFu _ (by decide)) (wc_58 _ _) hin dX7_writtenInAll_23 ?_
      refine X_iadd C dX7_writtenInAll_24 ?_
      refine X_istore_n C 1 [(1, .int (x1 + (S 58 (Int32.toNatClampNeg (((7 : Int32) * x2) + (5 : Int32)))))), (0, .ref (xad (kG κ) 53)), (2, .int x2)] dX7_writtenInAll_25 rfl (by decide) rfl ?_
      refine X_iinc C (x2 + (1 : Int32)) 2 [(2, .int (x2 + (1 : Int32))), (1, .int (x1 + (S 58 (Int32.toNatClampNeg (((7 : Int32) * x2) + (5 : Int32)))))), (0, .ref (xad (kG κ) 53))] dX7_writtenInAll_26 rfl rfl (by decide) rfl ?_
      refine X_goto C 4 dX7_writtenInAll_29 (by decide) ?_
      refine X_sub [2, 1, 0] rfl ?_
      exact ih _ _ _ h
set_option maxRecDepth 100000 in
set_option maxHeartbeats 4000000 in
theorem M_X7_writtenInAll {l : Launch} {G : XG} (hJ : XJ G) (hFu : XF G) {S : Mem} {K : Int32 → Mem → Prop} (h : P_X7_writtenInAll S K) : XMi l G yX7_writtenInAll cX7_writtenInAll 3 .int 0 0 [.ref (xad G 53)] S K := by
  refine X_meth RX7 rfl (by decide +kernel) hJ (Nat.le_of_ble_eq_true rfl) (fun κ hl hG C E => ?_)
  subst hl hG
  show XW κ S 0 [(0, .ref (xad (kG κ) 53))] []
  refine X_iconst C (0 : Int32) dX7_writtenInAll_0 (by decide) ?_
  refine X_istore_n C 1 [(1, .int (0 : Int32)), (0, .ref (xad (kG κ) 53))] dX7_writtenInAll_1 rfl (by decide) rfl ?_
  refine X_iconst C (0 : Int32) dX7_writtenInAll_2 (by decide) ?_
  refine X_istore_n C 2 [(2, .int (0 : Int32)), (1, .int (0 : Int32)), (0, .ref (xad (kG κ) 53))] dX7_writtenInAll_3 rfl (by decide) rfl ?_
  refine X_sub [2, 1, 0] rfl ?_
  obtain ⟨n1, h⟩ := h
  exact K_X7_writtenInAll_4 C E hFu n1 _ _ _ h
set_option maxRecDepth 100000 in
set_option maxHeartbeats 4000000 in
theorem K_X7_readAgain_4 {κ : Kx} (C : XC κ RX7 cX7_readAgain 3 0 0) {K : Int32 → Mem → Prop} (E : XRet κ (some .int) (va_Qi K (XB (kG κ)) (XA (kG κ)))) (hFu : XF (kG κ)) : ∀ (n : Nat) (S : Mem) (x1 : Int32) (x2 : Int32), B_X7_readAgain_4 K n S x1 x2 → XW κ S 4 [(0, .ref (xad (kG κ) 53)), (1, .int x1), (2, .int x2)] [] := by
  intro n
  induction n with
  | zero => intro S x1 x2 h; exact h.elim
  | succ n ih =>
    intro S x1 x2 h
    refine X_iload_n C 2 2 dX7_readAgain_4 rfl rfl ?_
    refine X_aload_n C 0 0 dX7_readAgain_5 rfl rfl ?_
    refine X_get C (hFu _ (by decide)) (wc_53 _ _) rfl inX7 8 (by decide) q_562 rfl dX7_readAgain_6 ?_
    refine X_icmp_ge C 32 dX7_readAgain_9 (by decide) (fun c => ?_) (fun c => ?_)
    · have h := h.1 c
      refine X_iload_n C 1 1 dX7_readAgain_32 rfl rfl ?_
      exact X_iret C E rfl h dX7_readAgain_33
    · have h := h.2 c
      refine X_iload_n C 1 1 dX7_readAgain_12 rfl rfl ?_
      refine X_aload_n C 0 0 dX7_readAgain_13 rfl rfl ?_
      refine X_get C (hFu _ (by decide)) (wc_53 _ _) rfl inX7 7 (by decide) q_561 rfl dX7_readAgain_14 ?_
      refine X_bipush C (7 : Int32) dX7_readAgain_17 (by decide) ?_
      refine X_iload_n C 2 2 dX7_readAgain_19 rfl rfl ?_
      refine X_imul C dX7_readAgain_20 ?_
      refine X_iconst C (2 : Int32) dX7_readAgain_21 (by decide) ?_
      refine X_iadd C dX7_readAgain_22 ?_
      obtain ⟨hin, h⟩ := h
      refine X_iald C (hFu _ (by decide)) (wc_58 _ _) hin dX7_readAgain_23 ?_
      refine X_iadd C dX7_readAgain_24 ?_
      refine X_istore_n C 1 [(1, .int (x1 + (S 58 (Int32.toNatClampNeg (((7 : Int32) * x2) + (2 : Int32)))))), (0, .ref (xad (kG κ) 53)), (2, .int x2)] dX7_readAgain_25 rfl (by decide) rfl ?_
      refine X_iinc C (x2 + (1 : Int32)) 2 [(2, .int (x2 + (1 : Int32))), (1, .int (x1 + (S 58 (Int32.toNatClampNeg (((7 : Int32) * x2) + (2 : Int32)))))), (0, .ref (xad (kG κ) 53))] dX7_readAgain_26 rfl rfl (by decide) rfl ?_
      refine X_goto C 4 dX7_readAgain_29 (by decide) ?_
      refine X_sub [2, 1, 0] rfl ?_
      exact ih _ _ _ h
set_option maxRecDepth 100000 in
set_option maxHeartbeats 4000000 in
theorem M_X7_readAgain {l : Launch} {G : XG} (hJ : XJ G) (hFu : XF G) {S : Mem} {K : Int32 → Mem → Prop} (h : P_X7_readAgain S K) : XMi l G yX7_readAgain cX7_readAgain 3 .int 0 0 [.ref (xad G 53)] S K := by
  refine X_meth RX7 rfl (by decide +kernel) hJ (Nat.le_of_ble_eq_true rfl) (fun κ hl hG C E => ?_)
  subst hl hG
  show XW κ S 0 [(0, .ref (xad (kG κ) 53))] []
  refine X_iconst C (0 : Int32) dX7_readAgain_0 (by decide) ?_
  refine X_istore_n C 1 [(1, .int (0 : Int32)), (0, .ref (xad (kG κ) 53))] dX7_readAgain_1 rfl (by decide) rfl ?_
  refine X_iconst C (1 : Int32) dX7_readAgain_2 (by decide) ?_
  refine X_istore_n C 2 [(2, .int (1 : Int32)), (1, .int (0 : Int32)), (0, .ref (xad (kG κ) 53))] dX7_readAgain_3 rfl (by decide) rfl ?_
  refine X_sub [2, 1, 0] rfl ?_
  obtain ⟨n1, h⟩ := h
  exact K_X7_readAgain_4 C E hFu n1 _ _ _ h
set_option maxRecDepth 100000 in
set_option maxHeartbeats 4000000 in
theorem K_X7_greatest_42 {κ : Kx} (C : XC κ RX7 cX7_greatest 4 0 0) {K : Int32 → Mem → Prop} (E : XRet κ (some .int) (va_Qi K (XB (kG κ)) (XA (kG κ)))) (hFu : XF (kG κ)) {R4 : Mem → Int32 → Int32 → Int32 → Prop} (hR4 : ∀ (S : Mem) (x1 x2 x3 : Int32), R4 S x1 x2 x3 → XW κ S 4 [(0, .ref (xad (kG κ) 53)), (1, .int x1), (2, .int x2), (3, .int x3)] []) {S : Mem} {x1 : Int32} {x3 : Int32} {y0 : Int32} (h : B_X7_greatest_42 R4 K S x1 x3 y0) : XW κ S 42 [(0, .ref (xad (kG κ) 53)), (1, .int x1), (3, .int x3)] [.int y0] := by
  refine X_istore_n C 2 [(2, .int y0), (0, .ref (xad (kG κ) 53)), (1, .int x1), (3, .int x3)] dX7_greatest_42 rfl (by decide) rfl ?_
  refine X_iinc C (x3 + (1 : Int32)) 3 [(3, .int (x3 + (1 : Int32))), (2, .int y0), (0, .ref (xad (kG κ) 53)), (1, .int x1)] dX7_greatest_43 rfl rfl (by decide) rfl ?_
  refine X_goto C 4 dX7_greatest_46 (by decide) ?_
  refine X_sub [2, 3, 1, 0] rfl ?_
  exact hR4 _ _ _ _ h
set_option maxRecDepth 100000 in
set_option maxHeartbeats 4000000 in
theorem K_X7_greatest_4 {κ : Kx} (C : XC κ RX7 cX7_greatest 4 0 0) {K : Int32 → Mem → Prop} (E : XRet κ (some .int) (va_Qi K (XB (kG κ)) (XA (kG κ)))) (hFu : XF (kG κ)) : ∀ (n : Nat) (S : Mem) (x1 : Int32) (x2 : Int32) (x3 : Int32), B_X7_greatest_4 K n S x1 x2 x3 → XW κ S 4 [(0, .ref (xad (kG κ) 53)), (1, .int x1), (2, .int x2), (3, .int x3)] [] := by
  intro n
  induction n with
  | zero => intro S x1 x2 x3 h; exact h.elim
  | succ n ih =>
    intro S x1 x2 x3 h
    refine X_iload_n C 3 3 dX7_greatest_4 rfl rfl ?_
    refine X_aload_n C 0 0 dX7_greatest_5 rfl rfl ?_
    refine X_get C (hFu _ (by decide)) (wc_53 _ _) rfl inX7 8 (by decide) q_562 rfl dX7_greatest_6 ?_
    refine X_icmp_ge C 49 dX7_greatest_9 (by decide) (fun c => ?_) (fun c => ?_)
    · have h := h.1 c
      refine X_iload_n C 2 2 dX7_greatest_49 rfl rfl ?_
      exact X_iret C E rfl h dX7_greatest_50
    · have h := h.2 c
      refine X_aload_n C 0 0 dX7_greatest_12 rfl rfl ?_
      refine X_get C (hFu _ (by decide)) (wc_53 _ _) rfl inX7 7 (by decide) q_561 rfl dX7_greatest_13 ?_
      refine X_bipush C (7 : Int32) dX7_greatest_16 (by decide) ?_
      refine X_iload_n C 3 3 dX7_greatest_18 rfl rfl ?_
      refine X_imul C dX7_greatest_19 ?_
      refine X_iload_n C 1 1 dX7_greatest_20 rfl rfl ?_
      refine X_iadd C dX7_greatest_21 ?_
      obtain ⟨hin, h⟩ := h
      refine X_iald C (hFu _ (by decide)) (wc_58 _ _) hin dX7_greatest_22 ?_
      refine X_iload_n C 2 2 dX7_greatest_23 rfl rfl ?_
      refine X_icmp_le C 41 dX7_greatest_24 (by decide) (fun c => ?_) (fun c => ?_)
      · have h := h.1 c
        refine X_iload_n C 2 2 dX7_greatest_41 rfl rfl ?_
        refine X_sub [0, 1, 3] rfl ?_
        exact K_X7_greatest_42 C E hFu (fun _ _ _ _ h => ih _ _ _ _ h) h
      · have h := h.2 c
        refine X_aload_n C 0 0 dX7_greatest_27 rfl rfl ?_
        refine X_get C (hFu _ (by decide)) (wc_53 _ _) rfl inX7 7 (by decide) q_561 rfl dX7_greatest_28 ?_
        refine X_bipush C (7 : Int32) dX7_greatest_31 (by decide) ?_
        refine X_iload_n C 3 3 dX7_greatest_33 rfl rfl ?_
        refine X_imul C dX7_greatest_34 ?_
        refine X_iload_n C 1 1 dX7_greatest_35 rfl rfl ?_
        refine X_iadd C dX7_greatest_36 ?_
        obtain ⟨hin, h⟩ := h
        refine X_iald C (hFu _ (by decide)) (wc_58 _ _) hin dX7_greatest_37 ?_
        refine X_goto C 42 dX7_greatest_38 (by decide) ?_
        refine X_sub [0, 1, 3] rfl ?_
        exact K_X7_greatest_42 C E hFu (fun _ _ _ _ h => ih _ _ _ _ h) h
set_option maxRecDepth 100000 in
set_option maxHeartbeats 4000000 in
theorem M_X7_greatest {l : Launch} {G : XG} (hJ : XJ G) (hFu : XF G) {S : Mem} {a1 : Int32} {K : Int32 → Mem → Prop} (h : P_X7_greatest S a1 K) : XMi l G yX7_greatest cX7_greatest 4 .int 0 0 [.ref (xad G 53), .int a1] S K := by
  refine X_meth RX7 rfl (by decide +kernel) hJ (Nat.le_of_ble_eq_true rfl) (fun κ hl hG C E => ?_)
  subst hl hG
  show XW κ S 0 [(0, .ref (xad (kG κ) 53)), (1, .int a1)] []
  refine X_iconst C (0 : Int32) dX7_greatest_0 (by decide) ?_
  refine X_istore_n C 2 [(2, .int (0 : Int32)), (0, .ref (xad (kG κ) 53)), (1, .int a1)] dX7_greatest_1 rfl (by decide) rfl ?_
  refine X_iconst C (0 : Int32) dX7_greatest_2 (by decide) ?_
  refine X_istore_n C 3 [(3, .int (0 : Int32)), (2, .int (0 : Int32)), (0, .ref (xad (kG κ) 53)), (1, .int a1)] dX7_greatest_3 rfl (by decide) rfl ?_
  refine X_sub [2, 3, 1, 0] rfl ?_
  obtain ⟨n1, h⟩ := h
  exact K_X7_greatest_4 C E hFu n1 _ _ _ _ h
set_option maxRecDepth 100000 in
set_option maxHeartbeats 4000000 in
theorem M_X7_total {l : Launch} {G : XG} (hJ : XJ G) (hFu : XF G) {S : Mem} {a1 : Int32} {K : Int32 → Mem → Prop} (h : P_X7_total S a1 K) : XMi l G yX7_total cX7_total 2 .int 8 186 [.ref (xad G 53), .int a1] S K := by
  refine X_meth RX7 rfl (by decide +kernel) hJ (Nat.le_of_ble_eq_true rfl) (fun κ hl hG C E => ?_)
  subst hl hG
  show XW κ S 0 [(0, .ref (xad (kG κ) 53)), (1, .int a1)] []
  refine X_aload_n C 0 0 dX7_total_0 rfl rfl ?_
  refine X_callVv C eX7_runNow [] [] (M_X7_runNow C.g_J hFu h) (hFu _ (by decide)) (wc_53 _ _) rfl q_704 rfl ⟨(Nat.le_of_ble_eq_true rfl), (Nat.le_of_ble_eq_true rfl)⟩ rfl (Nat.le_of_ble_eq_true rfl) dX7_total_1 (fun S1 h => ?_)
  refine X_iload_n C 1 1 dX7_total_4 rfl rfl ?_
  by_cases c0 : a1 = (0 : Int32)
  · have h := h.1 c0
    refine X_tin (off := 47) C 52 dX7_total_5 (by rw [c0]; decide) (by rw [c0]; decide) (by rw [c0]; rfl) (by decide) ?_
    refine X_aload_n C 0 0 dX7_total_52 rfl rfl ?_
    refine X_get C (hFu _ (by decide)) (wc_53 _ _) rfl inX7 12 (by decide) q_566 rfl dX7_total_53 ?_
    exact X_iret C E rfl h dX7_total_56
  by_cases c1 : a1 = (1 : Int32)
  · have h := h.2.1 c1
    refine X_tin (off := 52) C 57 dX7_total_5 (by rw [c1]; decide) (by rw [c1]; decide) (by rw [c1]; rfl) (by decide) ?_
    refine X_aload_n C 0 0 dX7_total_57 rfl rfl ?_
    refine X_get C (hFu _ (by decide)) (wc_53 _ _) rfl inX7 8 (by decide) q_562 rfl dX7_total_58 ?_
    exact X_iret C E rfl h dX7_total_61
  by_cases c2 : a1 = (2 : Int32)
  · have h := h.2.2.1 c2
    refine X_tin (off := 57) C 62 dX7_total_5 (by rw [c2]; decide) (by rw [c2]; decide) (by rw [c2]; rfl) (by decide) ?_
    refine X_aload_n C 0 0 dX7_total_62 rfl rfl ?_
    refine X_get C (hFu _ (by decide)) (wc_53 _ _) rfl inX7 10 (by decide) q_564 rfl dX7_total_63 ?_
    exact X_iret C E rfl h dX7_total_66
  by_cases c3 : a1 = (3 : Int32)
  · have h := h.2.2.2.1 c3
    refine X_tin (off := 62) C 67 dX7_total_5 (by rw [c3]; decide) (by rw [c3]; decide) (by rw [c3]; rfl) (by decide) ?_
    refine X_aload_n C 0 0 dX7_total_67 rfl rfl ?_
    refine X_callVi C eX7_writtenInAll [] [] (M_X7_writtenInAll C.g_J hFu h) (hFu _ (by decide)) (wc_53 _ _) rfl q_790 rfl ⟨(Nat.le_of_ble_eq_true rfl), (Nat.le_of_ble_eq_true rfl)⟩ rfl (Nat.le_of_ble_eq_true rfl) dX7_total_68 (fun r4 S3 h => ?_)
    exact X_iret C E rfl h dX7_total_71
  by_cases c4 : a1 = (4 : Int32)
  · have h := h.2.2.2.2.1 c4
    refine X_tin (off := 67) C 72 dX7_total_5 (by rw [c4]; decide) (by rw [c4]; decide) (by rw [c4]; rfl) (by decide) ?_
    refine X_aload_n C 0 0 dX7_total_72 rfl rfl ?_
    refine X_callVi C eX7_readAgain [] [] (M_X7_readAgain C.g_J hFu h) (hFu _ (by decide)) (wc_53 _ _) rfl q_794 rfl ⟨(Nat.le_of_ble_eq_true rfl), (Nat.le_of_ble_eq_true rfl)⟩ rfl (Nat.le_of_ble_eq_true rfl) dX7_total_73 (fun r6 S5 h => ?_)
    exact X_iret C E rfl h dX7_total_76
  by_cases c5 : a1 = (5 : Int32)
  · have h := h.2.2.2.2.2.1 c5
    refine X_tin (off := 72) C 77 dX7_total_5 (by rw [c5]; decide) (by rw [c5]; decide) (by rw [c5]; rfl) (by decide) ?_
    refine X_aload_n C 0 0 dX7_total_77 rfl rfl ?_
    refine X_iconst C (0 : Int32) dX7_total_78 (by decide) ?_
    refine X_callVi C eX7_greatest [.int (0 : Int32)] [] (M_X7_greatest C.g_J hFu h) (hFu _ (by decide)) (wc_53 _ _) rfl q_798 rfl ⟨(Nat.le_of_ble_eq_true rfl), (Nat.le_of_ble_eq_true rfl)⟩ rfl (Nat.le_of_ble_eq_true rfl) dX7_total_79 (fun r8 S7 h => ?_)
    exact X_iret C E rfl h dX7_total_82
  by_cases c6 : a1 = (6 : Int32)
  · have h := h.2.2.2.2.2.2.1 c6
    refine X_tin (off := 78) C 83 dX7_total_5 (by rw [c6]; decide) (by rw [c6]; decide) (by rw [c6]; rfl) (by decide) ?_
    refine X_aload_n C 0 0 dX7_total_83 rfl rfl ?_
    refine X_bipush C (6 : Int32) dX7_total_84 (by decide) ?_
    refine X_callVi C eX7_greatest [.int (6 : Int32)] [] (M_X7_greatest C.g_J hFu h) (hFu _ (by decide)) (wc_53 _ _) rfl q_798 rfl ⟨(Nat.le_of_ble_eq_true rfl), (Nat.le_of_ble_eq_true rfl)⟩ rfl (Nat.le_of_ble_eq_true rfl) dX7_total_86 (fun r10 S9 h => ?_)
    exact X_iret C E rfl h dX7_total_89
  by_cases c7 : a1 = (7 : Int32)
  · have h := h.2.2.2.2.2.2.2.1 c7
    refine X_tin (off := 85) C 90 dX7_total_5 (by rw [c7]; decide) (by rw [c7]; decide) (by rw [c7]; rfl) (by decide) ?_
    refine X_aload_n C 0 0 dX7_total_90 rfl rfl ?_
    refine X_get C (hFu _ (by decide)) (wc_53 _ _) rfl inX7 13 (by decide) q_567 rfl dX7_total_91 ?_
    exact X_iret C E rfl h dX7_total_94
  have h := h.2.2.2.2.2.2.2.2 ⟨c0, c1, c2, c3, c4, c5, c6, c7⟩
  have e0 := lv_neT c0 (show ((0 : Int32)).toInt = 0 from rfl)
  have e1 := lv_neT c1 (show ((1 : Int32)).toInt = 1 from rfl)
  have e2 := lv_neT c2 (show ((2 : Int32)).toInt = 2 from rfl)
  have e3 := lv_neT c3 (show ((3 : Int32)).toInt = 3 from rfl)
  have e4 := lv_neT c4 (show ((4 : Int32)).toInt = 4 from rfl)
  have e5 := lv_neT c5 (show ((5 : Int32)).toInt = 5 from rfl)
  have e6 := lv_neT c6 (show ((6 : Int32)).toInt = 6 from rfl)
  have e7 := lv_neT c7 (show ((7 : Int32)).toInt = 7 from rfl)
  refine X_tout C 95 dX7_total_5 (by omega) (by decide) ?_
  refine X_ldc C (-1000001 : Int32) q_658 dX7_total_95 ?_
  exact X_iret C E rfl h dX7_total_97
set_option maxRecDepth 100000 in
set_option maxHeartbeats 4000000 in
theorem M_X7_writtenBy {l : Launch} {G : XG} (hJ : XJ G) (hFu : XF G) {S : Mem} {a1 : Int32} {a2 : Int32} {K : Int32 → Mem → Prop} (h : P_X7_writtenBy S a1 a2 K) : XMi l G yX7_writtenBy cX7_writtenBy 3 .int 7 166 [.ref (xad G 53), .int a1, .int a2] S K := by
  refine X_meth RX7 rfl (by decide +kernel) hJ (Nat.le_of_ble_eq_true rfl) (fun κ hl hG C E => ?_)
  subst hl hG
  show XW κ S 0 [(0, .ref (xad (kG κ) 53)), (1, .int a1), (2, .int a2)] []
  refine X_aload_n C 0 0 dX7_writtenBy_0 rfl rfl ?_
  refine X_iload_n C 1 1 dX7_writtenBy_1 rfl rfl ?_
  refine X_iload_n C 2 2 dX7_writtenBy_2 rfl rfl ?_
  refine X_callVv C eX7_run [.int a1, .int a2] [] (M_X7_run C.g_J hFu h) (hFu _ (by decide)) (wc_53 _ _) rfl q_708 rfl ⟨(Nat.le_of_ble_eq_true rfl), (Nat.le_of_ble_eq_true rfl)⟩ rfl (Nat.le_of_ble_eq_true rfl) dX7_writtenBy_3 (fun S1 h => ?_)
  refine X_aload_n C 0 0 dX7_writtenBy_6 rfl rfl ?_
  refine X_callVi C eX7_writtenInAll [] [] (M_X7_writtenInAll C.g_J hFu h) (hFu _ (by decide)) (wc_53 _ _) rfl q_790 rfl ⟨(Nat.le_of_ble_eq_true rfl), (Nat.le_of_ble_eq_true rfl)⟩ rfl (Nat.le_of_ble_eq_true rfl) dX7_writtenBy_7 (fun r4 S3 h => ?_)
  exact X_iret C E rfl h dX7_writtenBy_10
set_option maxRecDepth 100000 in
set_option maxHeartbeats 4000000 in
theorem M_X7_written {l : Launch} {G : XG} (hJ : XJ G) (hFu : XF G) {S : Mem} {a1 : Int32} {a2 : Int32} {K : Int32 → Mem → Prop} (h : P_X7_written S a1 a2 K) : XMi l G yX7_written cX7_written 3 .int 8 188 [.ref (xad G 53), .int a1, .int a2] S K := by
  refine X_meth RX7 rfl (by decide +kernel) hJ (Nat.le_of_ble_eq_true rfl) (fun κ hl hG C E => ?_)
  subst hl hG
  show XW κ S 0 [(0, .ref (xad (kG κ) 53)), (1, .int a1), (2, .int a2)] []
  refine X_iload_n C 1 1 dX7_written_0 rfl rfl ?_
  refine X_i2l C dX7_written_1 ?_
  refine X_lconst C (1 : Int64) dX7_written_2 (by decide) ?_
  refine X_ldc2 C (12 : Int64) q_681 dX7_written_3 ?_
  refine X_callSi C eX7_in [.long (Int32.toInt64 a1), .long (1 : Int64), .long (12 : Int64)] [] (M_X7_in C.g_J hFu h) q_653 rfl ⟨(Nat.le_of_ble_eq_true rfl), (Nat.le_of_ble_eq_true rfl)⟩ rfl (Nat.le_of_ble_eq_true rfl) dX7_written_6 (fun r2 S1 h => ?_)
  refine X_if_eq C 33 dX7_written_9 (by decide) (fun c => ?_) (fun c => ?_)
  · have h := h.1 c
    refine X_ldc C (-1000001 : Int32) q_658 dX7_written_33 ?_
    exact X_iret C E rfl h dX7_written_35
  · have h := h.2 c
    refine X_iload_n C 2 2 dX7_written_12 rfl rfl ?_
    refine X_i2l C dX7_written_13 ?_
    refine X_lconst C (1 : Int64) dX7_written_14 (by decide) ?_
    refine X_ldc2 C (4 : Int64) q_682 dX7_written_15 ?_
    refine X_callSi C eX7_in [.long (Int32.toInt64 a2), .long (1 : Int64), .long (4 : Int64)] [] (M_X7_in C.g_J hFu h) q_653 rfl ⟨(Nat.le_of_ble_eq_true rfl), (Nat.le_of_ble_eq_true rfl)⟩ rfl (Nat.le_of_ble_eq_true rfl) dX7_written_18 (fun r4 S3 h => ?_)
    refine X_if_eq C 33 dX7_written_21 (by decide) (fun c => ?_) (fun c => ?_)
    · have h := h.1 c
      refine X_ldc C (-1000001 : Int32) q_658 dX7_written_33 ?_
      exact X_iret C E rfl h dX7_written_35
    · have h := h.2 c
      refine X_aload_n C 0 0 dX7_written_24 rfl rfl ?_
      refine X_iload_n C 1 1 dX7_written_25 rfl rfl ?_
      refine X_iload_n C 2 2 dX7_written_26 rfl rfl ?_
      refine X_callVi C eX7_writtenBy [.int a1, .int a2] [] (M_X7_writtenBy C.g_J hFu h) (hFu _ (by decide)) (wc_53 _ _) rfl q_806 rfl ⟨(Nat.le_of_ble_eq_true rfl), (Nat.le_of_ble_eq_true rfl)⟩ rfl (Nat.le_of_ble_eq_true rfl) dX7_written_27 (fun r6 S5 h => ?_)
      refine X_goto C 35 dX7_written_30 (by decide) ?_
      exact X_iret C E rfl h dX7_written_35
set_option maxRecDepth 100000 in
set_option maxHeartbeats 4000000 in
theorem K_X7_bestBits_89 {κ : Kx} (C : XC κ RX7 cX7_bestBits 7 8 188) {K : Int32 → Mem → Prop} (E : XRet κ (some .int) (va_Qi K (XB (kG κ)) (XA (kG κ)))) (hFu : XF (kG κ)) {S : Mem} {x2 : Int32} {x3 : Int32} {x4 : Int32} (h : B_X7_bestBits_89 K S x2 x3 x4) : XW κ S 89 [(2, .int x2), (3, .int x3), (4, .int x4)] [] := by
  refine X_iload_n C 2 0 dX7_bestBits_89 rfl rfl ?_
  refine X_if_ne C 97 dX7_bestBits_90 (by decide) (fun c => ?_) (fun c => ?_)
  · have h := h.1 c
    refine X_iload C 2 dX7_bestBits_97 rfl ?_
    exact X_iret C E rfl h dX7_bestBits_99
  · have h := h.2 c
    refine X_iload_n C 3 1 dX7_bestBits_93 rfl rfl ?_
    refine X_goto C 99 dX7_bestBits_94 (by decide) ?_
    exact X_iret C E rfl h dX7_bestBits_99
set_option maxRecDepth 100000 in
set_option maxHeartbeats 4000000 in
theorem K_X7_bestBits_81 {κ : Kx} (C : XC κ RX7 cX7_bestBits 7 8 188) {K : Int32 → Mem → Prop} (E : XRet κ (some .int) (va_Qi K (XB (kG κ)) (XA (kG κ)))) (hFu : XF (kG κ)) {R38 : Mem → Int32 → Int32 → Int32 → Int32 → Int32 → Prop} (hR38 : ∀ (S : Mem) (x1 x2 x3 x4 x5 : Int32), R38 S x1 x2 x3 x4 x5 → XW κ S 38 [(0, .ref (xad (kG κ) 53)), (1, .int x1), (2, .int x2), (3, .int x3), (4, .int x4), (5, .int x5)] []) {S : Mem} {x1 : Int32} {x2 : Int32} {x3 : Int32} {x5 : Int32} {y0 : Int32} (h : B_X7_bestBits_81 R38 K S x1 x2 x3 x5 y0) : XW κ S 81 [(0, .ref (xad (kG κ) 53)), (1, .int x1), (2, .int x2), (3, .int x3), (5, .int x5)] [.int y0] := by
  refine X_istore C [(4, .int y0), (0, .ref (xad (kG κ) 53)), (1, .int x1), (2, .int x2), (3, .int x3), (5, .int x5)] dX7_bestBits_81 (by decide) rfl ?_
  refine X_iinc C (x5 + (1 : Int32)) 5 [(5, .int (x5 + (1 : Int32))), (4, .int y0), (0, .ref (xad (kG κ) 53)), (1, .int x1), (2, .int x2), (3, .int x3)] dX7_bestBits_83 rfl rfl (by decide) rfl ?_
  refine X_goto C 38 dX7_bestBits_86 (by decide) ?_
  refine X_sub [2, 3, 4, 5, 1, 0] rfl ?_
  exact hR38 _ _ _ _ _ _ h
set_option maxRecDepth 100000 in
set_option maxHeartbeats 4000000 in
theorem K_X7_bestBits_66 {κ : Kx} (C : XC κ RX7 cX7_bestBits 7 8 188) {K : Int32 → Mem → Prop} (E : XRet κ (some .int) (va_Qi K (XB (kG κ)) (XA (kG κ)))) (hFu : XF (kG κ)) {R38 : Mem → Int32 → Int32 → Int32 → Int32 → Int32 → Prop} (hR38 : ∀ (S : Mem) (x1 x2 x3 x4 x5 : Int32), R38 S x1 x2 x3 x4 x5 → XW κ S 38 [(0, .ref (xad (kG κ) 53)), (1, .int x1), (2, .int x2), (3, .int x3), (4, .int x4), (5, .int x5)] []) {S : Mem} {x1 : Int32} {x2 : Int32} {x4 : Int32} {x5 : Int32} {x6 : Int32} {y0 : Int32} (h : B_X7_bestBits_66 R38 K S x1 x2 x4 x5 x6 y0) : XW κ S 66 [(0, .ref (xad (kG κ) 53)), (1, .int x1), (2, .int x2), (4, .int x4), (5, .int x5), (6, .int x6)] [.int y0] := by
  refine X_istore_n C 3 [(3, .int y0), (0, .ref (xad (kG κ) 53)), (1, .int x1), (2, .int x2), (4, .int x4), (5, .int x5), (6, .int x6)] dX7_bestBits_66 rfl (by decide) rfl ?_
  refine X_iload C 6 dX7_bestBits_67 rfl ?_
  refine X_iload C 4 dX7_bestBits_69 rfl ?_
  refine X_icmp_ge C 79 dX7_bestBits_71 (by decide) (fun c => ?_) (fun c => ?_)
  · have h := h.1 c
    refine X_iload C 4 dX7_bestBits_79 rfl ?_
    refine X_sub [1, 2, 3, 0, 5] rfl ?_
    exact K_X7_bestBits_81 C E hFu hR38 h
  · have h := h.2 c
    refine X_iload C 6 dX7_bestBits_74 rfl ?_
    refine X_goto C 81 dX7_bestBits_76 (by decide) ?_
    refine X_sub [1, 2, 3, 0, 5] rfl ?_
    exact K_X7_bestBits_81 C E hFu hR38 h
set_option maxRecDepth 100000 in
set_option maxHeartbeats 4000000 in
theorem K_X7_bestBits_38 {κ : Kx} (C : XC κ RX7 cX7_bestBits 7 8 188) {K : Int32 → Mem → Prop} (E : XRet κ (some .int) (va_Qi K (XB (kG κ)) (XA (kG κ)))) (hFu : XF (kG κ)) : ∀ (n : Nat) (S : Mem) (x1 : Int32) (x2 : Int32) (x3 : Int32) (x4 : Int32) (x5 : Int32), B_X7_bestBits_38 K n S x1 x2 x3 x4 x5 → XW κ S 38 [(0, .ref (xad (kG κ) 53)), (1, .int x1), (2, .int x2), (3, .int x3), (4, .int x4), (5, .int x5)] [] := by
  intro n
  induction n with
  | zero => intro S x1 x2 x3 x4 x5 h; exact h.elim
  | succ n ih =>
    intro S x1 x2 x3 x4 x5 h
    refine X_iload C 5 dX7_bestBits_38 rfl ?_
    refine X_iconst C (4 : Int32) dX7_bestBits_40 (by decide) ?_
    refine X_icmp_gt C 89 dX7_bestBits_41 (by decide) (fun c => ?_) (fun c => ?_)
    · have h := h.1 c
      refine X_sub [2, 3, 4] rfl ?_
      exact K_X7_bestBits_89 C E hFu h
    · have h := h.2 c
      refine X_aload_n C 0 0 dX7_bestBits_44 rfl rfl ?_
      refine X_iload_n C 1 1 dX7_bestBits_45 rfl rfl ?_
      refine X_iload C 5 dX7_bestBits_46 rfl ?_
      refine X_callVi C eX7_writtenBy [.int x1, .int x5] [] (M_X7_writtenBy C.g_J hFu h) (hFu _ (by decide)) (wc_53 _ _) rfl q_806 rfl ⟨(Nat.le_of_ble_eq_true rfl), (Nat.le_of_ble_eq_true rfl)⟩ rfl (Nat.le_of_ble_eq_true rfl) dX7_bestBits_48 (fun r8 S7 h => ?_)
      refine X_istore C [(6, .int r8), (0, .ref (xad (kG κ) 53)), (1, .int x1), (2, .int x2), (3, .int x3), (4, .int x4), (5, .int x5)] dX7_bestBits_51 (by decide) rfl ?_
      refine X_iload C 0 dX7_bestBits_53 rfl ?_
      refine X_iload C 5 dX7_bestBits_55 rfl ?_
      refine X_icmp_ge C 65 dX7_bestBits_57 (by decide) (fun c => ?_) (fun c => ?_)
      · have h := h.1 c
        refine X_iload_n C 3 4 dX7_bestBits_65 rfl rfl ?_
        refine X_sub [1, 2, 3, 5, 6, 0] rfl ?_
        exact K_X7_bestBits_66 C E hFu (fun _ _ _ _ _ _ h => ih _ _ _ _ _ _ h) h
      · have h := h.2 c
        refine X_iload C 6 dX7_bestBits_60 rfl ?_
        refine X_goto C 66 dX7_bestBits_62 (by decide) ?_
        refine X_sub [1, 2, 3, 5, 6, 0] rfl ?_
        exact K_X7_bestBits_66 C E hFu (fun _ _ _ _ _ _ h => ih _ _ _ _ _ _ h) h
set_option maxRecDepth 100000 in
set_option maxHeartbeats 4000000 in
theorem M_X7_bestBits {l : Launch} {G : XG} (hJ : XJ G) (hFu : XF G) {S : Mem} {a1 : Int32} {a2 : Int32} {K : Int32 → Mem → Prop} (h : P_X7_bestBits S a1 a2 K) : XMi l G yX7_bestBits cX7_bestBits 7 .int 8 188 [.ref (xad G 53), .int a1, .int a2] S K := by
  refine X_meth RX7 rfl (by decide +kernel) hJ (Nat.le_of_ble_eq_true rfl) (fun κ hl hG C E => ?_)
  subst hl hG
  show XW κ S 0 [(0, .ref (xad (kG κ) 53)), (1, .int a1), (2, .int a2)] []
  refine X_iload_n C 1 1 dX7_bestBits_0 rfl rfl ?_
  refine X_i2l C dX7_bestBits_1 ?_
  refine X_lconst C (1 : Int64) dX7_bestBits_2 (by decide) ?_
  refine X_ldc2 C (12 : Int64) q_681 dX7_bestBits_3 ?_
  refine X_callSi C eX7_in [.long (Int32.toInt64 a1), .long (1 : Int64), .long (12 : Int64)] [] (M_X7_in C.g_J hFu h) q_653 rfl ⟨(Nat.le_of_ble_eq_true rfl), (Nat.le_of_ble_eq_true rfl)⟩ rfl (Nat.le_of_ble_eq_true rfl) dX7_bestBits_6 (fun r2 S1 h => ?_)
  refine X_if_eq C 22 dX7_bestBits_9 (by decide) (fun c => ?_) (fun c => ?_)
  · have h := h.1 c
    refine X_ldc C (-1000001 : Int32) q_658 dX7_bestBits_22 ?_
    exact X_iret C E rfl h dX7_bestBits_24
  · have h := h.2 c
    refine X_iload_n C 2 2 dX7_bestBits_12 rfl rfl ?_
    refine X_i2l C dX7_bestBits_13 ?_
    refine X_lconst C (0 : Int64) dX7_bestBits_14 (by decide) ?_
    refine X_lconst C (1 : Int64) dX7_bestBits_15 (by decide) ?_
    refine X_callSi C eX7_in [.long (Int32.toInt64 a2), .long (0 : Int64), .long (1 : Int64)] [] (M_X7_in C.g_J hFu h) q_653 rfl ⟨(Nat.le_of_ble_eq_true rfl), (Nat.le_of_ble_eq_true rfl)⟩ rfl (Nat.le_of_ble_eq_true rfl) dX7_bestBits_16 (fun r4 S3 h => ?_)
    refine X_if_ne C 25 dX7_bestBits_19 (by decide) (fun c => ?_) (fun c => ?_)
    · have h := h.1 c
      refine X_iconst C (1 : Int32) dX7_bestBits_25 (by decide) ?_
      refine X_istore_n C 3 [(3, .int (1 : Int32)), (0, .ref (xad (kG κ) 53)), (1, .int a1), (2, .int a2)] dX7_bestBits_26 rfl (by decide) rfl ?_
      refine X_aload_n C 0 1 dX7_bestBits_27 rfl rfl ?_
      refine X_iload_n C 1 2 dX7_bestBits_28 rfl rfl ?_
      refine X_iconst C (1 : Int32) dX7_bestBits_29 (by decide) ?_
      refine X_callVi C eX7_writtenBy [.int a1, .int (1 : Int32)] [] (M_X7_writtenBy C.g_J hFu h) (hFu _ (by decide)) (wc_53 _ _) rfl q_806 rfl ⟨(Nat.le_of_ble_eq_true rfl), (Nat.le_of_ble_eq_true rfl)⟩ rfl (Nat.le_of_ble_eq_true rfl) dX7_bestBits_30 (fun r6 S5 h => ?_)
      refine X_istore C [(4, .int r6), (3, .int (1 : Int32)), (0, .ref (xad (kG κ) 53)), (1, .int a1), (2, .int a2)] dX7_bestBits_33 (by decide) rfl ?_
      refine X_iconst C (2 : Int32) dX7_bestBits_35 (by decide) ?_
      refine X_istore C [(5, .int (2 : Int32)), (4, .int r6), (3, .int (1 : Int32)), (0, .ref (xad (kG κ) 53)), (1, .int a1), (2, .int a2)] dX7_bestBits_36 (by decide) rfl ?_
      refine X_sub [3, 4, 5, 2, 1, 0] rfl ?_
      obtain ⟨n9, h⟩ := h
      exact K_X7_bestBits_38 C E hFu n9 _ _ _ _ _ _ h
    · have h := h.2 c
      refine X_ldc C (-1000001 : Int32) q_658 dX7_bestBits_22 ?_
      exact X_iret C E rfl h dX7_bestBits_24
set_option maxRecDepth 100000 in
set_option maxHeartbeats 4000000 in
theorem K_X7_enough_2 {κ : Kx} (C : XC κ RX7 cX7_enough 2 7 166) {K : Int32 → Mem → Prop} (E : XRet κ (some .int) (va_Qi K (XB (kG κ)) (XA (kG κ)))) (hFu : XF (kG κ)) : ∀ (n : Nat) (S : Mem) (x1 : Int32), B_X7_enough_2 K n S x1 → XW κ S 2 [(0, .ref (xad (kG κ) 53)), (1, .int x1)] [] := by
  intro n
  induction n with
  | zero => intro S x1 h; exact h.elim
  | succ n ih =>
    intro S x1 h
    refine X_iload_n C 1 1 dX7_enough_2 rfl rfl ?_
    refine X_bipush C (12 : Int32) dX7_enough_3 (by decide) ?_
    refine X_icmp_gt C 34 dX7_enough_5 (by decide) (fun c => ?_) (fun c => ?_)
    · have h := h.1 c
      refine X_ldc C (-1000004 : Int32) q_689 dX7_enough_34 ?_
      exact X_iret C E rfl h dX7_enough_36
    · have h := h.2 c
      refine X_aload_n C 0 0 dX7_enough_8 rfl rfl ?_
      refine X_iload_n C 1 1 dX7_enough_9 rfl rfl ?_
      refine X_aload_n C 0 0 dX7_enough_10 rfl rfl ?_
      refine X_get C (hFu _ (by decide)) (wc_53 _ _) rfl inX7 0 (by decide) q_554 rfl dX7_enough_11 ?_
      refine X_iconst C (2 : Int32) dX7_enough_14 (by decide) ?_
      obtain ⟨hin, h⟩ := h
      refine X_iald C (hFu _ (by decide)) (wc_54 _ _) hin dX7_enough_15 ?_
      refine X_callVv C eX7_run [.int x1, .int (S 54 (Int32.toNatClampNeg (2 : Int32)))] [] (M_X7_run C.g_J hFu h) (hFu _ (by decide)) (wc_53 _ _) rfl q_708 rfl ⟨(Nat.le_of_ble_eq_true rfl), (Nat.le_of_ble_eq_true rfl)⟩ rfl (Nat.le_of_ble_eq_true rfl) dX7_enough_16 (fun S1 h => ?_)
      refine X_aload_n C 0 0 dX7_enough_19 rfl rfl ?_
      refine X_get C (hFu _ (by decide)) (wc_53 _ _) rfl inX7 10 (by decide) q_564 rfl dX7_enough_20 ?_
      refine X_if_ne C 28 dX7_enough_23 (by decide) (fun c => ?_) (fun c => ?_)
      · have h := h.1 c
        refine X_iinc C (x1 + (1 : Int32)) 1 [(1, .int (x1 + (1 : Int32))), (0, .ref (xad (kG κ) 53))] dX7_enough_28 rfl rfl (by decide) rfl ?_
        refine X_goto C 2 dX7_enough_31 (by decide) ?_
        refine X_sub [1, 0] rfl ?_
        exact ih _ _ h
      · have h := h.2 c
        refine X_iload_n C 1 1 dX7_enough_26 rfl rfl ?_
        exact X_iret C E rfl h dX7_enough_27
set_option maxRecDepth 100000 in
set_option maxHeartbeats 4000000 in
theorem M_X7_enough {l : Launch} {G : XG} (hJ : XJ G) (hFu : XF G) {S : Mem} {K : Int32 → Mem → Prop} (h : P_X7_enough S K) : XMi l G yX7_enough cX7_enough 2 .int 7 166 [.ref (xad G 53)] S K := by
  refine X_meth RX7 rfl (by decide +kernel) hJ (Nat.le_of_ble_eq_true rfl) (fun κ hl hG C E => ?_)
  subst hl hG
  show XW κ S 0 [(0, .ref (xad (kG κ) 53))] []
  refine X_iconst C (1 : Int32) dX7_enough_0 (by decide) ?_
  refine X_istore_n C 1 [(1, .int (1 : Int32)), (0, .ref (xad (kG κ) 53))] dX7_enough_1 rfl (by decide) rfl ?_
  refine X_sub [1, 0] rfl ?_
  obtain ⟨n3, h⟩ := h
  exact K_X7_enough_2 C E hFu n3 _ _ h
set_option maxRecDepth 100000 in
set_option maxHeartbeats 4000000 in
theorem K_X7_rowsIn_43 {κ : Kx} (C : XC κ RX7 cX7_rowsIn 4 2 44) {K : Int32 → Mem → Prop} (E : XRet κ (some .int) (va_Qi K (XB (kG κ)) (XA (kG κ)))) (hFu : XF (kG κ)) {R4 : Mem → Int32 → Int32 → Int32 → Prop} (hR4 : ∀ (S : Mem) (x1 x2 x3 : Int32), R4 S x1 x2 x3 → XW κ S 4 [(0, .ref (xad (kG κ) 53)), (1, .int x1), (2, .int x2), (3, .int x3)] []) {S : Mem} {x1 : Int32} {x3 : Int32} {y0 : Int32} {y1 : Int32} (h : B_X7_rowsIn_43 R4 K S x1 x3 y0 y1) : XW κ S 43 [(0, .ref (xad (kG κ) 53)), (1, .int x1), (3, .int x3)] [.int y0, .int y1] := by
  refine X_iadd C dX7_rowsIn_43 ?_
  refine X_istore_n C 2 [(2, .int (y1 + y0)), (0, .ref (xad (kG κ) 53)), (1, .int x1), (3, .int x3)] dX7_rowsIn_44 rfl (by decide) rfl ?_
  refine X_iinc C (x3 + (1 : Int32)) 3 [(3, .int (x3 + (1 : Int32))), (2, .int (y1 + y0)), (0, .ref (xad (kG κ) 53)), (1, .int x1)] dX7_rowsIn_45 rfl rfl (by decide) rfl ?_
  refine X_goto C 4 dX7_rowsIn_48 (by decide) ?_
  refine X_sub [2, 3, 1, 0] rfl ?_
  exact hR4 _ _ _ _ h
set_option maxRecDepth 100000 in
set_option maxHeartbeats 4000000 in
theorem K_X7_rowsIn_4 {κ : Kx} (C : XC κ RX7 cX7_rowsIn 4 2 44) {K : Int32 → Mem → Prop} (E : XRet κ (some .int) (va_Qi K (XB (kG κ)) (XA (kG κ)))) (hFu : XF (kG κ)) : ∀ (n : Nat) (S : Mem) (x1 : Int32) (x2 : Int32) (x3 : Int32), B_X7_rowsIn_4 K n S x1 x2 x3 → XW κ S 4 [(0, .ref (xad (kG κ) 53)), (1, .int x1), (2, .int x2), (3, .int x3)] [] := by
  intro n
  induction n with
  | zero => intro S x1 x2 x3 h; exact h.elim
  | succ n ih =>
    intro S x1 x2 x3 h
    refine X_iload_n C 3 3 dX7_rowsIn_4 rfl rfl ?_
    refine X_aload_n C 0 0 dX7_rowsIn_5 rfl rfl ?_
    refine X_get C (hFu _ (by decide)) (wc_53 _ _) rfl inX7 0 (by decide) q_554 rfl dX7_rowsIn_6 ?_
    refine X_iconst C (0 : Int32) dX7_rowsIn_9 (by decide) ?_
    obtain ⟨hin, h⟩ := h
    refine X_iald C (hFu _ (by decide)) (wc_54 _ _) hin dX7_rowsIn_10 ?_
    refine X_icmp_ge C 51 dX7_rowsIn_11 (by decide) (fun c => ?_) (fun c => ?_)
    · have h := h.1 c
      refine X_iload_n C 2 2 dX7_rowsIn_51 rfl rfl ?_
      exact X_iret C E rfl h dX7_rowsIn_52
    · have h := h.2 c
      refine X_iload_n C 2 2 dX7_rowsIn_14 rfl rfl ?_
      refine X_aload_n C 0 0 dX7_rowsIn_15 rfl rfl ?_
      refine X_aload_n C 0 0 dX7_rowsIn_16 rfl rfl ?_
      refine X_get C (hFu _ (by decide)) (wc_53 _ _) rfl inX7 0 (by decide) q_554 rfl dX7_rowsIn_17 ?_
      refine X_iconst C (4 : Int32) dX7_rowsIn_20 (by decide) ?_
      refine X_iload_n C 3 3 dX7_rowsIn_21 rfl rfl ?_
      refine X_iadd C dX7_rowsIn_22 ?_
      obtain ⟨hin, h⟩ := h
      refine X_iald C (hFu _ (by decide)) (wc_54 _ _) hin dX7_rowsIn_23 ?_
      refine X_iconst C (0 : Int32) dX7_rowsIn_24 (by decide) ?_
      refine X_aload_n C 0 0 dX7_rowsIn_25 rfl rfl ?_
      refine X_get C (hFu _ (by decide)) (wc_53 _ _) rfl inX7 0 (by decide) q_554 rfl dX7_rowsIn_26 ?_
      refine X_iconst C (2 : Int32) dX7_rowsIn_29 (by decide) ?_
      obtain ⟨hin, h⟩ := h
      refine X_iald C (hFu _ (by decide)) (wc_54 _ _) hin dX7_rowsIn_30 ?_
      refine X_callVi C eX7_partOf [.int (S 54 (Int32.toNatClampNeg ((4 : Int32) + x3))), .int (0 : Int32), .int (S 54 (Int32.toNatClampNeg (2 : Int32)))] [.int x2] (M_X7_partOf C.g_J hFu h) (hFu _ (by decide)) (wc_53 _ _) rfl q_695 rfl ⟨(Nat.le_of_ble_eq_true rfl), (Nat.le_of_ble_eq_true rfl)⟩ rfl (Nat.le_of_ble_eq_true rfl) dX7_rowsIn_31 (fun r2 S1 h => ?_)
      refine X_iload_n C 1 1 dX7_rowsIn_34 rfl rfl ?_
      refine X_icmp_ne C 42 dX7_rowsIn_35 (by decide) (fun c => ?_) (fun c => ?_)
      · have h := h.1 c
        refine X_iconst C (0 : Int32) dX7_rowsIn_42 (by decide) ?_
        refine X_sub [0, 1, 3] rfl ?_
        exact K_X7_rowsIn_43 C E hFu (fun _ _ _ _ h => ih _ _ _ _ h) h
      · have h := h.2 c
        refine X_iconst C (1 : Int32) dX7_rowsIn_38 (by decide) ?_
        refine X_goto C 43 dX7_rowsIn_39 (by decide) ?_
        refine X_sub [0, 1, 3] rfl ?_
        exact K_X7_rowsIn_43 C E hFu (fun _ _ _ _ h => ih _ _ _ _ h) h
set_option maxRecDepth 100000 in
set_option maxHeartbeats 4000000 in
theorem M_X7_rowsIn {l : Launch} {G : XG} (hJ : XJ G) (hFu : XF G) {S : Mem} {a1 : Int32} {K : Int32 → Mem → Prop} (h : P_X7_rowsIn S a1 K) : XMi l G yX7_rowsIn cX7_rowsIn 4 .int 2 44 [.ref (xad G 53), .int a1] S K := by
  refine X_meth RX7 rfl (by decide +kernel) hJ (Nat.le_of_ble_eq_true rfl) (fun κ hl hG C E => ?_)
  subst hl hG
  show XW κ S 0 [(0, .ref (xad (kG κ) 53)), (1, .int a1)] []
  refine X_iconst C (0 : Int32) dX7_rowsIn_0 (by decide) ?_
  refine X_istore_n C 2 [(2, .int (0 : Int32)), (0, .ref (xad (kG κ) 53)), (1, .int a1)] dX7_rowsIn_1 rfl (by decide) rfl ?_
  refine X_iconst C (0 : Int32) dX7_rowsIn_2 (by decide) ?_
  refine X_istore_n C 3 [(3, .int (0 : Int32)), (2, .int (0 : Int32)), (0, .ref (xad (kG κ) 53)), (1, .int a1)] dX7_rowsIn_3 rfl (by decide) rfl ?_
  refine X_sub [2, 3, 1, 0] rfl ?_
  obtain ⟨n3, h⟩ := h
  exact K_X7_rowsIn_4 C E hFu n3 _ _ _ _ h
set_option maxRecDepth 100000 in
set_option maxHeartbeats 4000000 in
theorem K_X7_isFirst_37 {κ : Kx} (C : XC κ RX7 cX7_isFirst 4 0 0) {K : Int32 → Mem → Prop} (E : XRet κ (some .boolean) (va_Qi K (XB (kG κ)) (XA (kG κ)))) (hFu : XF (kG κ)) {R4 : Mem → Int32 → Int32 → Int32 → Prop} (hR4 : ∀ (S : Mem) (x1 x2 x3 : Int32), R4 S x1 x2 x3 → XW κ S 4 [(0, .ref (xad (kG κ) 53)), (1, .int x1), (2, .int x2), (3, .int x3)] []) {S : Mem} {x1 : Int32} {x3 : Int32} {y0 : Int32} (h : B_X7_isFirst_37 R4 K S x1 x3 y0) : XW κ S 37 [(0, .ref (xad (kG κ) 53)), (1, .int x1), (3, .int x3)] [.int y0] := by
  refine X_istore_n C 2 [(2, .int y0), (0, .ref (xad (kG κ) 53)), (1, .int x1), (3, .int x3)] dX7_isFirst_37 rfl (by decide) rfl ?_
  refine X_iinc C (x3 + (1 : Int32)) 3 [(3, .int (x3 + (1 : Int32))), (2, .int y0), (0, .ref (xad (kG κ) 53)), (1, .int x1)] dX7_isFirst_38 rfl rfl (by decide) rfl ?_
  refine X_goto C 4 dX7_isFirst_41 (by decide) ?_
  refine X_sub [2, 3, 1, 0] rfl ?_
  exact hR4 _ _ _ _ h
set_option maxRecDepth 100000 in
set_option maxHeartbeats 4000000 in
theorem K_X7_isFirst_36 {κ : Kx} (C : XC κ RX7 cX7_isFirst 4 0 0) {K : Int32 → Mem → Prop} (E : XRet κ (some .boolean) (va_Qi K (XB (kG κ)) (XA (kG κ)))) (hFu : XF (kG κ)) {R4 : Mem → Int32 → Int32 → Int32 → Prop} (hR4 : ∀ (S : Mem) (x1 x2 x3 : Int32), R4 S x1 x2 x3 → XW κ S 4 [(0, .ref (xad (kG κ) 53)), (1, .int x1), (2, .int x2), (3, .int x3)] []) {S : Mem} {x1 : Int32} {x3 : Int32} (h : B_X7_isFirst_36 R4 K S x1 x3) : XW κ S 36 [(0, .ref (xad (kG κ) 53)), (1, .int x1), (3, .int x3)] [] := by
  refine X_iconst C (0 : Int32) dX7_isFirst_36 (by decide) ?_
  exact K_X7_isFirst_37 C E hFu hR4 h
set_option maxRecDepth 100000 in
set_option maxHeartbeats 4000000 in
theorem K_X7_isFirst_4 {κ : Kx} (C : XC κ RX7 cX7_isFirst 4 0 0) {K : Int32 → Mem → Prop} (E : XRet κ (some .boolean) (va_Qi K (XB (kG κ)) (XA (kG κ)))) (hFu : XF (kG κ)) : ∀ (n : Nat) (S : Mem) (x1 : Int32) (x2 : Int32) (x3 : Int32), B_X7_isFirst_4 K n S x1 x2 x3 → XW κ S 4 [(0, .ref (xad (kG κ) 53)), (1, .int x1), (2, .int x2), (3, .int x3)] [] := by
  intro n
  induction n with
  | zero => intro S x1 x2 x3 h; exact h.elim
  | succ n ih =>
    intro S x1 x2 x3 h
    refine X_iload_n C 3 3 dX7_isFirst_4 rfl rfl ?_
    refine X_iload_n C 1 1 dX7_isFirst_5 rfl rfl ?_
    refine X_icmp_ge C 44 dX7_isFirst_6 (by decide) (fun c => ?_) (fun c => ?_)
    · have h := h.1 c
      refine X_iload_n C 2 2 dX7_isFirst_44 rfl rfl ?_
      obtain ⟨hb, h⟩ := h
      exact X_iret C E (vp_bool_nar hb) h dX7_isFirst_45
    · have h := h.2 c
      refine X_iload_n C 2 2 dX7_isFirst_9 rfl rfl ?_
      refine X_if_eq C 36 dX7_isFirst_10 (by decide) (fun c => ?_) (fun c => ?_)
      · have h := h.1 c
        refine X_sub [0, 1, 3] rfl ?_
        exact K_X7_isFirst_36 C E hFu (fun _ _ _ _ h => ih _ _ _ _ h) h
      · have h := h.2 c
        refine X_aload_n C 0 0 dX7_isFirst_13 rfl rfl ?_
        refine X_get C (hFu _ (by decide)) (wc_53 _ _) rfl inX7 0 (by decide) q_554 rfl dX7_isFirst_14 ?_
        refine X_iconst C (4 : Int32) dX7_isFirst_17 (by decide) ?_
        refine X_iload_n C 3 3 dX7_isFirst_18 rfl rfl ?_
        refine X_iadd C dX7_isFirst_19 ?_
        obtain ⟨hin, h⟩ := h
        refine X_iald C (hFu _ (by decide)) (wc_54 _ _) hin dX7_isFirst_20 ?_
        refine X_aload_n C 0 0 dX7_isFirst_21 rfl rfl ?_
        refine X_get C (hFu _ (by decide)) (wc_53 _ _) rfl inX7 0 (by decide) q_554 rfl dX7_isFirst_22 ?_
        refine X_iconst C (4 : Int32) dX7_isFirst_25 (by decide) ?_
        refine X_iload_n C 1 1 dX7_isFirst_26 rfl rfl ?_
        refine X_iadd C dX7_isFirst_27 ?_
        obtain ⟨hin, h⟩ := h
        refine X_iald C (hFu _ (by decide)) (wc_54 _ _) hin dX7_isFirst_28 ?_
        refine X_icmp_eq C 36 dX7_isFirst_29 (by decide) (fun c => ?_) (fun c => ?_)
        · have h := h.1 c
          refine X_sub [0, 1, 3] rfl ?_
          exact K_X7_isFirst_36 C E hFu (fun _ _ _ _ h => ih _ _ _ _ h) h
        · have h := h.2 c
          refine X_iconst C (1 : Int32) dX7_isFirst_32 (by decide) ?_
          refine X_goto C 37 dX7_isFirst_33 (by decide) ?_
          refine X_sub [0, 1, 3] rfl ?_
          exact K_X7_isFirst_37 C E hFu (fun _ _ _ _ h => ih _ _ _ _ h) h
set_option maxRecDepth 100000 in
set_option maxHeartbeats 4000000 in
theorem M_X7_isFirst {l : Launch} {G : XG} (hJ : XJ G) (hFu : XF G) {S : Mem} {a1 : Int32} {K : Int32 → Mem → Prop} (h : P_X7_isFirst S a1 K) : XMi l G yX7_isFirst cX7_isFirst 4 .boolean 0 0 [.ref (xad G 53), .int a1] S K := by
  refine X_meth RX7 rfl (by decide +kernel) hJ (Nat.le_of_ble_eq_true rfl) (fun κ hl hG C E => ?_)
  subst hl hG
  show XW κ S 0 [(0, .ref (xad (kG κ) 53)), (1, .int a1)] []
  refine X_iconst C (1 : Int32) dX7_isFirst_0 (by decide) ?_
  refine X_istore_n C 2 [(2, .int (1 : Int32)), (0, .ref (xad (kG κ) 53)), (1, .int a1)] dX7_isFirst_1 rfl (by decide) rfl ?_
  refine X_iconst C (0 : Int32) dX7_isFirst_2 (by decide) ?_
  refine X_istore_n C 3 [(3, .int (0 : Int32)), (2, .int (1 : Int32)), (0, .ref (xad (kG κ) 53)), (1, .int a1)] dX7_isFirst_3 rfl (by decide) rfl ?_
  refine X_sub [2, 3, 1, 0] rfl ?_
  obtain ⟨n1, h⟩ := h
  exact K_X7_isFirst_4 C E hFu n1 _ _ _ _ h
set_option maxRecDepth 100000 in
set_option maxHeartbeats 4000000 in
theorem K_X7_groupsIn_51 {κ : Kx} (C : XC κ RX7 cX7_groupsIn 4 2 44) {K : Int32 → Mem → Prop} (E : XRet κ (some .int) (va_Qi K (XB (kG κ)) (XA (kG κ)))) (hFu : XF (kG κ)) {R4 : Mem → Int32 → Int32 → Int32 → Prop} (hR4 : ∀ (S : Mem) (x1 x2 x3 : Int32), R4 S x1 x2 x3 → XW κ S 4 [(0, .ref (xad (kG κ) 53)), (1, .int x1), (2, .int x2), (3, .int x3)] []) {S : Mem} {x1 : Int32} {x3 : Int32} {y0 : Int32} {y1 : Int32} (h : B_X7_groupsIn_51 R4 K S x1 x3 y0 y1) : XW κ S 51 [(0, .ref (xad (kG κ) 53)), (1, .int x1), (3, .int x3)] [.int y0, .int y1] := by
  refine X_iadd C dX7_groupsIn_51 ?_
  refine X_istore_n C 2 [(2, .int (y1 + y0)), (0, .ref (xad (kG κ) 53)), (1, .int x1), (3, .int x3)] dX7_groupsIn_52 rfl (by decide) rfl ?_
  refine X_iinc C (x3 + (1 : Int32)) 3 [(3, .int (x3 + (1 : Int32))), (2, .int (y1 + y0)), (0, .ref (xad (kG κ) 53)), (1, .int x1)] dX7_groupsIn_53 rfl rfl (by decide) rfl ?_
  refine X_goto C 4 dX7_groupsIn_56 (by decide) ?_
  refine X_sub [2, 3, 1, 0] rfl ?_
  exact hR4 _ _ _ _ h
set_option maxRecDepth 100000 in
set_option maxHeartbeats 4000000 in
theorem K_X7_groupsIn_50 {κ : Kx} (C : XC κ RX7 cX7_groupsIn 4 2 44) {K : Int32 → Mem → Prop} (E : XRet κ (some .int) (va_Qi K (XB (kG κ)) (XA (kG κ)))) (hFu : XF (kG κ)) {R4 : Mem → Int32 → Int32 → Int32 → Prop} (hR4 : ∀ (S : Mem) (x1 x2 x3 : Int32), R4 S x1 x2 x3 → XW κ S 4 [(0, .ref (xad (kG κ) 53)), (1, .int x1), (2, .int x2), (3, .int x3)] []) {S : Mem} {x1 : Int32} {x3 : Int32} {y0 : Int32} (h : B_X7_groupsIn_50 R4 K S x1 x3 y0) : XW κ S 50 [(0, .ref (xad (kG κ) 53)), (1, .int x1), (3, .int x3)] [.int y0] := by
  refine X_iconst C (0 : Int32) dX7_groupsIn_50 (by decide) ?_
  exact K_X7_groupsIn_51 C E hFu hR4 h
set_option maxRecDepth 100000 in
set_option maxHeartbeats 4000000 in
theorem K_X7_groupsIn_4 {κ : Kx} (C : XC κ RX7 cX7_groupsIn 4 2 44) {K : Int32 → Mem → Prop} (E : XRet κ (some .int) (va_Qi K (XB (kG κ)) (XA (kG κ)))) (hFu : XF (kG κ)) : ∀ (n : Nat) (S : Mem) (x1 : Int32) (x2 : Int32) (x3 : Int32), B_X7_groupsIn_4 K n S x1 x2 x3 → XW κ S 4 [(0, .ref (xad (kG κ) 53)), (1, .int x1), (2, .int x2), (3, .int x3)] [] := by
  intro n
  induction n with
  | zero => intro S x1 x2 x3 h; exact h.elim
  | succ n ih =>
    intro S x1 x2 x3 h
    refine X_iload_n C 3 3 dX7_groupsIn_4 rfl rfl ?_
    refine X_aload_n C 0 0 dX7_groupsIn_5 rfl rfl ?_
    refine X_get C (hFu _ (by decide)) (wc_53 _ _) rfl inX7 0 (by decide) q_554 rfl dX7_groupsIn_6 ?_
    refine X_iconst C (0 : Int32) dX7_groupsIn_9 (by decide) ?_
    obtain ⟨hin, h⟩ := h
    refine X_iald C (hFu _ (by decide)) (wc_54 _ _) hin dX7_groupsIn_10 ?_
    refine X_icmp_ge C 59 dX7_groupsIn_11 (by decide) (fun c => ?_) (fun c => ?_)
    · have h := h.1 c
      refine X_iload_n C 2 2 dX7_groupsIn_59 rfl rfl ?_
      exact X_iret C E rfl h dX7_groupsIn_60
    · have h := h.2 c
      refine X_iload_n C 2 2 dX7_groupsIn_14 rfl rfl ?_
      refine X_aload_n C 0 0 dX7_groupsIn_15 rfl rfl ?_
      refine X_aload_n C 0 0 dX7_groupsIn_16 rfl rfl ?_
      refine X_get C (hFu _ (by decide)) (wc_53 _ _) rfl inX7 0 (by decide) q_554 rfl dX7_groupsIn_17 ?_
      refine X_iconst C (4 : Int32) dX7_groupsIn_20 (by decide) ?_
      refine X_iload_n C 3 3 dX7_groupsIn_21 rfl rfl ?_
      refine X_iadd C dX7_groupsIn_22 ?_
      obtain ⟨hin, h⟩ := h
      refine X_iald C (hFu _ (by decide)) (wc_54 _ _) hin dX7_groupsIn_23 ?_
      refine X_iconst C (0 : Int32) dX7_groupsIn_24 (by decide) ?_
      refine X_aload_n C 0 0 dX7_groupsIn_25 rfl rfl ?_
      refine X_get C (hFu _ (by decide)) (wc_53 _ _) rfl inX7 0 (by decide) q_554 rfl dX7_groupsIn_26 ?_
      refine X_iconst C (2 : Int32) dX7_groupsIn_29 (by decide) ?_
      obtain ⟨hin, h⟩ := h
      refine X_iald C (hFu _ (by decide)) (wc_54 _ _) hin dX7_groupsIn_30 ?_
      refine X_callVi C eX7_partOf [.int (S 54 (Int32.toNatClampNeg ((4 : Int32) + x3))), .int (0 : Int32), .int (S 54 (Int32.toNatClampNeg (2 : Int32)))] [.int x2] (M_X7_partOf C.g_J hFu h) (hFu _ (by decide)) (wc_53 _ _) rfl q_695 rfl ⟨(Nat.le_of_ble_eq_true rfl), (Nat.le_of_ble_eq_true rfl)⟩ rfl (Nat.le_of_ble_eq_true rfl) dX7_groupsIn_31 (fun r2 S1 h => ?_)
      refine X_iload_n C 1 1 dX7_groupsIn_34 rfl rfl ?_
      refine X_icmp_ne C 50 dX7_groupsIn_35 (by decide) (fun c => ?_) (fun c => ?_)
      · have h := h.1 c
        refine X_sub [0, 1, 3] rfl ?_
        exact K_X7_groupsIn_50 C E hFu (fun _ _ _ _ h => ih _ _ _ _ h) h
      · have h := h.2 c
        refine X_aload_n C 0 0 dX7_groupsIn_38 rfl rfl ?_
        refine X_iload_n C 3 3 dX7_groupsIn_39 rfl rfl ?_
        refine X_callVi C eX7_isFirst [.int x3] [.int x2] (M_X7_isFirst C.g_J hFu h) (hFu _ (by decide)) (wc_53 _ _) rfl q_831 rfl ⟨(Nat.le_of_ble_eq_true rfl), (Nat.le_of_ble_eq_true rfl)⟩ rfl (Nat.le_of_ble_eq_true rfl) dX7_groupsIn_40 (fun r4 S3 h => ?_)
        refine X_if_eq C 50 dX7_groupsIn_43 (by decide) (fun c => ?_) (fun c => ?_)
        · have h := h.1 c
          refine X_sub [0, 1, 3] rfl ?_
          exact K_X7_groupsIn_50 C E hFu (fun _ _ _ _ h => ih _ _ _ _ h) h
        · have h := h.2 c
          refine X_iconst C (1 : Int32) dX7_groupsIn_46 (by decide) ?_
          refine X_goto C 51 dX7_groupsIn_47 (by decide) ?_
          refine X_sub [0, 1, 3] rfl ?_
          exact K_X7_groupsIn_51 C E hFu (fun _ _ _ _ h => ih _ _ _ _ h) h
set_option maxRecDepth 100000 in
set_option maxHeartbeats 4000000 in
theorem M_X7_groupsIn {l : Launch} {G : XG} (hJ : XJ G) (hFu : XF G) {S : Mem} {a1 : Int32} {K : Int32 → Mem → Prop} (h : P_X7_groupsIn S a1 K) : XMi l G yX7_groupsIn cX7_groupsIn 4 .int 2 44 [.ref (xad G 53), .int a1] S K := by
  refine X_meth RX7 rfl (by decide +kernel) hJ (Nat.le_of_ble_eq_true rfl) (fun κ hl hG C E => ?_)
  subst hl hG
  show XW κ S 0 [(0, .ref (xad (kG κ) 53)), (1, .int a1)] []
  refine X_iconst C (0 : Int32) dX7_groupsIn_0 (by decide) ?_
  refine X_istore_n C 2 [(2, .int (0 : Int32)), (0, .ref (xad (kG κ) 53)), (1, .int a1)] dX7_groupsIn_1 rfl (by decide) rfl ?_
  refine X_iconst C (0 : Int32) dX7_groupsIn_2 (by decide) ?_
  refine X_istore_n C 3 [(3, .int (0 : Int32)), (2, .int (0 : Int32)), (0, .ref (xad (kG κ) 53)), (1, .int a1)] dX7_groupsIn_3 rfl (by decide) rfl ?_
  refine X_sub [2, 3, 1, 0] rfl ?_
  obtain ⟨n5, h⟩ := h
  exact K_X7_groupsIn_4 C E hFu n5 _ _ _ _ h
set_option maxRecDepth 100000 in
set_option maxHeartbeats 4000000 in
theorem K_X7_skewed_68 {κ : Kx} (C : XC κ RX7 cX7_skewed 4 3 67) {K : Int32 → Mem → Prop} (E : XRet κ (some .int) (va_Qi K (XB (kG κ)) (XA (kG κ)))) (hFu : XF (kG κ)) {S : Mem} {x1 : Int32} {x2 : Int32} (h : B_X7_skewed_68 K S x1 x2) : XW κ S 68 [(0, .ref (xad (kG κ) 53)), (1, .int x1), (2, .int x2)] [] := by
  refine X_iload_n C 1 1 dX7_skewed_68 rfl rfl ?_
  refine X_if_ne C 76 dX7_skewed_69 (by decide) (fun c => ?_) (fun c => ?_)
  · have h := h.1 c
    refine X_iload_n C 1 1 dX7_skewed_76 rfl rfl ?_
    refine X_iconst C (1 : Int32) dX7_skewed_77 (by decide) ?_
    refine X_icmp_ne C 89 dX7_skewed_78 (by decide) (fun c => ?_) (fun c => ?_)
    · have h := h.1 c
      refine X_aload_n C 0 0 dX7_skewed_89 rfl rfl ?_
      refine X_iload_n C 2 2 dX7_skewed_90 rfl rfl ?_
      refine X_callVi C eX7_groupsIn [.int x2] [] (M_X7_groupsIn C.g_J hFu h) (hFu _ (by decide)) (wc_53 _ _) rfl q_827 rfl ⟨(Nat.le_of_ble_eq_true rfl), (Nat.le_of_ble_eq_true rfl)⟩ rfl (Nat.le_of_ble_eq_true rfl) dX7_skewed_91 (fun r4 S3 h => ?_)
      exact X_iret C E rfl h dX7_skewed_94
    · have h := h.2 c
      refine X_aload_n C 0 0 dX7_skewed_81 rfl rfl ?_
      refine X_iload_n C 2 2 dX7_skewed_82 rfl rfl ?_
      refine X_callVi C eX7_rowsIn [.int x2] [] (M_X7_rowsIn C.g_J hFu h) (hFu _ (by decide)) (wc_53 _ _) rfl q_823 rfl ⟨(Nat.le_of_ble_eq_true rfl), (Nat.le_of_ble_eq_true rfl)⟩ rfl (Nat.le_of_ble_eq_true rfl) dX7_skewed_83 (fun r6 S5 h => ?_)
      refine X_goto C 94 dX7_skewed_86 (by decide) ?_
      exact X_iret C E rfl h dX7_skewed_94
  · have h := h.2 c
    refine X_iload_n C 2 2 dX7_skewed_72 rfl rfl ?_
    refine X_goto C 94 dX7_skewed_73 (by decide) ?_
    exact X_iret C E rfl h dX7_skewed_94
set_option maxRecDepth 100000 in
set_option maxHeartbeats 4000000 in
theorem K_X7_skewed_61 {κ : Kx} (C : XC κ RX7 cX7_skewed 4 3 67) {K : Int32 → Mem → Prop} (E : XRet κ (some .int) (va_Qi K (XB (kG κ)) (XA (kG κ)))) (hFu : XF (kG κ)) {R31 : Mem → Int32 → Int32 → Int32 → Prop} (hR31 : ∀ (S : Mem) (x1 x2 x3 : Int32), R31 S x1 x2 x3 → XW κ S 31 [(0, .ref (xad (kG κ) 53)), (1, .int x1), (2, .int x2), (3, .int x3)] []) {S : Mem} {x1 : Int32} {x3 : Int32} {y0 : Int32} (h : B_X7_skewed_61 R31 K S x1 x3 y0) : XW κ S 61 [(0, .ref (xad (kG κ) 53)), (1, .int x1), (3, .int x3)] [.int y0] := by
  refine X_istore_n C 2 [(2, .int y0), (0, .ref (xad (kG κ) 53)), (1, .int x1), (3, .int x3)] dX7_skewed_61 rfl (by decide) rfl ?_
  refine X_iinc C (x3 + (1 : Int32)) 3 [(3, .int (x3 + (1 : Int32))), (2, .int y0), (0, .ref (xad (kG κ) 53)), (1, .int x1)] dX7_skewed_62 rfl rfl (by decide) rfl ?_
  refine X_goto C 31 dX7_skewed_65 (by decide) ?_
  refine X_sub [2, 3, 1, 0] rfl ?_
  exact hR31 _ _ _ _ h
set_option maxRecDepth 100000 in
set_option maxHeartbeats 4000000 in
theorem K_X7_skewed_31 {κ : Kx} (C : XC κ RX7 cX7_skewed 4 3 67) {K : Int32 → Mem → Prop} (E : XRet κ (some .int) (va_Qi K (XB (kG κ)) (XA (kG κ)))) (hFu : XF (kG κ)) : ∀ (n : Nat) (S : Mem) (x1 : Int32) (x2 : Int32) (x3 : Int32), B_X7_skewed_31 K n S x1 x2 x3 → XW κ S 31 [(0, .ref (xad (kG κ) 53)), (1, .int x1), (2, .int x2), (3, .int x3)] [] := by
  intro n
  induction n with
  | zero => intro S x1 x2 x3 h; exact h.elim
  | succ n ih =>
    intro S x1 x2 x3 h
    refine X_iload_n C 3 3 dX7_skewed_31 rfl rfl ?_
    refine X_iconst C (1 : Int32) dX7_skewed_32 (by decide) ?_
    refine X_aload_n C 0 0 dX7_skewed_33 rfl rfl ?_
    refine X_get C (hFu _ (by decide)) (wc_53 _ _) rfl inX7 0 (by decide) q_554 rfl dX7_skewed_34 ?_
    refine X_iconst C (2 : Int32) dX7_skewed_37 (by decide) ?_
    obtain ⟨hin, h⟩ := h
    refine X_iald C (hFu _ (by decide)) (wc_54 _ _) hin dX7_skewed_38 ?_
    refine X_ishl C dX7_skewed_39 ?_
    refine X_icmp_ge C 68 dX7_skewed_40 (by decide) (fun c => ?_) (fun c => ?_)
    · have h := h.1 c
      refine X_sub [0, 1, 2] rfl ?_
      exact K_X7_skewed_68 C E hFu h
    · have h := h.2 c
      refine X_aload_n C 0 0 dX7_skewed_43 rfl rfl ?_
      refine X_iload_n C 3 3 dX7_skewed_44 rfl rfl ?_
      refine X_callVi C eX7_rowsIn [.int x3] [] (M_X7_rowsIn C.g_J hFu h) (hFu _ (by decide)) (wc_53 _ _) rfl q_823 rfl ⟨(Nat.le_of_ble_eq_true rfl), (Nat.le_of_ble_eq_true rfl)⟩ rfl (Nat.le_of_ble_eq_true rfl) dX7_skewed_45 (fun r8 S7 h => ?_)
      refine X_aload_n C 0 0 dX7_skewed_48 rfl rfl ?_
      refine X_iload_n C 2 2 dX7_skewed_49 rfl rfl ?_
      refine X_callVi C eX7_rowsIn [.int x2] [.int r8] (M_X7_rowsIn C.g_J hFu h) (hFu _ (by decide)) (wc_53 _ _) rfl q_823 rfl ⟨(Nat.le_of_ble_eq_true rfl), (Nat.le_of_ble_eq_true rfl)⟩ rfl (Nat.le_of_ble_eq_true rfl) dX7_skewed_50 (fun r10 S9 h => ?_)
      refine X_icmp_le C 60 dX7_skewed_53 (by decide) (fun c => ?_) (fun c => ?_)
      · have h := h.1 c
        refine X_iload_n C 2 2 dX7_skewed_60 rfl rfl ?_
        refine X_sub [0, 1, 3] rfl ?_
        exact K_X7_skewed_61 C E hFu (fun _ _ _ _ h => ih _ _ _ _ h) h
      · have h := h.2 c
        refine X_iload_n C 3 3 dX7_skewed_56 rfl rfl ?_
        refine X_goto C 61 dX7_skewed_57 (by decide) ?_
        refine X_sub [0, 1, 3] rfl ?_
        exact K_X7_skewed_61 C E hFu (fun _ _ _ _ h => ih _ _ _ _ h) h
set_option maxRecDepth 100000 in
set_option maxHeartbeats 4000000 in
theorem M_X7_skewed {l : Launch} {G : XG} (hJ : XJ G) (hFu : XF G) {S : Mem} {a1 : Int32} {K : Int32 → Mem → Prop} (h : P_X7_skewed S a1 K) : XMi l G yX7_skewed cX7_skewed 4 .int 3 67 [.ref (xad G 53), .int a1] S K := by
  refine X_meth RX7 rfl (by decide +kernel) hJ (Nat.le_of_ble_eq_true rfl) (fun κ hl hG C E => ?_)
  subst hl hG
  show XW κ S 0 [(0, .ref (xad (kG κ) 53)), (1, .int a1)] []
  refine X_iload_n C 1 1 dX7_skewed_0 rfl rfl ?_
  refine X_i2l C dX7_skewed_1 ?_
  refine X_lconst C (0 : Int64) dX7_skewed_2 (by decide) ?_
  refine X_ldc2 C (2 : Int64) q_822 dX7_skewed_3 ?_
  refine X_callSi C eX7_in [.long (Int32.toInt64 a1), .long (0 : Int64), .long (2 : Int64)] [] (M_X7_in C.g_J hFu h) q_653 rfl ⟨(Nat.le_of_ble_eq_true rfl), (Nat.le_of_ble_eq_true rfl)⟩ rfl (Nat.le_of_ble_eq_true rfl) dX7_skewed_6 (fun r2 S1 h => ?_)
  refine X_if_ne C 15 dX7_skewed_9 (by decide) (fun c => ?_) (fun c => ?_)
  · have h := h.1 c
    refine X_aload_n C 0 0 dX7_skewed_15 rfl rfl ?_
    refine X_get C (hFu _ (by decide)) (wc_53 _ _) rfl inX7 0 (by decide) q_554 rfl dX7_skewed_16 ?_
    refine X_iconst C (0 : Int32) dX7_skewed_19 (by decide) ?_
    obtain ⟨hin, h⟩ := h
    refine X_iald C (hFu _ (by decide)) (wc_54 _ _) hin dX7_skewed_20 ?_
    refine X_if_ne C 27 dX7_skewed_21 (by decide) (fun c => ?_) (fun c => ?_)
    · have h := h.1 c
      refine X_iconst C (0 : Int32) dX7_skewed_27 (by decide) ?_
      refine X_istore_n C 2 [(2, .int (0 : Int32)), (0, .ref (xad (kG κ) 53)), (1, .int a1)] dX7_skewed_28 rfl (by decide) rfl ?_
      refine X_iconst C (1 : Int32) dX7_skewed_29 (by decide) ?_
      refine X_istore_n C 3 [(3, .int (1 : Int32)), (2, .int (0 : Int32)), (0, .ref (xad (kG κ) 53)), (1, .int a1)] dX7_skewed_30 rfl (by decide) rfl ?_
      refine X_sub [2, 3, 1, 0] rfl ?_
      obtain ⟨n11, h⟩ := h
      exact K_X7_skewed_31 C E hFu n11 _ _ _ _ h
    · have h := h.2 c
      refine X_ldc C (-1000004 : Int32) q_689 dX7_skewed_24 ?_
      exact X_iret C E rfl h dX7_skewed_26
  · have h := h.2 c
    refine X_ldc C (-1000001 : Int32) q_658 dX7_skewed_12 ?_
    exact X_iret C E rfl h dX7_skewed_14
set_option maxRecDepth 100000 in
set_option maxHeartbeats 4000000 in
theorem K_X7_count_54 {κ : Kx} (C : XC κ RX7 cX7_count 5 1 25) {K : Int32 → Mem → Prop} (E : XRet κ (some .int) (va_Qi K (XB (kG κ)) (XA (kG κ)))) (hFu : XF (kG κ)) {S : Mem} {x1 : Int32} {x2 : Int32} {x3 : Int32} (h : B_X7_count_54 K S x1 x2 x3) : XW κ S 54 [(0, .ref (xad (kG κ) 53)), (1, .int x1), (2, .int x2), (3, .int x3)] [] := by
  refine X_iload_n C 1 1 dX7_count_54 rfl rfl ?_
  by_cases c0 : x1 = (0 : Int32)
  · have h := h.1 c0
    refine X_tin (off := 33) C 88 dX7_count_55 (by rw [c0]; decide) (by rw [c0]; decide) (by rw [c0]; rfl) (by decide) ?_
    refine X_aload_n C 0 0 dX7_count_88 rfl rfl ?_
    refine X_get C (hFu _ (by decide)) (wc_53 _ _) rfl inX7 0 (by decide) q_554 rfl dX7_count_89 ?_
    refine X_iconst C (0 : Int32) dX7_count_92 (by decide) ?_
    obtain ⟨hin, h⟩ := h
    refine X_iald C (hFu _ (by decide)) (wc_54 _ _) hin dX7_count_93 ?_
    exact X_iret C E rfl h dX7_count_94
  by_cases c1 : x1 = (1 : Int32)
  · have h := h.2.1 c1
    refine X_tin (off := 40) C 95 dX7_count_55 (by rw [c1]; decide) (by rw [c1]; decide) (by rw [c1]; rfl) (by decide) ?_
    refine X_iload_n C 2 2 dX7_count_95 rfl rfl ?_
    exact X_iret C E rfl h dX7_count_96
  by_cases c2 : x1 = (2 : Int32)
  · have h := h.2.2.1 c2
    refine X_tin (off := 42) C 97 dX7_count_55 (by rw [c2]; decide) (by rw [c2]; decide) (by rw [c2]; rfl) (by decide) ?_
    refine X_iload_n C 3 3 dX7_count_97 rfl rfl ?_
    exact X_iret C E rfl h dX7_count_98
  by_cases c3 : x1 = (3 : Int32)
  · have h := h.2.2.2.1 c3
    refine X_tin (off := 44) C 99 dX7_count_55 (by rw [c3]; decide) (by rw [c3]; decide) (by rw [c3]; rfl) (by decide) ?_
    refine X_aload_n C 0 0 dX7_count_99 rfl rfl ?_
    refine X_get C (hFu _ (by decide)) (wc_53 _ _) rfl inX7 2 (by decide) q_556 rfl dX7_count_100 ?_
    exact X_iret C E rfl h dX7_count_103
  by_cases c4 : x1 = (4 : Int32)
  · have h := h.2.2.2.2.1 c4
    refine X_tin (off := 49) C 104 dX7_count_55 (by rw [c4]; decide) (by rw [c4]; decide) (by rw [c4]; rfl) (by decide) ?_
    refine X_aload_n C 0 0 dX7_count_104 rfl rfl ?_
    refine X_get C (hFu _ (by decide)) (wc_53 _ _) rfl inX7 22 (by decide) q_576 rfl dX7_count_105 ?_
    exact X_iret C E rfl h dX7_count_108
  have h := h.2.2.2.2.2 ⟨c0, c1, c2, c3, c4⟩
  have e0 := lv_neT c0 (show ((0 : Int32)).toInt = 0 from rfl)
  have e1 := lv_neT c1 (show ((1 : Int32)).toInt = 1 from rfl)
  have e2 := lv_neT c2 (show ((2 : Int32)).toInt = 2 from rfl)
  have e3 := lv_neT c3 (show ((3 : Int32)).toInt = 3 from rfl)
  have e4 := lv_neT c4 (show ((4 : Int32)).toInt = 4 from rfl)
  refine X_tout C 109 dX7_count_55 (by omega) (by decide) ?_
  refine X_iload_n C 1 1 dX7_count_109 rfl rfl ?_
  refine X_i2l C dX7_count_110 ?_
  refine X_ldc2 C (20 : Int64) q_839 dX7_count_111 ?_
  refine X_ldc2 C (22 : Int64) q_840 dX7_count_114 ?_
  refine X_callSi C eX7_in [.long (Int32.toInt64 x1), .long (20 : Int64), .long (22 : Int64)] [] (M_X7_in C.g_J hFu h) q_653 rfl ⟨(Nat.le_of_ble_eq_true rfl), (Nat.le_of_ble_eq_true rfl)⟩ rfl (Nat.le_of_ble_eq_true rfl) dX7_count_117 (fun r2 S1 h => ?_)
  refine X_if_eq C 137 dX7_count_120 (by decide) (fun c => ?_) (fun c => ?_)
  · have h := h.1 c
    refine X_ldc C (-1000001 : Int32) q_658 dX7_count_137 ?_
    exact X_iret C E rfl h dX7_count_139
  · have h := h.2 c
    refine X_aload_n C 0 0 dX7_count_123 rfl rfl ?_
    refine X_get C (hFu _ (by decide)) (wc_53 _ _) rfl inX7 0 (by decide) q_554 rfl dX7_count_124 ?_
    refine X_iconst C (1 : Int32) dX7_count_127 (by decide) ?_
    refine X_iload_n C 1 1 dX7_count_128 rfl rfl ?_
    refine X_iadd C dX7_count_129 ?_
    refine X_bipush C (20 : Int32) dX7_count_130 (by decide) ?_
    refine X_isub C dX7_count_132 ?_
    obtain ⟨hin, h⟩ := h
    refine X_iald C (hFu _ (by decide)) (wc_54 _ _) hin dX7_count_133 ?_
    refine X_goto C 139 dX7_count_134 (by decide) ?_
    exact X_iret C E rfl h dX7_count_139
set_option maxRecDepth 100000 in
set_option maxHeartbeats 4000000 in
theorem K_X7_count_46 {κ : Kx} (C : XC κ RX7 cX7_count 5 1 25) {K : Int32 → Mem → Prop} (E : XRet κ (some .int) (va_Qi K (XB (kG κ)) (XA (kG κ)))) (hFu : XF (kG κ)) {R7 : Mem → Int32 → Int32 → Int32 → Int32 → Prop} (hR7 : ∀ (S : Mem) (x1 x2 x3 x4 : Int32), R7 S x1 x2 x3 x4 → XW κ S 7 [(0, .ref (xad (kG κ) 53)), (1, .int x1), (2, .int x2), (3, .int x3), (4, .int x4)] []) {S : Mem} {x1 : Int32} {x2 : Int32} {x4 : Int32} {y0 : Int32} {y1 : Int32} (h : B_X7_count_46 R7 K S x1 x2 x4 y0 y1) : XW κ S 46 [(0, .ref (xad (kG κ) 53)), (1, .int x1), (2, .int x2), (4, .int x4)] [.int y0, .int y1] := by
  refine X_iadd C dX7_count_46 ?_
  refine X_istore_n C 3 [(3, .int (y1 + y0)), (0, .ref (xad (kG κ) 53)), (1, .int x1), (2, .int x2), (4, .int x4)] dX7_count_47 rfl (by decide) rfl ?_
  refine X_iinc C (x4 + (1 : Int32)) 4 [(4, .int (x4 + (1 : Int32))), (3, .int (y1 + y0)), (0, .ref (xad (kG κ) 53)), (1, .int x1), (2, .int x2)] dX7_count_48 rfl rfl (by decide) rfl ?_
  refine X_goto C 7 dX7_count_51 (by decide) ?_
  refine X_sub [2, 3, 4, 1, 0] rfl ?_
  exact hR7 _ _ _ _ _ h
set_option maxRecDepth 100000 in
set_option maxHeartbeats 4000000 in
theorem K_X7_count_7 {κ : Kx} (C : XC κ RX7 cX7_count 5 1 25) {K : Int32 → Mem → Prop} (E : XRet κ (some .int) (va_Qi K (XB (kG κ)) (XA (kG κ)))) (hFu : XF (kG κ)) : ∀ (n : Nat) (S : Mem) (x1 : Int32) (x2 : Int32) (x3 : Int32) (x4 : Int32), B_X7_count_7 K n S x1 x2 x3 x4 → XW κ S 7 [(0, .ref (xad (kG κ) 53)), (1, .int x1), (2, .int x2), (3, .int x3), (4, .int x4)] [] := by
  intro n
  induction n with
  | zero => intro S x1 x2 x3 x4 h; exact h.elim
  | succ n ih =>
    intro S x1 x2 x3 x4 h
    refine X_iload C 4 dX7_count_7 rfl ?_
    refine X_aload_n C 0 0 dX7_count_9 rfl rfl ?_
    refine X_get C (hFu _ (by decide)) (wc_53 _ _) rfl inX7 0 (by decide) q_554 rfl dX7_count_10 ?_
    refine X_iconst C (0 : Int32) dX7_count_13 (by decide) ?_
    obtain ⟨hin, h⟩ := h
    refine X_iald C (hFu _ (by decide)) (wc_54 _ _) hin dX7_count_14 ?_
    refine X_icmp_ge C 54 dX7_count_15 (by decide) (fun c => ?_) (fun c => ?_)
    · have h := h.1 c
      refine X_sub [0, 1, 2, 3] rfl ?_
      exact K_X7_count_54 C E hFu h
    · have h := h.2 c
      refine X_iload_n C 2 2 dX7_count_18 rfl rfl ?_
      refine X_aload_n C 0 0 dX7_count_19 rfl rfl ?_
      refine X_get C (hFu _ (by decide)) (wc_53 _ _) rfl inX7 0 (by decide) q_554 rfl dX7_count_20 ?_
      refine X_bipush C (104 : Int32) dX7_count_23 (by decide) ?_
      refine X_iload C 4 dX7_count_25 rfl ?_
      refine X_iadd C dX7_count_27 ?_
      obtain ⟨hin, h⟩ := h
      refine X_iald C (hFu _ (by decide)) (wc_54 _ _) hin dX7_count_28 ?_
      refine X_iadd C dX7_count_29 ?_
      refine X_istore_n C 2 [(2, .int (x2 + (S 54 (Int32.toNatClampNeg ((104 : Int32) + x4))))), (0, .ref (xad (kG κ) 53)), (1, .int x1), (3, .int x3), (4, .int x4)] dX7_count_30 rfl (by decide) rfl ?_
      refine X_iload_n C 3 3 dX7_count_31 rfl rfl ?_
      refine X_aload_n C 0 1 dX7_count_32 rfl rfl ?_
      refine X_iload C 4 dX7_count_33 rfl ?_
      refine X_callVi C eX7_isFirst [.int x4] [.int x3] (M_X7_isFirst C.g_J hFu h) (hFu _ (by decide)) (wc_53 _ _) rfl q_831 rfl ⟨(Nat.le_of_ble_eq_true rfl), (Nat.le_of_ble_eq_true rfl)⟩ rfl (Nat.le_of_ble_eq_true rfl) dX7_count_35 (fun r4 S3 h => ?_)
      refine X_if_eq C 45 dX7_count_38 (by decide) (fun c => ?_) (fun c => ?_)
      · have h := h.1 c
        refine X_iconst C (0 : Int32) dX7_count_45 (by decide) ?_
        refine X_sub [1, 2, 0, 4] rfl ?_
        exact K_X7_count_46 C E hFu (fun _ _ _ _ _ h => ih _ _ _ _ _ h) h
      · have h := h.2 c
        refine X_iconst C (1 : Int32) dX7_count_41 (by decide) ?_
        refine X_goto C 46 dX7_count_42 (by decide) ?_
        refine X_sub [1, 2, 0, 4] rfl ?_
        exact K_X7_count_46 C E hFu (fun _ _ _ _ _ h => ih _ _ _ _ _ h) h
set_option maxRecDepth 100000 in
set_option maxHeartbeats 4000000 in
theorem M_X7_count {l : Launch} {G : XG} (hJ : XJ G) (hFu : XF G) {S : Mem} {a1 : Int32} {K : Int32 → Mem → Prop} (h : P_X7_count S a1 K) : XMi l G yX7_count cX7_count 5 .int 1 25 [.ref (xad G 53), .int a1] S K := by
  refine X_meth RX7 rfl (by decide +kernel) hJ (Nat.le_of_ble_eq_true rfl) (fun κ hl hG C E => ?_)
  subst hl hG
  show XW κ S 0 [(0, .ref (xad (kG κ) 53)), (1, .int a1)] []
  refine X_iconst C (0 : Int32) dX7_count_0 (by decide) ?_
  refine X_istore_n C 2 [(2, .int (0 : Int32)), (0, .ref (xad (kG κ) 53)), (1, .int a1)] dX7_count_1 rfl (by decide) rfl ?_
  refine X_iconst C (0 : Int32) dX7_count_2 (by decide) ?_
  refine X_istore_n C 3 [(3, .int (0 : Int32)), (2, .int (0 : Int32)), (0, .ref (xad (kG κ) 53)), (1, .int a1)] dX7_count_3 rfl (by decide) rfl ?_
  refine X_iconst C (0 : Int32) dX7_count_4 (by decide) ?_
  refine X_istore C [(4, .int (0 : Int32)), (3, .int (0 : Int32)), (2, .int (0 : Int32)), (0, .ref (xad (kG κ) 53)), (1, .int a1)] dX7_count_5 (by decide) rfl ?_
  refine X_sub [3, 4, 2, 1, 0] rfl ?_
  obtain ⟨n5, h⟩ := h
  exact K_X7_count_7 C E hFu n5 _ _ _ _ _ h
set_option maxRecDepth 100000 in
set_option maxHeartbeats 4000000 in
theorem K_X7_undo_22 {κ : Kx} (C : XC κ RX7 cX7_undo 2 0 0) {K : Int32 → Mem → Prop} (E : XRet κ (some .int) (va_Qi K (XB (kG κ)) (XA (kG κ)))) (hFu : XF (kG κ)) : ∀ (n : Nat) (S : Mem) (x1 : Int32), B_X7_undo_22 K n S x1 → XW κ S 22 [(0, .ref (xad (kG κ) 53)), (1, .int x1)] [] := by
  intro n
  induction n with
  | zero => intro S x1 h; exact h.elim
  | succ n ih =>
    intro S x1 h
    refine X_iload_n C 1 1 dX7_undo_22 rfl rfl ?_
    refine X_sipush C (204 : Int32) dX7_undo_23 (by decide) ?_
    refine X_icmp_ge C 56 dX7_undo_26 (by decide) (fun c => ?_) (fun c => ?_)
    · have h := h.1 c
      refine X_aload_n C 0 0 dX7_undo_56 rfl rfl ?_
      refine X_get C (hFu _ (by decide)) (wc_53 _ _) rfl inX7 2 (by decide) q_556 rfl dX7_undo_57 ?_
      exact X_iret C E rfl h dX7_undo_60
    · have h := h.2 c
      refine X_aload_n C 0 0 dX7_undo_29 rfl rfl ?_
      refine X_get C (hFu _ (by decide)) (wc_53 _ _) rfl inX7 0 (by decide) q_554 rfl dX7_undo_30 ?_
      refine X_iload_n C 1 1 dX7_undo_33 rfl rfl ?_
      refine X_aload_n C 0 0 dX7_undo_34 rfl rfl ?_
      refine X_get C (hFu _ (by decide)) (wc_53 _ _) rfl inX7 1 (by decide) q_555 rfl dX7_undo_35 ?_
      refine X_sipush C (204 : Int32) dX7_undo_38 (by decide) ?_
      refine X_aload_n C 0 0 dX7_undo_41 rfl rfl ?_
      refine X_get C (hFu _ (by decide)) (wc_53 _ _) rfl inX7 2 (by decide) q_556 rfl dX7_undo_42 ?_
      refine X_imul C dX7_undo_45 ?_
      refine X_iload_n C 1 1 dX7_undo_46 rfl rfl ?_
      refine X_iadd C dX7_undo_47 ?_
      obtain ⟨hin, h⟩ := h
      refine X_iald C (hFu _ (by decide)) (wc_55 _ _) hin dX7_undo_48 ?_
      obtain ⟨hin, h⟩ := h
      obtain ⟨S2, eS2⟩ : ∃ z, z = mput S 54 (Int32.toNatClampNeg x1) (S 55 (Int32.toNatClampNeg (((204 : Int32) * (S 53 2)) + x1))) := ⟨_, rfl⟩
      have h := h S2 eS2
      refine X_iast C (hFu _ (by decide)) (wc_54 _ _) hin eS2 (wc_54 _ _) dX7_undo_49 ?_
      refine X_iinc C (x1 + (1 : Int32)) 1 [(1, .int (x1 + (1 : Int32))), (0, .ref (xad (kG κ) 53))] dX7_undo_50 rfl rfl (by decide) rfl ?_
      refine X_goto C 22 dX7_undo_53 (by decide) ?_
      refine X_sub [1, 0] rfl ?_
      exact ih _ _ h
set_option maxRecDepth 100000 in
set_option maxHeartbeats 4000000 in
theorem M_X7_undo {l : Launch} {G : XG} (hJ : XJ G) (hFu : XF G) {S : Mem} {K : Int32 → Mem → Prop} (h : P_X7_undo S K) : XMi l G yX7_undo cX7_undo 2 .int 0 0 [.ref (xad G 53)] S K := by
  refine X_meth RX7 rfl (by decide +kernel) hJ (Nat.le_of_ble_eq_true rfl) (fun κ hl hG C E => ?_)
  subst hl hG
  show XW κ S 0 [(0, .ref (xad (kG κ) 53))] []
  refine X_aload_n C 0 0 dX7_undo_0 rfl rfl ?_
  refine X_get C (hFu _ (by decide)) (wc_53 _ _) rfl inX7 2 (by decide) q_556 rfl dX7_undo_1 ?_
  refine X_if_ne C 10 dX7_undo_4 (by decide) (fun c => ?_) (fun c => ?_)
  · have h := h.1 c
    refine X_aload_n C 0 0 dX7_undo_10 rfl rfl ?_
    refine X_dup C dX7_undo_11 rfl ?_
    refine X_get C (hFu _ (by decide)) (wc_53 _ _) rfl inX7 2 (by decide) q_556 rfl dX7_undo_12 ?_
    refine X_iconst C (1 : Int32) dX7_undo_15 (by decide) ?_
    refine X_isub C dX7_undo_16 ?_
    obtain ⟨S1, eS1⟩ : ∃ z, z = mput S 53 2 ((S 53 2) - (1 : Int32)) := ⟨_, rfl⟩
    have h := h S1 eS1
    refine X_put C (hFu _ (by decide)) (wc_53 _ _) rfl inX7 tyX7_ok nmX7 2 (by decide) q_556 rfl rfl rfl (Nat.le_of_ble_eq_true rfl) eS1 (wc_53 _ _) dX7_undo_17 ?_
    refine X_iconst C (0 : Int32) dX7_undo_20 (by decide) ?_
    refine X_istore_n C 1 [(1, .int (0 : Int32)), (0, .ref (xad (kG κ) 53))] dX7_undo_21 rfl (by decide) rfl ?_
    refine X_sub [1, 0] rfl ?_
    obtain ⟨n3, h⟩ := h
    exact K_X7_undo_22 C E hFu n3 _ _ h
  · have h := h.2 c
    refine X_ldc C (-1000002 : Int32) q_672 dX7_undo_7 ?_
    exact X_iret C E rfl h dX7_undo_9
set_option maxRecDepth 100000 in
set_option maxHeartbeats 4000000 in
theorem M_X7_type {l : Launch} {G : XG} (hJ : XJ G) (hFu : XF G) {S : Mem} {a1 : Int32} {K : Int32 → Mem → Prop} (h : P_X7_type S a1 K) : XMi l G yX7_type cX7_type 2 .int 1 25 [.ref (xad G 53), .int a1] S K := by
  refine X_meth RX7 rfl (by decide +kernel) hJ (Nat.le_of_ble_eq_true rfl) (fun κ hl hG C E => ?_)
  subst hl hG
  show XW κ S 0 [(0, .ref (xad (kG κ) 53)), (1, .int a1)] []
  refine X_iload_n C 1 1 dX7_type_0 rfl rfl ?_
  refine X_i2l C dX7_type_1 ?_
  refine X_ldc2 C (32 : Int64) q_849 dX7_type_2 ?_
  refine X_ldc2 C (126 : Int64) q_850 dX7_type_5 ?_
  refine X_callSi C eX7_in [.long (Int32.toInt64 a1), .long (32 : Int64), .long (126 : Int64)] [] (M_X7_in C.g_J hFu h) q_653 rfl ⟨(Nat.le_of_ble_eq_true rfl), (Nat.le_of_ble_eq_true rfl)⟩ rfl (Nat.le_of_ble_eq_true rfl) dX7_type_8 (fun r2 S1 h => ?_)
  refine X_if_ne C 17 dX7_type_11 (by decide) (fun c => ?_) (fun c => ?_)
  · have h := h.1 c
    refine X_aload_n C 0 0 dX7_type_17 rfl rfl ?_
    refine X_get C (hFu _ (by decide)) (wc_53 _ _) rfl inX7 22 (by decide) q_576 rfl dX7_type_18 ?_
    refine X_bipush C (60 : Int32) dX7_type_21 (by decide) ?_
    refine X_icmp_ne C 29 dX7_type_23 (by decide) (fun c => ?_) (fun c => ?_)
    · have h := h.1 c
      refine X_aload_n C 0 0 dX7_type_29 rfl rfl ?_
      refine X_get C (hFu _ (by decide)) (wc_53 _ _) rfl inX7 21 (by decide) q_575 rfl dX7_type_30 ?_
      refine X_aload_n C 0 0 dX7_type_33 rfl rfl ?_
      refine X_get C (hFu _ (by decide)) (wc_53 _ _) rfl inX7 22 (by decide) q_576 rfl dX7_type_34 ?_
      refine X_iload_n C 1 1 dX7_type_37 rfl rfl ?_
      obtain ⟨hin, h⟩ := h
      obtain ⟨S3, eS3⟩ : ∃ z, z = mput S1 65 (Int32.toNatClampNeg (S1 53 22)) a1 := ⟨_, rfl⟩
      have h := h S3 eS3
      refine X_iast C (hFu _ (by decide)) (wc_65 _ _) hin eS3 (wc_65 _ _) dX7_type_38 ?_
      refine X_aload_n C 0 0 dX7_type_39 rfl rfl ?_
      refine X_dup C dX7_type_40 rfl ?_
      refine X_get C (hFu _ (by decide)) (wc_53 _ _) rfl inX7 22 (by decide) q_576 rfl dX7_type_41 ?_
      refine X_iconst C (1 : Int32) dX7_type_44 (by decide) ?_
      refine X_iadd C dX7_type_45 ?_
      obtain ⟨S4, eS4⟩ : ∃ z, z = mput S3 53 22 ((S3 53 22) + (1 : Int32)) := ⟨_, rfl⟩
      have h := h S4 eS4
      refine X_put C (hFu _ (by decide)) (wc_53 _ _) rfl inX7 tyX7_ok nmX7 22 (by decide) q_576 rfl rfl rfl (Nat.le_of_ble_eq_true rfl) eS4 (wc_53 _ _) dX7_type_46 ?_
      refine X_aload_n C 0 0 dX7_type_49 rfl rfl ?_
      refine X_get C (hFu _ (by decide)) (wc_53 _ _) rfl inX7 22 (by decide) q_576 rfl dX7_type_50 ?_
      exact X_iret C E rfl h dX7_type_53
    · have h := h.2 c
      refine X_ldc C (-1000003 : Int32) q_659 dX7_type_26 ?_
      exact X_iret C E rfl h dX7_type_28
  · have h := h.2 c
    refine X_ldc C (-1000001 : Int32) q_658 dX7_type_14 ?_
    exact X_iret C E rfl h dX7_type_16
set_option maxRecDepth 100000 in
set_option maxHeartbeats 4000000 in
theorem M_X7_clearText {l : Launch} {G : XG} (hJ : XJ G) (hFu : XF G) {S : Mem} {K : Int32 → Mem → Prop} (h : P_X7_clearText S K) : XMi l G yX7_clearText cX7_clearText 2 .int 0 0 [.ref (xad G 53)] S K := by
  refine X_meth RX7 rfl (by decide +kernel) hJ (Nat.le_of_ble_eq_true rfl) (fun κ hl hG C E => ?_)
  subst hl hG
  show XW κ S 0 [(0, .ref (xad (kG κ) 53))] []
  refine X_aload_n C 0 0 dX7_clearText_0 rfl rfl ?_
  refine X_get C (hFu _ (by decide)) (wc_53 _ _) rfl inX7 22 (by decide) q_576 rfl dX7_clearText_1 ?_
  refine X_istore_n C 1 [(1, .int (S 53 22)), (0, .ref (xad (kG κ) 53))] dX7_clearText_4 rfl (by decide) rfl ?_
  refine X_aload_n C 0 1 dX7_clearText_5 rfl rfl ?_
  refine X_iconst C (0 : Int32) dX7_clearText_6 (by decide) ?_
  obtain ⟨S1, eS1⟩ : ∃ z, z = mput S 53 22 (0 : Int32) := ⟨_, rfl⟩
  have h := h S1 eS1
  refine X_put C (hFu _ (by decide)) (wc_53 _ _) rfl inX7 tyX7_ok nmX7 22 (by decide) q_576 rfl rfl rfl (Nat.le_of_ble_eq_true rfl) eS1 (wc_53 _ _) dX7_clearText_7 ?_
  refine X_iload_n C 1 0 dX7_clearText_10 rfl rfl ?_
  exact X_iret C E rfl h dX7_clearText_11
set_option maxRecDepth 100000 in
set_option maxHeartbeats 4000000 in
theorem K_X7_takesOne_44 {κ : Kx} (C : XC κ RX7 cX7_takesOne 3 0 0) {K : Int32 → Mem → Prop} (E : XRet κ (some .boolean) (va_Qi K (XB (kG κ)) (XA (kG κ)))) (hFu : XF (kG κ)) {S : Mem} {x2 : Int32} {y0 : Int32} {y1 : Int32} (h : B_X7_takesOne_44 K S x2 y0 y1) : XW κ S 44 [(2, .int x2)] [.int y0, .int y1, .ref (xad (kG κ) 53)] := by
  refine X_iadd C dX7_takesOne_44 ?_
  obtain ⟨S1, eS1⟩ : ∃ z, z = mput S 53 24 (y1 + y0) := ⟨_, rfl⟩
  have h := h S1 eS1
  refine X_put C (hFu _ (by decide)) (wc_53 _ _) rfl inX7 tyX7_ok nmX7 24 (by decide) q_578 rfl rfl rfl (Nat.le_of_ble_eq_true rfl) eS1 (wc_53 _ _) dX7_takesOne_45 ?_
  refine X_iload_n C 2 0 dX7_takesOne_48 rfl rfl ?_
  obtain ⟨hb, h⟩ := h
  exact X_iret C E (vp_bool_nar hb) h dX7_takesOne_49
set_option maxRecDepth 100000 in
set_option maxHeartbeats 4000000 in
theorem K_X7_takesOne_29 {κ : Kx} (C : XC κ RX7 cX7_takesOne 3 0 0) {K : Int32 → Mem → Prop} (E : XRet κ (some .boolean) (va_Qi K (XB (kG κ)) (XA (kG κ)))) (hFu : XF (kG κ)) {S : Mem} {y0 : Int32} (h : B_X7_takesOne_29 K S y0) : XW κ S 29 [(0, .ref (xad (kG κ) 53))] [.int y0] := by
  refine X_istore_n C 2 [(2, .int y0), (0, .ref (xad (kG κ) 53))] dX7_takesOne_29 rfl (by decide) rfl ?_
  refine X_aload_n C 0 1 dX7_takesOne_30 rfl rfl ?_
  refine X_dup C dX7_takesOne_31 rfl ?_
  refine X_get C (hFu _ (by decide)) (wc_53 _ _) rfl inX7 24 (by decide) q_578 rfl dX7_takesOne_32 ?_
  refine X_iload_n C 2 0 dX7_takesOne_35 rfl rfl ?_
  refine X_if_eq C 43 dX7_takesOne_36 (by decide) (fun c => ?_) (fun c => ?_)
  · have h := h.1 c
    refine X_iconst C (0 : Int32) dX7_takesOne_43 (by decide) ?_
    refine X_sub [0] rfl ?_
    exact K_X7_takesOne_44 C E hFu h
  · have h := h.2 c
    refine X_iconst C (1 : Int32) dX7_takesOne_39 (by decide) ?_
    refine X_goto C 44 dX7_takesOne_40 (by decide) ?_
    refine X_sub [0] rfl ?_
    exact K_X7_takesOne_44 C E hFu h
set_option maxRecDepth 100000 in
set_option maxHeartbeats 4000000 in
theorem K_X7_takesOne_28 {κ : Kx} (C : XC κ RX7 cX7_takesOne 3 0 0) {K : Int32 → Mem → Prop} (E : XRet κ (some .boolean) (va_Qi K (XB (kG κ)) (XA (kG κ)))) (hFu : XF (kG κ)) {S : Mem} (h : B_X7_takesOne_28 K S) : XW κ S 28 [(0, .ref (xad (kG κ) 53))] [] := by
  refine X_iconst C (0 : Int32) dX7_takesOne_28 (by decide) ?_
  exact K_X7_takesOne_29 C E hFu h
set_option maxRecDepth 100000 in
set_option maxHeartbeats 4000000 in
theorem M_X7_takesOne {l : Launch} {G : XG} (hJ : XJ G) (hFu : XF G) {S : Mem} {a1 : Int32} {K : Int32 → Mem → Prop} (h : P_X7_takesOne S a1 K) : XMi l G yX7_takesOne cX7_takesOne 3 .boolean 0 0 [.ref (xad G 53), .int a1] S K := by
  refine X_meth RX7 rfl (by decide +kernel) hJ (Nat.le_of_ble_eq_true rfl) (fun κ hl hG C E => ?_)
  subst hl hG
  show XW κ S 0 [(0, .ref (xad (kG κ) 53)), (1, .int a1)] []
  refine X_aload_n C 0 0 dX7_takesOne_0 rfl rfl ?_
  refine X_get C (hFu _ (by decide)) (wc_53 _ _) rfl inX7 24 (by decide) q_578 rfl dX7_takesOne_1 ?_
  refine X_aload_n C 0 0 dX7_takesOne_4 rfl rfl ?_
  refine X_get C (hFu _ (by decide)) (wc_53 _ _) rfl inX7 22 (by decide) q_576 rfl dX7_takesOne_5 ?_
  refine X_icmp_ge C 28 dX7_takesOne_8 (by decide) (fun c => ?_) (fun c => ?_)
  · have h := h.1 c
    refine X_sub [0] rfl ?_
    exact K_X7_takesOne_28 C E hFu h
  · have h := h.2 c
    refine X_aload_n C 0 0 dX7_takesOne_11 rfl rfl ?_
    refine X_get C (hFu _ (by decide)) (wc_53 _ _) rfl inX7 21 (by decide) q_575 rfl dX7_takesOne_12 ?_
    refine X_aload_n C 0 0 dX7_takesOne_15 rfl rfl ?_
    refine X_get C (hFu _ (by decide)) (wc_53 _ _) rfl inX7 24 (by decide) q_578 rfl dX7_takesOne_16 ?_
    obtain ⟨hin, h⟩ := h
    refine X_iald C (hFu _ (by decide)) (wc_65 _ _) hin dX7_takesOne_19 ?_
    refine X_iload_n C 1 1 dX7_takesOne_20 rfl rfl ?_
    refine X_icmp_ne C 28 dX7_takesOne_21 (by decide) (fun c => ?_) (fun c => ?_)
    · have h := h.1 c
      refine X_sub [0] rfl ?_
      exact K_X7_takesOne_28 C E hFu h
    · have h := h.2 c
      refine X_iconst C (1 : Int32) dX7_takesOne_24 (by decide) ?_
      refine X_goto C 29 dX7_takesOne_25 (by decide) ?_
      refine X_sub [0] rfl ?_
      exact K_X7_takesOne_29 C E hFu h
set_option maxRecDepth 100000 in
set_option maxHeartbeats 4000000 in
theorem K_X7_takesNumber_90 {κ : Kx} (C : XC κ RX7 cX7_takesNumber 3 1 25) {K : Int32 → Mem → Prop} (E : XRet κ (some .boolean) (va_Qi K (XB (kG κ)) (XA (kG κ)))) (hFu : XF (kG κ)) {S : Mem} {x2 : Int32} (h : B_X7_takesNumber_90 K S x2) : XW κ S 90 [(0, .ref (xad (kG κ) 53)), (2, .int x2)] [] := by
  refine X_aload_n C 0 0 dX7_takesNumber_90 rfl rfl ?_
  refine X_get C (hFu _ (by decide)) (wc_53 _ _) rfl inX7 24 (by decide) q_578 rfl dX7_takesNumber_91 ?_
  refine X_iload_n C 2 1 dX7_takesNumber_94 rfl rfl ?_
  refine X_icmp_le C 102 dX7_takesNumber_95 (by decide) (fun c => ?_) (fun c => ?_)
  · have h := h.1 c
    refine X_iconst C (0 : Int32) dX7_takesNumber_102 (by decide) ?_
    exact X_iret C E rfl h dX7_takesNumber_103
  · have h := h.2 c
    refine X_iconst C (1 : Int32) dX7_takesNumber_98 (by decide) ?_
    refine X_goto C 103 dX7_takesNumber_99 (by decide) ?_
    exact X_iret C E rfl h dX7_takesNumber_103
set_option maxRecDepth 100000 in
set_option maxHeartbeats 4000000 in
theorem K_X7_takesNumber_10 {κ : Kx} (C : XC κ RX7 cX7_takesNumber 3 1 25) {K : Int32 → Mem → Prop} (E : XRet κ (some .boolean) (va_Qi K (XB (kG κ)) (XA (kG κ)))) (hFu : XF (kG κ)) : ∀ (n : Nat) (S : Mem) (x1 : Int32) (x2 : Int32), B_X7_takesNumber_10 K n S x1 x2 → XW κ S 10 [(0, .ref (xad (kG κ) 53)), (1, .int x1), (2, .int x2)] [] := by
  intro n
  induction n with
  | zero => intro S x1 x2 h; exact h.elim
  | succ n ih =>
    intro S x1 x2 h
    refine X_aload_n C 0 0 dX7_takesNumber_10 rfl rfl ?_
    refine X_get C (hFu _ (by decide)) (wc_53 _ _) rfl inX7 24 (by decide) q_578 rfl dX7_takesNumber_11 ?_
    refine X_aload_n C 0 0 dX7_takesNumber_14 rfl rfl ?_
    refine X_get C (hFu _ (by decide)) (wc_53 _ _) rfl inX7 22 (by decide) q_576 rfl dX7_takesNumber_15 ?_
    refine X_icmp_ge C 90 dX7_takesNumber_18 (by decide) (fun c => ?_) (fun c => ?_)
    · have h := h.1 c
      refine X_sub [0, 2] rfl ?_
      exact K_X7_takesNumber_90 C E hFu h
    · have h := h.2 c
      refine X_aload_n C 0 0 dX7_takesNumber_21 rfl rfl ?_
      refine X_get C (hFu _ (by decide)) (wc_53 _ _) rfl inX7 24 (by decide) q_578 rfl dX7_takesNumber_22 ?_
      refine X_iload_n C 2 2 dX7_takesNumber_25 rfl rfl ?_
      refine X_iload_n C 1 1 dX7_takesNumber_26 rfl rfl ?_
      refine X_iadd C dX7_takesNumber_27 ?_
      refine X_icmp_ge C 90 dX7_takesNumber_28 (by decide) (fun c => ?_) (fun c => ?_)
      · have h := h.1 c
        refine X_sub [0, 2] rfl ?_
        exact K_X7_takesNumber_90 C E hFu h
      · have h := h.2 c
        refine X_aload_n C 0 0 dX7_takesNumber_31 rfl rfl ?_
        refine X_get C (hFu _ (by decide)) (wc_53 _ _) rfl inX7 21 (by decide) q_575 rfl dX7_takesNumber_32 ?_
        refine X_aload_n C 0 0 dX7_takesNumber_35 rfl rfl ?_
        refine X_get C (hFu _ (by decide)) (wc_53 _ _) rfl inX7 24 (by decide) q_578 rfl dX7_takesNumber_36 ?_
        obtain ⟨hin, h⟩ := h
        refine X_iald C (hFu _ (by decide)) (wc_65 _ _) hin dX7_takesNumber_39 ?_
        refine X_i2l C dX7_takesNumber_40 ?_
        refine X_ldc2 C (48 : Int64) q_871 dX7_takesNumber_41 ?_
        refine X_ldc2 C (57 : Int64) q_872 dX7_takesNumber_44 ?_
        refine X_callSi C eX7_in [.long (Int32.toInt64 (S 65 (Int32.toNatClampNeg (S 53 24)))), .long (48 : Int64), .long (57 : Int64)] [] (M_X7_in C.g_J hFu h) q_653 rfl ⟨(Nat.le_of_ble_eq_true rfl), (Nat.le_of_ble_eq_true rfl)⟩ rfl (Nat.le_of_ble_eq_true rfl) dX7_takesNumber_47 (fun r3 S2 h => ?_)
        refine X_if_eq C 90 dX7_takesNumber_50 (by decide) (fun c => ?_) (fun c => ?_)
        · have h := h.1 c
          refine X_sub [0, 2] rfl ?_
          exact K_X7_takesNumber_90 C E hFu h
        · have h := h.2 c
          refine X_aload_n C 0 0 dX7_takesNumber_53 rfl rfl ?_
          refine X_bipush C (10 : Int32) dX7_takesNumber_54 (by decide) ?_
          refine X_aload_n C 0 0 dX7_takesNumber_56 rfl rfl ?_
          refine X_get C (hFu _ (by decide)) (wc_53 _ _) rfl inX7 27 (by decide) q_581 rfl dX7_takesNumber_57 ?_
          refine X_imul C dX7_takesNumber_60 ?_
          refine X_aload_n C 0 0 dX7_takesNumber_61 rfl rfl ?_
          refine X_get C (hFu _ (by decide)) (wc_53 _ _) rfl inX7 21 (by decide) q_575 rfl dX7_takesNumber_62 ?_
          refine X_aload_n C 0 0 dX7_takesNumber_65 rfl rfl ?_
          refine X_get C (hFu _ (by decide)) (wc_53 _ _) rfl inX7 24 (by decide) q_578 rfl dX7_takesNumber_66 ?_
          obtain ⟨hin, h⟩ := h
          refine X_iald C (hFu _ (by decide)) (wc_65 _ _) hin dX7_takesNumber_69 ?_
          refine X_iadd C dX7_takesNumber_70 ?_
          refine X_bipush C (48 : Int32) dX7_takesNumber_71 (by decide) ?_
          refine X_isub C dX7_takesNumber_73 ?_
          obtain ⟨S4, eS4⟩ : ∃ z, z = mput S2 53 27 ((((10 : Int32) * (S2 53 27)) + (S2 65 (Int32.toNatClampNeg (S2 53 24)))) - (48 : Int32)) := ⟨_, rfl⟩
          have h := h S4 eS4
          refine X_put C (hFu _ (by decide)) (wc_53 _ _) rfl inX7 tyX7_ok nmX7 27 (by decide) q_581 rfl rfl rfl (Nat.le_of_ble_eq_true rfl) eS4 (wc_53 _ _) dX7_takesNumber_74 ?_
          refine X_aload_n C 0 0 dX7_takesNumber_77 rfl rfl ?_
          refine X_dup C dX7_takesNumber_78 rfl ?_
          refine X_get C (hFu _ (by decide)) (wc_53 _ _) rfl inX7 24 (by decide) q_578 rfl dX7_takesNumber_79 ?_
          refine X_iconst C (1 : Int32) dX7_takesNumber_82 (by decide) ?_
          refine X_iadd C dX7_takesNumber_83 ?_
          obtain ⟨S5, eS5⟩ : ∃ z, z = mput S4 53 24 ((S4 53 24) + (1 : Int32)) := ⟨_, rfl⟩
          have h := h S5 eS5
          refine X_put C (hFu _ (by decide)) (wc_53 _ _) rfl inX7 tyX7_ok nmX7 24 (by decide) q_578 rfl rfl rfl (Nat.le_of_ble_eq_true rfl) eS5 (wc_53 _ _) dX7_takesNumber_84 ?_
          refine X_goto C 10 dX7_takesNumber_87 (by decide) ?_
          exact ih _ _ _ h
set_option maxRecDepth 100000 in
set_option maxHeartbeats 4000000 in
theorem M_X7_takesNumber {l : Launch} {G : XG} (hJ : XJ G) (hFu : XF G) {S : Mem} {a1 : Int32} {K : Int32 → Mem → Prop} (h : P_X7_takesNumber S a1 K) : XMi l G yX7_takesNumber cX7_takesNumber 3 .boolean 1 25 [.ref (xad G 53), .int a1] S K := by
  refine X_meth RX7 rfl (by decide +kernel) hJ (Nat.le_of_ble_eq_true rfl) (fun κ hl hG C E => ?_)
  subst hl hG
  show XW κ S 0 [(0, .ref (xad (kG κ) 53)), (1, .int a1)] []
  refine X_aload_n C 0 0 dX7_takesNumber_0 rfl rfl ?_
  refine X_get C (hFu _ (by decide)) (wc_53 _ _) rfl inX7 24 (by decide) q_578 rfl dX7_takesNumber_1 ?_
  refine X_istore_n C 2 [(2, .int (S 53 24)), (0, .ref (xad (kG κ) 53)), (1, .int a1)] dX7_takesNumber_4 rfl (by decide) rfl ?_
  refine X_aload_n C 0 1 dX7_takesNumber_5 rfl rfl ?_
  refine X_iconst C (0 : Int32) dX7_takesNumber_6 (by decide) ?_
  obtain ⟨S1, eS1⟩ : ∃ z, z = mput S 53 27 (0 : Int32) := ⟨_, rfl⟩
  have h := h S1 eS1
  refine X_put C (hFu _ (by decide)) (wc_53 _ _) rfl inX7 tyX7_ok nmX7 27 (by decide) q_581 rfl rfl rfl (Nat.le_of_ble_eq_true rfl) eS1 (wc_53 _ _) dX7_takesNumber_7 ?_
  refine X_sub [1, 2, 0] rfl ?_
  obtain ⟨n6, h⟩ := h
  exact K_X7_takesNumber_10 C E hFu n6 _ _ _ h
set_option maxRecDepth 100000 in
set_option maxHeartbeats 4000000 in
theorem K_X7_readsRow_71 {κ : Kx} (C : XC κ RX7 cX7_readsRow 2 2 47) {K : Int32 → Mem → Prop} (E : XRet κ (some .boolean) (va_Qi K (XB (kG κ)) (XA (kG κ)))) (hFu : XF (kG κ)) {S : Mem} {y0 : Int32} (h : B_X7_readsRow_71 K S y0) : XW κ S 71 [(0, .ref (xad (kG κ) 53))] [.int y0, .ref (xad (kG κ) 53)] := by
  obtain ⟨S11, eS11⟩ : ∃ z, z = mput S 53 26 y0 := ⟨_, rfl⟩
  have h := h S11 eS11
  refine X_put C (hFu _ (by decide)) (wc_53 _ _) rfl inX7 tyX7_ok nmX7 26 (by decide) q_580 rfl rfl rfl (Nat.le_of_ble_eq_true rfl) eS11 (wc_53 _ _) dX7_readsRow_71 ?_
  refine X_aload_n C 0 0 dX7_readsRow_74 rfl rfl ?_
  refine X_bipush C (59 : Int32) dX7_readsRow_75 (by decide) ?_
  refine X_callVi C eX7_takesOne [.int (59 : Int32)] [] (M_X7_takesOne C.g_J hFu h) (hFu _ (by decide)) (wc_53 _ _) rfl q_873 rfl ⟨(Nat.le_of_ble_eq_true rfl), (Nat.le_of_ble_eq_true rfl)⟩ rfl (Nat.le_of_ble_eq_true rfl) dX7_readsRow_77 (fun r13 S12 h => ?_)
  obtain ⟨hb, h⟩ := h
  exact X_iret C E (vp_bool_nar hb) h dX7_readsRow_80
set_option maxRecDepth 100000 in
set_option maxHeartbeats 4000000 in
theorem M_X7_readsRow {l : Launch} {G : XG} (hJ : XJ G) (hFu : XF G) {S : Mem} {K : Int32 → Mem → Prop} (h : P_X7_readsRow S K) : XMi l G yX7_readsRow cX7_readsRow 2 .boolean 2 47 [.ref (xad G 53)] S K := by
  refine X_meth RX7 rfl (by decide +kernel) hJ (Nat.le_of_ble_eq_true rfl) (fun κ hl hG C E => ?_)
  subst hl hG
  show XW κ S 0 [(0, .ref (xad (kG κ) 53))] []
  refine X_aload_n C 0 0 dX7_readsRow_0 rfl rfl ?_
  refine X_aload_n C 0 0 dX7_readsRow_1 rfl rfl ?_
  refine X_get C (hFu _ (by decide)) (wc_53 _ _) rfl inX7 23 (by decide) q_577 rfl dX7_readsRow_2 ?_
  obtain ⟨S1, eS1⟩ : ∃ z, z = mput S 53 24 (S 53 23) := ⟨_, rfl⟩
  have h := h S1 eS1
  refine X_put C (hFu _ (by decide)) (wc_53 _ _) rfl inX7 tyX7_ok nmX7 24 (by decide) q_578 rfl rfl rfl (Nat.le_of_ble_eq_true rfl) eS1 (wc_53 _ _) dX7_readsRow_5 ?_
  refine X_aload_n C 0 0 dX7_readsRow_8 rfl rfl ?_
  refine X_iconst C (4 : Int32) dX7_readsRow_9 (by decide) ?_
  refine X_callVi C eX7_takesNumber [.int (4 : Int32)] [] (M_X7_takesNumber C.g_J hFu h) (hFu _ (by decide)) (wc_53 _ _) rfl q_867 rfl ⟨(Nat.le_of_ble_eq_true rfl), (Nat.le_of_ble_eq_true rfl)⟩ rfl (Nat.le_of_ble_eq_true rfl) dX7_readsRow_10 (fun r3 S2 h => ?_)
  refine X_if_ne C 18 dX7_readsRow_13 (by decide) (fun c => ?_) (fun c => ?_)
  · have h := h.1 c
    refine X_aload_n C 0 0 dX7_readsRow_18 rfl rfl ?_
    refine X_aload_n C 0 0 dX7_readsRow_19 rfl rfl ?_
    refine X_get C (hFu _ (by decide)) (wc_53 _ _) rfl inX7 27 (by decide) q_581 rfl dX7_readsRow_20 ?_
    obtain ⟨S4, eS4⟩ : ∃ z, z = mput S2 53 25 (S2 53 27) := ⟨_, rfl⟩
    have h := h S4 eS4
    refine X_put C (hFu _ (by decide)) (wc_53 _ _) rfl inX7 tyX7_ok nmX7 25 (by decide) q_579 rfl rfl rfl (Nat.le_of_ble_eq_true rfl) eS4 (wc_53 _ _) dX7_readsRow_23 ?_
    refine X_aload_n C 0 0 dX7_readsRow_26 rfl rfl ?_
    refine X_bipush C (61 : Int32) dX7_readsRow_27 (by decide) ?_
    refine X_callVi C eX7_takesOne [.int (61 : Int32)] [] (M_X7_takesOne C.g_J hFu h) (hFu _ (by decide)) (wc_53 _ _) rfl q_873 rfl ⟨(Nat.le_of_ble_eq_true rfl), (Nat.le_of_ble_eq_true rfl)⟩ rfl (Nat.le_of_ble_eq_true rfl) dX7_readsRow_29 (fun r6 S5 h => ?_)
    refine X_if_ne C 37 dX7_readsRow_32 (by decide) (fun c => ?_) (fun c => ?_)
    · have h := h.1 c
      refine X_aload_n C 0 0 dX7_readsRow_37 rfl rfl ?_
      refine X_bipush C (45 : Int32) dX7_readsRow_38 (by decide) ?_
      refine X_callVi C eX7_takesOne [.int (45 : Int32)] [] (M_X7_takesOne C.g_J hFu h) (hFu _ (by decide)) (wc_53 _ _) rfl q_873 rfl ⟨(Nat.le_of_ble_eq_true rfl), (Nat.le_of_ble_eq_true rfl)⟩ rfl (Nat.le_of_ble_eq_true rfl) dX7_readsRow_40 (fun r8 S7 h => ?_)
      refine X_istore_n C 1 [(1, .int r8), (0, .ref (xad (kG κ) 53))] dX7_readsRow_43 rfl (by decide) rfl ?_
      refine X_aload_n C 0 1 dX7_readsRow_44 rfl rfl ?_
      refine X_iconst C (3 : Int32) dX7_readsRow_45 (by decide) ?_
      refine X_callVi C eX7_takesNumber [.int (3 : Int32)] [] (M_X7_takesNumber C.g_J hFu h) (hFu _ (by decide)) (wc_53 _ _) rfl q_867 rfl ⟨(Nat.le_of_ble_eq_true rfl), (Nat.le_of_ble_eq_true rfl)⟩ rfl (Nat.le_of_ble_eq_true rfl) dX7_readsRow_46 (fun r10 S9 h => ?_)
      refine X_if_ne C 54 dX7_readsRow_49 (by decide) (fun c => ?_) (fun c => ?_)
      · have h := h.1 c
        refine X_aload_n C 0 1 dX7_readsRow_54 rfl rfl ?_
        refine X_iload_n C 1 0 dX7_readsRow_55 rfl rfl ?_
        refine X_if_eq C 67 dX7_readsRow_56 (by decide) (fun c => ?_) (fun c => ?_)
        · have h := h.1 c
          refine X_aload_n C 0 1 dX7_readsRow_67 rfl rfl ?_
          refine X_get C (hFu _ (by decide)) (wc_53 _ _) rfl inX7 27 (by decide) q_581 rfl dX7_readsRow_68 ?_
          refine X_sub [1] rfl ?_
          exact K_X7_readsRow_71 C E hFu h
        · have h := h.2 c
          refine X_aload_n C 0 1 dX7_readsRow_59 rfl rfl ?_
          refine X_get C (hFu _ (by decide)) (wc_53 _ _) rfl inX7 27 (by decide) q_581 rfl dX7_readsRow_60 ?_
          refine X_ineg C dX7_readsRow_63 ?_
          refine X_goto C 71 dX7_readsRow_64 (by decide) ?_
          refine X_sub [1] rfl ?_
          exact K_X7_readsRow_71 C E hFu h
      · have h := h.2 c
        refine X_iconst C (0 : Int32) dX7_readsRow_52 (by decide) ?_
        exact X_iret C E rfl h dX7_readsRow_53
    · have h := h.2 c
      refine X_iconst C (0 : Int32) dX7_readsRow_35 (by decide) ?_
      exact X_iret C E rfl h dX7_readsRow_36
  · have h := h.2 c
    refine X_iconst C (0 : Int32) dX7_readsRow_16 (by decide) ?_
    exact X_iret C E rfl h dX7_readsRow_17
set_option maxRecDepth 100000 in
set_option maxHeartbeats 4000000 in
theorem K_X7_hasFault_56 {κ : Kx} (C : XC κ RX7 cX7_hasFault 2 3 68) {K : Int32 → Mem → Prop} (E : XRet κ (some .boolean) (va_Qi K (XB (kG κ)) (XA (kG κ)))) (hFu : XF (kG κ)) {S : Mem} (h : B_X7_hasFault_56 K S) : XW κ S 56 [(0, .ref (xad (kG κ) 53))] [] := by
  refine X_aload_n C 0 0 dX7_hasFault_56 rfl rfl ?_
  refine X_iconst C (2 : Int32) dX7_hasFault_57 (by decide) ?_
  obtain ⟨S5, eS5⟩ : ∃ z, z = mput S 53 28 (2 : Int32) := ⟨_, rfl⟩
  have h := h S5 eS5
  refine X_put C (hFu _ (by decide)) (wc_53 _ _) rfl inX7 tyX7_ok nmX7 28 (by decide) q_582 rfl rfl rfl (Nat.le_of_ble_eq_true rfl) eS5 (wc_53 _ _) dX7_hasFault_58 ?_
  refine X_aload_n C 0 0 dX7_hasFault_61 rfl rfl ?_
  refine X_bipush C (100 : Int32) dX7_hasFault_62 (by decide) ?_
  refine X_aload_n C 0 0 dX7_hasFault_64 rfl rfl ?_
  refine X_get C (hFu _ (by decide)) (wc_53 _ _) rfl inX7 0 (by decide) q_554 rfl dX7_hasFault_65 ?_
  refine X_iconst C (0 : Int32) dX7_hasFault_68 (by decide) ?_
  obtain ⟨hin, h⟩ := h
  refine X_iald C (hFu _ (by decide)) (wc_54 _ _) hin dX7_hasFault_69 ?_
  refine X_isub C dX7_hasFault_70 ?_
  obtain ⟨S6, eS6⟩ : ∃ z, z = mput S5 53 29 ((100 : Int32) - (S5 54 (Int32.toNatClampNeg (0 : Int32)))) := ⟨_, rfl⟩
  have h := h S6 eS6
  refine X_put C (hFu _ (by decide)) (wc_53 _ _) rfl inX7 tyX7_ok nmX7 29 (by decide) q_583 rfl rfl rfl (Nat.le_of_ble_eq_true rfl) eS6 (wc_53 _ _) dX7_hasFault_71 ?_
  refine X_iconst C (1 : Int32) dX7_hasFault_74 (by decide) ?_
  exact X_iret C E rfl h dX7_hasFault_75
set_option maxRecDepth 100000 in
set_option maxHeartbeats 4000000 in
theorem K_X7_hasFault_30 {κ : Kx} (C : XC κ RX7 cX7_hasFault 2 3 68) {K : Int32 → Mem → Prop} (E : XRet κ (some .boolean) (va_Qi K (XB (kG κ)) (XA (kG κ)))) (hFu : XF (kG κ)) {S : Mem} (h : B_X7_hasFault_30 K S) : XW κ S 30 [(0, .ref (xad (kG κ) 53))] [] := by
  refine X_aload_n C 0 0 dX7_hasFault_30 rfl rfl ?_
  refine X_iconst C (1 : Int32) dX7_hasFault_31 (by decide) ?_
  obtain ⟨S7, eS7⟩ : ∃ z, z = mput S 53 28 (1 : Int32) := ⟨_, rfl⟩
  have h := h S7 eS7
  refine X_put C (hFu _ (by decide)) (wc_53 _ _) rfl inX7 tyX7_ok nmX7 28 (by decide) q_582 rfl rfl rfl (Nat.le_of_ble_eq_true rfl) eS7 (wc_53 _ _) dX7_hasFault_32 ?_
  refine X_aload_n C 0 0 dX7_hasFault_35 rfl rfl ?_
  refine X_aload_n C 0 0 dX7_hasFault_36 rfl rfl ?_
  refine X_get C (hFu _ (by decide)) (wc_53 _ _) rfl inX7 24 (by decide) q_578 rfl dX7_hasFault_37 ?_
  refine X_aload_n C 0 0 dX7_hasFault_40 rfl rfl ?_
  refine X_get C (hFu _ (by decide)) (wc_53 _ _) rfl inX7 23 (by decide) q_577 rfl dX7_hasFault_41 ?_
  refine X_isub C dX7_hasFault_44 ?_
  obtain ⟨S8, eS8⟩ : ∃ z, z = mput S7 53 29 ((S7 53 24) - (S7 53 23)) := ⟨_, rfl⟩
  have h := h S8 eS8
  refine X_put C (hFu _ (by decide)) (wc_53 _ _) rfl inX7 tyX7_ok nmX7 29 (by decide) q_583 rfl rfl rfl (Nat.le_of_ble_eq_true rfl) eS8 (wc_53 _ _) dX7_hasFault_45 ?_
  refine X_iconst C (1 : Int32) dX7_hasFault_48 (by decide) ?_
  exact X_iret C E rfl h dX7_hasFault_49
set_option maxRecDepth 100000 in
set_option maxHeartbeats 4000000 in
theorem K_X7_hasFault_12 {κ : Kx} (C : XC κ RX7 cX7_hasFault 2 3 68) {K : Int32 → Mem → Prop} (E : XRet κ (some .boolean) (va_Qi K (XB (kG κ)) (XA (kG κ)))) (hFu : XF (kG κ)) : ∀ (n : Nat) (S : Mem) (x1 : Int32), B_X7_hasFault_12 K n S x1 → XW κ S 12 [(0, .ref (xad (kG κ) 53)), (1, .int x1)] [] := by
  intro n
  induction n with
  | zero => intro S x1 h; exact h.elim
  | succ n ih =>
    intro S x1 h
    refine X_aload_n C 0 0 dX7_hasFault_12 rfl rfl ?_
    refine X_get C (hFu _ (by decide)) (wc_53 _ _) rfl inX7 23 (by decide) q_577 rfl dX7_hasFault_13 ?_
    refine X_aload_n C 0 0 dX7_hasFault_16 rfl rfl ?_
    refine X_get C (hFu _ (by decide)) (wc_53 _ _) rfl inX7 22 (by decide) q_576 rfl dX7_hasFault_17 ?_
    refine X_icmp_ge C 90 dX7_hasFault_20 (by decide) (fun c => ?_) (fun c => ?_)
    · have h := h.1 c
      refine X_iconst C (0 : Int32) dX7_hasFault_90 (by decide) ?_
      exact X_iret C E rfl h dX7_hasFault_91
    · have h := h.2 c
      refine X_aload_n C 0 0 dX7_hasFault_23 rfl rfl ?_
      refine X_callVi C eX7_readsRow [] [] (M_X7_readsRow C.g_J hFu h) (hFu _ (by decide)) (wc_53 _ _) rfl q_863 rfl ⟨(Nat.le_of_ble_eq_true rfl), (Nat.le_of_ble_eq_true rfl)⟩ rfl (Nat.le_of_ble_eq_true rfl) dX7_hasFault_24 (fun r3 S2 h => ?_)
      refine X_if_ne C 50 dX7_hasFault_27 (by decide) (fun c => ?_) (fun c => ?_)
      · have h := h.1 c
        refine X_iload_n C 1 1 dX7_hasFault_50 rfl rfl ?_
        refine X_bipush C (100 : Int32) dX7_hasFault_51 (by decide) ?_
        refine X_icmp_ne C 76 dX7_hasFault_53 (by decide) (fun c => ?_) (fun c => ?_)
        · have h := h.1 c
          refine X_iinc C (x1 + (1 : Int32)) 1 [(1, .int (x1 + (1 : Int32))), (0, .ref (xad (kG κ) 53))] dX7_hasFault_76 rfl rfl (by decide) rfl ?_
          refine X_aload_n C 0 1 dX7_hasFault_79 rfl rfl ?_
          refine X_aload_n C 0 1 dX7_hasFault_80 rfl rfl ?_
          refine X_get C (hFu _ (by decide)) (wc_53 _ _) rfl inX7 24 (by decide) q_578 rfl dX7_hasFault_81 ?_
          obtain ⟨S4, eS4⟩ : ∃ z, z = mput S2 53 23 (S2 53 24) := ⟨_, rfl⟩
          have h := h S4 eS4
          refine X_put C (hFu _ (by decide)) (wc_53 _ _) rfl inX7 tyX7_ok nmX7 23 (by decide) q_577 rfl rfl rfl (Nat.le_of_ble_eq_true rfl) eS4 (wc_53 _ _) dX7_hasFault_84 ?_
          refine X_goto C 12 dX7_hasFault_87 (by decide) ?_
          refine X_sub [1, 0] rfl ?_
          exact ih _ _ h
        · have h := h.2 c
          refine X_sub [0] rfl ?_
          exact K_X7_hasFault_56 C E hFu h
      · have h := h.2 c
        refine X_sub [0] rfl ?_
        exact K_X7_hasFault_30 C E hFu h
set_option maxRecDepth 100000 in
set_option maxHeartbeats 4000000 in
theorem M_X7_hasFault {l : Launch} {G : XG} (hJ : XJ G) (hFu : XF G) {S : Mem} {K : Int32 → Mem → Prop} (h : P_X7_hasFault S K) : XMi l G yX7_hasFault cX7_hasFault 2 .boolean 3 68 [.ref (xad G 53)] S K := by
  refine X_meth RX7 rfl (by decide +kernel) hJ (Nat.le_of_ble_eq_true rfl) (fun κ hl hG C E => ?_)
  subst hl hG
  show XW κ S 0 [(0, .ref (xad (kG κ) 53))] []
  refine X_aload_n C 0 0 dX7_hasFault_0 rfl rfl ?_
  refine X_get C (hFu _ (by decide)) (wc_53 _ _) rfl inX7 0 (by decide) q_554 rfl dX7_hasFault_1 ?_
  refine X_iconst C (0 : Int32) dX7_hasFault_4 (by decide) ?_
  obtain ⟨hin, h⟩ := h
  refine X_iald C (hFu _ (by decide)) (wc_54 _ _) hin dX7_hasFault_5 ?_
  refine X_istore_n C 1 [(1, .int (S 54 (Int32.toNatClampNeg (0 : Int32)))), (0, .ref (xad (kG κ) 53))] dX7_hasFault_6 rfl (by decide) rfl ?_
  refine X_aload_n C 0 1 dX7_hasFault_7 rfl rfl ?_
  refine X_iconst C (0 : Int32) dX7_hasFault_8 (by decide) ?_
  obtain ⟨S1, eS1⟩ : ∃ z, z = mput S 53 23 (0 : Int32) := ⟨_, rfl⟩
  have h := h S1 eS1
  refine X_put C (hFu _ (by decide)) (wc_53 _ _) rfl inX7 tyX7_ok nmX7 23 (by decide) q_577 rfl rfl rfl (Nat.le_of_ble_eq_true rfl) eS1 (wc_53 _ _) dX7_hasFault_9 ?_
  refine X_sub [1, 0] rfl ?_
  obtain ⟨n9, h⟩ := h
  exact K_X7_hasFault_12 C E hFu n9 _ _ h
set_option maxRecDepth 100000 in
set_option maxHeartbeats 4000000 in
theorem M_X7_fault {l : Launch} {G : XG} (hJ : XJ G) (hFu : XF G) {S : Mem} {a1 : Int32} {K : Int32 → Mem → Prop} (h : P_X7_fault S a1 K) : XMi l G yX7_fault cX7_fault 2 .int 4 89 [.ref (xad G 53), .int a1] S K := by
  refine X_meth RX7 rfl (by decide +kernel) hJ (Nat.le_of_ble_eq_true rfl) (fun κ hl hG C E => ?_)
  subst hl hG
  show XW κ S 0 [(0, .ref (xad (kG κ) 53)), (1, .int a1)] []
  refine X_iload_n C 1 1 dX7_fault_0 rfl rfl ?_
  refine X_i2l C dX7_fault_1 ?_
  refine X_lconst C (0 : Int64) dX7_fault_2 (by decide) ?_
  refine X_ldc2 C (2 : Int64) q_822 dX7_fault_3 ?_
  refine X_callSi C eX7_in [.long (Int32.toInt64 a1), .long (0 : Int64), .long (2 : Int64)] [] (M_X7_in C.g_J hFu h) q_653 rfl ⟨(Nat.le_of_ble_eq_true rfl), (Nat.le_of_ble_eq_true rfl)⟩ rfl (Nat.le_of_ble_eq_true rfl) dX7_fault_6 (fun r2 S1 h => ?_)
  refine X_if_ne C 15 dX7_fault_9 (by decide) (fun c => ?_) (fun c => ?_)
  · have h := h.1 c
    refine X_aload_n C 0 0 dX7_fault_15 rfl rfl ?_
    refine X_callVi C eX7_hasFault [] [] (M_X7_hasFault C.g_J hFu h) (hFu _ (by decide)) (wc_53 _ _) rfl q_859 rfl ⟨(Nat.le_of_ble_eq_true rfl), (Nat.le_of_ble_eq_true rfl)⟩ rfl (Nat.le_of_ble_eq_true rfl) dX7_fault_16 (fun r4 S3 h => ?_)
    refine X_if_ne C 25 dX7_fault_19 (by decide) (fun c => ?_) (fun c => ?_)
    · have h := h.1 c
      refine X_iload_n C 1 1 dX7_fault_25 rfl rfl ?_
      refine X_if_ne C 36 dX7_fault_26 (by decide) (fun c => ?_) (fun c => ?_)
      · have h := h.1 c
        refine X_iload_n C 1 1 dX7_fault_36 rfl rfl ?_
        refine X_iconst C (1 : Int32) dX7_fault_37 (by decide) ?_
        refine X_icmp_ne C 48 dX7_fault_38 (by decide) (fun c => ?_) (fun c => ?_)
        · have h := h.1 c
          refine X_aload_n C 0 0 dX7_fault_48 rfl rfl ?_
          refine X_get C (hFu _ (by decide)) (wc_53 _ _) rfl inX7 29 (by decide) q_583 rfl dX7_fault_49 ?_
          exact X_iret C E rfl h dX7_fault_52
        · have h := h.2 c
          refine X_aload_n C 0 0 dX7_fault_41 rfl rfl ?_
          refine X_get C (hFu _ (by decide)) (wc_53 _ _) rfl inX7 28 (by decide) q_582 rfl dX7_fault_42 ?_
          refine X_goto C 52 dX7_fault_45 (by decide) ?_
          exact X_iret C E rfl h dX7_fault_52
      · have h := h.2 c
        refine X_aload_n C 0 0 dX7_fault_29 rfl rfl ?_
        refine X_get C (hFu _ (by decide)) (wc_53 _ _) rfl inX7 23 (by decide) q_577 rfl dX7_fault_30 ?_
        refine X_goto C 52 dX7_fault_33 (by decide) ?_
        exact X_iret C E rfl h dX7_fault_52
    · have h := h.2 c
      refine X_ldc C (-1000004 : Int32) q_689 dX7_fault_22 ?_
      exact X_iret C E rfl h dX7_fault_24
  · have h := h.2 c
    refine X_ldc C (-1000001 : Int32) q_658 dX7_fault_12 ?_
    exact X_iret C E rfl h dX7_fault_14
set_option maxRecDepth 100000 in
set_option maxHeartbeats 4000000 in
theorem K_X7_play_60 {κ : Kx} (C : XC κ RX7 cX7_play 1 4 89) {K : Int32 → Mem → Prop} (E : XRet κ (some .int) (va_Qi K (XB (kG κ)) (XA (kG κ)))) (hFu : XF (kG κ)) {S : Mem} (h : B_X7_play_60 K S) : XW κ S 60 [(0, .ref (xad (kG κ) 53))] [] := by
  refine X_aload_n C 0 0 dX7_play_60 rfl rfl ?_
  refine X_get C (hFu _ (by decide)) (wc_53 _ _) rfl inX7 0 (by decide) q_554 rfl dX7_play_61 ?_
  refine X_iconst C (0 : Int32) dX7_play_64 (by decide) ?_
  obtain ⟨hin, h⟩ := h
  refine X_iald C (hFu _ (by decide)) (wc_54 _ _) hin dX7_play_65 ?_
  exact X_iret C E rfl h dX7_play_66
set_option maxRecDepth 100000 in
set_option maxHeartbeats 4000000 in
theorem K_X7_play_19 {κ : Kx} (C : XC κ RX7 cX7_play 1 4 89) {K : Int32 → Mem → Prop} (E : XRet κ (some .int) (va_Qi K (XB (kG κ)) (XA (kG κ)))) (hFu : XF (kG κ)) : ∀ (n : Nat) (S : Mem), B_X7_play_19 K n S → XW κ S 19 [(0, .ref (xad (kG κ) 53))] [] := by
  intro n
  induction n with
  | zero => intro S h; exact h.elim
  | succ n ih =>
    intro S h
    refine X_aload_n C 0 0 dX7_play_19 rfl rfl ?_
    refine X_get C (hFu _ (by decide)) (wc_53 _ _) rfl inX7 23 (by decide) q_577 rfl dX7_play_20 ?_
    refine X_aload_n C 0 0 dX7_play_23 rfl rfl ?_
    refine X_get C (hFu _ (by decide)) (wc_53 _ _) rfl inX7 22 (by decide) q_576 rfl dX7_play_24 ?_
    refine X_icmp_ge C 60 dX7_play_27 (by decide) (fun c => ?_) (fun c => ?_)
    · have h := h.1 c
      exact K_X7_play_60 C E hFu h
    · have h := h.2 c
      refine X_aload_n C 0 0 dX7_play_30 rfl rfl ?_
      refine X_callVi C eX7_readsRow [] [] (M_X7_readsRow C.g_J hFu h) (hFu _ (by decide)) (wc_53 _ _) rfl q_863 rfl ⟨(Nat.le_of_ble_eq_true rfl), (Nat.le_of_ble_eq_true rfl)⟩ rfl (Nat.le_of_ble_eq_true rfl) dX7_play_31 (fun r7 S6 h => ?_)
      refine X_if_eq C 60 dX7_play_34 (by decide) (fun c => ?_) (fun c => ?_)
      · have h := h.1 c
        exact K_X7_play_60 C E hFu h
      · have h := h.2 c
        refine X_aload_n C 0 0 dX7_play_37 rfl rfl ?_
        refine X_aload_n C 0 0 dX7_play_38 rfl rfl ?_
        refine X_get C (hFu _ (by decide)) (wc_53 _ _) rfl inX7 25 (by decide) q_579 rfl dX7_play_39 ?_
        refine X_aload_n C 0 0 dX7_play_42 rfl rfl ?_
        refine X_get C (hFu _ (by decide)) (wc_53 _ _) rfl inX7 26 (by decide) q_580 rfl dX7_play_43 ?_
        refine X_callVv C eX7_adds [.int (S6 53 25), .int (S6 53 26)] [] (M_X7_adds C.g_J hFu h) (hFu _ (by decide)) (wc_53 _ _) rfl q_664 rfl ⟨(Nat.le_of_ble_eq_true rfl), (Nat.le_of_ble_eq_true rfl)⟩ rfl (Nat.le_of_ble_eq_true rfl) dX7_play_46 (fun S8 h => ?_)
        refine X_aload_n C 0 0 dX7_play_49 rfl rfl ?_
        refine X_aload_n C 0 0 dX7_play_50 rfl rfl ?_
        refine X_get C (hFu _ (by decide)) (wc_53 _ _) rfl inX7 24 (by decide) q_578 rfl dX7_play_51 ?_
        obtain ⟨S10, eS10⟩ : ∃ z, z = mput S8 53 23 (S8 53 24) := ⟨_, rfl⟩
        have h := h S10 eS10
        refine X_put C (hFu _ (by decide)) (wc_53 _ _) rfl inX7 tyX7_ok nmX7 23 (by decide) q_577 rfl rfl rfl (Nat.le_of_ble_eq_true rfl) eS10 (wc_53 _ _) dX7_play_54 ?_
        refine X_goto C 19 dX7_play_57 (by decide) ?_
        exact ih _ h
set_option maxRecDepth 100000 in
set_option maxHeartbeats 4000000 in
theorem M_X7_play {l : Launch} {G : XG} (hJ : XJ G) (hFu : XF G) {S : Mem} {K : Int32 → Mem → Prop} (h : P_X7_play S K) : XMi l G yX7_play cX7_play 1 .int 4 89 [.ref (xad G 53)] S K := by
  refine X_meth RX7 rfl (by decide +kernel) hJ (Nat.le_of_ble_eq_true rfl) (fun κ hl hG C E => ?_)
  subst hl hG
  show XW κ S 0 [(0, .ref (xad (kG κ) 53))] []
  refine X_aload_n C 0 0 dX7_play_0 rfl rfl ?_
  refine X_callVi C eX7_hasFault [] [] (M_X7_hasFault C.g_J hFu h) (hFu _ (by decide)) (wc_53 _ _) rfl q_859 rfl ⟨(Nat.le_of_ble_eq_true rfl), (Nat.le_of_ble_eq_true rfl)⟩ rfl (Nat.le_of_ble_eq_true rfl) dX7_play_1 (fun r2 S1 h => ?_)
  refine X_if_eq C 10 dX7_play_4 (by decide) (fun c => ?_) (fun c => ?_)
  · have h := h.1 c
    refine X_aload_n C 0 0 dX7_play_10 rfl rfl ?_
    refine X_callVv C eX7_record [] [] (M_X7_record C.g_J hFu h) (hFu _ (by decide)) (wc_53 _ _) rfl q_660 rfl ⟨(Nat.le_of_ble_eq_true rfl), (Nat.le_of_ble_eq_true rfl)⟩ rfl (Nat.le_of_ble_eq_true rfl) dX7_play_11 (fun S3 h => ?_)
    refine X_aload_n C 0 0 dX7_play_14 rfl rfl ?_
    refine X_iconst C (0 : Int32) dX7_play_15 (by decide) ?_
    obtain ⟨S5, eS5⟩ : ∃ z, z = mput S3 53 23 (0 : Int32) := ⟨_, rfl⟩
    have h := h S5 eS5
    refine X_put C (hFu _ (by decide)) (wc_53 _ _) rfl inX7 tyX7_ok nmX7 23 (by decide) q_577 rfl rfl rfl (Nat.le_of_ble_eq_true rfl) eS5 (wc_53 _ _) dX7_play_16 ?_
    obtain ⟨n11, h⟩ := h
    exact K_X7_play_19 C E hFu n11 _ h
  · have h := h.2 c
    refine X_ldc C (-1000002 : Int32) q_672 dX7_play_7 ?_
    exact X_iret C E rfl h dX7_play_9
