set_option maxRecDepth 100000 in
set_option maxHeartbeats 4000000 in
theorem M_X4_shorten {l : Launch} {G : XG} (hJ : XJ G) {t : Nat} (ht : XT G t) {S : Mem} {a1 : Int32} {K : Mem → Prop} (h : P_X4_shorten t S a1 K) : XMv l G yX4_shorten cX4_shorten 2 0 0 [.ref (xad G t), .int a1] S K := by
  refine X_meth RX4 rfl (by decide +kernel) hJ (Nat.le_of_ble_eq_true rfl) (fun κ hl hG C E => ?_)
  subst hl hG
  show XW κ S 0 [(0, .ref (xad (kG κ) t)), (1, .int a1)] []
  refine X_iload_n C 1 1 dX4_shorten_0 rfl rfl ?_
  refine X_if_lt C 17 dX4_shorten_1 (by decide) (fun c => ?_) (fun c => ?_)
  · have h := h.1 c
    exact X_vret C E h dX4_shorten_17
  · have h := h.2 c
    refine X_iload_n C 1 1 dX4_shorten_4 rfl rfl ?_
    refine X_aload_n C 0 0 dX4_shorten_5 rfl rfl ?_
    refine X_get C ht.2.1 (wTab _ _ ht.1) rfl inX4 3 (by decide) q_38 rfl dX4_shorten_6 ?_
    refine X_icmp_ge C 17 dX4_shorten_9 (by decide) (fun c => ?_) (fun c => ?_)
    · have h := h.1 c
      exact X_vret C E h dX4_shorten_17
    · have h := h.2 c
      refine X_aload_n C 0 0 dX4_shorten_12 rfl rfl ?_
      refine X_iload_n C 1 1 dX4_shorten_13 rfl rfl ?_
      obtain ⟨S1, eS1⟩ : ∃ z, z = mput S t 3 a1 := ⟨_, rfl⟩
      have h := h S1 eS1
      refine X_put C ht.2.1 (wTab _ _ ht.1) rfl inX4 tyX4_ok nmX4 3 (by decide) q_38 rfl rfl rfl (Nat.le_of_ble_eq_true rfl) eS1 (wTab _ _ ht.1) dX4_shorten_14 ?_
      exact X_vret C E h dX4_shorten_17
set_option maxRecDepth 100000 in
set_option maxHeartbeats 4000000 in
theorem M_X4_length {l : Launch} {G : XG} (hJ : XJ G) {t : Nat} (ht : XT G t) {S : Mem} {K : Int32 → Mem → Prop} (h : P_X4_length t S K) : XMi l G yX4_length cX4_length 1 .int 0 0 [.ref (xad G t)] S K := by
  refine X_meth RX4 rfl (by decide +kernel) hJ (Nat.le_of_ble_eq_true rfl) (fun κ hl hG C E => ?_)
  subst hl hG
  show XW κ S 0 [(0, .ref (xad (kG κ) t))] []
  refine X_aload_n C 0 0 dX4_length_0 rfl rfl ?_
  refine X_get C ht.2.1 (wTab _ _ ht.1) rfl inX4 3 (by decide) q_38 rfl dX4_length_1 ?_
  exact X_iret C E rfl h dX4_length_4
set_option maxRecDepth 100000 in
set_option maxHeartbeats 4000000 in
theorem M_X4_at {l : Launch} {G : XG} (hJ : XJ G) {t : Nat} (ht : XT G t) {S : Mem} {a1 : Int32} {a2 : Int32} {K : Int32 → Mem → Prop} (h : P_X4_at t S a1 a2 K) : XMi l G yX4_at cX4_at 3 .int 0 0 [.ref (xad G t), .int a1, .int a2] S K := by
  refine X_meth RX4 rfl (by decide +kernel) hJ (Nat.le_of_ble_eq_true rfl) (fun κ hl hG C E => ?_)
  subst hl hG
  show XW κ S 0 [(0, .ref (xad (kG κ) t)), (1, .int a1), (2, .int a2)] []
  refine X_iload_n C 1 1 dX4_at_0 rfl rfl ?_
  refine X_if_lt C 24 dX4_at_1 (by decide) (fun c => ?_) (fun c => ?_)
  · have h := h.1 c
    refine X_iconst C (0 : Int32) dX4_at_24 (by decide) ?_
    exact X_iret C E rfl h dX4_at_25
  · have h := h.2 c
    refine X_iload_n C 1 1 dX4_at_4 rfl rfl ?_
    refine X_aload_n C 0 0 dX4_at_5 rfl rfl ?_
    refine X_get C ht.2.1 (wTab _ _ ht.1) rfl inX4 3 (by decide) q_38 rfl dX4_at_6 ?_
    refine X_icmp_ge C 24 dX4_at_9 (by decide) (fun c => ?_) (fun c => ?_)
    · have h := h.1 c
      refine X_iconst C (0 : Int32) dX4_at_24 (by decide) ?_
      exact X_iret C E rfl h dX4_at_25
    · have h := h.2 c
      refine X_iload_n C 2 2 dX4_at_12 rfl rfl ?_
      refine X_if_lt C 24 dX4_at_13 (by decide) (fun c => ?_) (fun c => ?_)
      · have h := h.1 c
        refine X_iconst C (0 : Int32) dX4_at_24 (by decide) ?_
        exact X_iret C E rfl h dX4_at_25
      · have h := h.2 c
        refine X_iload_n C 2 2 dX4_at_16 rfl rfl ?_
        refine X_aload_n C 0 0 dX4_at_17 rfl rfl ?_
        refine X_get C ht.2.1 (wTab _ _ ht.1) rfl inX4 1 (by decide) q_36 rfl dX4_at_18 ?_
        refine X_icmp_lt C 26 dX4_at_21 (by decide) (fun c => ?_) (fun c => ?_)
        · have h := h.1 c
          refine X_aload_n C 0 0 dX4_at_26 rfl rfl ?_
          refine X_get C ht.2.1 (wTab _ _ ht.1) rfl inX4 0 (by decide) q_35 rfl dX4_at_27 ?_
          refine X_iload_n C 1 1 dX4_at_30 rfl rfl ?_
          refine X_aload_n C 0 0 dX4_at_31 rfl rfl ?_
          refine X_get C ht.2.1 (wTab _ _ ht.1) rfl inX4 1 (by decide) q_36 rfl dX4_at_32 ?_
          refine X_imul C dX4_at_35 ?_
          refine X_iload_n C 2 2 dX4_at_36 rfl rfl ?_
          refine X_iadd C dX4_at_37 ?_
          obtain ⟨hin, h⟩ := h
          refine X_iald C ht.2.2 (wTabA _ _ ht.1) hin dX4_at_38 ?_
          exact X_iret C E rfl h dX4_at_39
        · have h := h.2 c
          refine X_iconst C (0 : Int32) dX4_at_24 (by decide) ?_
          exact X_iret C E rfl h dX4_at_25
set_option maxRecDepth 100000 in
set_option maxHeartbeats 4000000 in
theorem K_X4_placeOf_42 {κ : Kx} (C : XC κ RX4 cX4_placeOf 4 0 0) {K : Int32 → Mem → Prop} (E : XRet κ (some .int) (va_Qi K (XB (kG κ)) (XA (kG κ)))) {t : Nat} (ht : XT (kG κ) t) {R5 : Mem → Int32 → Int32 → Int32 → Prop} (hR5 : ∀ (S : Mem) (x1 x2 x3 : Int32), R5 S x1 x2 x3 → XW κ S 5 [(0, .ref (xad (kG κ) t)), (1, .int x1), (2, .int x2), (3, .int x3)] []) {S : Mem} {x1 : Int32} {x2 : Int32} {x3 : Int32} (h : B_X4_placeOf_42 t R5 K S x1 x2 x3) : XW κ S 42 [(0, .ref (xad (kG κ) t)), (1, .int x1), (2, .int x2), (3, .int x3)] [] := by
  refine X_iload_n C 3 3 dX4_placeOf_42 rfl rfl ?_
  refine X_iconst C (2 : Int32) dX4_placeOf_43 (by decide) ?_
  refine X_idiv C dX4_placeOf_44 (by decide) ?_
  refine X_istore_n C 3 [(3, .int (x3 / (2 : Int32))), (0, .ref (xad (kG κ) t)), (1, .int x1), (2, .int x2)] dX4_placeOf_45 rfl (by decide) rfl ?_
  refine X_goto C 5 dX4_placeOf_46 (by decide) ?_
  refine X_sub [1, 2, 3, 0] rfl ?_
  exact hR5 _ _ _ _ h
set_option maxRecDepth 100000 in
set_option maxHeartbeats 4000000 in
theorem K_X4_placeOf_5 {κ : Kx} (C : XC κ RX4 cX4_placeOf 4 0 0) {K : Int32 → Mem → Prop} (E : XRet κ (some .int) (va_Qi K (XB (kG κ)) (XA (kG κ)))) {t : Nat} (ht : XT (kG κ) t) : ∀ (n : Nat) (S : Mem) (x1 : Int32) (x2 : Int32) (x3 : Int32), B_X4_placeOf_5 t K n S x1 x2 x3 → XW κ S 5 [(0, .ref (xad (kG κ) t)), (1, .int x1), (2, .int x2), (3, .int x3)] [] := by
  intro n
  induction n with
  | zero => intro S x1 x2 x3 h; exact h.elim
  | succ n ih =>
    intro S x1 x2 x3 h
    refine X_iload_n C 3 3 dX4_placeOf_5 rfl rfl ?_
    refine X_if_le C 49 dX4_placeOf_6 (by decide) (fun c => ?_) (fun c => ?_)
    · have h := h.1 c
      refine X_iload_n C 2 2 dX4_placeOf_49 rfl rfl ?_
      exact X_iret C E rfl h dX4_placeOf_50
    · have h := h.2 c
      refine X_iload_n C 2 2 dX4_placeOf_9 rfl rfl ?_
      refine X_iload_n C 3 3 dX4_placeOf_10 rfl rfl ?_
      refine X_iadd C dX4_placeOf_11 ?_
      refine X_aload_n C 0 0 dX4_placeOf_12 rfl rfl ?_
      refine X_get C ht.2.1 (wTab _ _ ht.1) rfl inX4 3 (by decide) q_38 rfl dX4_placeOf_13 ?_
      refine X_icmp_gt C 42 dX4_placeOf_16 (by decide) (fun c => ?_) (fun c => ?_)
      · have h := h.1 c
        exact K_X4_placeOf_42 C E ht (fun _ _ _ _ h => ih _ _ _ _ h) h
      · have h := h.2 c
        refine X_aload_n C 0 0 dX4_placeOf_19 rfl rfl ?_
        refine X_get C ht.2.1 (wTab _ _ ht.1) rfl inX4 0 (by decide) q_35 rfl dX4_placeOf_20 ?_
        refine X_iload_n C 2 2 dX4_placeOf_23 rfl rfl ?_
        refine X_iload_n C 3 3 dX4_placeOf_24 rfl rfl ?_
        refine X_iadd C dX4_placeOf_25 ?_
        refine X_iconst C (1 : Int32) dX4_placeOf_26 (by decide) ?_
        refine X_isub C dX4_placeOf_27 ?_
        refine X_aload_n C 0 0 dX4_placeOf_28 rfl rfl ?_
        refine X_get C ht.2.1 (wTab _ _ ht.1) rfl inX4 1 (by decide) q_36 rfl dX4_placeOf_29 ?_
        refine X_imul C dX4_placeOf_32 ?_
        obtain ⟨hin, h⟩ := h
        refine X_iald C ht.2.2 (wTabA _ _ ht.1) hin dX4_placeOf_33 ?_
        refine X_iload_n C 1 1 dX4_placeOf_34 rfl rfl ?_
        refine X_icmp_ge C 42 dX4_placeOf_35 (by decide) (fun c => ?_) (fun c => ?_)
        · have h := h.1 c
          exact K_X4_placeOf_42 C E ht (fun _ _ _ _ h => ih _ _ _ _ h) h
        · have h := h.2 c
          refine X_iload_n C 2 2 dX4_placeOf_38 rfl rfl ?_
          refine X_iload_n C 3 3 dX4_placeOf_39 rfl rfl ?_
          refine X_iadd C dX4_placeOf_40 ?_
          refine X_istore_n C 2 [(2, .int (x2 + x3)), (0, .ref (xad (kG κ) t)), (1, .int x1), (3, .int x3)] dX4_placeOf_41 rfl (by decide) rfl ?_
          refine X_sub [1, 2, 0, 3] rfl ?_
          exact K_X4_placeOf_42 C E ht (fun _ _ _ _ h => ih _ _ _ _ h) h
set_option maxRecDepth 100000 in
set_option maxHeartbeats 4000000 in
theorem M_X4_placeOf {l : Launch} {G : XG} (hJ : XJ G) {t : Nat} (ht : XT G t) {S : Mem} {a1 : Int32} {K : Int32 → Mem → Prop} (h : P_X4_placeOf t S a1 K) : XMi l G yX4_placeOf cX4_placeOf 4 .int 0 0 [.ref (xad G t), .int a1] S K := by
  refine X_meth RX4 rfl (by decide +kernel) hJ (Nat.le_of_ble_eq_true rfl) (fun κ hl hG C E => ?_)
  subst hl hG
  show XW κ S 0 [(0, .ref (xad (kG κ) t)), (1, .int a1)] []
  refine X_iconst C (0 : Int32) dX4_placeOf_0 (by decide) ?_
  refine X_istore_n C 2 [(2, .int (0 : Int32)), (0, .ref (xad (kG κ) t)), (1, .int a1)] dX4_placeOf_1 rfl (by decide) rfl ?_
  refine X_bipush C (64 : Int32) dX4_placeOf_2 (by decide) ?_
  refine X_istore_n C 3 [(3, .int (64 : Int32)), (2, .int (0 : Int32)), (0, .ref (xad (kG κ) t)), (1, .int a1)] dX4_placeOf_4 rfl (by decide) rfl ?_
  refine X_sub [2, 3, 1, 0] rfl ?_
  obtain ⟨n1, h⟩ := h
  exact K_X4_placeOf_5 C E ht n1 _ _ _ _ h
set_option maxRecDepth 100000 in
set_option maxHeartbeats 4000000 in
theorem M_J7_rangeCheck_23922 {l : Launch} {G : XG} (hJ : XJ G) {S : Mem} {a0 : Int32} {a1 : Int32} {a2 : Int32} {K : Mem → Prop} (h : P_J7_rangeCheck_23922 S a0 a1 a2 K) : XMv l G yJ7_rangeCheck_23922 cJ7_rangeCheck_23922 3 0 0 [.int a0, .int a1, .int a2] S K := by
  refine X_meth RJ7 rfl (by decide +kernel) hJ (Nat.le_of_ble_eq_true rfl) (fun κ hl hG C E => ?_)
  subst hl hG
  show XW κ S 0 [(0, .int a0), (1, .int a1), (2, .int a2)] []
  refine X_iload_n C 1 1 dJ7_rangeCheck_23922_0 rfl rfl ?_
  refine X_iload_n C 2 2 dJ7_rangeCheck_23922_1 rfl rfl ?_
  refine X_icmp_le C 46 dJ7_rangeCheck_23922_2 (by decide) (fun c => ?_) (fun c => ?_)
  · have h := h.1 c
    refine X_iload_n C 1 1 dJ7_rangeCheck_23922_46 rfl rfl ?_
    refine X_if_ge C 59 dJ7_rangeCheck_23922_47 (by decide) (fun c => ?_) (fun c => ?_)
    · have h := h.1 c
      refine X_iload_n C 2 2 dJ7_rangeCheck_23922_59 rfl rfl ?_
      refine X_iload_n C 0 0 dJ7_rangeCheck_23922_60 rfl rfl ?_
      refine X_icmp_le C 73 dJ7_rangeCheck_23922_61 (by decide) (fun c => ?_) (fun c => ?_)
      · have h := h.1 c
        exact X_vret C E h dJ7_rangeCheck_23922_73
      · have h := h.2 c
        exact h.elim
    · have h := h.2 c
      exact h.elim
  · have h := h.2 c
    exact h.elim
set_option maxRecDepth 100000 in
set_option maxHeartbeats 4000000 in
theorem K_J7_fill_fda19_10 {κ : Kx} (C : XC κ RJ7 cJ7_fill_fda19 5 1 22) {K : Mem → Prop} (E : XRet κ none (va_Qv K (XB (kG κ)) (XA (kG κ)))) {t0 : Nat} (ht0 : XT (kG κ) t0) : ∀ (n : Nat) (S : Mem) (x2 : Int32) (x3 : Int32) (x4 : Int32), B_J7_fill_fda19_10 t0 K n S x2 x3 x4 → XW κ S 10 [(0, .ref (xad (kG κ) (t0 + 1))), (2, .int x2), (3, .int x3), (4, .int x4)] [] := by
  intro n
  induction n with
  | zero => intro S x2 x3 x4 h; exact h.elim
  | succ n ih =>
    intro S x2 x3 x4 h
    refine X_iload C 3 dJ7_fill_fda19_10 rfl ?_
    refine X_iload_n C 2 1 dJ7_fill_fda19_12 rfl rfl ?_
    refine X_icmp_ge C 27 dJ7_fill_fda19_13 (by decide) (fun c => ?_) (fun c => ?_)
    · have h := h.1 c
      exact X_vret C E h dJ7_fill_fda19_27
    · have h := h.2 c
      refine X_aload_n C 0 0 dJ7_fill_fda19_16 rfl rfl ?_
      refine X_iload C 3 dJ7_fill_fda19_17 rfl ?_
      refine X_iload_n C 3 2 dJ7_fill_fda19_19 rfl rfl ?_
      obtain ⟨hin, h⟩ := h
      obtain ⟨S3, eS3⟩ : ∃ z, z = mput S (t0 + 1) (Int32.toNatClampNeg x4) x3 := ⟨_, rfl⟩
      have h := h S3 eS3
      refine X_iast C ht0.2.2 (wTabA _ _ ht0.1) hin eS3 (wTabA _ _ ht0.1) dJ7_fill_fda19_20 ?_
      refine X_iinc C (x4 + (1 : Int32)) 3 [(4, .int (x4 + (1 : Int32))), (0, .ref (xad (kG κ) (t0 + 1))), (2, .int x2), (3, .int x3)] dJ7_fill_fda19_21 rfl rfl (by decide) rfl ?_
      refine X_goto C 10 dJ7_fill_fda19_24 (by decide) ?_
      refine X_sub [1, 2, 3, 0] rfl ?_
      exact ih _ _ _ _ h
set_option maxRecDepth 100000 in
set_option maxHeartbeats 4000000 in
theorem M_J7_fill_fda19 {l : Launch} {G : XG} (hJ : XJ G) {t0 : Nat} (ht0 : XT G t0) {S : Mem} {a1 : Int32} {a2 : Int32} {a3 : Int32} {K : Mem → Prop} (h : P_J7_fill_fda19 t0 S a1 a2 a3 K) : XMv l G yJ7_fill_fda19 cJ7_fill_fda19 5 1 22 [.ref (xad G (t0 + 1)), .int a1, .int a2, .int a3] S K := by
  refine X_meth RJ7 rfl (by decide +kernel) hJ (Nat.le_of_ble_eq_true rfl) (fun κ hl hG C E => ?_)
  subst hl hG
  show XW κ S 0 [(0, .ref (xad (kG κ) (t0 + 1))), (1, .int a1), (2, .int a2), (3, .int a3)] []
  refine X_aload_n C 0 0 dJ7_fill_fda19_0 rfl rfl ?_
  refine X_alen C ht0.2.2 (wTabA _ _ ht0.1) dJ7_fill_fda19_1 ?_
  refine X_iload_n C 1 1 dJ7_fill_fda19_2 rfl rfl ?_
  refine X_iload_n C 2 2 dJ7_fill_fda19_3 rfl rfl ?_
  refine X_callSv C eJ7_rangeCheck_23922 [.int (nI (tRn t0 * tWn t0)), .int a1, .int a2] [] (M_J7_rangeCheck_23922 C.g_J h) q_56 rfl ⟨(Nat.le_of_ble_eq_true rfl), (Nat.le_of_ble_eq_true rfl)⟩ rfl (Nat.le_of_ble_eq_true rfl) dJ7_fill_fda19_4 (fun S1 h => ?_)
  refine X_iload_n C 1 1 dJ7_fill_fda19_7 rfl rfl ?_
  refine X_istore C [(4, .int a1), (0, .ref (xad (kG κ) (t0 + 1))), (1, .int a1), (2, .int a2), (3, .int a3)] dJ7_fill_fda19_8 (by decide) rfl ?_
  refine X_sub [1, 3, 4, 0] rfl ?_
  obtain ⟨n4, h⟩ := h
  exact K_J7_fill_fda19_10 C E ht0 n4 _ _ _ _ h
set_option maxRecDepth 100000 in
set_option maxHeartbeats 4000000 in
theorem M_X4_insert {l : Launch} {G : XG} (hJ : XJ G) {t : Nat} (ht : XT G t) {S : Mem} {a1 : Int32} {a2 : Int32} {K : Mem → Prop} (h : P_X4_insert t S a1 a2 K) : XMv l G yX4_insert cX4_insert 4 2 60 [.ref (xad G t), .int a1, .int a2] S K := by
  refine X_meth RX4 rfl (by decide +kernel) hJ (Nat.le_of_ble_eq_true rfl) (fun κ hl hG C E => ?_)
  subst hl hG
  show XW κ S 0 [(0, .ref (xad (kG κ) t)), (1, .int a1), (2, .int a2)] []
  refine X_iload_n C 1 1 dX4_insert_0 rfl rfl ?_
  refine X_if_lt C 23 dX4_insert_1 (by decide) (fun c => ?_) (fun c => ?_)
  · have h := h.1 c
    exact X_vret C E h dX4_insert_23
  · have h := h.2 c
    refine X_iload_n C 1 1 dX4_insert_4 rfl rfl ?_
    refine X_aload_n C 0 0 dX4_insert_5 rfl rfl ?_
    refine X_get C ht.2.1 (wTab _ _ ht.1) rfl inX4 3 (by decide) q_38 rfl dX4_insert_6 ?_
    refine X_icmp_gt C 23 dX4_insert_9 (by decide) (fun c => ?_) (fun c => ?_)
    · have h := h.1 c
      exact X_vret C E h dX4_insert_23
    · have h := h.2 c
      refine X_aload_n C 0 0 dX4_insert_12 rfl rfl ?_
      refine X_get C ht.2.1 (wTab _ _ ht.1) rfl inX4 3 (by decide) q_38 rfl dX4_insert_13 ?_
      refine X_aload_n C 0 0 dX4_insert_16 rfl rfl ?_
      refine X_get C ht.2.1 (wTab _ _ ht.1) rfl inX4 2 (by decide) q_37 rfl dX4_insert_17 ?_
      refine X_icmp_lt C 24 dX4_insert_20 (by decide) (fun c => ?_) (fun c => ?_)
      · have h := h.1 c
        refine X_iload_n C 1 1 dX4_insert_24 rfl rfl ?_
        refine X_aload_n C 0 0 dX4_insert_25 rfl rfl ?_
        refine X_get C ht.2.1 (wTab _ _ ht.1) rfl inX4 1 (by decide) q_36 rfl dX4_insert_26 ?_
        refine X_imul C dX4_insert_29 ?_
        refine X_istore_n C 3 [(3, .int (a1 * (nI (tWn t)))), (0, .ref (xad (kG κ) t)), (1, .int a1), (2, .int a2)] dX4_insert_30 rfl (by decide) rfl ?_
        refine X_aload_n C 0 1 dX4_insert_31 rfl rfl ?_
        refine X_get C ht.2.1 (wTab _ _ ht.1) rfl inX4 0 (by decide) q_35 rfl dX4_insert_32 ?_
        refine X_iload_n C 3 0 dX4_insert_35 rfl rfl ?_
        refine X_aload_n C 0 1 dX4_insert_36 rfl rfl ?_
        refine X_get C ht.2.1 (wTab _ _ ht.1) rfl inX4 0 (by decide) q_35 rfl dX4_insert_37 ?_
        refine X_iload_n C 3 0 dX4_insert_40 rfl rfl ?_
        refine X_aload_n C 0 1 dX4_insert_41 rfl rfl ?_
        refine X_get C ht.2.1 (wTab _ _ ht.1) rfl inX4 1 (by decide) q_36 rfl dX4_insert_42 ?_
        refine X_iadd C dX4_insert_45 ?_
        refine X_aload_n C 0 1 dX4_insert_46 rfl rfl ?_
        refine X_get C ht.2.1 (wTab _ _ ht.1) rfl inX4 3 (by decide) q_38 rfl dX4_insert_47 ?_
        refine X_iload_n C 1 2 dX4_insert_50 rfl rfl ?_
        refine X_isub C dX4_insert_51 ?_
        refine X_aload_n C 0 1 dX4_insert_52 rfl rfl ?_
        refine X_get C ht.2.1 (wTab _ _ ht.1) rfl inX4 1 (by decide) q_36 rfl dX4_insert_53 ?_
        refine X_imul C dX4_insert_56 ?_
        obtain ⟨i1, i2, i3, i4, i5, h⟩ := h
        obtain ⟨S1, eS1⟩ : ∃ z, z = mset S (t + 1) (va_cpy (S (t + 1)) (S (t + 1)) (Int32.toNatClampNeg (a1 * (nI (tWn t)))) (Int32.toNatClampNeg ((a1 * (nI (tWn t))) + (nI (tWn t)))) (Int32.toNatClampNeg (((S t 3) - a1) * (nI (tWn t))))) := ⟨_, rfl⟩
        have h := h S1 eS1
        refine X_copy C ht.2.2 ht.2.2 (wTabA _ _ ht.1) (wTabA _ _ ht.1) q_239 q_241 q_240 q_11 (by decide) i1 i2 i3 i4 i5 (Nat.le_of_ble_eq_true rfl) (Nat.le_of_ble_eq_true rfl) eS1 (wTabA _ _ ht.1) dX4_insert_57 ?_
        refine X_aload_n C 0 1 dX4_insert_60 rfl rfl ?_
        refine X_get C ht.2.1 (wTab _ _ ht.1) rfl inX4 0 (by decide) q_35 rfl dX4_insert_61 ?_
        refine X_iload_n C 3 0 dX4_insert_64 rfl rfl ?_
        refine X_iload_n C 3 0 dX4_insert_65 rfl rfl ?_
        refine X_aload_n C 0 1 dX4_insert_66 rfl rfl ?_
        refine X_get C ht.2.1 (wTab _ _ ht.1) rfl inX4 1 (by decide) q_36 rfl dX4_insert_67 ?_
        refine X_iadd C dX4_insert_70 ?_
        refine X_iconst C (0 : Int32) dX4_insert_71 (by decide) ?_
        refine X_callSv C eJ7_fill_fda19 [.ref (xad (kG κ) (t + 1)), .int (a1 * (nI (tWn t))), .int ((a1 * (nI (tWn t))) + (nI (tWn t))), .int (0 : Int32)] [] (M_J7_fill_fda19 C.g_J ht h) q_53 rfl ⟨(Nat.le_of_ble_eq_true rfl), (Nat.le_of_ble_eq_true rfl)⟩ rfl (Nat.le_of_ble_eq_true rfl) dX4_insert_72 (fun S2 h => ?_)
        refine X_aload_n C 0 1 dX4_insert_75 rfl rfl ?_
        refine X_get C ht.2.1 (wTab _ _ ht.1) rfl inX4 0 (by decide) q_35 rfl dX4_insert_76 ?_
        refine X_iload_n C 3 0 dX4_insert_79 rfl rfl ?_
        refine X_iload_n C 2 3 dX4_insert_80 rfl rfl ?_
        obtain ⟨hin, h⟩ := h
        obtain ⟨S4, eS4⟩ : ∃ z, z = mput S2 (t + 1) (Int32.toNatClampNeg (a1 * (nI (tWn t)))) a2 := ⟨_, rfl⟩
        have h := h S4 eS4
        refine X_iast C ht.2.2 (wTabA _ _ ht.1) hin eS4 (wTabA _ _ ht.1) dX4_insert_81 ?_
        refine X_aload_n C 0 1 dX4_insert_82 rfl rfl ?_
        refine X_dup C dX4_insert_83 rfl ?_
        refine X_get C ht.2.1 (wTab _ _ ht.1) rfl inX4 3 (by decide) q_38 rfl dX4_insert_84 ?_
        refine X_iconst C (1 : Int32) dX4_insert_87 (by decide) ?_
        refine X_iadd C dX4_insert_88 ?_
        obtain ⟨S5, eS5⟩ : ∃ z, z = mput S4 t 3 ((S4 t 3) + (1 : Int32)) := ⟨_, rfl⟩
        have h := h S5 eS5
        refine X_put C ht.2.1 (wTab _ _ ht.1) rfl inX4 tyX4_ok nmX4 3 (by decide) q_38 rfl rfl rfl (Nat.le_of_ble_eq_true rfl) eS5 (wTab _ _ ht.1) dX4_insert_89 ?_
        exact X_vret C E h dX4_insert_92
      · have h := h.2 c
        exact X_vret C E h dX4_insert_23
set_option maxRecDepth 100000 in
set_option maxHeartbeats 4000000 in
theorem M_X4_put {l : Launch} {G : XG} (hJ : XJ G) {t : Nat} (ht : XT G t) {S : Mem} {a1 : Int32} {a2 : Int32} {a3 : Int32} {K : Mem → Prop} (h : P_X4_put t S a1 a2 a3 K) : XMv l G yX4_put cX4_put 4 0 0 [.ref (xad G t), .int a1, .int a2, .int a3] S K := by
  refine X_meth RX4 rfl (by decide +kernel) hJ (Nat.le_of_ble_eq_true rfl) (fun κ hl hG C E => ?_)
  subst hl hG
  show XW κ S 0 [(0, .ref (xad (kG κ) t)), (1, .int a1), (2, .int a2), (3, .int a3)] []
  refine X_iload_n C 1 1 dX4_put_0 rfl rfl ?_
  refine X_if_lt C 38 dX4_put_1 (by decide) (fun c => ?_) (fun c => ?_)
  · have h := h.1 c
    exact X_vret C E h dX4_put_38
  · have h := h.2 c
    refine X_iload_n C 1 1 dX4_put_4 rfl rfl ?_
    refine X_aload_n C 0 0 dX4_put_5 rfl rfl ?_
    refine X_get C ht.2.1 (wTab _ _ ht.1) rfl inX4 3 (by decide) q_38 rfl dX4_put_6 ?_
    refine X_icmp_ge C 38 dX4_put_9 (by decide) (fun c => ?_) (fun c => ?_)
    · have h := h.1 c
      exact X_vret C E h dX4_put_38
    · have h := h.2 c
      refine X_iload_n C 2 2 dX4_put_12 rfl rfl ?_
      refine X_if_lt C 38 dX4_put_13 (by decide) (fun c => ?_) (fun c => ?_)
      · have h := h.1 c
        exact X_vret C E h dX4_put_38
      · have h := h.2 c
        refine X_iload_n C 2 2 dX4_put_16 rfl rfl ?_
        refine X_aload_n C 0 0 dX4_put_17 rfl rfl ?_
        refine X_get C ht.2.1 (wTab _ _ ht.1) rfl inX4 1 (by decide) q_36 rfl dX4_put_18 ?_
        refine X_icmp_ge C 38 dX4_put_21 (by decide) (fun c => ?_) (fun c => ?_)
        · have h := h.1 c
          exact X_vret C E h dX4_put_38
        · have h := h.2 c
          refine X_aload_n C 0 0 dX4_put_24 rfl rfl ?_
          refine X_get C ht.2.1 (wTab _ _ ht.1) rfl inX4 0 (by decide) q_35 rfl dX4_put_25 ?_
          refine X_iload_n C 1 1 dX4_put_28 rfl rfl ?_
          refine X_aload_n C 0 0 dX4_put_29 rfl rfl ?_
          refine X_get C ht.2.1 (wTab _ _ ht.1) rfl inX4 1 (by decide) q_36 rfl dX4_put_30 ?_
          refine X_imul C dX4_put_33 ?_
          refine X_iload_n C 2 2 dX4_put_34 rfl rfl ?_
          refine X_iadd C dX4_put_35 ?_
          refine X_iload_n C 3 3 dX4_put_36 rfl rfl ?_
          obtain ⟨hin, h⟩ := h
          obtain ⟨S1, eS1⟩ : ∃ z, z = mput S (t + 1) (Int32.toNatClampNeg ((a1 * (nI (tWn t))) + a2)) a3 := ⟨_, rfl⟩
          have h := h S1 eS1
          refine X_iast C ht.2.2 (wTabA _ _ ht.1) hin eS1 (wTabA _ _ ht.1) dX4_put_37 ?_
          exact X_vret C E h dX4_put_38
set_option maxRecDepth 100000 in
set_option maxHeartbeats 4000000 in
theorem M_X4_raise {l : Launch} {G : XG} (hJ : XJ G) {t : Nat} (ht : XT G t) {S : Mem} {a1 : Int32} {a2 : Int32} {a3 : Int32} {K : Mem → Prop} (h : P_X4_raise t S a1 a2 a3 K) : XMv l G yX4_raise cX4_raise 4 0 0 [.ref (xad G t), .int a1, .int a2, .int a3] S K := by
  refine X_meth RX4 rfl (by decide +kernel) hJ (Nat.le_of_ble_eq_true rfl) (fun κ hl hG C E => ?_)
  subst hl hG
  show XW κ S 0 [(0, .ref (xad (kG κ) t)), (1, .int a1), (2, .int a2), (3, .int a3)] []
  refine X_iload_n C 1 1 dX4_raise_0 rfl rfl ?_
  refine X_if_lt C 41 dX4_raise_1 (by decide) (fun c => ?_) (fun c => ?_)
  · have h := h.1 c
    exact X_vret C E h dX4_raise_41
  · have h := h.2 c
    refine X_iload_n C 1 1 dX4_raise_4 rfl rfl ?_
    refine X_aload_n C 0 0 dX4_raise_5 rfl rfl ?_
    refine X_get C ht.2.1 (wTab _ _ ht.1) rfl inX4 3 (by decide) q_38 rfl dX4_raise_6 ?_
    refine X_icmp_ge C 41 dX4_raise_9 (by decide) (fun c => ?_) (fun c => ?_)
    · have h := h.1 c
      exact X_vret C E h dX4_raise_41
    · have h := h.2 c
      refine X_iload_n C 2 2 dX4_raise_12 rfl rfl ?_
      refine X_if_lt C 41 dX4_raise_13 (by decide) (fun c => ?_) (fun c => ?_)
      · have h := h.1 c
        exact X_vret C E h dX4_raise_41
      · have h := h.2 c
        refine X_iload_n C 2 2 dX4_raise_16 rfl rfl ?_
        refine X_aload_n C 0 0 dX4_raise_17 rfl rfl ?_
        refine X_get C ht.2.1 (wTab _ _ ht.1) rfl inX4 1 (by decide) q_36 rfl dX4_raise_18 ?_
        refine X_icmp_ge C 41 dX4_raise_21 (by decide) (fun c => ?_) (fun c => ?_)
        · have h := h.1 c
          exact X_vret C E h dX4_raise_41
        · have h := h.2 c
          refine X_aload_n C 0 0 dX4_raise_24 rfl rfl ?_
          refine X_get C ht.2.1 (wTab _ _ ht.1) rfl inX4 0 (by decide) q_35 rfl dX4_raise_25 ?_
          refine X_iload_n C 1 1 dX4_raise_28 rfl rfl ?_
          refine X_aload_n C 0 0 dX4_raise_29 rfl rfl ?_
          refine X_get C ht.2.1 (wTab _ _ ht.1) rfl inX4 1 (by decide) q_36 rfl dX4_raise_30 ?_
          refine X_imul C dX4_raise_33 ?_
          refine X_iload_n C 2 2 dX4_raise_34 rfl rfl ?_
          refine X_iadd C dX4_raise_35 ?_
          refine X_dup2 C dX4_raise_36 rfl rfl ?_
          obtain ⟨hin, h⟩ := h
          refine X_iald C ht.2.2 (wTabA _ _ ht.1) hin dX4_raise_37 ?_
          refine X_iload_n C 3 3 dX4_raise_38 rfl rfl ?_
          refine X_iadd C dX4_raise_39 ?_
          obtain ⟨hin, h⟩ := h
          obtain ⟨S1, eS1⟩ : ∃ z, z = mput S (t + 1) (Int32.toNatClampNeg ((a1 * (nI (tWn t))) + a2)) ((S (t + 1) (Int32.toNatClampNeg ((a1 * (nI (tWn t))) + a2))) + a3) := ⟨_, rfl⟩
          have h := h S1 eS1
          refine X_iast C ht.2.2 (wTabA _ _ ht.1) hin eS1 (wTabA _ _ ht.1) dX4_raise_40 ?_
          exact X_vret C E h dX4_raise_41
set_option maxRecDepth 100000 in
set_option maxHeartbeats 4000000 in
theorem M_X4_append {l : Launch} {G : XG} (hJ : XJ G) {t : Nat} (ht : XT G t) {S : Mem} {a1 : Int32} {K : Int32 → Mem → Prop} (h : P_X4_append t S a1 K) : XMi l G yX4_append cX4_append 3 .int 2 46 [.ref (xad G t), .int a1] S K := by
  refine X_meth RX4 rfl (by decide +kernel) hJ (Nat.le_of_ble_eq_true rfl) (fun κ hl hG C E => ?_)
  subst hl hG
  show XW κ S 0 [(0, .ref (xad (kG κ) t)), (1, .int a1)] []
  refine X_aload_n C 0 0 dX4_append_0 rfl rfl ?_
  refine X_get C ht.2.1 (wTab _ _ ht.1) rfl inX4 3 (by decide) q_38 rfl dX4_append_1 ?_
  refine X_aload_n C 0 0 dX4_append_4 rfl rfl ?_
  refine X_get C ht.2.1 (wTab _ _ ht.1) rfl inX4 2 (by decide) q_37 rfl dX4_append_5 ?_
  refine X_icmp_lt C 13 dX4_append_8 (by decide) (fun c => ?_) (fun c => ?_)
  · have h := h.1 c
    refine X_aload_n C 0 0 dX4_append_13 rfl rfl ?_
    refine X_get C ht.2.1 (wTab _ _ ht.1) rfl inX4 3 (by decide) q_38 rfl dX4_append_14 ?_
    refine X_aload_n C 0 0 dX4_append_17 rfl rfl ?_
    refine X_get C ht.2.1 (wTab _ _ ht.1) rfl inX4 1 (by decide) q_36 rfl dX4_append_18 ?_
    refine X_imul C dX4_append_21 ?_
    refine X_istore_n C 2 [(2, .int ((S t 3) * (nI (tWn t)))), (0, .ref (xad (kG κ) t)), (1, .int a1)] dX4_append_22 rfl (by decide) rfl ?_
    refine X_aload_n C 0 1 dX4_append_23 rfl rfl ?_
    refine X_get C ht.2.1 (wTab _ _ ht.1) rfl inX4 0 (by decide) q_35 rfl dX4_append_24 ?_
    refine X_iload_n C 2 0 dX4_append_27 rfl rfl ?_
    refine X_iload_n C 2 0 dX4_append_28 rfl rfl ?_
    refine X_aload_n C 0 1 dX4_append_29 rfl rfl ?_
    refine X_get C ht.2.1 (wTab _ _ ht.1) rfl inX4 1 (by decide) q_36 rfl dX4_append_30 ?_
    refine X_iadd C dX4_append_33 ?_
    refine X_iconst C (0 : Int32) dX4_append_34 (by decide) ?_
    refine X_callSv C eJ7_fill_fda19 [.ref (xad (kG κ) (t + 1)), .int ((S t 3) * (nI (tWn t))), .int (((S t 3) * (nI (tWn t))) + (nI (tWn t))), .int (0 : Int32)] [] (M_J7_fill_fda19 C.g_J ht h) q_53 rfl ⟨(Nat.le_of_ble_eq_true rfl), (Nat.le_of_ble_eq_true rfl)⟩ rfl (Nat.le_of_ble_eq_true rfl) dX4_append_35 (fun S1 h => ?_)
    refine X_aload_n C 0 1 dX4_append_38 rfl rfl ?_
    refine X_get C ht.2.1 (wTab _ _ ht.1) rfl inX4 0 (by decide) q_35 rfl dX4_append_39 ?_
    refine X_iload_n C 2 0 dX4_append_42 rfl rfl ?_
    refine X_iload_n C 1 2 dX4_append_43 rfl rfl ?_
    obtain ⟨hin, h⟩ := h
    obtain ⟨S3, eS3⟩ : ∃ z, z = mput S1 (t + 1) (Int32.toNatClampNeg ((S t 3) * (nI (tWn t)))) a1 := ⟨_, rfl⟩
    have h := h S3 eS3
    refine X_iast C ht.2.2 (wTabA _ _ ht.1) hin eS3 (wTabA _ _ ht.1) dX4_append_44 ?_
    refine X_aload_n C 0 1 dX4_append_45 rfl rfl ?_
    refine X_dup C dX4_append_46 rfl ?_
    refine X_get C ht.2.1 (wTab _ _ ht.1) rfl inX4 3 (by decide) q_38 rfl dX4_append_47 ?_
    refine X_iconst C (1 : Int32) dX4_append_50 (by decide) ?_
    refine X_iadd C dX4_append_51 ?_
    obtain ⟨S4, eS4⟩ : ∃ z, z = mput S3 t 3 ((S3 t 3) + (1 : Int32)) := ⟨_, rfl⟩
    have h := h S4 eS4
    refine X_put C ht.2.1 (wTab _ _ ht.1) rfl inX4 tyX4_ok nmX4 3 (by decide) q_38 rfl rfl rfl (Nat.le_of_ble_eq_true rfl) eS4 (wTab _ _ ht.1) dX4_append_52 ?_
    refine X_aload_n C 0 1 dX4_append_55 rfl rfl ?_
    refine X_get C ht.2.1 (wTab _ _ ht.1) rfl inX4 3 (by decide) q_38 rfl dX4_append_56 ?_
    refine X_iconst C (1 : Int32) dX4_append_59 (by decide) ?_
    refine X_isub C dX4_append_60 ?_
    exact X_iret C E rfl h dX4_append_61
  · have h := h.2 c
    refine X_iconst C (-1 : Int32) dX4_append_11 (by decide) ?_
    exact X_iret C E rfl h dX4_append_12
set_option maxRecDepth 100000 in
set_option maxHeartbeats 4000000 in
theorem M_X4_copyFrom {l : Launch} {G : XG} (hJ : XJ G) {t : Nat} (ht : XT G t) {t1 : Nat} (ht1 : XT G t1) {S : Mem} {K : Mem → Prop} (h : P_X4_copyFrom t t1 S K) : XMv l G yX4_copyFrom cX4_copyFrom 2 1 60 [.ref (xad G t), .ref (xad G t1)] S K := by
  refine X_meth RX4 rfl (by decide +kernel) hJ (Nat.le_of_ble_eq_true rfl) (fun κ hl hG C E => ?_)
  subst hl hG
  show XW κ S 0 [(0, .ref (xad (kG κ) t)), (1, .ref (xad (kG κ) t1))] []
  refine X_aload_n C 1 1 dX4_copyFrom_0 rfl rfl ?_
  refine X_ifnull C dX4_copyFrom_1 ?_
  refine X_aload_n C 1 1 dX4_copyFrom_4 rfl rfl ?_
  refine X_get C ht1.2.1 (wTab _ _ ht1.1) rfl inX4 1 (by decide) q_36 rfl dX4_copyFrom_5 ?_
  refine X_aload_n C 0 0 dX4_copyFrom_8 rfl rfl ?_
  refine X_get C ht.2.1 (wTab _ _ ht.1) rfl inX4 1 (by decide) q_36 rfl dX4_copyFrom_9 ?_
  refine X_icmp_ne C 26 dX4_copyFrom_12 (by decide) (fun c => ?_) (fun c => ?_)
  · have h := h.1 c
    exact X_vret C E h dX4_copyFrom_26
  · have h := h.2 c
    refine X_aload_n C 1 1 dX4_copyFrom_15 rfl rfl ?_
    refine X_get C ht1.2.1 (wTab _ _ ht1.1) rfl inX4 3 (by decide) q_38 rfl dX4_copyFrom_16 ?_
    refine X_aload_n C 0 0 dX4_copyFrom_19 rfl rfl ?_
    refine X_get C ht.2.1 (wTab _ _ ht.1) rfl inX4 2 (by decide) q_37 rfl dX4_copyFrom_20 ?_
    refine X_icmp_le C 27 dX4_copyFrom_23 (by decide) (fun c => ?_) (fun c => ?_)
    · have h := h.1 c
      refine X_aload_n C 1 1 dX4_copyFrom_27 rfl rfl ?_
      refine X_get C ht1.2.1 (wTab _ _ ht1.1) rfl inX4 0 (by decide) q_35 rfl dX4_copyFrom_28 ?_
      refine X_iconst C (0 : Int32) dX4_copyFrom_31 (by decide) ?_
      refine X_aload_n C 0 0 dX4_copyFrom_32 rfl rfl ?_
      refine X_get C ht.2.1 (wTab _ _ ht.1) rfl inX4 0 (by decide) q_35 rfl dX4_copyFrom_33 ?_
      refine X_iconst C (0 : Int32) dX4_copyFrom_36 (by decide) ?_
      refine X_aload_n C 1 1 dX4_copyFrom_37 rfl rfl ?_
      refine X_get C ht1.2.1 (wTab _ _ ht1.1) rfl inX4 3 (by decide) q_38 rfl dX4_copyFrom_38 ?_
      refine X_aload_n C 0 0 dX4_copyFrom_41 rfl rfl ?_
      refine X_get C ht.2.1 (wTab _ _ ht.1) rfl inX4 1 (by decide) q_36 rfl dX4_copyFrom_42 ?_
      refine X_imul C dX4_copyFrom_45 ?_
      obtain ⟨i1, i2, i3, i4, i5, h⟩ := h
      obtain ⟨S1, eS1⟩ : ∃ z, z = mset S (t + 1) (va_cpy (S (t1 + 1)) (S (t + 1)) (Int32.toNatClampNeg (0 : Int32)) (Int32.toNatClampNeg (0 : Int32)) (Int32.toNatClampNeg ((S t1 3) * (nI (tWn t))))) := ⟨_, rfl⟩
      have h := h S1 eS1
      refine X_copy C ht1.2.2 ht.2.2 (wTabA _ _ ht1.1) (wTabA _ _ ht.1) q_239 q_241 q_240 q_11 (by decide) i1 i2 i3 i4 i5 (Nat.le_of_ble_eq_true rfl) (Nat.le_of_ble_eq_true rfl) eS1 (wTabA _ _ ht.1) dX4_copyFrom_46 ?_
      refine X_aload_n C 0 0 dX4_copyFrom_49 rfl rfl ?_
      refine X_aload_n C 1 1 dX4_copyFrom_50 rfl rfl ?_
      refine X_get C ht1.2.1 (wTab _ _ ht1.1) rfl inX4 3 (by decide) q_38 rfl dX4_copyFrom_51 ?_
      obtain ⟨S2, eS2⟩ : ∃ z, z = mput S1 t 3 (S1 t1 3) := ⟨_, rfl⟩
      have h := h S2 eS2
      refine X_put C ht.2.1 (wTab _ _ ht.1) rfl inX4 tyX4_ok nmX4 3 (by decide) q_38 rfl rfl rfl (Nat.le_of_ble_eq_true rfl) eS2 (wTab _ _ ht.1) dX4_copyFrom_54 ?_
      exact X_vret C E h dX4_copyFrom_57
    · have h := h.2 c
      exact X_vret C E h dX4_copyFrom_26
set_option maxRecDepth 100000 in
set_option maxHeartbeats 4000000 in
theorem M_X4_reset {l : Launch} {G : XG} (hJ : XJ G) {t : Nat} (ht : XT G t) {S : Mem} {a1 : Int32} {K : Mem → Prop} (h : P_X4_reset t S a1 K) : XMv l G yX4_reset cX4_reset 2 2 46 [.ref (xad G t), .int a1] S K := by
  refine X_meth RX4 rfl (by decide +kernel) hJ (Nat.le_of_ble_eq_true rfl) (fun κ hl hG C E => ?_)
  subst hl hG
  show XW κ S 0 [(0, .ref (xad (kG κ) t)), (1, .int a1)] []
  refine X_aload_n C 0 0 dX4_reset_0 rfl rfl ?_
  refine X_iconst C (0 : Int32) dX4_reset_1 (by decide) ?_
  refine X_iload_n C 1 1 dX4_reset_2 rfl rfl ?_
  refine X_aload_n C 0 0 dX4_reset_3 rfl rfl ?_
  refine X_get C ht.2.1 (wTab _ _ ht.1) rfl inX4 2 (by decide) q_37 rfl dX4_reset_4 ?_
  refine X_min C q_367 q_344 q_4 q_345 (Nat.le_of_ble_eq_true rfl) (Nat.le_trans (show _ ≤ 21 from Nat.le_of_ble_eq_true rfl) (Nat.le_of_ble_eq_true rfl)) dX4_reset_7 ?_
  refine X_max C q_32 q_33 q_4 q_34 (Nat.le_of_ble_eq_true rfl) (Nat.le_trans (show _ ≤ 21 from Nat.le_of_ble_eq_true rfl) (Nat.le_of_ble_eq_true rfl)) dX4_reset_10 ?_
  obtain ⟨S1, eS1⟩ : ∃ z, z = mput S t 3 (if (0 : Int32) < (if (nI (tRn t)) < a1 then (nI (tRn t)) else a1) then (if (nI (tRn t)) < a1 then (nI (tRn t)) else a1) else (0 : Int32)) := ⟨_, rfl⟩
  have h := h S1 eS1
  refine X_put C ht.2.1 (wTab _ _ ht.1) rfl inX4 tyX4_ok nmX4 3 (by decide) q_38 rfl rfl rfl (Nat.le_of_ble_eq_true rfl) eS1 (wTab _ _ ht.1) dX4_reset_13 ?_
  refine X_aload_n C 0 0 dX4_reset_16 rfl rfl ?_
  refine X_get C ht.2.1 (wTab _ _ ht.1) rfl inX4 0 (by decide) q_35 rfl dX4_reset_17 ?_
  refine X_iconst C (0 : Int32) dX4_reset_20 (by decide) ?_
  refine X_aload_n C 0 0 dX4_reset_21 rfl rfl ?_
  refine X_get C ht.2.1 (wTab _ _ ht.1) rfl inX4 3 (by decide) q_38 rfl dX4_reset_22 ?_
  refine X_aload_n C 0 0 dX4_reset_25 rfl rfl ?_
  refine X_get C ht.2.1 (wTab _ _ ht.1) rfl inX4 1 (by decide) q_36 rfl dX4_reset_26 ?_
  refine X_imul C dX4_reset_29 ?_
  refine X_iconst C (0 : Int32) dX4_reset_30 (by decide) ?_
  refine X_callSv C eJ7_fill_fda19 [.ref (xad (kG κ) (t + 1)), .int (0 : Int32), .int ((S1 t 3) * (nI (tWn t))), .int (0 : Int32)] [] (M_J7_fill_fda19 C.g_J ht h) q_53 rfl ⟨(Nat.le_of_ble_eq_true rfl), (Nat.le_of_ble_eq_true rfl)⟩ rfl (Nat.le_of_ble_eq_true rfl) dX4_reset_31 (fun S2 h => ?_)
  exact X_vret C E h dX4_reset_34
set_option maxRecDepth 100000 in
set_option maxHeartbeats 4000000 in
theorem K_X4_sumOf_4 {κ : Kx} (C : XC κ RX4 cX4_sumOf 4 1 22) {K : Int32 → Mem → Prop} (E : XRet κ (some .int) (va_Qi K (XB (kG κ)) (XA (kG κ)))) {t : Nat} (ht : XT (kG κ) t) : ∀ (n : Nat) (S : Mem) (x1 : Int32) (x2 : Int32) (x3 : Int32), B_X4_sumOf_4 t K n S x1 x2 x3 → XW κ S 4 [(0, .ref (xad (kG κ) t)), (1, .int x1), (2, .int x2), (3, .int x3)] [] := by
  intro n
  induction n with
  | zero => intro S x1 x2 x3 h; exact h.elim
  | succ n ih =>
    intro S x1 x2 x3 h
    refine X_iload_n C 3 3 dX4_sumOf_4 rfl rfl ?_
    refine X_aload_n C 0 0 dX4_sumOf_5 rfl rfl ?_
    refine X_get C ht.2.1 (wTab _ _ ht.1) rfl inX4 3 (by decide) q_38 rfl dX4_sumOf_6 ?_
    refine X_icmp_ge C 27 dX4_sumOf_9 (by decide) (fun c => ?_) (fun c => ?_)
    · have h := h.1 c
      refine X_iload_n C 2 2 dX4_sumOf_27 rfl rfl ?_
      exact X_iret C E rfl h dX4_sumOf_28
    · have h := h.2 c
      refine X_iload_n C 2 2 dX4_sumOf_12 rfl rfl ?_
      refine X_aload_n C 0 0 dX4_sumOf_13 rfl rfl ?_
      refine X_iload_n C 3 3 dX4_sumOf_14 rfl rfl ?_
      refine X_iload_n C 1 1 dX4_sumOf_15 rfl rfl ?_
      refine X_callVi C eX4_at [.int x3, .int x1] [.int x2] (M_X4_at C.g_J ht h) ht.2.1 (wTab _ _ ht.1) rfl q_452 rfl ⟨(Nat.le_of_ble_eq_true rfl), (Nat.le_of_ble_eq_true rfl)⟩ rfl (Nat.le_of_ble_eq_true rfl) dX4_sumOf_16 (fun r2 S1 h => ?_)
      refine X_iadd C dX4_sumOf_19 ?_
      refine X_istore_n C 2 [(2, .int (x2 + r2)), (0, .ref (xad (kG κ) t)), (1, .int x1), (3, .int x3)] dX4_sumOf_20 rfl (by decide) rfl ?_
      refine X_iinc C (x3 + (1 : Int32)) 3 [(3, .int (x3 + (1 : Int32))), (2, .int (x2 + r2)), (0, .ref (xad (kG κ) t)), (1, .int x1)] dX4_sumOf_21 rfl rfl (by decide) rfl ?_
      refine X_goto C 4 dX4_sumOf_24 (by decide) ?_
      refine X_sub [2, 3, 1, 0] rfl ?_
      exact ih _ _ _ _ h
set_option maxRecDepth 100000 in
set_option maxHeartbeats 4000000 in
theorem M_X4_sumOf {l : Launch} {G : XG} (hJ : XJ G) {t : Nat} (ht : XT G t) {S : Mem} {a1 : Int32} {K : Int32 → Mem → Prop} (h : P_X4_sumOf t S a1 K) : XMi l G yX4_sumOf cX4_sumOf 4 .int 1 22 [.ref (xad G t), .int a1] S K := by
  refine X_meth RX4 rfl (by decide +kernel) hJ (Nat.le_of_ble_eq_true rfl) (fun κ hl hG C E => ?_)
  subst hl hG
  show XW κ S 0 [(0, .ref (xad (kG κ) t)), (1, .int a1)] []
  refine X_iconst C (0 : Int32) dX4_sumOf_0 (by decide) ?_
  refine X_istore_n C 2 [(2, .int (0 : Int32)), (0, .ref (xad (kG κ) t)), (1, .int a1)] dX4_sumOf_1 rfl (by decide) rfl ?_
  refine X_iconst C (0 : Int32) dX4_sumOf_2 (by decide) ?_
  refine X_istore_n C 3 [(3, .int (0 : Int32)), (2, .int (0 : Int32)), (0, .ref (xad (kG κ) t)), (1, .int a1)] dX4_sumOf_3 rfl (by decide) rfl ?_
  refine X_sub [2, 3, 1, 0] rfl ?_
  obtain ⟨n3, h⟩ := h
  exact K_X4_sumOf_4 C E ht n3 _ _ _ _ h
set_option maxRecDepth 100000 in
set_option maxHeartbeats 4000000 in
theorem M_X4_remove {l : Launch} {G : XG} (hJ : XJ G) {t : Nat} (ht : XT G t) {S : Mem} {a1 : Int32} {K : Mem → Prop} (h : P_X4_remove t S a1 K) : XMv l G yX4_remove cX4_remove 3 1 60 [.ref (xad G t), .int a1] S K := by
  refine X_meth RX4 rfl (by decide +kernel) hJ (Nat.le_of_ble_eq_true rfl) (fun κ hl hG C E => ?_)
  subst hl hG
  show XW κ S 0 [(0, .ref (xad (kG κ) t)), (1, .int a1)] []
  refine X_iload_n C 1 1 dX4_remove_0 rfl rfl ?_
  refine X_if_lt C 12 dX4_remove_1 (by decide) (fun c => ?_) (fun c => ?_)
  · have h := h.1 c
    exact X_vret C E h dX4_remove_12
  · have h := h.2 c
    refine X_iload_n C 1 1 dX4_remove_4 rfl rfl ?_
    refine X_aload_n C 0 0 dX4_remove_5 rfl rfl ?_
    refine X_get C ht.2.1 (wTab _ _ ht.1) rfl inX4 3 (by decide) q_38 rfl dX4_remove_6 ?_
    refine X_icmp_lt C 13 dX4_remove_9 (by decide) (fun c => ?_) (fun c => ?_)
    · have h := h.1 c
      refine X_iload_n C 1 1 dX4_remove_13 rfl rfl ?_
      refine X_aload_n C 0 0 dX4_remove_14 rfl rfl ?_
      refine X_get C ht.2.1 (wTab _ _ ht.1) rfl inX4 1 (by decide) q_36 rfl dX4_remove_15 ?_
      refine X_imul C dX4_remove_18 ?_
      refine X_istore_n C 2 [(2, .int (a1 * (nI (tWn t)))), (0, .ref (xad (kG κ) t)), (1, .int a1)] dX4_remove_19 rfl (by decide) rfl ?_
      refine X_aload_n C 0 1 dX4_remove_20 rfl rfl ?_
      refine X_get C ht.2.1 (wTab _ _ ht.1) rfl inX4 0 (by decide) q_35 rfl dX4_remove_21 ?_
      refine X_iload_n C 2 0 dX4_remove_24 rfl rfl ?_
      refine X_aload_n C 0 1 dX4_remove_25 rfl rfl ?_
      refine X_get C ht.2.1 (wTab _ _ ht.1) rfl inX4 1 (by decide) q_36 rfl dX4_remove_26 ?_
      refine X_iadd C dX4_remove_29 ?_
      refine X_aload_n C 0 1 dX4_remove_30 rfl rfl ?_
      refine X_get C ht.2.1 (wTab _ _ ht.1) rfl inX4 0 (by decide) q_35 rfl dX4_remove_31 ?_
      refine X_iload_n C 2 0 dX4_remove_34 rfl rfl ?_
      refine X_aload_n C 0 1 dX4_remove_35 rfl rfl ?_
      refine X_get C ht.2.1 (wTab _ _ ht.1) rfl inX4 3 (by decide) q_38 rfl dX4_remove_36 ?_
      refine X_iload_n C 1 2 dX4_remove_39 rfl rfl ?_
      refine X_isub C dX4_remove_40 ?_
      refine X_iconst C (1 : Int32) dX4_remove_41 (by decide) ?_
      refine X_isub C dX4_remove_42 ?_
      refine X_aload_n C 0 1 dX4_remove_43 rfl rfl ?_
      refine X_get C ht.2.1 (wTab _ _ ht.1) rfl inX4 1 (by decide) q_36 rfl dX4_remove_44 ?_
      refine X_imul C dX4_remove_47 ?_
      obtain ⟨i1, i2, i3, i4, i5, h⟩ := h
      obtain ⟨S1, eS1⟩ : ∃ z, z = mset S (t + 1) (va_cpy (S (t + 1)) (S (t + 1)) (Int32.toNatClampNeg ((a1 * (nI (tWn t))) + (nI (tWn t)))) (Int32.toNatClampNeg (a1 * (nI (tWn t)))) (Int32.toNatClampNeg ((((S t 3) - a1) - (1 : Int32)) * (nI (tWn t))))) := ⟨_, rfl⟩
      have h := h S1 eS1
      refine X_copy C ht.2.2 ht.2.2 (wTabA _ _ ht.1) (wTabA _ _ ht.1) q_239 q_241 q_240 q_11 (by decide) i1 i2 i3 i4 i5 (Nat.le_of_ble_eq_true rfl) (Nat.le_of_ble_eq_true rfl) eS1 (wTabA _ _ ht.1) dX4_remove_48 ?_
      refine X_aload_n C 0 1 dX4_remove_51 rfl rfl ?_
      refine X_dup C dX4_remove_52 rfl ?_
      refine X_get C ht.2.1 (wTab _ _ ht.1) rfl inX4 3 (by decide) q_38 rfl dX4_remove_53 ?_
      refine X_iconst C (1 : Int32) dX4_remove_56 (by decide) ?_
      refine X_isub C dX4_remove_57 ?_
      obtain ⟨S2, eS2⟩ : ∃ z, z = mput S1 t 3 ((S1 t 3) - (1 : Int32)) := ⟨_, rfl⟩
      have h := h S2 eS2
      refine X_put C ht.2.1 (wTab _ _ ht.1) rfl inX4 tyX4_ok nmX4 3 (by decide) q_38 rfl rfl rfl (Nat.le_of_ble_eq_true rfl) eS2 (wTab _ _ ht.1) dX4_remove_58 ?_
      exact X_vret C E h dX4_remove_61
    · have h := h.2 c
      exact X_vret C E h dX4_remove_12
set_option maxRecDepth 100000 in
set_option maxHeartbeats 4000000 in
theorem K_X4_greatestOf_4 {κ : Kx} (C : XC κ RX4 cX4_greatestOf 4 1 22) {K : Int32 → Mem → Prop} (E : XRet κ (some .int) (va_Qi K (XB (kG κ)) (XA (kG κ)))) {t : Nat} (ht : XT (kG κ) t) : ∀ (n : Nat) (S : Mem) (x1 : Int32) (x2 : Int32) (x3 : Int32), B_X4_greatestOf_4 t K n S x1 x2 x3 → XW κ S 4 [(0, .ref (xad (kG κ) t)), (1, .int x1), (2, .int x2), (3, .int x3)] [] := by
  intro n
  induction n with
  | zero => intro S x1 x2 x3 h; exact h.elim
  | succ n ih =>
    intro S x1 x2 x3 h
    refine X_iload_n C 3 3 dX4_greatestOf_4 rfl rfl ?_
    refine X_aload_n C 0 0 dX4_greatestOf_5 rfl rfl ?_
    refine X_get C ht.2.1 (wTab _ _ ht.1) rfl inX4 3 (by decide) q_38 rfl dX4_greatestOf_6 ?_
    refine X_icmp_ge C 29 dX4_greatestOf_9 (by decide) (fun c => ?_) (fun c => ?_)
    · have h := h.1 c
      refine X_iload_n C 2 2 dX4_greatestOf_29 rfl rfl ?_
      exact X_iret C E rfl h dX4_greatestOf_30
    · have h := h.2 c
      refine X_iload_n C 2 2 dX4_greatestOf_12 rfl rfl ?_
      refine X_aload_n C 0 0 dX4_greatestOf_13 rfl rfl ?_
      refine X_iload_n C 3 3 dX4_greatestOf_14 rfl rfl ?_
      refine X_iload_n C 1 1 dX4_greatestOf_15 rfl rfl ?_
      refine X_callVi C eX4_at [.int x3, .int x1] [.int x2] (M_X4_at C.g_J ht h) ht.2.1 (wTab _ _ ht.1) rfl q_452 rfl ⟨(Nat.le_of_ble_eq_true rfl), (Nat.le_of_ble_eq_true rfl)⟩ rfl (Nat.le_of_ble_eq_true rfl) dX4_greatestOf_16 (fun r2 S1 h => ?_)
      refine X_max C q_32 q_33 q_4 q_34 (Nat.le_of_ble_eq_true rfl) (Nat.le_trans (show _ ≤ 21 from Nat.le_of_ble_eq_true rfl) (Nat.le_of_ble_eq_true rfl)) dX4_greatestOf_19 ?_
      refine X_istore_n C 2 [(2, .int (if x2 < r2 then r2 else x2)), (0, .ref (xad (kG κ) t)), (1, .int x1), (3, .int x3)] dX4_greatestOf_22 rfl (by decide) rfl ?_
      refine X_iinc C (x3 + (1 : Int32)) 3 [(3, .int (x3 + (1 : Int32))), (2, .int (if x2 < r2 then r2 else x2)), (0, .ref (xad (kG κ) t)), (1, .int x1)] dX4_greatestOf_23 rfl rfl (by decide) rfl ?_
      refine X_goto C 4 dX4_greatestOf_26 (by decide) ?_
      refine X_sub [2, 3, 1, 0] rfl ?_
      exact ih _ _ _ _ h
set_option maxRecDepth 100000 in
set_option maxHeartbeats 4000000 in
theorem M_X4_greatestOf {l : Launch} {G : XG} (hJ : XJ G) {t : Nat} (ht : XT G t) {S : Mem} {a1 : Int32} {K : Int32 → Mem → Prop} (h : P_X4_greatestOf t S a1 K) : XMi l G yX4_greatestOf cX4_greatestOf 4 .int 1 22 [.ref (xad G t), .int a1] S K := by
  refine X_meth RX4 rfl (by decide +kernel) hJ (Nat.le_of_ble_eq_true rfl) (fun κ hl hG C E => ?_)
  subst hl hG
  show XW κ S 0 [(0, .ref (xad (kG κ) t)), (1, .int a1)] []
  refine X_iconst C (0 : Int32) dX4_greatestOf_0 (by decide) ?_
  refine X_istore_n C 2 [(2, .int (0 : Int32)), (0, .ref (xad (kG κ) t)), (1, .int a1)] dX4_greatestOf_1 rfl (by decide) rfl ?_
  refine X_iconst C (0 : Int32) dX4_greatestOf_2 (by decide) ?_
  refine X_istore_n C 3 [(3, .int (0 : Int32)), (2, .int (0 : Int32)), (0, .ref (xad (kG κ) t)), (1, .int a1)] dX4_greatestOf_3 rfl (by decide) rfl ?_
  refine X_sub [2, 3, 1, 0] rfl ?_
  obtain ⟨n3, h⟩ := h
  exact K_X4_greatestOf_4 C E ht n3 _ _ _ _ h
set_option maxRecDepth 100000 in
set_option maxHeartbeats 4000000 in
theorem M_X6_isOutside {l : Launch} {G : XG} (hJ : XJ G) (hFu : XF G) {S : Mem} {a0 : Int32} {a1 : Int32} {a2 : Int32} {K : Int32 → Mem → Prop} (h : P_X6_isOutside S a0 a1 a2 K) : XMi l G yX6_isOutside cX6_isOutside 3 .boolean 0 0 [.int a0, .int a1, .int a2] S K := by
  refine X_meth RX6 rfl (by decide +kernel) hJ (Nat.le_of_ble_eq_true rfl) (fun κ hl hG C E => ?_)
  subst hl hG
  show XW κ S 0 [(0, .int a0), (1, .int a1), (2, .int a2)] []
  refine X_iload_n C 0 0 dX6_isOutside_0 rfl rfl ?_
  refine X_iload_n C 1 1 dX6_isOutside_1 rfl rfl ?_
  refine X_icmp_lt C 10 dX6_isOutside_2 (by decide) (fun c => ?_) (fun c => ?_)
  · have h := h.1 c
    refine X_iconst C (1 : Int32) dX6_isOutside_10 (by decide) ?_
    refine X_goto C 15 dX6_isOutside_11 (by decide) ?_
    exact X_iret C E rfl h dX6_isOutside_15
  · have h := h.2 c
    refine X_iload_n C 0 0 dX6_isOutside_5 rfl rfl ?_
    refine X_iload_n C 2 2 dX6_isOutside_6 rfl rfl ?_
    refine X_icmp_le C 14 dX6_isOutside_7 (by decide) (fun c => ?_) (fun c => ?_)
    · have h := h.1 c
      refine X_iconst C (0 : Int32) dX6_isOutside_14 (by decide) ?_
      exact X_iret C E rfl h dX6_isOutside_15
    · have h := h.2 c
      refine X_iconst C (1 : Int32) dX6_isOutside_10 (by decide) ?_
      refine X_goto C 15 dX6_isOutside_11 (by decide) ?_
      exact X_iret C E rfl h dX6_isOutside_15
