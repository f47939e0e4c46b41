/-- one call of each kind: both sides answer alike, and the invariant stays -/
def LStep (Inv : Mem → Prop) : Prop := (∀ (S : Mem) (a0 a1 : Int32), Inv S → P_X6_row S a0 a1 (fun r1 S1 => P_X7_row S1 a0 a1 (fun r2 S2 => r1 = r2 ∧ Inv S2))) ∧
  (∀ (S : Mem) (a0 : Int32), Inv S → P_X6_drop S a0 (fun r1 S1 => P_X7_drop S1 a0 (fun r2 S2 => r1 = r2 ∧ Inv S2))) ∧
  (∀ (S : Mem), Inv S → P_X6_clear S (fun r1 S1 => P_X7_clear S1 (fun r2 S2 => r1 = r2 ∧ Inv S2))) ∧
  (∀ (S : Mem) (a0 a1 : Int32), Inv S → P_X6_set S a0 a1 (fun r1 S1 => P_X7_set S1 a0 a1 (fun r2 S2 => r1 = r2 ∧ Inv S2))) ∧
  (∀ (S : Mem) (a0 a1 : Int32), Inv S → P_X6_rowOf S a0 a1 (fun r1 S1 => P_X7_rowOf S1 a0 a1 (fun r2 S2 => r1 = r2 ∧ Inv S2))) ∧
  (∀ (S : Mem) (a0 a1 : Int32), Inv S → P_X6_groupOf S a0 a1 (fun r1 S1 => P_X7_groupOf S1 a0 a1 (fun r2 S2 => r1 = r2 ∧ Inv S2))) ∧
  (∀ (S : Mem) (a0 : Int32), Inv S → P_X6_finished S a0 (fun r1 S1 => P_X7_finished S1 a0 (fun r2 S2 => r1 = r2 ∧ Inv S2))) ∧
  (∀ (S : Mem) (a0 a1 a2 : Int32), Inv S → P_X6_passOf S a0 a1 a2 (fun r1 S1 => P_X7_passOf S1 a0 a1 a2 (fun r2 S2 => r1 = r2 ∧ Inv S2))) ∧
  (∀ (S : Mem) (a0 a1 : Int32), Inv S → P_X6_spillOf S a0 a1 (fun r1 S1 => P_X7_spillOf S1 a0 a1 (fun r2 S2 => r1 = r2 ∧ Inv S2))) ∧
  (∀ (S : Mem) (a0 : Int32), Inv S → P_X6_total S a0 (fun r1 S1 => P_X7_total S1 a0 (fun r2 S2 => r1 = r2 ∧ Inv S2))) ∧
  (∀ (S : Mem) (a0 a1 : Int32), Inv S → P_X6_written S a0 a1 (fun r1 S1 => P_X7_written S1 a0 a1 (fun r2 S2 => r1 = r2 ∧ Inv S2))) ∧
  (∀ (S : Mem) (a0 a1 : Int32), Inv S → P_X6_bestBits S a0 a1 (fun r1 S1 => P_X7_bestBits S1 a0 a1 (fun r2 S2 => r1 = r2 ∧ Inv S2))) ∧
  (∀ (S : Mem), Inv S → P_X6_enough S (fun r1 S1 => P_X7_enough S1 (fun r2 S2 => r1 = r2 ∧ Inv S2))) ∧
  (∀ (S : Mem) (a0 : Int32), Inv S → P_X6_skewed S a0 (fun r1 S1 => P_X7_skewed S1 a0 (fun r2 S2 => r1 = r2 ∧ Inv S2))) ∧
  (∀ (S : Mem) (a0 : Int32), Inv S → P_X6_count S a0 (fun r1 S1 => P_X7_count S1 a0 (fun r2 S2 => r1 = r2 ∧ Inv S2))) ∧
  (∀ (S : Mem), Inv S → P_X6_undo S (fun r1 S1 => P_X7_undo S1 (fun r2 S2 => r1 = r2 ∧ Inv S2))) ∧
  (∀ (S : Mem) (a0 : Int32), Inv S → P_X6_type S a0 (fun r1 S1 => P_X7_type S1 a0 (fun r2 S2 => r1 = r2 ∧ Inv S2))) ∧
  (∀ (S : Mem), Inv S → P_X6_clearText S (fun r1 S1 => P_X7_clearText S1 (fun r2 S2 => r1 = r2 ∧ Inv S2))) ∧
  (∀ (S : Mem) (a0 : Int32), Inv S → P_X6_fault S a0 (fun r1 S1 => P_X7_fault S1 a0 (fun r2 S2 => r1 = r2 ∧ Inv S2))) ∧
  (∀ (S : Mem), Inv S → P_X6_play S (fun r1 S1 => P_X7_play S1 (fun r2 S2 => r1 = r2 ∧ Inv S2)))
theorem X_sld {κ : Kx} {own : String} {cc : ByteArray} {nl F N : Nat} {S : Mem} {pc : Nat} {lv : List (Nat × Value)} {st : List Value} (C : XC κ own cc nl F N) {b L : Nat} {xs : Nat → Int32} (hX : va_X b L xs (ks κ) (ks κ).heap) (hbl : b < (ks κ).heap.size) (hbA : ¬ kA κ b) {i : Int32} (hin : vp_in i L) (hdg : decode cc pc = .ok (.iaload, 1)) (kk : XW κ S (pc + 1) lv (.int (xs (Int32.toNatClampNeg i)) :: st)) : XW κ S pc lv (.int i :: .ref b :: st) := fun H locs ls hP hS h => va_sld C.1 C.2.1 hX hbl hbA hS hin hdg (kk H locs ls hP hS h)
theorem X_slen {κ : Kx} {own : String} {cc : ByteArray} {nl F N : Nat} {S : Mem} {pc : Nat} {lv : List (Nat × Value)} {st : List Value} (C : XC κ own cc nl F N) {b L : Nat} {xs : Nat → Int32} (hX : va_X b L xs (ks κ) (ks κ).heap) (hbl : b < (ks κ).heap.size) (hbA : ¬ kA κ b) (hdg : decode cc pc = .ok (.arraylength, 1)) (kk : XW κ S (pc + 1) lv (.int (nI L) :: st)) : XW κ S pc lv (.ref b :: st) := fun H locs ls hP hS h => va_slen C.1 C.2.1 hX hbl hbA hS hdg (kk H locs ls hP hS h)
theorem law_idx {L i : Nat} (hL : L ≤ 2048) (hi : i ≤ L) (c : ¬ nI L - (4 : Int32) < nI i) : i + 4 ≤ L := by
  have h1 : (nI L - nI 4).toInt = (L : Int) - (4 : Nat) := pk_sub_toInt (by omega) (by omega)
  have h2 : (nI i).toInt = (i : Int) := nI_toInt (by omega)
  have h3 : ¬ (nI L - nI 4).toInt < (nI i).toInt := fun q => c (Int32.lt_iff_toInt_lt.mpr q)
  rw [h1, h2] at h3
  omega
set_option maxRecDepth 100000 in
set_option maxHeartbeats 8000000 in
theorem law_loop {κ : Kx} {b L : Nat} {xs : Nat → Int32} (C : XC κ RL cL_law 4 2048 84000) (hFu : XF (kG κ)) (hL : L ≤ 2048) (hX : va_X b L xs (ks κ) (ks κ).heap) (hbl : b < (ks κ).heap.size) (hbA : ¬ kA κ b) {Inv : Mem → Prop} (hs : LStep Inv) (hE : ∀ (S : Mem) (lv : List (Nat × Value)), XW κ S 635 lv [.int 1]) : ∀ (n i : Nat) (S : Mem), Inv S → i ≤ L → L - i < n → XW κ S 18 [(0, .ref b), (1, .ref (xad (kG κ) 0)), (2, .ref (xad (kG κ) 53)), (3, .int (nI i))] [] := by
  intro n
  induction n with
  | zero => intro i S _ _ h; omega
  | succ n ih =>
    intro i S hI hi hn
    refine X_iload_n C 3 3 dL_law_18 rfl rfl ?_
    refine X_aload_n C 0 0 dL_law_19 rfl rfl ?_
    refine X_slen C hX hbl hbA dL_law_20 ?_
    refine X_iconst C 4 dL_law_21 (by decide) ?_
    refine X_isub C dL_law_22 ?_
    refine X_icmp_gt C 634 dL_law_23 (by decide) (fun c => ?_) (fun c => ?_)
    · refine X_iconst C 1 dL_law_634 (by decide) ?_
      exact hE S _
    · have hi4 : i + 4 ≤ L := law_idx hL hi c
      have v0 : vp_in (nI i) L := vp_in_nI (by omega) (by omega)
      have v1 : vp_in (nI i + (1 : Int32)) L := by rw [show nI i + (1 : Int32) = nI (i + 1) from nI_1 i]; exact vp_in_nI (by omega) (by omega)
      have v2 : vp_in (nI i + (2 : Int32)) L := by rw [show nI i + (2 : Int32) = nI (i + 2) from nI_add i 2]; exact vp_in_nI (by omega) (by omega)
      have v3 : vp_in (nI i + (3 : Int32)) L := by rw [show nI i + (3 : Int32) = nI (i + 3) from nI_add i 3]; exact vp_in_nI (by omega) (by omega)
      have hnext : ∀ S1 : Mem, Inv S1 → XW κ S1 628 [(0, .ref b), (1, .ref (xad (kG κ) 0)), (2, .ref (xad (kG κ) 53)), (3, .int (nI i))] [] := by
        intro S1 hI1
        refine X_iinc C (nI i + 4) 3 [(3, .int (nI i + 4)), (0, .ref b), (1, .ref (xad (kG κ) 0)), (2, .ref (xad (kG κ) 53))] dL_law_628 rfl rfl (by decide) rfl ?_
        refine X_goto C 18 dL_law_631 (by decide) ?_
        refine X_sub [1, 2, 3, 0] rfl ?_
        rw [show nI i + (4 : Int32) = nI (i + 4) from nI_add i 4]
        exact ih (i + 4) S1 hI1 (by omega) (by omega)
      refine X_aload_n C 0 0 dL_law_26 rfl rfl ?_
      refine X_iload_n C 3 3 dL_law_27 rfl rfl ?_
      refine X_sld C hX hbl hbA v0 dL_law_28 ?_
      refine X_bipush C 31 dL_law_29 (by decide) ?_
      refine X_iand C dL_law_31 ?_
      by_cases c0 : (xs (Int32.toNatClampNeg (nI i)) &&& (31 : Int32)) = 0
      · refine X_tin (off := 96) C 128 dL_law_32 (by rw [c0]; decide) (by rw [c0]; decide) (by rw [c0]; rfl) (by decide) ?_
        have h := hs.1 S (xs (Int32.toNatClampNeg (nI i + (1 : Int32)))) (xs (Int32.toNatClampNeg (nI i + (2 : Int32)))) hI
        refine X_aload_n C 1 1 dL_law_128 rfl rfl ?_
        refine X_aload_n C 0 0 dL_law_129 rfl rfl ?_
        refine X_iload_n C 3 3 dL_law_130 rfl rfl ?_
        refine X_iconst C 1 dL_law_131 (by decide) ?_
        refine X_iadd C dL_law_132 ?_
        refine X_sld C hX hbl hbA v1 dL_law_133 ?_
        refine X_aload_n C 0 0 dL_law_134 rfl rfl ?_
        refine X_iload_n C 3 3 dL_law_135 rfl rfl ?_
        refine X_iconst C 2 dL_law_136 (by decide) ?_
        refine X_iadd C dL_law_137 ?_
        refine X_sld C hX hbl hbA v2 dL_law_138 ?_
        refine X_callVi C eX6_row [.int (xs (Int32.toNatClampNeg (nI i + (1 : Int32)))), .int (xs (Int32.toNatClampNeg (nI i + (2 : Int32))))] [] (M_X6_row C.g_J hFu h) (hFu _ (by decide)) (wc_0 _ _) rfl q_206 rfl ⟨Nat.le_of_ble_eq_true rfl, Nat.le_of_ble_eq_true rfl⟩ rfl (Nat.le_of_ble_eq_true rfl) dL_law_139 (fun r1 S1 h => ?_)
        refine X_aload_n C 2 2 dL_law_142 rfl rfl ?_
        refine X_aload_n C 0 0 dL_law_143 rfl rfl ?_
        refine X_iload_n C 3 3 dL_law_144 rfl rfl ?_
        refine X_iconst C 1 dL_law_145 (by decide) ?_
        refine X_iadd C dL_law_146 ?_
        refine X_sld C hX hbl hbA v1 dL_law_147 ?_
        refine X_aload_n C 0 0 dL_law_148 rfl rfl ?_
        refine X_iload_n C 3 3 dL_law_149 rfl rfl ?_
        refine X_iconst C 2 dL_law_150 (by decide) ?_
        refine X_iadd C dL_law_151 ?_
        refine X_sld C hX hbl hbA v2 dL_law_152 ?_
        refine X_callVi C eX7_row [.int (xs (Int32.toNatClampNeg (nI i + (1 : Int32)))), .int (xs (Int32.toNatClampNeg (nI i + (2 : Int32))))] [.int r1] (M_X7_row C.g_J hFu h) (hFu _ (by decide)) (wc_53 _ _) rfl q_645 rfl ⟨Nat.le_of_ble_eq_true rfl, Nat.le_of_ble_eq_true rfl⟩ rfl (Nat.le_of_ble_eq_true rfl) dL_law_153 (fun r2 S2 h => ?_)
        exact X_icmp_eq C 628 dL_law_156 (by decide) (fun _ => hnext S2 h.2) (fun c => absurd h.1 c)
      by_cases c1 : (xs (Int32.toNatClampNeg (nI i)) &&& (31 : Int32)) = 1
      · refine X_tin (off := 129) C 161 dL_law_32 (by rw [c1]; decide) (by rw [c1]; decide) (by rw [c1]; rfl) (by decide) ?_
        have h := hs.2.1 S (xs (Int32.toNatClampNeg (nI i + (1 : Int32)))) hI
        refine X_aload_n C 1 1 dL_law_161 rfl rfl ?_
        refine X_aload_n C 0 0 dL_law_162 rfl rfl ?_
        refine X_iload_n C 3 3 dL_law_163 rfl rfl ?_
        refine X_iconst C 1 dL_law_164 (by decide) ?_
        refine X_iadd C dL_law_165 ?_
        refine X_sld C hX hbl hbA v1 dL_law_166 ?_
        refine X_callVi C eX6_drop [.int (xs (Int32.toNatClampNeg (nI i + (1 : Int32))))] [] (M_X6_drop C.g_J hFu h) (hFu _ (by decide)) (wc_0 _ _) rfl q_250 rfl ⟨Nat.le_of_ble_eq_true rfl, Nat.le_of_ble_eq_true rfl⟩ rfl (Nat.le_of_ble_eq_true rfl) dL_law_167 (fun r1 S1 h => ?_)
        refine X_aload_n C 2 2 dL_law_170 rfl rfl ?_
        refine X_aload_n C 0 0 dL_law_171 rfl rfl ?_
        refine X_iload_n C 3 3 dL_law_172 rfl rfl ?_
        refine X_iconst C 1 dL_law_173 (by decide) ?_
        refine X_iadd C dL_law_174 ?_
        refine X_sld C hX hbl hbA v1 dL_law_175 ?_
        refine X_callVi C eX7_drop [.int (xs (Int32.toNatClampNeg (nI i + (1 : Int32))))] [.int r1] (M_X7_drop C.g_J hFu h) (hFu _ (by decide)) (wc_53 _ _) rfl q_668 rfl ⟨Nat.le_of_ble_eq_true rfl, Nat.le_of_ble_eq_true rfl⟩ rfl (Nat.le_of_ble_eq_true rfl) dL_law_176 (fun r2 S2 h => ?_)
        exact X_icmp_eq C 628 dL_law_179 (by decide) (fun _ => hnext S2 h.2) (fun c => absurd h.1 c)
      by_cases c2 : (xs (Int32.toNatClampNeg (nI i)) &&& (31 : Int32)) = 2
      · refine X_tin (off := 152) C 184 dL_law_32 (by rw [c2]; decide) (by rw [c2]; decide) (by rw [c2]; rfl) (by decide) ?_
        have h := hs.2.2.1 S hI
        refine X_aload_n C 1 1 dL_law_184 rfl rfl ?_
        refine X_callVi C eX6_clear [] [] (M_X6_clear C.g_J hFu h) (hFu _ (by decide)) (wc_0 _ _) rfl q_259 rfl ⟨Nat.le_of_ble_eq_true rfl, Nat.le_of_ble_eq_true rfl⟩ rfl (Nat.le_of_ble_eq_true rfl) dL_law_185 (fun r1 S1 h => ?_)
        refine X_aload_n C 2 2 dL_law_188 rfl rfl ?_
        refine X_callVi C eX7_clear [] [.int r1] (M_X7_clear C.g_J hFu h) (hFu _ (by decide)) (wc_53 _ _) rfl q_673 rfl ⟨Nat.le_of_ble_eq_true rfl, Nat.le_of_ble_eq_true rfl⟩ rfl (Nat.le_of_ble_eq_true rfl) dL_law_189 (fun r2 S2 h => ?_)
        exact X_icmp_eq C 628 dL_law_192 (by decide) (fun _ => hnext S2 h.2) (fun c => absurd h.1 c)
      by_cases c3 : (xs (Int32.toNatClampNeg (nI i)) &&& (31 : Int32)) = 3
      · refine X_tin (off := 165) C 197 dL_law_32 (by rw [c3]; decide) (by rw [c3]; decide) (by rw [c3]; rfl) (by decide) ?_
        have h := hs.2.2.2.1 S (xs (Int32.toNatClampNeg (nI i + (1 : Int32)))) (xs (Int32.toNatClampNeg (nI i + (2 : Int32)))) hI
        refine X_aload_n C 1 1 dL_law_197 rfl rfl ?_
        refine X_aload_n C 0 0 dL_law_198 rfl rfl ?_
        refine X_iload_n C 3 3 dL_law_199 rfl rfl ?_
        refine X_iconst C 1 dL_law_200 (by decide) ?_
        refine X_iadd C dL_law_201 ?_
        refine X_sld C hX hbl hbA v1 dL_law_202 ?_
        refine X_aload_n C 0 0 dL_law_203 rfl rfl ?_
        refine X_iload_n C 3 3 dL_law_204 rfl rfl ?_
        refine X_iconst C 2 dL_law_205 (by decide) ?_
        refine X_iadd C dL_law_206 ?_
        refine X_sld C hX hbl hbA v2 dL_law_207 ?_
        refine X_callVi C eX6_set [.int (xs (Int32.toNatClampNeg (nI i + (1 : Int32)))), .int (xs (Int32.toNatClampNeg (nI i + (2 : Int32))))] [] (M_X6_set C.g_J hFu h) (hFu _ (by decide)) (wc_0 _ _) rfl q_267 rfl ⟨Nat.le_of_ble_eq_true rfl, Nat.le_of_ble_eq_true rfl⟩ rfl (Nat.le_of_ble_eq_true rfl) dL_law_208 (fun r1 S1 h => ?_)
        refine X_aload_n C 2 2 dL_law_211 rfl rfl ?_
        refine X_aload_n C 0 0 dL_law_212 rfl rfl ?_
        refine X_iload_n C 3 3 dL_law_213 rfl rfl ?_
        refine X_iconst C 1 dL_law_214 (by decide) ?_
        refine X_iadd C dL_law_215 ?_
        refine X_sld C hX hbl hbA v1 dL_law_216 ?_
        refine X_aload_n C 0 0 dL_law_217 rfl rfl ?_
        refine X_iload_n C 3 3 dL_law_218 rfl rfl ?_
        refine X_iconst C 2 dL_law_219 (by decide) ?_
        refine X_iadd C dL_law_220 ?_
        refine X_sld C hX hbl hbA v2 dL_law_221 ?_
        refine X_callVi C eX7_set [.int (xs (Int32.toNatClampNeg (nI i + (1 : Int32)))), .int (xs (Int32.toNatClampNeg (nI i + (2 : Int32))))] [.int r1] (M_X7_set C.g_J hFu h) (hFu _ (by decide)) (wc_53 _ _) rfl q_677 rfl ⟨Nat.le_of_ble_eq_true rfl, Nat.le_of_ble_eq_true rfl⟩ rfl (Nat.le_of_ble_eq_true rfl) dL_law_222 (fun r2 S2 h => ?_)
        exact X_icmp_eq C 628 dL_law_225 (by decide) (fun _ => hnext S2 h.2) (fun c => absurd h.1 c)
      by_cases c4 : (xs (Int32.toNatClampNeg (nI i)) &&& (31 : Int32)) = 4
      · refine X_tin (off := 198) C 230 dL_law_32 (by rw [c4]; decide) (by rw [c4]; decide) (by rw [c4]; rfl) (by decide) ?_
        have h := hs.2.2.2.2.1 S (xs (Int32.toNatClampNeg (nI i + (1 : Int32)))) (xs (Int32.toNatClampNeg (nI i + (2 : Int32)))) hI
        refine X_aload_n C 1 1 dL_law_230 rfl rfl ?_
        refine X_aload_n C 0 0 dL_law_231 rfl rfl ?_
        refine X_iload_n C 3 3 dL_law_232 rfl rfl ?_
        refine X_iconst C 1 dL_law_233 (by decide) ?_
        refine X_iadd C dL_law_234 ?_
        refine X_sld C hX hbl hbA v1 dL_law_235 ?_
        refine X_aload_n C 0 0 dL_law_236 rfl rfl ?_
        refine X_iload_n C 3 3 dL_law_237 rfl rfl ?_
        refine X_iconst C 2 dL_law_238 (by decide) ?_
        refine X_iadd C dL_law_239 ?_
        refine X_sld C hX hbl hbA v2 dL_law_240 ?_
        refine X_callVi C eX6_rowOf [.int (xs (Int32.toNatClampNeg (nI i + (1 : Int32)))), .int (xs (Int32.toNatClampNeg (nI i + (2 : Int32))))] [] (M_X6_rowOf C.g_J hFu h) (hFu _ (by decide)) (wc_0 _ _) rfl q_284 rfl ⟨Nat.le_of_ble_eq_true rfl, Nat.le_of_ble_eq_true rfl⟩ rfl (Nat.le_of_ble_eq_true rfl) dL_law_241 (fun r1 S1 h => ?_)
        refine X_aload_n C 2 2 dL_law_244 rfl rfl ?_
        refine X_aload_n C 0 0 dL_law_245 rfl rfl ?_
        refine X_iload_n C 3 3 dL_law_246 rfl rfl ?_
        refine X_iconst C 1 dL_law_247 (by decide) ?_
        refine X_iadd C dL_law_248 ?_
        refine X_sld C hX hbl hbA v1 dL_law_249 ?_
        refine X_aload_n C 0 0 dL_law_250 rfl rfl ?_
        refine X_iload_n C 3 3 dL_law_251 rfl rfl ?_
        refine X_iconst C 2 dL_law_252 (by decide) ?_
        refine X_iadd C dL_law_253 ?_
        refine X_sld C hX hbl hbA v2 dL_law_254 ?_
        refine X_callVi C eX7_rowOf [.int (xs (Int32.toNatClampNeg (nI i + (1 : Int32)))), .int (xs (Int32.toNatClampNeg (nI i + (2 : Int32))))] [.int r1] (M_X7_rowOf C.g_J hFu h) (hFu _ (by decide)) (wc_53 _ _) rfl q_684 rfl ⟨Nat.le_of_ble_eq_true rfl, Nat.le_of_ble_eq_true rfl⟩ rfl (Nat.le_of_ble_eq_true rfl) dL_law_255 (fun r2 S2 h => ?_)
        exact X_icmp_eq C 628 dL_law_258 (by decide) (fun _ => hnext S2 h.2) (fun c => absurd h.1 c)
      by_cases c5 : (xs (Int32.toNatClampNeg (nI i)) &&& (31 : Int32)) = 5
      · refine X_tin (off := 231) C 263 dL_law_32 (by rw [c5]; decide) (by rw [c5]; decide) (by rw [c5]; rfl) (by decide) ?_
        have h := hs.2.2.2.2.2.1 S (xs (Int32.toNatClampNeg (nI i + (1 : Int32)))) (xs (Int32.toNatClampNeg (nI i + (2 : Int32)))) hI
        refine X_aload_n C 1 1 dL_law_263 rfl rfl ?_
        refine X_aload_n C 0 0 dL_law_264 rfl rfl ?_
        refine X_iload_n C 3 3 dL_law_265 rfl rfl ?_
        refine X_iconst C 1 dL_law_266 (by decide) ?_
        refine X_iadd C dL_law_267 ?_
        refine X_sld C hX hbl hbA v1 dL_law_268 ?_
        refine X_aload_n C 0 0 dL_law_269 rfl rfl ?_
        refine X_iload_n C 3 3 dL_law_270 rfl rfl ?_
        refine X_iconst C 2 dL_law_271 (by decide) ?_
        refine X_iadd C dL_law_272 ?_
        refine X_sld C hX hbl hbA v2 dL_law_273 ?_
        refine X_callVi C eX6_groupOf [.int (xs (Int32.toNatClampNeg (nI i + (1 : Int32)))), .int (xs (Int32.toNatClampNeg (nI i + (2 : Int32))))] [] (M_X6_groupOf C.g_J hFu h) (hFu _ (by decide)) (wc_0 _ _) rfl q_308 rfl ⟨Nat.le_of_ble_eq_true rfl, Nat.le_of_ble_eq_true rfl⟩ rfl (Nat.le_of_ble_eq_true rfl) dL_law_274 (fun r1 S1 h => ?_)
        refine X_aload_n C 2 2 dL_law_277 rfl rfl ?_
        refine X_aload_n C 0 0 dL_law_278 rfl rfl ?_
        refine X_iload_n C 3 3 dL_law_279 rfl rfl ?_
        refine X_iconst C 1 dL_law_280 (by decide) ?_
        refine X_iadd C dL_law_281 ?_
        refine X_sld C hX hbl hbA v1 dL_law_282 ?_
        refine X_aload_n C 0 0 dL_law_283 rfl rfl ?_
        refine X_iload_n C 3 3 dL_law_284 rfl rfl ?_
        refine X_iconst C 2 dL_law_285 (by decide) ?_
        refine X_iadd C dL_law_286 ?_
        refine X_sld C hX hbl hbA v2 dL_law_287 ?_
        refine X_callVi C eX7_groupOf [.int (xs (Int32.toNatClampNeg (nI i + (1 : Int32)))), .int (xs (Int32.toNatClampNeg (nI i + (2 : Int32))))] [.int r1] (M_X7_groupOf C.g_J hFu h) (hFu _ (by decide)) (wc_53 _ _) rfl q_699 rfl ⟨Nat.le_of_ble_eq_true rfl, Nat.le_of_ble_eq_true rfl⟩ rfl (Nat.le_of_ble_eq_true rfl) dL_law_288 (fun r2 S2 h => ?_)
        exact X_icmp_eq C 628 dL_law_291 (by decide) (fun _ => hnext S2 h.2) (fun c => absurd h.1 c)
      by_cases c6 : (xs (Int32.toNatClampNeg (nI i)) &&& (31 : Int32)) = 6
      · refine X_tin (off := 264) C 296 dL_law_32 (by rw [c6]; decide) (by rw [c6]; decide) (by rw [c6]; rfl) (by decide) ?_
        have h := hs.2.2.2.2.2.2.1 S (xs (Int32.toNatClampNeg (nI i + (1 : Int32)))) hI
        refine X_aload_n C 1 1 dL_law_296 rfl rfl ?_
        refine X_aload_n C 0 0 dL_law_297 rfl rfl ?_
        refine X_iload_n C 3 3 dL_law_298 rfl rfl ?_
        refine X_iconst C 1 dL_law_299 (by decide) ?_
        refine X_iadd C dL_law_300 ?_
        refine X_sld C hX hbl hbA v1 dL_law_301 ?_
        refine X_callVi C eX6_finished [.int (xs (Int32.toNatClampNeg (nI i + (1 : Int32))))] [] (M_X6_finished C.g_J hFu h) (hFu _ (by decide)) (wc_0 _ _) rfl q_424 rfl ⟨Nat.le_of_ble_eq_true rfl, Nat.le_of_ble_eq_true rfl⟩ rfl (Nat.le_of_ble_eq_true rfl) dL_law_302 (fun r1 S1 h => ?_)
        refine X_aload_n C 2 2 dL_law_305 rfl rfl ?_
        refine X_aload_n C 0 0 dL_law_306 rfl rfl ?_
        refine X_iload_n C 3 3 dL_law_307 rfl rfl ?_
        refine X_iconst C 1 dL_law_308 (by decide) ?_
        refine X_iadd C dL_law_309 ?_
        refine X_sld C hX hbl hbA v1 dL_law_310 ?_
        refine X_callVi C eX7_finished [.int (xs (Int32.toNatClampNeg (nI i + (1 : Int32))))] [.int r1] (M_X7_finished C.g_J hFu h) (hFu _ (by decide)) (wc_53 _ _) rfl q_772 rfl ⟨Nat.le_of_ble_eq_true rfl, Nat.le_of_ble_eq_true rfl⟩ rfl (Nat.le_of_ble_eq_true rfl) dL_law_311 (fun r2 S2 h => ?_)
        exact X_icmp_eq C 628 dL_law_314 (by decide) (fun _ => hnext S2 h.2) (fun c => absurd h.1 c)
      by_cases c7 : (xs (Int32.toNatClampNeg (nI i)) &&& (31 : Int32)) = 7
      · refine X_tin (off := 287) C 319 dL_law_32 (by rw [c7]; decide) (by rw [c7]; decide) (by rw [c7]; rfl) (by decide) ?_
        have h := hs.2.2.2.2.2.2.2.1 S (xs (Int32.toNatClampNeg (nI i + (1 : Int32)))) (xs (Int32.toNatClampNeg (nI i + (2 : Int32)))) (xs (Int32.toNatClampNeg (nI i + (3 : Int32)))) hI
        refine X_aload_n C 1 1 dL_law_319 rfl rfl ?_
        refine X_aload_n C 0 0 dL_law_320 rfl rfl ?_
        refine X_iload_n C 3 3 dL_law_321 rfl rfl ?_
        refine X_iconst C 1 dL_law_322 (by decide) ?_
        refine X_iadd C dL_law_323 ?_
        refine X_sld C hX hbl hbA v1 dL_law_324 ?_
        refine X_aload_n C 0 0 dL_law_325 rfl rfl ?_
        refine X_iload_n C 3 3 dL_law_326 rfl rfl ?_
        refine X_iconst C 2 dL_law_327 (by decide) ?_
        refine X_iadd C dL_law_328 ?_
        refine X_sld C hX hbl hbA v2 dL_law_329 ?_
        refine X_aload_n C 0 0 dL_law_330 rfl rfl ?_
        refine X_iload_n C 3 3 dL_law_331 rfl rfl ?_
        refine X_iconst C 3 dL_law_332 (by decide) ?_
        refine X_iadd C dL_law_333 ?_
        refine X_sld C hX hbl hbA v3 dL_law_334 ?_
        refine X_callVi C eX6_passOf [.int (xs (Int32.toNatClampNeg (nI i + (1 : Int32)))), .int (xs (Int32.toNatClampNeg (nI i + (2 : Int32)))), .int (xs (Int32.toNatClampNeg (nI i + (3 : Int32))))] [] (M_X6_passOf C.g_J hFu h) (hFu _ (by decide)) (wc_0 _ _) rfl q_428 rfl ⟨Nat.le_of_ble_eq_true rfl, Nat.le_of_ble_eq_true rfl⟩ rfl (Nat.le_of_ble_eq_true rfl) dL_law_335 (fun r1 S1 h => ?_)
        refine X_aload_n C 2 2 dL_law_338 rfl rfl ?_
        refine X_aload_n C 0 0 dL_law_339 rfl rfl ?_
        refine X_iload_n C 3 3 dL_law_340 rfl rfl ?_
        refine X_iconst C 1 dL_law_341 (by decide) ?_
        refine X_iadd C dL_law_342 ?_
        refine X_sld C hX hbl hbA v1 dL_law_343 ?_
        refine X_aload_n C 0 0 dL_law_344 rfl rfl ?_
        refine X_iload_n C 3 3 dL_law_345 rfl rfl ?_
        refine X_iconst C 2 dL_law_346 (by decide) ?_
        refine X_iadd C dL_law_347 ?_
        refine X_sld C hX hbl hbA v2 dL_law_348 ?_
        refine X_aload_n C 0 0 dL_law_349 rfl rfl ?_
        refine X_iload_n C 3 3 dL_law_350 rfl rfl ?_
        refine X_iconst C 3 dL_law_351 (by decide) ?_
        refine X_iadd C dL_law_352 ?_
        refine X_sld C hX hbl hbA v3 dL_law_353 ?_
        refine X_callVi C eX7_passOf [.int (xs (Int32.toNatClampNeg (nI i + (1 : Int32)))), .int (xs (Int32.toNatClampNeg (nI i + (2 : Int32)))), .int (xs (Int32.toNatClampNeg (nI i + (3 : Int32))))] [.int r1] (M_X7_passOf C.g_J hFu h) (hFu _ (by decide)) (wc_53 _ _) rfl q_776 rfl ⟨Nat.le_of_ble_eq_true rfl, Nat.le_of_ble_eq_true rfl⟩ rfl (Nat.le_of_ble_eq_true rfl) dL_law_354 (fun r2 S2 h => ?_)
        exact X_icmp_eq C 628 dL_law_357 (by decide) (fun _ => hnext S2 h.2) (fun c => absurd h.1 c)
      by_cases c8 : (xs (Int32.toNatClampNeg (nI i)) &&& (31 : Int32)) = 8
      · refine X_tin (off := 330) C 362 dL_law_32 (by rw [c8]; decide) (by rw [c8]; decide) (by rw [c8]; rfl) (by decide) ?_
        have h := hs.2.2.2.2.2.2.2.2.1 S (xs (Int32.toNatClampNeg (nI i + (1 : Int32)))) (xs (Int32.toNatClampNeg (nI i + (2 : Int32)))) hI
        refine X_aload_n C 1 1 dL_law_362 rfl rfl ?_
        refine X_aload_n C 0 0 dL_law_363 rfl rfl ?_
        refine X_iload_n C 3 3 dL_law_364 rfl rfl ?_
        refine X_iconst C 1 dL_law_365 (by decide) ?_
        refine X_iadd C dL_law_366 ?_
        refine X_sld C hX hbl hbA v1 dL_law_367 ?_
        refine X_aload_n C 0 0 dL_law_368 rfl rfl ?_
        refine X_iload_n C 3 3 dL_law_369 rfl rfl ?_
        refine X_iconst C 2 dL_law_370 (by decide) ?_
        refine X_iadd C dL_law_371 ?_
        refine X_sld C hX hbl hbA v2 dL_law_372 ?_
        refine X_callVi C eX6_spillOf [.int (xs (Int32.toNatClampNeg (nI i + (1 : Int32)))), .int (xs (Int32.toNatClampNeg (nI i + (2 : Int32))))] [] (M_X6_spillOf C.g_J hFu h) (hFu _ (by decide)) (wc_0 _ _) rfl q_436 rfl ⟨Nat.le_of_ble_eq_true rfl, Nat.le_of_ble_eq_true rfl⟩ rfl (Nat.le_of_ble_eq_true rfl) dL_law_373 (fun r1 S1 h => ?_)
        refine X_aload_n C 2 2 dL_law_376 rfl rfl ?_
        refine X_aload_n C 0 0 dL_law_377 rfl rfl ?_
        refine X_iload_n C 3 3 dL_law_378 rfl rfl ?_
        refine X_iconst C 1 dL_law_379 (by decide) ?_
        refine X_iadd C dL_law_380 ?_
        refine X_sld C hX hbl hbA v1 dL_law_381 ?_
        refine X_aload_n C 0 0 dL_law_382 rfl rfl ?_
        refine X_iload_n C 3 3 dL_law_383 rfl rfl ?_
        refine X_iconst C 2 dL_law_384 (by decide) ?_
        refine X_iadd C dL_law_385 ?_
        refine X_sld C hX hbl hbA v2 dL_law_386 ?_
        refine X_callVi C eX7_spillOf [.int (xs (Int32.toNatClampNeg (nI i + (1 : Int32)))), .int (xs (Int32.toNatClampNeg (nI i + (2 : Int32))))] [.int r1] (M_X7_spillOf C.g_J hFu h) (hFu _ (by decide)) (wc_53 _ _) rfl q_782 rfl ⟨Nat.le_of_ble_eq_true rfl, Nat.le_of_ble_eq_true rfl⟩ rfl (Nat.le_of_ble_eq_true rfl) dL_law_387 (fun r2 S2 h => ?_)
        exact X_icmp_eq C 628 dL_law_390 (by decide) (fun _ => hnext S2 h.2) (fun c => absurd h.1 c)
      by_cases c9 : (xs (Int32.toNatClampNeg (nI i)) &&& (31 : Int32)) = 9
      · refine X_tin (off := 363) C 395 dL_law_32 (by rw [c9]; decide) (by rw [c9]; decide) (by rw [c9]; rfl) (by decide) ?_
        have h := hs.2.2.2.2.2.2.2.2.2.1 S (xs (Int32.toNatClampNeg (nI i + (1 : Int32)))) hI
        refine X_aload_n C 1 1 dL_law_395 rfl rfl ?_
        refine X_aload_n C 0 0 dL_law_396 rfl rfl ?_
        refine X_iload_n C 3 3 dL_law_397 rfl rfl ?_
        refine X_iconst C 1 dL_law_398 (by decide) ?_
        refine X_iadd C dL_law_399 ?_
        refine X_sld C hX hbl hbA v1 dL_law_400 ?_
        refine X_callVi C eX6_total [.int (xs (Int32.toNatClampNeg (nI i + (1 : Int32))))] [] (M_X6_total C.g_J hFu h) (hFu _ (by decide)) (wc_0 _ _) rfl q_440 rfl ⟨Nat.le_of_ble_eq_true rfl, Nat.le_of_ble_eq_true rfl⟩ rfl (Nat.le_of_ble_eq_true rfl) dL_law_401 (fun r1 S1 h => ?_)
        refine X_aload_n C 2 2 dL_law_404 rfl rfl ?_
        refine X_aload_n C 0 0 dL_law_405 rfl rfl ?_
        refine X_iload_n C 3 3 dL_law_406 rfl rfl ?_
        refine X_iconst C 1 dL_law_407 (by decide) ?_
        refine X_iadd C dL_law_408 ?_
        refine X_sld C hX hbl hbA v1 dL_law_409 ?_
        refine X_callVi C eX7_total [.int (xs (Int32.toNatClampNeg (nI i + (1 : Int32))))] [.int r1] (M_X7_total C.g_J hFu h) (hFu _ (by decide)) (wc_53 _ _) rfl q_786 rfl ⟨Nat.le_of_ble_eq_true rfl, Nat.le_of_ble_eq_true rfl⟩ rfl (Nat.le_of_ble_eq_true rfl) dL_law_410 (fun r2 S2 h => ?_)
        exact X_icmp_eq C 628 dL_law_413 (by decide) (fun _ => hnext S2 h.2) (fun c => absurd h.1 c)
      by_cases c10 : (xs (Int32.toNatClampNeg (nI i)) &&& (31 : Int32)) = 10
      · refine X_tin (off := 386) C 418 dL_law_32 (by rw [c10]; decide) (by rw [c10]; decide) (by rw [c10]; rfl) (by decide) ?_
        have h := hs.2.2.2.2.2.2.2.2.2.2.1 S (xs (Int32.toNatClampNeg (nI i + (1 : Int32)))) (xs (Int32.toNatClampNeg (nI i + (2 : Int32)))) hI
        refine X_aload_n C 1 1 dL_law_418 rfl rfl ?_
        refine X_aload_n C 0 0 dL_law_419 rfl rfl ?_
        refine X_iload_n C 3 3 dL_law_420 rfl rfl ?_
        refine X_iconst C 1 dL_law_421 (by decide) ?_
        refine X_iadd C dL_law_422 ?_
        refine X_sld C hX hbl hbA v1 dL_law_423 ?_
        refine X_aload_n C 0 0 dL_law_424 rfl rfl ?_
        refine X_iload_n C 3 3 dL_law_425 rfl rfl ?_
        refine X_iconst C 2 dL_law_426 (by decide) ?_
        refine X_iadd C dL_law_427 ?_
        refine X_sld C hX hbl hbA v2 dL_law_428 ?_
        refine X_callVi C eX6_written [.int (xs (Int32.toNatClampNeg (nI i + (1 : Int32)))), .int (xs (Int32.toNatClampNeg (nI i + (2 : Int32))))] [] (M_X6_written C.g_J hFu h) (hFu _ (by decide)) (wc_0 _ _) rfl q_461 rfl ⟨Nat.le_of_ble_eq_true rfl, Nat.le_of_ble_eq_true rfl⟩ rfl (Nat.le_of_ble_eq_true rfl) dL_law_429 (fun r1 S1 h => ?_)
        refine X_aload_n C 2 2 dL_law_432 rfl rfl ?_
        refine X_aload_n C 0 0 dL_law_433 rfl rfl ?_
        refine X_iload_n C 3 3 dL_law_434 rfl rfl ?_
        refine X_iconst C 1 dL_law_435 (by decide) ?_
        refine X_iadd C dL_law_436 ?_
        refine X_sld C hX hbl hbA v1 dL_law_437 ?_
        refine X_aload_n C 0 0 dL_law_438 rfl rfl ?_
        refine X_iload_n C 3 3 dL_law_439 rfl rfl ?_
        refine X_iconst C 2 dL_law_440 (by decide) ?_
        refine X_iadd C dL_law_441 ?_
        refine X_sld C hX hbl hbA v2 dL_law_442 ?_
        refine X_callVi C eX7_written [.int (xs (Int32.toNatClampNeg (nI i + (1 : Int32)))), .int (xs (Int32.toNatClampNeg (nI i + (2 : Int32))))] [.int r1] (M_X7_written C.g_J hFu h) (hFu _ (by decide)) (wc_53 _ _) rfl q_802 rfl ⟨Nat.le_of_ble_eq_true rfl, Nat.le_of_ble_eq_true rfl⟩ rfl (Nat.le_of_ble_eq_true rfl) dL_law_443 (fun r2 S2 h => ?_)
        exact X_icmp_eq C 628 dL_law_446 (by decide) (fun _ => hnext S2 h.2) (fun c => absurd h.1 c)
      by_cases c11 : (xs (Int32.toNatClampNeg (nI i)) &&& (31 : Int32)) = 11
      · refine X_tin (off := 419) C 451 dL_law_32 (by rw [c11]; decide) (by rw [c11]; decide) (by rw [c11]; rfl) (by decide) ?_
        have h := hs.2.2.2.2.2.2.2.2.2.2.2.1 S (xs (Int32.toNatClampNeg (nI i + (1 : Int32)))) (xs (Int32.toNatClampNeg (nI i + (2 : Int32)))) hI
        refine X_aload_n C 1 1 dL_law_451 rfl rfl ?_
        refine X_aload_n C 0 0 dL_law_452 rfl rfl ?_
        refine X_iload_n C 3 3 dL_law_453 rfl rfl ?_
        refine X_iconst C 1 dL_law_454 (by decide) ?_
        refine X_iadd C dL_law_455 ?_
        refine X_sld C hX hbl hbA v1 dL_law_456 ?_
        refine X_aload_n C 0 0 dL_law_457 rfl rfl ?_
        refine X_iload_n C 3 3 dL_law_458 rfl rfl ?_
        refine X_iconst C 2 dL_law_459 (by decide) ?_
        refine X_iadd C dL_law_460 ?_
        refine X_sld C hX hbl hbA v2 dL_law_461 ?_
        refine X_callVi C eX6_bestBits [.int (xs (Int32.toNatClampNeg (nI i + (1 : Int32)))), .int (xs (Int32.toNatClampNeg (nI i + (2 : Int32))))] [] (M_X6_bestBits C.g_J hFu h) (hFu _ (by decide)) (wc_0 _ _) rfl q_469 rfl ⟨Nat.le_of_ble_eq_true rfl, Nat.le_of_ble_eq_true rfl⟩ rfl (Nat.le_of_ble_eq_true rfl) dL_law_462 (fun r1 S1 h => ?_)
        refine X_aload_n C 2 2 dL_law_465 rfl rfl ?_
        refine X_aload_n C 0 0 dL_law_466 rfl rfl ?_
        refine X_iload_n C 3 3 dL_law_467 rfl rfl ?_
        refine X_iconst C 1 dL_law_468 (by decide) ?_
        refine X_iadd C dL_law_469 ?_
        refine X_sld C hX hbl hbA v1 dL_law_470 ?_
        refine X_aload_n C 0 0 dL_law_471 rfl rfl ?_
        refine X_iload_n C 3 3 dL_law_472 rfl rfl ?_
        refine X_iconst C 2 dL_law_473 (by decide) ?_
        refine X_iadd C dL_law_474 ?_
        refine X_sld C hX hbl hbA v2 dL_law_475 ?_
        refine X_callVi C eX7_bestBits [.int (xs (Int32.toNatClampNeg (nI i + (1 : Int32)))), .int (xs (Int32.toNatClampNeg (nI i + (2 : Int32))))] [.int r1] (M_X7_bestBits C.g_J hFu h) (hFu _ (by decide)) (wc_53 _ _) rfl q_810 rfl ⟨Nat.le_of_ble_eq_true rfl, Nat.le_of_ble_eq_true rfl⟩ rfl (Nat.le_of_ble_eq_true rfl) dL_law_476 (fun r2 S2 h => ?_)
        exact X_icmp_eq C 628 dL_law_479 (by decide) (fun _ => hnext S2 h.2) (fun c => absurd h.1 c)
      by_cases c12 : (xs (Int32.toNatClampNeg (nI i)) &&& (31 : Int32)) = 12
      · refine X_tin (off := 452) C 484 dL_law_32 (by rw [c12]; decide) (by rw [c12]; decide) (by rw [c12]; rfl) (by decide) ?_
        have h := hs.2.2.2.2.2.2.2.2.2.2.2.2.1 S hI
        refine X_aload_n C 1 1 dL_law_484 rfl rfl ?_
        refine X_callVi C eX6_enough [] [] (M_X6_enough C.g_J hFu h) (hFu _ (by decide)) (wc_0 _ _) rfl q_473 rfl ⟨Nat.le_of_ble_eq_true rfl, Nat.le_of_ble_eq_true rfl⟩ rfl (Nat.le_of_ble_eq_true rfl) dL_law_485 (fun r1 S1 h => ?_)
        refine X_aload_n C 2 2 dL_law_488 rfl rfl ?_
        refine X_callVi C eX7_enough [] [.int r1] (M_X7_enough C.g_J hFu h) (hFu _ (by decide)) (wc_53 _ _) rfl q_814 rfl ⟨Nat.le_of_ble_eq_true rfl, Nat.le_of_ble_eq_true rfl⟩ rfl (Nat.le_of_ble_eq_true rfl) dL_law_489 (fun r2 S2 h => ?_)
        exact X_icmp_eq C 628 dL_law_492 (by decide) (fun _ => hnext S2 h.2) (fun c => absurd h.1 c)
      by_cases c13 : (xs (Int32.toNatClampNeg (nI i)) &&& (31 : Int32)) = 13
      · refine X_tin (off := 465) C 497 dL_law_32 (by rw [c13]; decide) (by rw [c13]; decide) (by rw [c13]; rfl) (by decide) ?_
        have h := hs.2.2.2.2.2.2.2.2.2.2.2.2.2.1 S (xs (Int32.toNatClampNeg (nI i + (1 : Int32)))) hI
        refine X_aload_n C 1 1 dL_law_497 rfl rfl ?_
        refine X_aload_n C 0 0 dL_law_498 rfl rfl ?_
        refine X_iload_n C 3 3 dL_law_499 rfl rfl ?_
        refine X_iconst C 1 dL_law_500 (by decide) ?_
        refine X_iadd C dL_law_501 ?_
        refine X_sld C hX hbl hbA v1 dL_law_502 ?_
        refine X_callVi C eX6_skewed [.int (xs (Int32.toNatClampNeg (nI i + (1 : Int32))))] [] (M_X6_skewed C.g_J hFu h) (hFu _ (by decide)) (wc_0 _ _) rfl q_478 rfl ⟨Nat.le_of_ble_eq_true rfl, Nat.le_of_ble_eq_true rfl⟩ rfl (Nat.le_of_ble_eq_true rfl) dL_law_503 (fun r1 S1 h => ?_)
        refine X_aload_n C 2 2 dL_law_506 rfl rfl ?_
        refine X_aload_n C 0 0 dL_law_507 rfl rfl ?_
        refine X_iload_n C 3 3 dL_law_508 rfl rfl ?_
        refine X_iconst C 1 dL_law_509 (by decide) ?_
        refine X_iadd C dL_law_510 ?_
        refine X_sld C hX hbl hbA v1 dL_law_511 ?_
        refine X_callVi C eX7_skewed [.int (xs (Int32.toNatClampNeg (nI i + (1 : Int32))))] [.int r1] (M_X7_skewed C.g_J hFu h) (hFu _ (by decide)) (wc_53 _ _) rfl q_818 rfl ⟨Nat.le_of_ble_eq_true rfl, Nat.le_of_ble_eq_true rfl⟩ rfl (Nat.le_of_ble_eq_true rfl) dL_law_512 (fun r2 S2 h => ?_)
        exact X_icmp_eq C 628 dL_law_515 (by decide) (fun _ => hnext S2 h.2) (fun c => absurd h.1 c)
      by_cases c14 : (xs (Int32.toNatClampNeg (nI i)) &&& (31 : Int32)) = 14
      · refine X_tin (off := 488) C 520 dL_law_32 (by rw [c14]; decide) (by rw [c14]; decide) (by rw [c14]; rfl) (by decide) ?_
        have h := hs.2.2.2.2.2.2.2.2.2.2.2.2.2.2.1 S (xs (Int32.toNatClampNeg (nI i + (1 : Int32)))) hI
        refine X_aload_n C 1 1 dL_law_520 rfl rfl ?_
        refine X_aload_n C 0 0 dL_law_521 rfl rfl ?_
        refine X_iload_n C 3 3 dL_law_522 rfl rfl ?_
        refine X_iconst C 1 dL_law_523 (by decide) ?_
        refine X_iadd C dL_law_524 ?_
        refine X_sld C hX hbl hbA v1 dL_law_525 ?_
        refine X_callVi C eX6_count [.int (xs (Int32.toNatClampNeg (nI i + (1 : Int32))))] [] (M_X6_count C.g_J hFu h) (hFu _ (by decide)) (wc_0 _ _) rfl q_490 rfl ⟨Nat.le_of_ble_eq_true rfl, Nat.le_of_ble_eq_true rfl⟩ rfl (Nat.le_of_ble_eq_true rfl) dL_law_526 (fun r1 S1 h => ?_)
        refine X_aload_n C 2 2 dL_law_529 rfl rfl ?_
        refine X_aload_n C 0 0 dL_law_530 rfl rfl ?_
        refine X_iload_n C 3 3 dL_law_531 rfl rfl ?_
        refine X_iconst C 1 dL_law_532 (by decide) ?_
        refine X_iadd C dL_law_533 ?_
        refine X_sld C hX hbl hbA v1 dL_law_534 ?_
        refine X_callVi C eX7_count [.int (xs (Int32.toNatClampNeg (nI i + (1 : Int32))))] [.int r1] (M_X7_count C.g_J hFu h) (hFu _ (by decide)) (wc_53 _ _) rfl q_835 rfl ⟨Nat.le_of_ble_eq_true rfl, Nat.le_of_ble_eq_true rfl⟩ rfl (Nat.le_of_ble_eq_true rfl) dL_law_535 (fun r2 S2 h => ?_)
        exact X_icmp_eq C 628 dL_law_538 (by decide) (fun _ => hnext S2 h.2) (fun c => absurd h.1 c)
      by_cases c15 : (xs (Int32.toNatClampNeg (nI i)) &&& (31 : Int32)) = 15
      · refine X_tin (off := 511) C 543 dL_law_32 (by rw [c15]; decide) (by rw [c15]; decide) (by rw [c15]; rfl) (by decide) ?_
        have h := hs.2.2.2.2.2.2.2.2.2.2.2.2.2.2.2.1 S hI
        refine X_aload_n C 1 1 dL_law_543 rfl rfl ?_
        refine X_callVi C eX6_undo [] [] (M_X6_undo C.g_J hFu h) (hFu _ (by decide)) (wc_0 _ _) rfl q_499 rfl ⟨Nat.le_of_ble_eq_true rfl, Nat.le_of_ble_eq_true rfl⟩ rfl (Nat.le_of_ble_eq_true rfl) dL_law_544 (fun r1 S1 h => ?_)
        refine X_aload_n C 2 2 dL_law_547 rfl rfl ?_
        refine X_callVi C eX7_undo [] [.int r1] (M_X7_undo C.g_J hFu h) (hFu _ (by decide)) (wc_53 _ _) rfl q_841 rfl ⟨Nat.le_of_ble_eq_true rfl, Nat.le_of_ble_eq_true rfl⟩ rfl (Nat.le_of_ble_eq_true rfl) dL_law_548 (fun r2 S2 h => ?_)
        exact X_icmp_eq C 628 dL_law_551 (by decide) (fun _ => hnext S2 h.2) (fun c => absurd h.1 c)
      by_cases c16 : (xs (Int32.toNatClampNeg (nI i)) &&& (31 : Int32)) = 16
      · refine X_tin (off := 524) C 556 dL_law_32 (by rw [c16]; decide) (by rw [c16]; decide) (by rw [c16]; rfl) (by decide) ?_
        have h := hs.2.2.2.2.2.2.2.2.2.2.2.2.2.2.2.2.1 S (xs (Int32.toNatClampNeg (nI i + (1 : Int32)))) hI
        refine X_aload_n C 1 1 dL_law_556 rfl rfl ?_
        refine X_aload_n C 0 0 dL_law_557 rfl rfl ?_
        refine X_iload_n C 3 3 dL_law_558 rfl rfl ?_
        refine X_iconst C 1 dL_law_559 (by decide) ?_
        refine X_iadd C dL_law_560 ?_
        refine X_sld C hX hbl hbA v1 dL_law_561 ?_
        refine X_callVi C eX6_type [.int (xs (Int32.toNatClampNeg (nI i + (1 : Int32))))] [] (M_X6_type C.g_J hFu h) (hFu _ (by decide)) (wc_0 _ _) rfl q_507 rfl ⟨Nat.le_of_ble_eq_true rfl, Nat.le_of_ble_eq_true rfl⟩ rfl (Nat.le_of_ble_eq_true rfl) dL_law_562 (fun r1 S1 h => ?_)
        refine X_aload_n C 2 2 dL_law_565 rfl rfl ?_
        refine X_aload_n C 0 0 dL_law_566 rfl rfl ?_
        refine X_iload_n C 3 3 dL_law_567 rfl rfl ?_
        refine X_iconst C 1 dL_law_568 (by decide) ?_
        refine X_iadd C dL_law_569 ?_
        refine X_sld C hX hbl hbA v1 dL_law_570 ?_
        refine X_callVi C eX7_type [.int (xs (Int32.toNatClampNeg (nI i + (1 : Int32))))] [.int r1] (M_X7_type C.g_J hFu h) (hFu _ (by decide)) (wc_53 _ _) rfl q_845 rfl ⟨Nat.le_of_ble_eq_true rfl, Nat.le_of_ble_eq_true rfl⟩ rfl (Nat.le_of_ble_eq_true rfl) dL_law_571 (fun r2 S2 h => ?_)
        exact X_icmp_eq C 628 dL_law_574 (by decide) (fun _ => hnext S2 h.2) (fun c => absurd h.1 c)
      by_cases c17 : (xs (Int32.toNatClampNeg (nI i)) &&& (31 : Int32)) = 17
      · refine X_tin (off := 547) C 579 dL_law_32 (by rw [c17]; decide) (by rw [c17]; decide) (by rw [c17]; rfl) (by decide) ?_
        have h := hs.2.2.2.2.2.2.2.2.2.2.2.2.2.2.2.2.2.1 S hI
        refine X_aload_n C 1 1 dL_law_579 rfl rfl ?_
        refine X_callVi C eX6_clearText [] [] (M_X6_clearText C.g_J hFu h) (hFu _ (by decide)) (wc_0 _ _) rfl q_512 rfl ⟨Nat.le_of_ble_eq_true rfl, Nat.le_of_ble_eq_true rfl⟩ rfl (Nat.le_of_ble_eq_true rfl) dL_law_580 (fun r1 S1 h => ?_)
        refine X_aload_n C 2 2 dL_law_583 rfl rfl ?_
        refine X_callVi C eX7_clearText [] [.int r1] (M_X7_clearText C.g_J hFu h) (hFu _ (by decide)) (wc_53 _ _) rfl q_851 rfl ⟨Nat.le_of_ble_eq_true rfl, Nat.le_of_ble_eq_true rfl⟩ rfl (Nat.le_of_ble_eq_true rfl) dL_law_584 (fun r2 S2 h => ?_)
        exact X_icmp_eq C 628 dL_law_587 (by decide) (fun _ => hnext S2 h.2) (fun c => absurd h.1 c)
      by_cases c18 : (xs (Int32.toNatClampNeg (nI i)) &&& (31 : Int32)) = 18
      · refine X_tin (off := 560) C 592 dL_law_32 (by rw [c18]; decide) (by rw [c18]; decide) (by rw [c18]; rfl) (by decide) ?_
        have h := hs.2.2.2.2.2.2.2.2.2.2.2.2.2.2.2.2.2.2.1 S (xs (Int32.toNatClampNeg (nI i + (1 : Int32)))) hI
        refine X_aload_n C 1 1 dL_law_592 rfl rfl ?_
        refine X_aload_n C 0 0 dL_law_593 rfl rfl ?_
        refine X_iload_n C 3 3 dL_law_594 rfl rfl ?_
        refine X_iconst C 1 dL_law_595 (by decide) ?_
        refine X_iadd C dL_law_596 ?_
        refine X_sld C hX hbl hbA v1 dL_law_597 ?_
        refine X_callVi C eX6_fault [.int (xs (Int32.toNatClampNeg (nI i + (1 : Int32))))] [] (M_X6_fault C.g_J hFu h) (hFu _ (by decide)) (wc_0 _ _) rfl q_516 rfl ⟨Nat.le_of_ble_eq_true rfl, Nat.le_of_ble_eq_true rfl⟩ rfl (Nat.le_of_ble_eq_true rfl) dL_law_598 (fun r1 S1 h => ?_)
        refine X_aload_n C 2 2 dL_law_601 rfl rfl ?_
        refine X_aload_n C 0 0 dL_law_602 rfl rfl ?_
        refine X_iload_n C 3 3 dL_law_603 rfl rfl ?_
        refine X_iconst C 1 dL_law_604 (by decide) ?_
        refine X_iadd C dL_law_605 ?_
        refine X_sld C hX hbl hbA v1 dL_law_606 ?_
        refine X_callVi C eX7_fault [.int (xs (Int32.toNatClampNeg (nI i + (1 : Int32))))] [.int r1] (M_X7_fault C.g_J hFu h) (hFu _ (by decide)) (wc_53 _ _) rfl q_855 rfl ⟨Nat.le_of_ble_eq_true rfl, Nat.le_of_ble_eq_true rfl⟩ rfl (Nat.le_of_ble_eq_true rfl) dL_law_607 (fun r2 S2 h => ?_)
        exact X_icmp_eq C 628 dL_law_610 (by decide) (fun _ => hnext S2 h.2) (fun c => absurd h.1 c)
      by_cases c19 : (xs (Int32.toNatClampNeg (nI i)) &&& (31 : Int32)) = 19
      · refine X_tin (off := 583) C 615 dL_law_32 (by rw [c19]; decide) (by rw [c19]; decide) (by rw [c19]; rfl) (by decide) ?_
        have h := hs.2.2.2.2.2.2.2.2.2.2.2.2.2.2.2.2.2.2.2 S hI
        refine X_aload_n C 1 1 dL_law_615 rfl rfl ?_
        refine X_callVi C eX6_play [] [] (M_X6_play C.g_J hFu h) (hFu _ (by decide)) (wc_0 _ _) rfl q_543 rfl ⟨Nat.le_of_ble_eq_true rfl, Nat.le_of_ble_eq_true rfl⟩ rfl (Nat.le_of_ble_eq_true rfl) dL_law_616 (fun r1 S1 h => ?_)
        refine X_aload_n C 2 2 dL_law_619 rfl rfl ?_
        refine X_callVi C eX7_play [] [.int r1] (M_X7_play C.g_J hFu h) (hFu _ (by decide)) (wc_53 _ _) rfl q_877 rfl ⟨Nat.le_of_ble_eq_true rfl, Nat.le_of_ble_eq_true rfl⟩ rfl (Nat.le_of_ble_eq_true rfl) dL_law_620 (fun r2 S2 h => ?_)
        exact X_icmp_eq C 628 dL_law_623 (by decide) (fun _ => hnext S2 h.2) (fun c => absurd h.1 c)
      have e0 := lv_neT c0 (show (0 : Int32).toInt = 0 from rfl)
      have e1 := lv_neT c1 (show (1 : Int32).toInt = 1 from rfl)
      have e2 := lv_neT c2 (show (2 : Int32).toInt = 2 from rfl)
      have e3 := lv_neT c3 (show (3 : Int32).toInt = 3 from rfl)
      have e4 := lv_neT c4 (show (4 : Int32).toInt = 4 from rfl)
      have e5 := lv_neT c5 (show (5 : Int32).toInt = 5 from rfl)
      have e6 := lv_neT c6 (show (6 : Int32).toInt = 6 from rfl)
      have e7 := lv_neT c7 (show (7 : Int32).toInt = 7 from rfl)
      have e8 := lv_neT c8 (show (8 : Int32).toInt = 8 from rfl)
      have e9 := lv_neT c9 (show (9 : Int32).toInt = 9 from rfl)
      have e10 := lv_neT c10 (show (10 : Int32).toInt = 10 from rfl)
      have e11 := lv_neT c11 (show (11 : Int32).toInt = 11 from rfl)
      have e12 := lv_neT c12 (show (12 : Int32).toInt = 12 from rfl)
      have e13 := lv_neT c13 (show (13 : Int32).toInt = 13 from rfl)
      have e14 := lv_neT c14 (show (14 : Int32).toInt = 14 from rfl)
      have e15 := lv_neT c15 (show (15 : Int32).toInt = 15 from rfl)
      have e16 := lv_neT c16 (show (16 : Int32).toInt = 16 from rfl)
      have e17 := lv_neT c17 (show (17 : Int32).toInt = 17 from rfl)
      have e18 := lv_neT c18 (show (18 : Int32).toInt = 18 from rfl)
      have e19 := lv_neT c19 (show (19 : Int32).toInt = 19 from rfl)
      refine X_tout C 628 dL_law_32 (by omega) (by decide) ?_
      exact hnext S hI
