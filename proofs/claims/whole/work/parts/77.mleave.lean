/-! the reference: files become passes that wait; a whole pass -/
def nW (o : OUT) : Nat := (o.1.map (fun r => r.2.2.2.2.2.1)).sum
theorem nW_app (x y : OUT) : nW (appO x y) = nW x + nW y := by unfold nW appO; rw [List.map_append, List.sum_append]
theorem T_W {h : Nat → Nat} {b lim : Nat} (hlim : 1 ≤ lim) : ∀ (d l pre : Nat) (items : List Nat), nW (T h b lim d l pre items) ≤ items.length * d := by
  intro d
  induction d with
  | zero => intro l pre items; exact Nat.zero_le _
  | succ d ih =>
    intro l pre items
    have g : PI h b lim l (d == 0) items (passR h b lim l (d == 0) items) := PI.all hlim items
    rw [T_mu nW nW_app]
    have h1 : nW (ownT h b lim d l pre items) ≤ items.length := by
      have e : nW (ownT h b lim d l pre items) = (passR h b lim l (d == 0) items).2.2.2.1 := Nat.add_zero _
      have := g.s7
      omega
    have h2 := sum_le (L := kidsP b (passR h b lim l (d == 0) items)) (f := fun p => nW (kidT h b lim d l pre items p)) (g := fun p => ((passR h b lim l (d == 0) items).2.2.1 p).length * d) (fun p _ => ih _ _ _)
    rw [sum_mul] at h2
    have h3 := kids_sum g
    have h4 := g.s7
    have h5 : ((kidsP b (passR h b lim l (d == 0) items)).map (fun p => ((passR h b lim l (d == 0) items).2.2.1 p).length)).sum * d ≤ items.length * d := Nat.mul_le_mul_right _ (by omega)
    rw [Nat.mul_succ]
    omega
def EntM (S : Mem) (pos l pre : Nat) (v : Int32) : Prop := S 61 (3 * pos) = nI l ∧ S 61 (3 * pos + 1) = nI pre ∧ S 61 (3 * pos + 2) = v
def Stk (S : Mem) (w l pre b : Nat) (fst : Nat → Int32) : List Nat → Prop
  | [] => True
  | p :: ps => EntM S (w + ps.length) l (pre * 2 ^ b + p) (fst p) ∧ Stk S w l pre b fst ps
theorem Stk.eq {S S' : Mem} {w l pre b : Nat} {fst : Nat → Int32} : ∀ {ps : List Nat}, Stk S w l pre b fst ps → (∀ t, t < 3 * (w + ps.length) → S' 61 t = S 61 t) → Stk S' w l pre b fst ps
  | [], _, _ => trivial
  | p :: ps, h, f => by
    rw [List.length_cons] at f
    obtain ⟨⟨h1, h2, h3⟩, h4⟩ := h
    exact ⟨⟨(f _ (by omega)).trans h1, (f _ (by omega)).trans h2, (f _ (by omega)).trans h3⟩, Stk.eq h4 (fun t ht => f t (by omega))⟩
theorem neg1 {t : Nat} : nI (t + 1) + (-1 : Int32) = nI t := by
  rw [← nI_1, Int32.add_assoc, show (1 : Int32) + (-1) = 0 from by decide, Int32.add_zero]
section
variable {a : AS} {lim b l d pre : Nat} {o : OUT} {n cnt0 cnt : Nat} {σ : PS} {FL : Nat → List It} {last : Bool}
theorem m_leaveA {s0 : Nat} {sp : List (Nat × Nat)} {F : Nat → List Nat} (hs : s0 + sp.length ≤ 1899) (hlt : ∀ q ∈ sp, q.1 < 16) {K : Mem → Prop} : ∀ (m f j : Nat) (S : Mem), j + m = sp.length → m < f → S 53 10 = nI (s0 + sp.length) → (∀ i q, sp[i]? = some q → SM4 S (s0 + i) (l, pre, q.1, q.2)) → (∀ q ∈ sp, S 64 q.1 = nI (F q.1).length) → (∀ i q, i < j → sp[i]? = some q → S 59 (5 * (s0 + i) + 4) = nI (F q.1).length) →
    (∀ S', (∀ i q, sp[i]? = some q → SMr S' (s0 + i) (l, pre, q.1, q.2, (F q.1).length)) → (∀ i, i ≠ 59 → S' i = S i) → (∀ t, t < 5 * s0 → S' 59 t = S 59 t) → B_X7_leavesFiles_41 K S') → B_X7_leavesFiles_2 K f S (nI (s0 + j)) := by
  intro m
  induction m with
  | zero =>
    intro f j S hj hf h10 h4 h64 hd k
    match f, hf with
    | f + 1, _ =>
      refine ⟨fun _ => k S (fun i q hq => ⟨h4 i q hq, hd i q (by have := (List.getElem?_eq_some_iff.mp hq).1; omega) hq⟩) (fun _ _ => rfl) (fun _ _ => rfl), fun z => absurd (by rw [h10]; exact (nI_leI (by omega) (by omega)).mpr (by omega)) z⟩
  | succ m ih =>
    intro f j S hj hf h10 h4 h64 hd k
    match f, hf with
    | f + 1, hf =>
      have hjl : j < sp.length := by omega
      have hx : sp[j]? = some (sp[j]'hjl) := List.getElem?_eq_getElem hjl
      have hxm := List.getElem_mem hjl
      obtain ⟨x, hxe⟩ : ∃ x, sp[j]'hjl = x := ⟨_, rfl⟩
      rw [hxe] at hx hxm
      have h16 := hlt x hxm
      refine ⟨fun z => absurd (by rw [h10] at z; exact (nI_leI (by omega) (by omega)).mp z) (by omega), fun _ => ?_⟩
      have p2 : (5 : Int32) * nI (s0 + j) + (2 : Int32) = nI (5 * (s0 + j) + 2) := by rw [mul5]; exact nI_add _ 2
      have p4 : (5 : Int32) * nI (s0 + j) + (4 : Int32) = nI (5 * (s0 + j) + 4) := by rw [mul5]; exact nI_add _ 4
      rw [p2, p4, clampN (by omega), clampN (by omega), show S 59 (5 * (s0 + j) + 2) = nI x.1 from (h4 j x hx).2.2.1, clampN (by omega), h64 x hxm]
      refine ⟨vin (by omega) (by omega), vin (by omega) (by omega), vin (by omega) (by omega), fun S12 hS12 => ?_⟩
      have o12 : ∀ i, i ≠ 59 → S12 i = S i := fun i hi => by rw [hS12, mput_ne _ _ _ hi]
      have e59 : ∀ t, t ≠ 5 * (s0 + j) + 4 → S12 59 t = S 59 t := fun t ht => by rw [hS12, mput_at, upd_ne _ _ ht]
      rw [nI_1, Nat.add_assoc]
      refine ih f (j + 1) S12 (by omega) (by omega) (by rw [o12 53 (by omega)]; exact h10) (fun i q hq => ?_) (fun q hq => by rw [o12 64 (by omega)]; exact h64 q hq) (fun i q hi hq => ?_) (fun S' a1 a2 a3 => k S' a1 (fun i hi => (a2 i hi).trans (o12 i hi)) (fun t ht => (a3 t ht).trans (e59 t (by omega))))
      · obtain ⟨z0, z1, z2, z3⟩ := h4 i q hq
        exact ⟨(e59 _ (by omega)).trans z0, (e59 _ (by omega)).trans z1, (e59 _ (by omega)).trans z2, (e59 _ (by omega)).trans z3⟩
      · by_cases ei : i = j
        · subst ei
          rw [hx] at hq
          cases hq
          rw [hS12, mput_at, upd_at]
        · rw [e59 _ (by omega)]
          exact hd i q (by omega) hq
theorem m_leaveB {w Pn mask : Nat} {fst : Nat → Int32} (hb : 1 ≤ b ∧ b ≤ 4) (hpre : pre < 65536) (hm : mask < 65536) (hbits : ∀ p, mask.testBit p = isSp σ p) (hw : w ≤ 250) (hPn : Pn < 1900) {K : Mem → Prop} : ∀ (t f m : Nat) (S : Mem), t + m = 2 ^ b → t < f → S 53 14 = nI b → S 53 8 = nI (Pn + 1) → S 58 (7 * Pn) = nI l → S 58 (7 * Pn + 1) = nI pre → S 58 (7 * Pn + 4) = nI mask → (∀ p, p < 16 → S 62 p = fst p) → S 53 17 = nI (w + ((List.range' t m).filter (isSp σ)).length) → Stk S w (l + 1) pre b fst ((List.range' t m).filter (isSp σ)) →
    (∀ S', S' 53 17 = nI (w + ((List.range' 0 (2 ^ b)).filter (isSp σ)).length) → Stk S' w (l + 1) pre b fst ((List.range' 0 (2 ^ b)).filter (isSp σ)) → (∀ i, i ≠ 53 → i ≠ 61 → S' i = S i) → (∀ j, j ≠ 17 → S' 53 j = S 53 j) → (∀ x, x < 3 * w → S' 61 x = S 61 x) → K S') → B_X7_leavesFiles_50 K f S (nI t + (-1 : Int32)) := by
  have h16 := pow_b hb
  intro t
  induction t with
  | zero =>
    intro f m S ht hf h14 h8 hl0 hl1 hl4 h62 h17 hst k
    match f, hf with
    | f + 1, _ =>
      rw [show m = 2 ^ b by omega] at h17 hst
      exact ⟨fun _ => k S h17 hst (fun _ _ _ => rfl) (fun _ _ => rfl) (fun _ _ => rfl), fun z => absurd (by decide) z⟩
  | succ t ih =>
    intro f m S ht hf h14 h8 hl0 hl1 hl4 h62 h17 hst k
    match f, hf with
    | f + 1, hf =>
      rw [neg1]
      have hr : List.range' t (m + 1) = t :: List.range' (t + 1) m := List.range'_succ
      have hlen : ((List.range' (t + 1) m).filter (isSp σ)).length ≤ m := by
        have := List.length_filter_le (isSp σ) (List.range' (t + 1) m)
        rw [List.length_range'] at this
        exact this
      refine ⟨fun z => absurd ((nI_ltI (b := 0) (by omega) (by omega)).mp z) (by omega), fun _ => m_last (c := 4) h8 hPn (by omega) ?_⟩
      rw [hl4, bit_test hm (by omega), hbits]
      refine ⟨fun z => ?_, fun z => m_last (c := 0) h8 hPn (by omega) ?_⟩
      · have e : (List.range' t (m + 1)).filter (isSp σ) = (List.range' (t + 1) m).filter (isSp σ) := by rw [hr, List.filter_cons, if_neg z]
        exact ih f (m + 1) S (by omega) (by omega) h14 h8 hl0 hl1 hl4 h62 (by rw [e]; exact h17) (by rw [e]; exact hst) k
      · have e : (List.range' t (m + 1)).filter (isSp σ) = t :: (List.range' (t + 1) m).filter (isSp σ) := by rw [hr, List.filter_cons, if_pos z]
        obtain ⟨ps, hps⟩ : ∃ ps, (List.range' (t + 1) m).filter (isSp σ) = ps := ⟨_, rfl⟩
        rw [hps] at e hst h17 hlen
        obtain ⟨pos, hpos⟩ : ∃ pos, w + ps.length = pos := ⟨_, rfl⟩
        rw [hpos] at h17
        rw [Nat.add_zero, hl0, h17, mul3, clampN (by omega), nI_1]
        refine ⟨vin (by omega) (by omega), fun S5 hS5 => ?_⟩
        have o5 : ∀ i, i ≠ 61 → S5 i = S i := fun i hi => by rw [hS5, mput_ne _ _ _ hi]
        refine m_last (c := 1) (by rw [o5 53 (by omega)]; exact h8) hPn (by omega) ?_
        have p1 : (3 : Int32) * nI pos + (1 : Int32) = nI (3 * pos + 1) := by rw [mul3]; exact nI_add _ 1
        have p2 : (3 : Int32) * nI pos + (2 : Int32) = nI (3 * pos + 2) := by rw [mul3]; exact nI_add _ 2
        have e1 : (nI pre <<< (nI b &&& 31)) + nI t = nI (pre * 2 ^ b + t) := by
          rw [pk_shlN _ b (sh31 b (by omega)) (by have : pre * 2 ^ b ≤ 65536 * 16 := Nat.mul_le_mul (by omega) h16.2; omega), nI_add]
        rw [o5 58 (by omega), hl1, o5 53 (by omega), h17, p1, h14, e1, clampN (by omega)]
        refine ⟨vin (by omega) (by omega), fun S8 hS8 => ⟨vin (by omega) (by omega), ?_⟩⟩
        have o8 : ∀ i, i ≠ 61 → S8 i = S i := fun i hi => by rw [hS8, mput_ne _ _ _ hi, o5 i hi]
        rw [o8 53 (by omega), h17, p2, clampN (by omega), clampN (by omega), o8 62 (by omega), h62 t (by omega)]
        refine ⟨vin (by omega) (by omega), fun S9 hS9 S10 hS10 => ?_⟩
        have o10 : ∀ i, i ≠ 53 → i ≠ 61 → S10 i = S i := fun i b1 b2 => by rw [hS10, mput_ne _ _ _ b1, hS9, mput_ne _ _ _ b2, o8 i b2]
        have e953 : S9 53 = S 53 := by rw [hS9, mput_ne _ _ _ (by omega), o8 53 (by omega)]
        have e53 : ∀ j, j ≠ 17 → S10 53 j = S 53 j := fun j hj => by rw [hS10, mput_at, upd_ne _ _ hj, e953]
        have e61 : S10 61 = upd (upd (upd (S 61) (3 * pos) (nI (l + 1))) (3 * pos + 1) (nI (pre * 2 ^ b + t))) (3 * pos + 2) (fst t) := by rw [hS10, mput_ne _ _ _ (by omega), hS9, mput_at, hS8, mput_at, hS5, mput_at]
        have low : ∀ x, x < 3 * pos → S10 61 x = S 61 x := fun x hx => by rw [e61, upd_ne _ _ (by omega), upd_ne _ _ (by omega), upd_ne _ _ (by omega)]
        refine ih f (m + 1) S10 (by omega) (by omega) (by rw [e53 _ (by omega)]; exact h14) (by rw [e53 _ (by omega)]; exact h8) (by rw [o10 58 (by omega) (by omega)]; exact hl0) (by rw [o10 58 (by omega) (by omega)]; exact hl1) (by rw [o10 58 (by omega) (by omega)]; exact hl4) (fun p hp => by rw [o10 62 (by omega) (by omega)]; exact h62 p hp) ?_ ?_ (fun S' a1 a2 a3 a4 a5 => k S' a1 a2 (fun i b1 b2 => (a3 i b1 b2).trans (o10 i b1 b2)) (fun j hj => (a4 j hj).trans (e53 j hj)) (fun x hx => (a5 x hx).trans (low x (by omega))))
        · rw [hS10, mput_at, upd_at, e953, h17, e, List.length_cons, nI_1, ← hpos]; rfl
        · rw [e]
          refine ⟨?_, hst.eq (fun x hx => low x (by omega))⟩
          rw [hpos]
          unfold EntM
          rw [e61]
          exact ⟨by rw [upd_ne _ _ (by omega), upd_ne _ _ (by omega), upd_at], by rw [upd_ne _ _ (by omega), upd_at], by rw [upd_at]⟩
end
