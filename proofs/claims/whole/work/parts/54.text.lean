/-! texts -/
def chr (tx : List Nat) (p : Nat) : Nat := tx.getD p 0
def isD (c : Nat) : Bool := decide (48 ≤ c) && decide (c ≤ 57)
def numA (tx : List Nat) : Nat → Nat → Nat → Nat × Nat
  | 0, p, acc => (acc, p)
  | n + 1, p, acc => if isD (chr tx p) = true then numA tx n (p + 1) (10 * acc + (chr tx p - 48)) else (acc, p)
/-- a row of the text from p on: where it breaks off, or what it is and what is behind it -/
def rowA (tx : List Nat) (p : Nat) : Nat ⊕ (Nat × Int32 × Nat) :=
  if (numA tx 4 p 0).2 = p then .inl p
  else if chr tx (numA tx 4 p 0).2 = 61 then
    (if (numA tx 3 (if chr tx ((numA tx 4 p 0).2 + 1) = 45 then (numA tx 4 p 0).2 + 2 else (numA tx 4 p 0).2 + 1) 0).2 = (if chr tx ((numA tx 4 p 0).2 + 1) = 45 then (numA tx 4 p 0).2 + 2 else (numA tx 4 p 0).2 + 1) then .inl (if chr tx ((numA tx 4 p 0).2 + 1) = 45 then (numA tx 4 p 0).2 + 2 else (numA tx 4 p 0).2 + 1)
     else if chr tx (numA tx 3 (if chr tx ((numA tx 4 p 0).2 + 1) = 45 then (numA tx 4 p 0).2 + 2 else (numA tx 4 p 0).2 + 1) 0).2 = 59 then
       .inr ((numA tx 4 p 0).1, (if chr tx ((numA tx 4 p 0).2 + 1) = 45 then -(nI (numA tx 3 ((numA tx 4 p 0).2 + 2) 0).1) else nI (numA tx 3 ((numA tx 4 p 0).2 + 1) 0).1), (numA tx 3 (if chr tx ((numA tx 4 p 0).2 + 1) = 45 then (numA tx 4 p 0).2 + 2 else (numA tx 4 p 0).2 + 1) 0).2 + 1)
     else .inl (numA tx 3 (if chr tx ((numA tx 4 p 0).2 + 1) = 45 then (numA tx 4 p 0).2 + 2 else (numA tx 4 p 0).2 + 1) 0).2)
  else .inl (numA tx 4 p 0).2
def parseA (tx : List Nat) (n0 : Nat) : Nat → Nat → Nat → (Nat × Nat × Nat) ⊕ AR
  | 0, _, _ => .inr []
  | f + 1, p, n => if tx.length ≤ p then .inr [] else
    match rowA tx p with
    | .inl q => .inl (p, 1, q - p)
    | .inr (k, v, p') => if n = 100 then .inl (p, 2, 100 - n0) else
      match parseA tx n0 f p' (n + 1) with
      | .inl e => .inl e
      | .inr L => .inr ((k, v) :: L)
def parseT (st : AT) : (Nat × Nat × Nat) ⊕ AR := parseA st.2.2 st.1.1.length 61 0 st.1.1.length
theorem chr_lt {tx : List Nat} {p : Nat} (h : chr tx p ≠ 0) : p < tx.length := by
  rcases Nat.lt_or_ge p tx.length with w | w
  · exact w
  · exact absurd (by rw [chr, List.getD_eq_getElem?_getD, List.getElem?_eq_none w]; rfl) h
theorem isD_iff {c : Nat} : isD c = true ↔ 48 ≤ c ∧ c ≤ 57 := by simp [isD]
theorem numA_pos (tx : List Nat) : ∀ (n p acc : Nat), p ≤ tx.length → p ≤ (numA tx n p acc).2 ∧ (numA tx n p acc).2 ≤ tx.length ∧ (numA tx n p acc).2 ≤ p + n := by
  intro n
  induction n with
  | zero => intro p acc h; exact ⟨Nat.le_refl _, h, Nat.le_refl _⟩
  | succ n ih =>
    intro p acc h
    unfold numA
    split
    · rename_i hd
      have := chr_lt (tx := tx) (p := p) (by have := isD_iff.mp hd; omega)
      obtain ⟨a, b, c⟩ := ih (p + 1) (10 * acc + (chr tx p - 48)) (by omega)
      exact ⟨by omega, b, by omega⟩
    · exact ⟨Nat.le_refl _, h, by show p ≤ p + (n + 1); omega⟩
theorem numA_lt (tx : List Nat) : ∀ (n p acc j : Nat), acc < 10 ^ j → (numA tx n p acc).1 < 10 ^ (j + n) := by
  intro n
  induction n with
  | zero => intro p acc j h; exact h
  | succ n ih =>
    intro p acc j h
    unfold numA
    split
    · rename_i hd
      have hd := isD_iff.mp hd
      have := ih (p + 1) (10 * acc + (chr tx p - 48)) (j + 1) (by rw [Nat.pow_succ]; omega)
      rw [show j + (n + 1) = j + 1 + n by omega]
      exact this
    · exact Nat.lt_of_lt_of_le h (Nat.pow_le_pow_right (by omega) (by omega))
/-- a row takes four characters at least -/
theorem rowA_ok {tx : List Nat} {p : Nat} (hp : p ≤ tx.length) {k p' : Nat} {v : Int32} (h : rowA tx p = .inr (k, v, p')) : k ≤ 9999 ∧ p + 4 ≤ p' ∧ p' ≤ tx.length := by
  unfold rowA at h
  obtain ⟨a1, a2, a3⟩ := numA_pos tx 4 p 0 hp
  have a4 := numA_lt tx 4 p 0 0 (by decide)
  split at h
  · cases h
  · rename_i n1
    split at h
    · rename_i n2
      have l2 := chr_lt (tx := tx) (p := (numA tx 4 p 0).2) (by omega)
      have l3 : (if chr tx ((numA tx 4 p 0).2 + 1) = 45 then (numA tx 4 p 0).2 + 2 else (numA tx 4 p 0).2 + 1) ≤ tx.length ∧ (numA tx 4 p 0).2 + 1 ≤ (if chr tx ((numA tx 4 p 0).2 + 1) = 45 then (numA tx 4 p 0).2 + 2 else (numA tx 4 p 0).2 + 1) := by
        split
        · rename_i e
          have := chr_lt (tx := tx) (p := (numA tx 4 p 0).2 + 1) (by omega)
          omega
        · omega
      generalize (if chr tx ((numA tx 4 p 0).2 + 1) = 45 then (numA tx 4 p 0).2 + 2 else (numA tx 4 p 0).2 + 1) = p3 at h l3
      obtain ⟨b1, b2, b3⟩ := numA_pos tx 3 p3 0 l3.1
      split at h
      · cases h
      · rename_i n3
        split at h
        · rename_i n4
          have l4 := chr_lt (tx := tx) (p := (numA tx 3 p3 0).2) (by omega)
          cases h
          exact ⟨by omega, by omega, by omega⟩
        · cases h
    · cases h
theorem rowA_pos {tx : List Nat} {p : Nat} (hp : p ≤ tx.length) {q : Nat} (h : rowA tx p = .inl q) : p ≤ q ∧ q ≤ tx.length := by
  unfold rowA at h
  obtain ⟨a1, a2, a3⟩ := numA_pos tx 4 p 0 hp
  split at h
  · cases h; omega
  · split at h
    · rename_i n2
      have l2 := chr_lt (tx := tx) (p := (numA tx 4 p 0).2) (by omega)
      have l3 : (if chr tx ((numA tx 4 p 0).2 + 1) = 45 then (numA tx 4 p 0).2 + 2 else (numA tx 4 p 0).2 + 1) ≤ tx.length ∧ (numA tx 4 p 0).2 + 1 ≤ (if chr tx ((numA tx 4 p 0).2 + 1) = 45 then (numA tx 4 p 0).2 + 2 else (numA tx 4 p 0).2 + 1) := by
        split
        · have := chr_lt (tx := tx) (p := (numA tx 4 p 0).2 + 1) (by omega)
          omega
        · omega
      generalize (if chr tx ((numA tx 4 p 0).2 + 1) = 45 then (numA tx 4 p 0).2 + 2 else (numA tx 4 p 0).2 + 1) = p3 at h l3
      obtain ⟨b1, b2, b3⟩ := numA_pos tx 3 p3 0 l3.1
      split at h
      · cases h; omega
      · split at h
        · cases h
        · cases h; omega
    · cases h; omega
/-! the class reads -/
def FrX (S S' : Mem) : Prop := (∀ i, i ≠ 48 → S' i = S i) ∧ ∀ j, j ≠ 5 → S' 48 j = S 48 j
theorem FrX.trans {S S1 S2 : Mem} (h1 : FrX S S1) (h2 : FrX S1 S2) : FrX S S2 := ⟨fun i hi => (h2.1 i hi).trans (h1.1 i hi), fun j hj => (h2.2 j hj).trans (h1.2 j hj)⟩
theorem FrX.put (S : Mem) (v : Int32) : FrX S (mput S 48 5 v) := ⟨fun i hi => mput_ne _ _ _ hi, fun j hj => by rw [mput_at, upd_ne _ _ hj]⟩
def TxC (S : Mem) (tx : List Nat) : Prop := TW S 49 (tx.map (fun c => row1 (nI c)))
theorem TxC.fr {S S' : Mem} {tx : List Nat} (h : TxC S tx) (f : FrX S S') : TxC S' tx := TW.fr h (f.1 _ (by omega)) (f.1 _ (by omega))
theorem c_chr {S : Mem} {tx : List Nat} (h : TxC S tx) {p : Nat} (hp : p ≤ 60) {K : Int32 → Mem → Prop} (k : K (nI (chr tx p)) S) : P_X4_at 49 S (nI p) (nI 0) K := by
  refine t_at (c := 0) (by decide) h (by omega) (by decide) ?_
  have : ((tx.map (fun c => row1 (nI c))).getD p row0) 0 = nI (chr tx p) := by
    rw [chr, List.getD_eq_getElem?_getD, List.getD_eq_getElem?_getD, List.getElem?_map]
    cases tx[p]? with
    | none => rfl
    | some c => rfl
  rw [this]
  exact k
theorem c_dig {S : Mem} {c : Nat} (hc : c ≤ 126) {K : Int32 → Mem → Prop} (h1 : isD c = true → K 0 S) (h0 : isD c = false → K 1 S) : P_X6_isOutside S (nI c - (48 : Int32)) 0 9 K := by
  by_cases h : 48 ≤ c ∧ c ≤ 57
  · refine c_outF ?_ (h1 (isD_iff.mpr h))
    rw [show nI c - (48 : Int32) = nI (c - 48) from pk_sub (b := 48) h.1]
    rintro (z | z)
    · exact nI_pos (by omega) z
    · have := (nI_ltI (a := 9) (by omega) (by omega)).mp z
      omega
  · refine c_outT ?_ (h0 (by cases hd : isD c with | true => exact absurd (isD_iff.mp hd) h | false => rfl))
    by_cases h2 : c < 48
    · exact Or.inl (pk_sneg (b := 48) (by omega) h2)
    · rw [show nI c - (48 : Int32) = nI (c - 48) from pk_sub (b := 48) (by omega)]
      exact Or.inr ((nI_ltI (a := 9) (by omega) (by omega)).mpr (by omega))
theorem chr_le {tx : List Nat} (h : ∀ c ∈ tx, 32 ≤ c ∧ c ≤ 126) (p : Nat) : chr tx p ≤ 126 := by
  rw [chr, List.getD_eq_getElem?_getD]
  cases hc : tx[p]? with
  | none => exact Nat.zero_le _
  | some c => exact (h c (List.mem_of_getElem? hc)).2
theorem c_numL {tx : List Nat} (htx : ∀ c ∈ tx, 32 ≤ c ∧ c ≤ 126) (hl : tx.length ≤ 60) {d : Nat} (hd : d ≤ 4) {K : Int32 → Mem → Prop} : ∀ (m : Nat) (n : Nat) (S : Mem) (p acc j : Nat) (x : Int32), j + m = d → m < n → TxC S tx → S 48 5 = nI p → p ≤ tx.length → acc < 10 ^ j → (x = nI acc ∧ 0 < j ∨ x = -1 ∧ acc = 0 ∧ j = 0) →
    (∀ S', FrX S S' → S' 48 5 = nI (numA tx m p acc).2 → K (if (numA tx m p acc).2 = p ∧ j = 0 then -1 else nI (numA tx m p acc).1) S') → B_X5_readNumber_4 K n S (nI d) x (nI j) := by
  intro m
  induction m with
  | zero =>
    intro n S p acc j x hj hn hT h5 hp ha hx k
    match n, hn with
    | n + 1, _ =>
      have hjd : j = d := by omega
      subst hjd
      refine ⟨fun _ => ?_, fun q => absurd (Int32.le_refl _) q⟩
      have := k S ⟨fun _ _ => rfl, fun _ _ => rfl⟩ h5
      rcases hx with ⟨rfl, h0⟩ | ⟨rfl, -, h0⟩
      · rw [if_neg (by omega)] at this; exact this
      · rw [if_pos ⟨rfl, h0⟩] at this; exact this
  | succ m ih =>
    intro n S p acc j x hj hn hT h5 hp ha hx k
    match n, hn with
    | n + 1, hn =>
      refine ⟨fun q => absurd ((nI_leI (by omega) (by omega)).mp q) (by omega), fun _ => ?_⟩
      rw [h5]
      refine c_chr hT (by omega) ?_
      unfold numA at k
      refine c_dig (chr_le htx p) (fun hD => ⟨fun _ S5 hS5 => ?_, fun z => absurd rfl z⟩) (fun hD => ⟨fun z => absurd z (by decide), fun _ => ?_⟩)
      · rw [if_pos hD] at k
        have hD' := isD_iff.mp hD
        have hplt := chr_lt (tx := tx) (p := p) (by omega)
        have e1 : (if x < (0 : Int32) then (0 : Int32) else x) = nI acc := by
          rcases hx with ⟨rfl, -⟩ | ⟨rfl, h0, -⟩
          · have : acc < 10 ^ 4 := Nat.lt_of_lt_of_le ha (Nat.pow_le_pow_right (by omega) (by omega))
            exact if_neg (nI_pos (by omega))
          · rw [h0]; rfl
        have e2 : nI acc * (10 : Int32) + (nI (chr tx p) - (48 : Int32)) = nI (10 * acc + (chr tx p - 48)) := by
          rw [show nI (chr tx p) - (48 : Int32) = nI (chr tx p - 48) from pk_sub (b := 48) hD'.1, show nI acc * (10 : Int32) = nI (acc * 10) from pk_mul acc 10, nI_add, Nat.mul_comm]
        rw [e1, e2, nI_1]
        have f5 : FrX S S5 := by rw [hS5]; exact FrX.put _ _
        refine ih n S5 (p + 1) (10 * acc + (chr tx p - 48)) (j + 1) _ (by omega) (by omega) (hT.fr f5) (by rw [hS5, mput_at, upd_at, h5, nI_1]) (by omega) (by rw [Nat.pow_succ]; omega) (Or.inl ⟨rfl, by omega⟩) (fun S' f' e' => ?_)
        have := k S' (f5.trans f') e'
        obtain ⟨b1, -, -⟩ := numA_pos tx m (p + 1) (10 * acc + (chr tx p - 48)) (by omega)
        rw [if_neg (by omega)] at this
        rw [if_neg (by omega)]
        exact this
      · rw [if_neg (by rw [hD]; decide)] at k
        have := k S ⟨fun _ _ => rfl, fun _ _ => rfl⟩ h5
        rcases hx with ⟨rfl, h0⟩ | ⟨rfl, -, h0⟩
        · rw [if_neg (by omega)] at this; exact this
        · rw [if_pos ⟨rfl, h0⟩] at this; exact this
theorem c_num {tx : List Nat} (htx : ∀ c ∈ tx, 32 ≤ c ∧ c ≤ 126) (hl : tx.length ≤ 60) {d : Nat} (hd : d ≤ 4) {K : Int32 → Mem → Prop} {S : Mem} {p : Nat} (hT : TxC S tx) (h5 : S 48 5 = nI p) (hp : p ≤ tx.length) (k : ∀ S', FrX S S' → S' 48 5 = nI (numA tx d p 0).2 → K (if (numA tx d p 0).2 = p then -1 else nI (numA tx d p 0).1) S') : P_X5_readNumber S (nI d) K := by
  refine ⟨d + 1, c_numL htx hl hd d (d + 1) S p 0 0 (-1) (by omega) (by omega) hT h5 hp (by decide) (Or.inr ⟨rfl, rfl, rfl⟩) (fun S' f e => ?_)⟩
  have := k S' f e
  by_cases h : (numA tx d p 0).2 = p
  · rw [if_pos h] at this; rw [if_pos ⟨h, rfl⟩]; exact this
  · rw [if_neg h] at this; rw [if_neg (fun z => h z.1)]; exact this
theorem c_sign {tx : List Nat} (htx : ∀ c ∈ tx, 32 ≤ c ∧ c ≤ 126) (hl : tx.length ≤ 60) {c : Nat} (hc : c ≤ 126) {K : Int32 → Mem → Prop} {S : Mem} {p : Nat} (hT : TxC S tx) (h5 : S 48 5 = nI p) (hp : p ≤ tx.length) (k1 : chr tx p = c → ∀ S', FrX S S' → S' 48 5 = nI (p + 1) → K 1 S') (k0 : chr tx p ≠ c → K 0 S) : P_X5_readSign S (nI c) K := by
  unfold P_X5_readSign
  rw [h5]
  have := chr_le htx p
  refine c_chr hT (by omega) ⟨fun q S3 hS3 => ?_, fun q => k0 fun z => q (by rw [z])⟩
  have hq := (nI_eq (by omega) (by omega)).mp q
  exact k1 hq S3 (by rw [hS3]; exact FrX.put _ _) (by rw [hS3, mput_at, upd_at, h5, nI_1])
def FrY (S S' : Mem) : Prop := (∀ i, i ≠ 48 → i ≠ 51 → i ≠ 52 → S' i = S i) ∧ ∀ j, j ≠ 5 → S' 48 j = S 48 j
theorem FrX.y {S S' : Mem} (h : FrX S S') : FrY S S' := ⟨fun i a _ _ => h.1 i a, h.2⟩
theorem FrY.trans {S S1 S2 : Mem} (h1 : FrY S S1) (h2 : FrY S1 S2) : FrY S S2 := ⟨fun i a b c => (h2.1 i a b c).trans (h1.1 i a b c), fun j hj => (h2.2 j hj).trans (h1.2 j hj)⟩
theorem neg1_ne {n : Nat} (h : n < 2 ^ 31) : ¬ nI n = (-1 : Int32) := fun e => nI_pos h (by rw [e]; decide)
theorem rowsA_append (L : AR) (k : Nat) (v : Int32) : ((L.map rowR) ++ [row1 (nI k)]).set (L.map rowR).length (upd (((L.map rowR) ++ [row1 (nI k)]).getD (L.map rowR).length row0) 1 v) = (L ++ [(k, v)]).map rowR := by
  rw [List.length_map]; exact rows_map_append L k v
/-- the class reads a row -/
theorem c_readRow {tx : List Nat} (htx : ∀ c ∈ tx, 32 ≤ c ∧ c ≤ 126) (hl : tx.length ≤ 60) {K : Int32 → Mem → Prop} {S : Mem} {p : Nat} (hT : TxC S tx) (h5 : S 48 5 = nI p) (hp : p ≤ tx.length) {L : AR} (hL : TW S 51 (L.map rowR)) (hL4 : 4 * L.length ≤ p)
    (k0 : ∀ q, rowA tx p = .inl q → ∀ S', FrX S S' → S' 48 5 = nI q → K 0 S') (k1 : ∀ k v p', rowA tx p = .inr (k, v, p') → ∀ S', FrY S S' → S' 48 5 = nI p' → TW S' 51 ((L ++ [(k, v)]).map rowR) → K 1 S') : P_X5_readRow S K := by
  unfold P_X5_readRow
  have hR : rowA tx p = rowA tx p := rfl
  conv at hR => rhs; unfold rowA
  obtain ⟨a1, a2, a3⟩ := numA_pos tx 4 p 0 hp
  have a4 := numA_lt tx 4 p 0 0 (by decide)
  refine c_num htx hl (d := 4) (by omega) hT h5 hp (fun S1 f1 e1 => ?_)
  by_cases n1 : (numA tx 4 p 0).2 = p
  · rw [if_pos n1] at hR
    rw [if_pos n1]
    exact ⟨fun _ => k0 p hR S1 f1 (by rw [e1, n1]), fun z => absurd rfl z⟩
  · rw [if_neg n1] at hR
    rw [if_neg n1]
    refine ⟨fun z => absurd z (neg1_ne (by omega)), fun _ => ?_⟩
    refine c_sign htx hl (c := 61) (by omega) (hT.fr f1) e1 a2 (fun n2 S3 f3 e3 => ⟨fun _ => ?_, fun z => absurd z (by decide)⟩) (fun n2 => ⟨fun z => absurd rfl z, fun _ => ?_⟩)
    · rw [if_pos n2] at hR
      have l2 := chr_lt (tx := tx) (p := (numA tx 4 p 0).2) (by omega)
      have g3 := f1.trans f3
      have rest : ∀ (neg : Bool) (p3 : Nat) (S5 : Mem) (r6 : Int32), (neg = true ↔ chr tx ((numA tx 4 p 0).2 + 1) = 45) → p3 = (if chr tx ((numA tx 4 p 0).2 + 1) = 45 then (numA tx 4 p 0).2 + 2 else (numA tx 4 p 0).2 + 1) → p3 ≤ tx.length → (numA tx 4 p 0).2 + 1 ≤ p3 → FrX S S5 → S5 48 5 = nI p3 → (neg = true → r6 = 1) → (neg = false → r6 = 0) →
          P_X5_readNumber S5 (3 : Int32) (fun r8 S7 => (r8 = (-1 : Int32) → K (0 : Int32) S7) ∧ (¬ r8 = (-1 : Int32) → (P_X5_readSign S7 (59 : Int32) (fun r10 S9 => (¬ r10 = 0 → (P_X4_append 51 S9 (nI (numA tx 4 p 0).1) (fun r12 S11 => (r6 = 0 → B_X5_readRow_74 K S11 r8 (1 : Int32) r12) ∧ (¬ r6 = 0 → B_X5_readRow_74 K S11 (-r8) (1 : Int32) r12)))) ∧ (r10 = 0 → K (0 : Int32) S9))))) := by
        intro neg p3 S5 r6 hneg hp3 hp3l hp3g f5 e5 r61 r60
        rw [← hp3] at hR
        obtain ⟨b1, b2, b3⟩ := numA_pos tx 3 p3 0 hp3l
        have b4 := numA_lt tx 3 p3 0 0 (by decide)
        refine c_num htx hl (d := 3) (by omega) (hT.fr f5) e5 hp3l (fun S7 f7 e7 => ?_)
        by_cases n3 : (numA tx 3 p3 0).2 = p3
        · rw [if_pos n3] at hR
          rw [if_pos n3]
          exact ⟨fun _ => k0 p3 hR S7 (f5.trans f7) (by rw [e7, n3]), fun z => absurd rfl z⟩
        · rw [if_neg n3] at hR
          rw [if_neg n3]
          refine ⟨fun z => absurd z (neg1_ne (by omega)), fun _ => ?_⟩
          have g7 := f5.trans f7
          refine c_sign htx hl (c := 59) (by omega) (hT.fr g7) e7 b2 (fun n4 S9 f9 e9 => ⟨fun _ => ?_, fun z => absurd z (by decide)⟩) (fun n4 => ⟨fun z => absurd rfl z, fun _ => ?_⟩)
          · rw [if_pos n4] at hR
            have l4 := chr_lt (tx := tx) (p := (numA tx 3 p3 0).2) (by omega)
            have g9 := g7.trans f9
            have hL9 : TW S9 51 (L.map rowR) := hL.fr (g9.1 _ (by omega)) (g9.1 _ (by omega))
            refine t_append (by decide) hL9 (by rw [List.length_map]; show L.length < 15; omega) (fun S11 h11 f11 => ?_)
            have fin : ∀ v : Int32, rowA tx p = .inr ((numA tx 4 p 0).1, v, (numA tx 3 p3 0).2 + 1) → P_X4_put 51 S11 (nI (L.map rowR).length) (1 : Int32) v (fun S13 => K (1 : Int32) S13) := by
              intro v hv
              refine t_put (c := 1) (by decide) h11 (by rw [List.length_append]; simp) (by decide) (fun S13 h13 f13 => ?_)
              rw [rowsA_append] at h13
              have ff := f11.trans f13
              refine k1 _ _ _ hv S13 ⟨fun i x y z => by rw [ff i y z]; exact g9.1 i x, fun j hj => by rw [ff 48 (by omega) (by omega)]; exact g9.2 j hj⟩ (by rw [ff 48 (by omega) (by omega)]; exact e9) h13
            refine ⟨fun z => ?_, fun z => ?_⟩
            · have hn : neg = false := by
                cases hq : neg with
                | false => rfl
                | true => rw [r61 hq] at z; exact absurd z (by decide)
              have n45 : ¬ chr tx ((numA tx 4 p 0).2 + 1) = 45 := fun w => by rw [hneg.mpr w] at hn; cases hn
              rw [if_neg n45] at hR hp3
              rw [← hp3] at hR
              exact fin _ hR
            · have hn : neg = true := by
                cases hq : neg with
                | true => rfl
                | false => exact absurd (r60 hq) z
              have n45 : chr tx ((numA tx 4 p 0).2 + 1) = 45 := hneg.mp hn
              rw [if_pos n45] at hR hp3
              rw [← hp3] at hR
              exact fin _ hR
          · rw [if_neg n4] at hR
            exact k0 _ hR S7 g7 e7
      refine c_sign htx hl (c := 45) (by omega) (hT.fr g3) e3 (by omega) (fun n5 S5 f5 e5 => ?_) (fun n5 => ?_)
      · have l5 := chr_lt (tx := tx) (p := (numA tx 4 p 0).2 + 1) (by omega)
        exact rest true ((numA tx 4 p 0).2 + 2) S5 1 ⟨fun _ => n5, fun _ => rfl⟩ (by rw [if_pos n5]) (by omega) (by omega) (g3.trans f5) e5 (fun _ => rfl) (fun h => (by cases h))
      · exact rest false ((numA tx 4 p 0).2 + 1) S3 0 ⟨fun h => (by cases h), fun h => absurd h n5⟩ (by rw [if_neg n5]) (by omega) (by omega) g3 e3 (fun h => (by cases h)) (fun _ => rfl)
    · rw [if_neg n2] at hR
      exact k0 _ hR S1 f1 e1
/-- what reading leaves in the class -/
def ReadOut (S : Mem) (r : (Nat × Nat × Nat) ⊕ AR) : Prop := match r with
  | .inl e => S 48 2 = nI e.1 ∧ S 48 3 = nI e.2.1 ∧ S 48 4 = nI e.2.2
  | .inr L => S 48 3 = 0 ∧ TW S 51 (L.map rowR)
def FrZ (S S' : Mem) : Prop := ∀ i, i ≠ 48 → i ≠ 51 → i ≠ 52 → S' i = S i
def preL (L : AR) (r : (Nat × Nat × Nat) ⊕ AR) : (Nat × Nat × Nat) ⊕ AR := match r with
  | .inl e => .inl e
  | .inr M => .inr (L ++ M)
theorem c_readL {tx : List Nat} (htx : ∀ c ∈ tx, 32 ≤ c ∧ c ≤ 126) (hl : tx.length ≤ 60) {n0 : Nat} (hn0 : n0 ≤ 100) {K : Mem → Prop} : ∀ (f : Nat) (n i : Nat) (S : Mem) (p : Nat) (L : AR), tx.length < p + f → f < n → TxC S tx → S 48 5 = nI p → p ≤ tx.length → S 48 3 = 0 → TW S 51 (L.map rowR) → 4 * L.length ≤ p → i = L.length → n0 + L.length ≤ 100 →
    (∀ S', FrZ S S' → ReadOut S' (preL L (parseA tx n0 f p (n0 + L.length))) → (∃ M, TW S' 51 M) → K S') → B_X5_read_20 K n S (nI n0) (nI i) := by
  intro f
  induction f with
  | zero => intro n i S p L h; omega
  | succ f ih =>
    intro n i S p L hf hn hT h5 hp h3 hL hL4 hi h100 k
    match n, hn with
    | n + 1, hn =>
      refine ⟨fun q => absurd ((nI_leI (a := 60) (by omega) (by omega)).mp q) (by omega), fun _ => ?_⟩
      refine t_length hT ?_
      rw [List.length_map, h5]
      unfold parseA at k
      refine ⟨fun q => ?_, fun q S7 hS7 => ?_⟩
      · have := (nI_leI (by omega) (by omega)).mp q
        rw [if_pos this] at k
        refine k S (fun _ _ _ _ => rfl) ⟨h3, ?_⟩ ⟨_, hL⟩
        show TW S 51 ((L ++ []).map rowR)
        rw [List.append_nil]; exact hL
      · have hlt : p < tx.length := Nat.not_le.mp fun z => q ((nI_leI (by omega) (by omega)).mpr z)
        rw [if_neg (by omega)] at k
        have e7 : ∀ j, j ≠ 2 → S7 48 j = S 48 j := fun j hj => by rw [hS7, mput_at, upd_ne _ _ hj]
        have f7 : ∀ i, i ≠ 48 → S7 i = S i := fun i hi => by rw [hS7]; exact mput_ne _ _ _ hi
        have e72 : S7 48 2 = nI p := by rw [hS7, mput_at, upd_at]
        have hT7 : TxC S7 tx := TW.fr hT (f7 _ (by omega)) (f7 _ (by omega))
        have hL7 : TW S7 51 (L.map rowR) := hL.fr (f7 _ (by omega)) (f7 _ (by omega))
        refine c_readRow htx hl hT7 (by rw [e7 5 (by omega)]; exact h5) hp hL7 hL4 (fun q hq S8 f8 e8 => ⟨fun z => absurd rfl z, fun _ S14 hS14 S15 hS15 => ?_⟩) (fun kk v p' hq S8 f8 e8 hL8 => ⟨fun _ => ?_, fun z => absurd z (by decide)⟩)
        · rw [hq] at k
          have hb := rowA_pos hp hq
          have g14 : ∀ j, j ≠ 3 → S14 48 j = S8 48 j := fun j hj => by rw [hS14, mput_at, upd_ne _ _ hj]
          have e15 : S15 48 2 = nI p ∧ S15 48 3 = nI 1 ∧ S15 48 4 = nI (q - p) := by
            refine ⟨?_, ?_, ?_⟩
            · rw [hS15, mput_at, upd_ne _ _ (by omega), g14 2 (by omega), f8.2 2 (by omega)]; exact e72
            · rw [hS15, mput_at, upd_ne _ _ (by omega), hS14, mput_at, upd_at]; rfl
            · rw [hS15, mput_at, upd_at, g14 5 (by omega), g14 2 (by omega), e8, f8.2 2 (by omega), e72, pk_sub hb.1]
          refine k S15 (fun i a b c => by rw [hS15, mput_ne _ _ _ a, hS14, mput_ne _ _ _ a, f8.1 i a, f7 i a]) e15 ⟨_, hL7.fr (by rw [hS15, mput_ne _ _ _ (by omega), hS14, mput_ne _ _ _ (by omega), f8.1 _ (by omega)]) (by rw [hS15, mput_ne _ _ _ (by omega), hS14, mput_ne _ _ _ (by omega), f8.1 _ (by omega)])⟩
        · rw [hq] at k
          dsimp only at k
          obtain ⟨r1, r2, r3⟩ := rowA_ok hp hq
          refine t_length hL8 ?_
          rw [List.length_map, List.length_append, show L.length + [(kk, v)].length = L.length + 1 from rfl, nI_add]
          refine ⟨fun z => ?_, fun z => ?_⟩
          · have hle := (nI_leI (b := 100) (by omega) (by omega)).mp z
            rw [if_neg (by omega)] at k
            rw [hi, nI_1]
            refine ih n (L.length + 1) S8 p' (L ++ [(kk, v)]) (by omega) (by omega) (TW.fr hT7 (f8.1 _ (by omega) (by omega) (by omega)) (f8.1 _ (by omega) (by omega) (by omega))) e8 r3 (by rw [f8.2 3 (by omega), e7 3 (by omega)]; exact h3) hL8 (by rw [List.length_append]; show 4 * (L.length + 1) ≤ p'; omega) (by rw [List.length_append]; rfl) (by rw [List.length_append]; show n0 + (L.length + 1) ≤ 100; omega) (fun S' fz hz hM => k S' (fun i a b c => by rw [fz i a b c, f8.1 i a b c, f7 i a]) ?_ hM)
            rw [List.length_append, show n0 + (L.length + [(kk, v)].length) = n0 + L.length + 1 from rfl] at hz
            cases hpar : parseA tx n0 f p' (n0 + L.length + 1) with
            | inl e => rw [hpar] at hz; exact hz
            | inr M =>
              rw [hpar] at hz
              have hz : ReadOut S' (.inr (L ++ [(kk, v)] ++ M)) := hz
              rw [List.append_assoc] at hz
              exact hz
          · have hgt : ¬ n0 + (L.length + 1) ≤ 100 := fun w => z ((nI_leI (b := 100) (by omega) (by omega)).mpr w)
            rw [if_pos (by omega)] at k
            intro S12 hS12 S13 hS13
            refine k S13 (fun i a b c => by rw [hS13, mput_ne _ _ _ a, hS12, mput_ne _ _ _ a, f8.1 i a b c, f7 i a]) ⟨?_, ?_, ?_⟩ ⟨_, hL8.fr (by rw [hS13, mput_ne _ _ _ (by omega), hS12, mput_ne _ _ _ (by omega)]) (by rw [hS13, mput_ne _ _ _ (by omega), hS12, mput_ne _ _ _ (by omega)])⟩
            · rw [hS13, mput_at, upd_ne _ _ (by omega), hS12, mput_at, upd_ne _ _ (by omega), f8.2 2 (by omega)]; exact e72
            · rw [hS13, mput_at, upd_ne _ _ (by omega), hS12, mput_at, upd_at]; rfl
            · rw [hS13, mput_at, upd_at]; exact pk_sub (a := 100) hn0
theorem c_read {S : Mem} {st : AT} (h : CI S st) {K : Mem → Prop} (k : ∀ S', FrC S S' → CI S' st → ReadOut S' (parseT st) → K S') : P_X5_read S (nI st.1.1.length) K := by
  obtain ⟨h1, h2, h3, h4, h5, h6⟩ := h
  intro S1 hS1
  have f1 : ∀ i, i ≠ 48 → S1 i = S i := fun i hi => by rw [hS1]; exact mput_ne _ _ _ hi
  have key : ∀ x ∈ tabs, x ≠ 48 ∧ x + 1 ≠ 48 := by decide
  have hSh1 : Sh S1 := h2.eq fun t ht => ⟨f1 _ (key t ht).1, f1 _ (key t ht).2⟩
  obtain ⟨L0, hL0, -⟩ := hSh1 51 (by decide)
  refine t_shorten (m := 0) (by decide) hL0 (by omega) (fun S2 g2 f2 S4 hS4 => ⟨62, ?_⟩)
  have f4 : ∀ i, i ≠ 48 → S4 i = S2 i := fun i hi => by rw [hS4]; exact mput_ne _ _ _ hi
  have fz4 : FrZ S S4 := fun i a b c => by rw [f4 i a, f2 i b c, f1 i a]
  have hT4 : TxC S4 st.2.2 := TW.fr h5 (fz4 _ (by omega) (by omega) (by omega)) (fz4 _ (by omega) (by omega) (by omega))
  have e48 : S2 48 = S1 48 := f2 48 (by omega) (by omega)
  refine c_readL h1.2.2.2.2 h1.2.2.2.1 h1.1.1 61 62 0 S4 0 [] (by have := h1.2.2.2.1; omega) (by omega) hT4 (by rw [hS4, mput_at, upd_at]; rfl) (Nat.zero_le _) (by rw [hS4, mput_at, upd_ne _ _ (by omega), e48, hS1, mput_at, upd_at]) (g2.fr (f4 _ (by omega)) (f4 _ (by omega))) (Nat.zero_le _) rfl h1.1.1 (fun S' fz hz hM => ?_)
  have fa : FrZ S S' := fun i a b c => by rw [fz i a b c]; exact fz4 i a b c
  have hz' : ReadOut S' (parseT st) := by
    have : preL [] (parseA st.2.2 st.1.1.length 61 0 (st.1.1.length + ([] : AR).length)) = parseT st := by
      show preL [] (parseT st) = parseT st
      cases parseT st with
      | inl e => rfl
      | inr M => rfl
    rw [this] at hz
    exact hz
  have hShf : Sh S' := by
    intro t ht
    by_cases e : t = 51
    · subst e
      obtain ⟨M, hM⟩ := hM
      exact ⟨M, hM, fun z => absurd z (by decide)⟩
    · obtain ⟨M, hM, hM2⟩ := h2 t ht
      have key2 : ∀ x ∈ tabs, x ≠ 51 → x ≠ 48 ∧ x ≠ 52 ∧ x + 1 ≠ 48 ∧ x + 1 ≠ 51 := by decide
      obtain ⟨q1, q2, q3, q4⟩ := key2 t ht e
      exact ⟨M, hM.fr (fa _ q1 e q2) (fa _ q3 q4 (by omega)), hM2⟩
  exact k S' (fun i hi => fa i (by omega) (by omega) (by omega)) ⟨h1, hShf, h3.eq fun i _ _ => fa i (by omega) (by omega) (by omega), h4.eq fun i _ _ => fa i (by omega) (by omega) (by omega), h5.fr (fa _ (by omega) (by omega) (by omega)) (fa _ (by omega) (by omega) (by omega)), h6.eq (fa _ (by omega) (by omega) (by omega)) fun i _ _ => fa i (by omega) (by omega) (by omega)⟩ hz'
def aFault (st : AT) (w : Int32) : Int32 :=
  if 0 ≤ w ∧ w ≤ 2 then (match parseT st with
    | .inr _ => -1000004
    | .inl e => if w = 0 then nI e.1 else if w = 1 then nI e.2.1 else nI e.2.2)
  else -1000001
theorem parseA_reason (tx : List Nat) (n0 : Nat) : ∀ (f p n : Nat) (e : Nat × Nat × Nat), parseA tx n0 f p n = .inl e → e.2.1 = 1 ∨ e.2.1 = 2 := by
  intro f
  induction f with
  | zero => intro p n e h; cases h
  | succ f ih =>
    intro p n e h
    unfold parseA at h
    split at h
    · cases h
    · split at h
      · cases h; exact Or.inl rfl
      · split at h
        · cases h; exact Or.inr rfl
        · split at h
          · rename_i e' he; cases h; exact ih _ _ _ he
          · cases h
theorem c_fault {S : Mem} {st : AT} (h : CI S st) {w : Int32} {K : Int32 → Mem → Prop} (kk : ∀ S', FrC S S' → CI S' st → K (aFault st w) S') : P_X6_fault S w K := by
  unfold P_X6_fault
  unfold aFault at kk
  refine c_in (fun c => ⟨fun _ => ?_, fun z => absurd rfl z⟩) (fun c => ⟨fun z => absurd z (by decide), fun _ => ?_⟩)
  · rw [if_pos c] at kk
    refine t_length h.2.2.1.1 ?_
    rw [List.length_map]
    refine c_read h (fun S5 f5 g5 ho => ?_)
    have kk := kk S5 f5 g5
    cases hp : parseT st with
    | inl e =>
      rw [hp] at ho kk
      obtain ⟨o1, o2, o3⟩ := ho
      have hr := parseA_reason _ _ _ _ _ _ hp
      rw [o1, o2, o3]
      refine ⟨fun _ => ⟨fun n0 => ⟨fun n1 => ?_, fun e1 => ?_⟩, fun e0 => ?_⟩, fun z => ?_⟩
      · dsimp only at kk; rw [if_neg n0, if_neg n1] at kk; exact kk
      · dsimp only at kk; rw [if_neg n0, if_pos e1] at kk; exact kk
      · dsimp only at kk; rw [if_pos e0] at kk; exact kk
      · rcases hr with hr | hr <;> (rw [hr] at z; exact absurd z (by decide))
    | inr L =>
      rw [hp] at ho kk
      obtain ⟨o1, -⟩ := ho
      rw [o1]
      exact ⟨fun z => absurd rfl z, fun _ => kk⟩
  · rw [if_neg c] at kk
    exact kk S (FrC.rf S) h
theorem c_addRowF {S : Mem} {a : AS} {hi : List AS} {tx : List Nat} (h : CI S (a, hi, tx)) (e0 : S 0 4 = 1) (hl : a.1.length < 100) {k : Nat} (hk : k ≤ 9999) {v : Int32} {K : Mem → Prop} (kk : ∀ S', Fr S S' 2 → CI S' ((a.1 ++ [(k, v)], a.2), hi, tx) → S' 0 4 = 1 → K S') : P_X3_addRow 1 S (nI k) v K := by
  have h3 := h.2.2.1.1
  unfold P_X3_addRow
  have hlen : (a.1.map rowR).length = a.1.length := List.length_map _
  refine t_append (by decide) h3 (by rw [hlen]; exact hl) (fun S1 g1 f1 => ?_)
  refine t_put (c := 1) (by decide) g1 (by rw [List.length_append, hlen]; simp) (by decide) (fun S2 g2 f2 => ?_)
  rw [hlen, rows_map_append] at g2
  have hok : okS (a.1 ++ [(k, v)], a.2) := by
    refine ⟨by rw [List.length_append]; simp; omega, fun r hr => ?_, h.1.1.2.2⟩
    rcases List.mem_append.mp hr with q | q
    · exact h.1.1.2.1 r q
    · rw [List.mem_singleton.mp q]; exact hk
  obtain ⟨c1, c2⟩ := h.rows e0 _ hok g2 (f1.trans f2)
  exact kk S2 (f1.trans f2) c1 c2
def aPlay (st : AT) : Int32 × AT := match parseT st with
  | .inl _ => (-1000002, st)
  | .inr L => (nI (st.1.1.length + L.length), chg st (st.1.1 ++ L, st.1.2))
/-- what a text's rows are -/
theorem parseA_rows {tx : List Nat} {n0 : Nat} : ∀ (f p n : Nat) (L : AR), p ≤ tx.length → n ≤ 100 → tx.length < p + f → parseA tx n0 f p n = .inr L → n + L.length ≤ 100 ∧ (∀ r ∈ L, r.1 ≤ 9999) ∧ p + 4 * L.length ≤ tx.length := by
  intro f
  induction f with
  | zero => intro p n L hp hn hf h; omega
  | succ f ih =>
    intro p n L hp hn hf h
    unfold parseA at h
    split at h
    · cases h; exact ⟨hn, fun r hr => absurd hr List.not_mem_nil, by simpa using hp⟩
    · split at h
      · cases h
      · rename_i k v p' hr
        obtain ⟨r1, r2, r3⟩ := rowA_ok hp hr
        split at h
        · cases h
        · rename_i n100
          split at h
          · cases h
          · rename_i M hM
            cases h
            obtain ⟨i1, i2, i3⟩ := ih p' (n + 1) M r3 (by omega) (by omega) hM
            refine ⟨by rw [List.length_cons]; omega, fun r hr => ?_, by rw [List.length_cons]; omega⟩
            rcases List.mem_cons.mp hr with e | e
            · rw [e]; exact r1
            · exact i2 r e
theorem parseT_rows {st : AT} (h : okT st) {L : AR} (hL : parseT st = .inr L) : st.1.1.length + L.length ≤ 100 ∧ (∀ r ∈ L, r.1 ≤ 9999) ∧ 4 * L.length ≤ 60 := by
  obtain ⟨p1, p2, p3⟩ := parseA_rows 61 0 st.1.1.length L (Nat.zero_le _) h.1.1 (by have := h.2.2.2.1; omega) hL
  have := h.2.2.2.1
  exact ⟨p1, p2, by omega⟩
theorem c_playL {L : AR} (hLk : ∀ r ∈ L, r.1 ≤ 9999) (hL15 : L.length ≤ 15) {rows : AR} {sets : Nat × Nat × Nat} {hi : List AS} {tx : List Nat} (hlen : rows.length + L.length ≤ 100) {K : Int32 → Mem → Prop} : ∀ (n i : Nat) (S : Mem), i ≤ L.length → L.length - i < n → CI S ((rows ++ L.take i, sets), hi, tx) → S 0 4 = 1 → TW S 51 (L.map rowR) →
    (∀ S', FrC S S' → CI S' ((rows ++ L, sets), hi, tx) → K (nI (rows.length + L.length)) S') → B_X6_play_36 K n S (nI i) := by
  intro n
  induction n with
  | zero => intro i S _ h; omega
  | succ n ih =>
    intro i S hil hn hC e0 hT k
    refine t_length hT ?_
    rw [List.length_map]
    refine ⟨fun q => ?_, fun q => ?_⟩
    · have := (nI_leI (by omega) (by omega)).mp q
      rw [List.take_of_length_le this] at hC
      refine t_length hC.2.2.1.1 ?_
      rw [List.length_map, List.length_append]
      exact k S (FrC.rf S) hC
    · have hlt : i < L.length := Nat.not_le.mp fun z => q ((nI_leI (by omega) (by omega)).mpr z)
      obtain ⟨r, hr⟩ : ∃ r, L[i]? = some r := ⟨_, List.getElem?_eq_getElem hlt⟩
      have er : (L.map rowR).getD i row0 = rowR r := by rw [List.getD_eq_getElem?_getD, List.getElem?_map, hr]; rfl
      refine t_at (c := 0) (by decide) hT (by omega) (by decide) ?_
      refine t_at (c := 1) (by decide) hT (by omega) (by decide) ?_
      rw [er]
      show P_X3_addRow 1 S (nI r.1) r.2 _
      have htk : L.take (i + 1) = L.take i ++ [r] := by
        rw [List.take_succ, hr]; rfl
      refine c_addRowF (a := (rows ++ L.take i, sets)) hC e0 (by show (rows ++ L.take i).length < 100; rw [List.length_append, List.length_take]; omega) (hLk r (List.mem_of_getElem? hr)) (fun S15 f15 g15 e15 => ?_)
      rw [nI_1]
      have e2 : rows ++ L.take i ++ [(r.1, r.2)] = rows ++ L.take (i + 1) := by rw [htk, List.append_assoc]
      have g15 : CI S15 ((rows ++ L.take i ++ [(r.1, r.2)], sets), hi, tx) := g15
      rw [e2] at g15
      exact ih (i + 1) S15 hlt (by omega) g15 e15 (hT.fr2 f15 (by omega) (by omega) (by omega)) (fun S' f' g' => k S' ((Fr.frC (t := 2) (by decide) f15).trans f') g')
theorem c_beginF {S : Mem} {st : AT} (h : CI S st) {K : Mem → Prop} (k : ∀ S', FrC S S' → (∀ i, 28 ≤ i → S' i = S i) → CI S' (chg st st.1) → S' 0 4 = 1 → K S') : P_X6_beginChange S K := by
  obtain ⟨h1, h2, h3, h4, h5, h6⟩ := h
  unfold P_X6_beginChange
  refine c_keep h2 h1.1 h3 h4 h1.2.1 (fun S1 f1 hSh1 hh1 S3 hS3 => ?_)
  have f3 : ∀ i, i ≠ 0 → S3 i = S1 i := fun i hi => by rw [hS3]; exact mput_ne _ _ _ hi
  have e0 : S3 0 4 = 1 := by rw [hS3, mput_at, upd_at]
  have key : ∀ x ∈ tabs, x ≠ 0 ∧ x + 1 ≠ 0 := by decide
  refine k S3 (fun i hi => by rw [f3 i (by omega), f1 i (by omega)]) (fun i hi => by rw [f3 i (by omega), f1 i (by omega)]) ⟨okT_chg h1 h1.1, hSh1.eq fun t ht => ⟨f3 _ (key t ht).1, f3 _ (key t ht).2⟩, h3.eq fun i _ _ => by rw [f3 i (by omega), f1 i (by omega)], hh1.eq fun i _ _ => f3 i (by omega), h5.fr (by rw [f3 _ (by omega), f1 _ (by omega)]) (by rw [f3 _ (by omega), f1 _ (by omega)]), Or.inl e0⟩ e0
theorem c_play {S : Mem} {st : AT} (h : CI S st) {K : Int32 → Mem → Prop} (kk : ∀ S', FrC S S' → CI S' (aPlay st).2 → K (aPlay st).1 S') : P_X6_play S K := by
  unfold P_X6_play
  unfold aPlay at kk
  refine t_length h.2.2.1.1 ?_
  rw [List.length_map]
  refine c_read h (fun S3 f3 g3 ho => ?_)
  cases hp : parseT st with
  | inl e =>
    rw [hp] at ho kk
    obtain ⟨o1, o2, o3⟩ := ho
    have hr := parseA_reason _ _ _ _ _ _ hp
    rw [o2]
    refine ⟨fun z => ?_, fun _ => kk S3 f3 g3⟩
    rcases hr with hr | hr <;> (rw [hr] at z; exact absurd z (by decide))
  | inr L =>
    rw [hp] at ho kk
    obtain ⟨o1, o2⟩ := ho
    rw [o1]
    refine ⟨fun _ => ?_, fun z => absurd rfl z⟩
    obtain ⟨r1, r2, r3⟩ := parseT_rows h.1 hp
    refine c_beginF g3 (fun S5 f5 ff5 g5 e5 => ⟨L.length + 1, ?_⟩)
    refine c_playL r2 (by omega) (rows := st.1.1) (sets := st.1.2) r1 (L.length + 1) 0 S5 (Nat.zero_le _) (by omega) (by rw [List.take_zero, List.append_nil]; exact g5) e5 (o2.fr (ff5 _ (by omega)) (ff5 _ (by omega))) (fun S' f' g' => kk S' ((f3.trans f5).trans f') g')
