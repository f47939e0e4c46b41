/-! the reference reads texts -/
def TxM (S : Mem) (tx : List Nat) : Prop := S 53 22 = nI tx.length ∧ ∀ k c, tx[k]? = some c → S 65 k = nI c
def FrT (S S' : Mem) : Prop := (∀ i, i ≠ 53 → S' i = S i) ∧ ∀ j, j < 24 ∨ 27 < j → S' 53 j = S 53 j
theorem FrT.trans {S S1 S2 : Mem} (h1 : FrT S S1) (h2 : FrT S1 S2) : FrT S S2 := ⟨fun i hi => (h2.1 i hi).trans (h1.1 i hi), fun j hj => (h2.2 j hj).trans (h1.2 j hj)⟩
theorem FrT.rf (S : Mem) : FrT S S := ⟨fun _ _ => rfl, fun _ _ => rfl⟩
theorem FrT.put (S : Mem) {k : Nat} (hk : 24 ≤ k ∧ k ≤ 27) (v : Int32) : FrT S (mput S 53 k v) := ⟨fun i hi => mput_ne _ _ _ hi, fun j hj => by rw [mput_at, upd_ne _ _ (by omega)]⟩
theorem TxM.fr {S S' : Mem} {tx : List Nat} (h : TxM S tx) (f : FrT S S') : TxM S' tx := ⟨by rw [f.2 22 (by omega)]; exact h.1, by rw [f.1 65 (by omega)]; exact h.2⟩
theorem chr_get {tx : List Nat} {p : Nat} (h : p < tx.length) : tx[p]? = some (chr tx p) := by
  rw [chr, List.getD_eq_getElem?_getD, List.getElem?_eq_getElem h]; rfl
theorem chr_none {tx : List Nat} {p : Nat} (h : tx.length ≤ p) : chr tx p = 0 := by
  rw [chr, List.getD_eq_getElem?_getD, List.getElem?_eq_none h]; rfl
theorem m_one {tx : List Nat} (htx : ∀ c ∈ tx, 32 ≤ c ∧ c ≤ 126) (hl : tx.length ≤ 60) {c : Nat} (hc : 1 ≤ c ∧ c ≤ 126) {S : Mem} {p : Nat} (hT : TxM S tx) (h5 : S 53 24 = nI p) (hp : p ≤ tx.length) {K : Int32 → Mem → Prop} (k1 : chr tx p = c → ∀ S', FrT S S' → S' 53 24 = nI (p + 1) → S' 53 27 = S 53 27 → S' 53 25 = S 53 25 → S' 53 26 = S 53 26 → K 1 S') (k0 : chr tx p ≠ c → ∀ S', FrT S S' → S' 53 24 = nI p → S' 53 27 = S 53 27 → S' 53 25 = S 53 25 → S' 53 26 = S 53 26 → K 0 S') : P_X7_takesOne S (nI c) K := by
  have b0 : chr tx p ≠ c → B_X7_takesOne_28 K S := by
    intro hne
    refine ⟨fun _ S1 hS1 => ⟨Or.inl rfl, ?_⟩, fun z => absurd rfl z⟩
    have o : ∀ j, j ≠ 24 → S1 53 j = S 53 j := fun j hj => by rw [hS1, mput_at, upd_ne _ _ hj]
    refine k0 hne S1 (by rw [hS1]; exact FrT.put S (by omega) _) ?_ (o _ (by omega)) (o _ (by omega)) (o _ (by omega))
    rw [hS1, mput_at, upd_at, h5]
    exact nI_add p 0
  have b1 : chr tx p = c → B_X7_takesOne_29 K S (1 : Int32) := by
    intro he
    refine ⟨fun z => absurd z (by decide), fun _ S1 hS1 => ⟨Or.inr rfl, ?_⟩⟩
    have o : ∀ j, j ≠ 24 → S1 53 j = S 53 j := fun j hj => by rw [hS1, mput_at, upd_ne _ _ hj]
    refine k1 he S1 (by rw [hS1]; exact FrT.put S (by omega) _) ?_ (o _ (by omega)) (o _ (by omega)) (o _ (by omega))
    rw [hS1, mput_at, upd_at, h5]
    exact nI_add p 1
  unfold P_X7_takesOne
  rw [h5, hT.1]
  refine ⟨fun q => b0 fun e => ?_, fun q => ?_⟩
  · have := (nI_leI (by omega) (by omega)).mp q
    rw [chr_none this] at e
    omega
  · have hlt : p < tx.length := Nat.not_le.mp fun z => q ((nI_leI (by omega) (by omega)).mpr z)
    rw [nI_clamp (by omega), hT.2 p _ (chr_get hlt)]
    have := chr_le htx p
    exact ⟨vin (by omega) (by omega), fun z => b0 fun e => z (by rw [e]), fun z => b1 ((nI_eq (by omega) (by omega)).mp z)⟩
theorem m_num90 {S : Mem} {b p : Nat} (hb : b ≤ p) (hp : p < 2 ^ 31) (h5 : S 53 24 = nI p) {K : Int32 → Mem → Prop} (k : K (if p = b then 0 else 1) S) : B_X7_takesNumber_90 K S (nI b) := by
  unfold B_X7_takesNumber_90
  rw [h5]
  refine ⟨fun q => ?_, fun q => ?_⟩
  · have := (nI_leI (by omega) (by omega)).mp q
    rw [if_pos (by omega)] at k; exact k
  · have : ¬ p ≤ b := fun z => q ((nI_leI (by omega) (by omega)).mpr z)
    rw [if_neg (by omega)] at k; exact k
theorem m_numL {tx : List Nat} (htx : ∀ c ∈ tx, 32 ≤ c ∧ c ≤ 126) (hl : tx.length ≤ 60) {d b : Nat} (hd : d ≤ 4) {K : Int32 → Mem → Prop} : ∀ (m : Nat) (n : Nat) (S : Mem) (p acc : Nat), b + d = p + m → b ≤ p → m < n → TxM S tx → S 53 24 = nI p → p ≤ tx.length → S 53 27 = nI acc →
    (∀ S', FrT S S' → S' 53 24 = nI (numA tx m p acc).2 → S' 53 27 = nI (numA tx m p acc).1 → S' 53 25 = S 53 25 → S' 53 26 = S 53 26 → K (if (numA tx m p acc).2 = b then 0 else 1) S') → B_X7_takesNumber_10 K n S (nI d) (nI b) := by
  intro m
  induction m with
  | zero =>
    intro n S p acc hb hbp hn hT h5 hp h27 k
    match n, hn with
    | n + 1, _ =>
      have fin : B_X7_takesNumber_90 K S (nI b) := m_num90 hbp (by omega) h5 (k S (FrT.rf S) h5 h27 rfl rfl)
      unfold B_X7_takesNumber_10
      rw [nI_add, h5]
      exact ⟨fun _ => fin, fun _ => ⟨fun _ => fin, fun q => absurd ((nI_leI (by omega) (by omega)).mpr (by omega)) q⟩⟩
  | succ m ih =>
    intro n S p acc hb hbp hn hT h5 hp h27 k
    match n, hn with
    | n + 1, hn =>
      unfold numA at k
      have fin : isD (chr tx p) = false → B_X7_takesNumber_90 K S (nI b) := fun hD => by
        rw [if_neg (by rw [hD]; decide)] at k
        exact m_num90 hbp (by omega) h5 (k S (FrT.rf S) h5 h27 rfl rfl)
      unfold B_X7_takesNumber_10
      rw [nI_add, h5, hT.1]
      refine ⟨fun q => fin ?_, fun q => ⟨fun z => absurd ((nI_leI (by omega) (by omega)).mp z) (by omega), fun _ => ?_⟩⟩
      · rw [chr_none ((nI_leI (by omega) (by omega)).mp q)]; rfl
      · have hlt : p < tx.length := Nat.not_le.mp fun z => q ((nI_leI (by omega) (by omega)).mpr z)
        have hc := chr_le htx p
        rw [nI_clamp (by omega), hT.2 p _ (chr_get hlt)]
        refine ⟨vin (by omega) (by omega), m_in 48 57 rfl rfl (fun c => ⟨fun z => absurd z (by decide), fun _ => ?_⟩) (fun c => ⟨fun _ => fin ?_, fun z => absurd rfl z⟩)⟩
        · have c1 := (nI_leI (a := 48) (by omega) (by omega)).mp c.1
          have c2 := (nI_leI (b := 57) (by omega) (by omega)).mp c.2
          rw [if_pos (isD_iff.mpr ⟨c1, c2⟩)] at k
          refine ⟨by rw [h5]; exact vin (by omega) (by omega), fun S4 hS4 S5 hS5 => ?_⟩
          rw [h27, h5, nI_clamp (by omega), hT.2 p _ (chr_get hlt)] at hS4
          have e27 : (10 : Int32) * nI acc + nI (chr tx p) - (48 : Int32) = nI (10 * acc + (chr tx p - 48)) := by
            rw [show (10 : Int32) * nI acc = nI (10 * acc) from pk_mul 10 acc, nI_add, show nI (10 * acc + chr tx p) - (48 : Int32) = nI (10 * acc + chr tx p - 48) from pk_sub (b := 48) (by omega)]
            congr 1
            omega
          rw [e27] at hS4
          have f4 : FrT S S4 := by rw [hS4]; exact FrT.put S (by omega) _
          have f5 : FrT S S5 := f4.trans (by rw [hS5]; exact FrT.put S4 (by omega) _)
          have o : ∀ j, j ≠ 24 → j ≠ 27 → S5 53 j = S 53 j := fun j a b => by rw [hS5, mput_at, upd_ne _ _ a, hS4, mput_at, upd_ne _ _ b]
          refine ih n S5 (p + 1) _ (by omega) (by omega) (by omega) (hT.fr f5) ?_ (by omega) ?_ (fun S' f' a1 a2 a3 a4 => k S' (f5.trans f') a1 a2 (a3.trans (o _ (by omega) (by omega))) (a4.trans (o _ (by omega) (by omega))))
          · rw [hS5, mput_at, upd_at, hS4, mput_at, upd_ne _ _ (by omega), h5, nI_1]
          · rw [hS5, mput_at, upd_ne _ _ (by omega), hS4, mput_at, upd_at]
        · cases hq : isD (chr tx p) with
          | false => rfl
          | true =>
            obtain ⟨q1, q2⟩ := isD_iff.mp hq
            exact absurd ⟨(nI_leI (a := 48) (by omega) (by omega)).mpr q1, (nI_leI (b := 57) (by omega) (by omega)).mpr q2⟩ c
theorem m_num {tx : List Nat} (htx : ∀ c ∈ tx, 32 ≤ c ∧ c ≤ 126) (hl : tx.length ≤ 60) {d : Nat} (hd : d ≤ 4) {K : Int32 → Mem → Prop} {S : Mem} {p : Nat} (hT : TxM S tx) (h5 : S 53 24 = nI p) (hp : p ≤ tx.length) (k : ∀ S', FrT S S' → S' 53 24 = nI (numA tx d p 0).2 → S' 53 27 = nI (numA tx d p 0).1 → S' 53 25 = S 53 25 → S' 53 26 = S 53 26 → K (if (numA tx d p 0).2 = p then 0 else 1) S') : P_X7_takesNumber S (nI d) K := by
  intro S1 hS1
  have f1 : FrT S S1 := by rw [hS1]; exact FrT.put S (by omega) _
  have o : ∀ j, j ≠ 27 → S1 53 j = S 53 j := fun j hj => by rw [hS1, mput_at, upd_ne _ _ hj]
  refine ⟨d + 1, ?_⟩
  rw [h5]
  exact m_numL htx hl hd d (d + 1) S1 p 0 rfl (Nat.le_refl _) (by omega) (hT.fr f1) (by rw [o 24 (by omega)]; exact h5) hp (by rw [hS1, mput_at, upd_at]; rfl) (fun S' f' a1 a2 a3 a4 => k S' (f1.trans f') a1 a2 (a3.trans (o _ (by omega))) (a4.trans (o _ (by omega))))
theorem m_readsRow {tx : List Nat} (htx : ∀ c ∈ tx, 32 ≤ c ∧ c ≤ 126) (hl : tx.length ≤ 60) {K : Int32 → Mem → Prop} {S : Mem} {p : Nat} (hT : TxM S tx) (h5 : S 53 23 = nI p) (hp : p ≤ tx.length)
    (k0 : ∀ q, rowA tx p = .inl q → ∀ S', FrT S S' → S' 53 24 = nI q → K 0 S') (k1 : ∀ k v p', rowA tx p = .inr (k, v, p') → ∀ S', FrT S S' → S' 53 24 = nI p' → S' 53 25 = nI k → S' 53 26 = v → K 1 S') : P_X7_readsRow S K := by
  have hR : rowA tx p = rowA tx p := rfl
  conv at hR => rhs; unfold rowA
  obtain ⟨a1, a2, a3⟩ := numA_pos tx 4 p 0 hp
  intro S1 hS1
  rw [h5] at hS1
  have f1 : FrT S S1 := by rw [hS1]; exact FrT.put S (by omega) _
  have e1 : S1 53 24 = nI p := by rw [hS1, mput_at, upd_at]
  refine m_num htx hl (d := 4) (by omega) (hT.fr f1) e1 hp (fun S2 f2 e2 v2 _ _ => ?_)
  have g2 := f1.trans f2
  by_cases n1 : (numA tx 4 p 0).2 = p
  · rw [if_pos n1] at hR
    rw [if_pos n1]
    exact ⟨fun z => absurd rfl z, fun _ => k0 p hR S2 g2 (by rw [e2, n1])⟩
  · rw [if_neg n1] at hR
    rw [if_neg n1]
    refine ⟨fun _ S4 hS4 => ?_, fun z => absurd z (by decide)⟩
    have g4 : FrT S S4 := g2.trans (by rw [hS4]; exact FrT.put S2 (by omega) _)
    have e4 : S4 53 24 = nI (numA tx 4 p 0).2 := by rw [hS4, mput_at, upd_ne _ _ (by omega)]; exact e2
    have k4 : S4 53 25 = nI (numA tx 4 p 0).1 := by rw [hS4, mput_at, upd_at]; exact v2
    refine m_one htx hl (c := 61) (by omega) (hT.fr g4) e4 a2 (fun n2 S5 f5 e5 _ k5 _ => ⟨fun _ => ?_, fun z => absurd z (by decide)⟩) (fun n2 S5 f5 e5 _ _ _ => ⟨fun z => absurd rfl z, fun _ => ?_⟩)
    · rw [if_pos n2] at hR
      have l2 := chr_lt (tx := tx) (p := (numA tx 4 p 0).2) (by omega)
      have g5 := g4.trans f5
      have rest : ∀ (neg : Bool) (p3 : Nat) (S7 : Mem) (r8 : Int32), (neg = true ↔ chr tx ((numA tx 4 p 0).2 + 1) = 45) → p3 = (if chr tx ((numA tx 4 p 0).2 + 1) = 45 then (numA tx 4 p 0).2 + 2 else (numA tx 4 p 0).2 + 1) → p3 ≤ tx.length → FrT S S7 → S7 53 24 = nI p3 → S7 53 25 = nI (numA tx 4 p 0).1 → (neg = true → r8 = 1) → (neg = false → r8 = 0) →
          P_X7_takesNumber S7 (3 : Int32) (fun r10 S9 => (¬ r10 = 0 → (r8 = 0 → B_X7_readsRow_71 K S9 (S9 53 27)) ∧ (¬ r8 = 0 → B_X7_readsRow_71 K S9 (-(S9 53 27)))) ∧ (r10 = 0 → K (0 : Int32) S9)) := by
        intro neg p3 S7 r8 hneg hp3 hp3l f7 e7 k7 r81 r80
        rw [← hp3] at hR
        obtain ⟨b1, b2, b3⟩ := numA_pos tx 3 p3 0 hp3l
        refine m_num htx hl (d := 3) (by omega) (hT.fr f7) e7 hp3l (fun S9 f9 e9 v9 k9 _ => ?_)
        have g9 := f7.trans f9
        by_cases n3 : (numA tx 3 p3 0).2 = p3
        · rw [if_pos n3] at hR
          rw [if_pos n3]
          exact ⟨fun z => absurd rfl z, fun _ => k0 p3 hR S9 g9 (by rw [e9, n3])⟩
        · rw [if_neg n3] at hR
          rw [if_neg n3]
          refine ⟨fun _ => ?_, fun z => absurd z (by decide)⟩
          have fin : ∀ v : Int32, (chr tx (numA tx 3 p3 0).2 = 59 → rowA tx p = .inr ((numA tx 4 p 0).1, v, (numA tx 3 p3 0).2 + 1)) → B_X7_readsRow_71 K S9 v := by
            intro v hv S11 hS11
            have g11 : FrT S S11 := g9.trans (by rw [hS11]; exact FrT.put S9 (by omega) _)
            have o : ∀ j, j ≠ 26 → S11 53 j = S9 53 j := fun j hj => by rw [hS11, mput_at, upd_ne _ _ hj]
            refine m_one htx hl (c := 59) (by omega) (hT.fr g11) (by rw [o 24 (by omega)]; exact e9) b2 (fun n4 S12 f12 e12 _ k12 v12 => ⟨Or.inr rfl, ?_⟩) (fun n4 S12 f12 e12 _ _ _ => ⟨Or.inl rfl, ?_⟩)
            · exact k1 _ _ _ (hv n4) S12 (g11.trans f12) e12 (by rw [k12, o 25 (by omega), k9]; exact k7) (by rw [v12, hS11, mput_at, upd_at])
            · rw [if_neg n4] at hR
              exact k0 _ hR S12 (g11.trans f12) e12
          rw [v9]
          refine ⟨fun z => ?_, fun z => ?_⟩
          · have hn : neg = false := by
              cases hq : neg with
              | false => rfl
              | true => rw [r81 hq] at z; exact absurd z (by decide)
            have n45 : ¬ chr tx ((numA tx 4 p 0).2 + 1) = 45 := fun w => by rw [hneg.mpr w] at hn; cases hn
            refine fin _ (fun n4 => ?_)
            rw [if_pos n4, if_neg n45] at hR
            rw [if_neg n45] at hp3
            rw [← hp3] at hR
            exact hR
          · have hn : neg = true := by
              cases hq : neg with
              | true => rfl
              | false => exact absurd (r80 hq) z
            have n45 : chr tx ((numA tx 4 p 0).2 + 1) = 45 := hneg.mp hn
            refine fin _ (fun n4 => ?_)
            rw [if_pos n4, if_pos n45] at hR
            rw [if_pos n45] at hp3
            rw [← hp3] at hR
            exact hR
      refine m_one htx hl (c := 45) (by omega) (hT.fr g5) e5 (by omega) (fun n5 S7 f7 e7 _ k7 _ => ?_) (fun n5 S7 f7 e7 _ k7 _ => ?_)
      · have l5 := chr_lt (tx := tx) (p := (numA tx 4 p 0).2 + 1) (by omega)
        exact rest true ((numA tx 4 p 0).2 + 2) S7 1 ⟨fun _ => n5, fun _ => rfl⟩ (by rw [if_pos n5]) (by omega) (g5.trans f7) e7 (by rw [k7, k5]; exact k4) (fun _ => rfl) (fun h => (by cases h))
      · exact rest false ((numA tx 4 p 0).2 + 1) S7 0 ⟨fun h => (by cases h), fun h => absurd h n5⟩ (by rw [if_neg n5]) (by omega) (g5.trans f7) e7 (by rw [k7, k5]; exact k4) (fun h => (by cases h)) (fun _ => rfl)
    · rw [if_neg n2] at hR
      exact k0 _ hR S5 (g4.trans f5) e5
def FrU (S S' : Mem) : Prop := (∀ i, i ≠ 53 → S' i = S i) ∧ ∀ j, j < 23 → S' 53 j = S 53 j
theorem FrT.u {S S' : Mem} (h : FrT S S') : FrU S S' := ⟨h.1, fun j hj => h.2 j (by omega)⟩
theorem FrU.trans {S S1 S2 : Mem} (h1 : FrU S S1) (h2 : FrU S1 S2) : FrU S S2 := ⟨fun i hi => (h2.1 i hi).trans (h1.1 i hi), fun j hj => (h2.2 j hj).trans (h1.2 j hj)⟩
theorem FrU.rf (S : Mem) : FrU S S := ⟨fun _ _ => rfl, fun _ _ => rfl⟩
theorem FrU.put (S : Mem) {k : Nat} (hk : 23 ≤ k) (v : Int32) : FrU S (mput S 53 k v) := ⟨fun i hi => mput_ne _ _ _ hi, fun j hj => by rw [mput_at, upd_ne _ _ (by omega)]⟩
theorem TxM.fru {S S' : Mem} {tx : List Nat} (h : TxM S tx) (f : FrU S S') : TxM S' tx := ⟨by rw [f.2 22 (by omega)]; exact h.1, by rw [f.1 65 (by omega)]; exact h.2⟩
theorem FrU.m {S S' : Mem} (f : FrU S S') : FrM S S' := fun i hi => f.1 i (by omega)
theorem MI.fru {S S' : Mem} {st : AT} (h : MI S st) (f : FrU S S') : MI S' st := by
  obtain ⟨h1, h2, h3, h4, h5, h6, h7⟩ := h
  exact ⟨h1, by rw [f.1 54 (by omega)]; exact h2, by rw [f.2 2 (by omega)]; exact h3, by rw [f.1 55 (by omega)]; exact h4, by rw [f.2 22 (by omega)]; exact h5, by rw [f.1 65 (by omega)]; exact h6, by rw [f.2 6 (by omega)]; exact h7⟩
/-- what the search for a fault leaves in the reference -/
def ReadM (S : Mem) (r : (Nat × Nat × Nat) ⊕ AR) (x : Int32) : Prop := match r with
  | .inl e => x = 1 ∧ S 53 23 = nI e.1 ∧ S 53 28 = nI e.2.1 ∧ S 53 29 = nI e.2.2
  | .inr _ => x = 0
theorem m_faultL {tx : List Nat} (htx : ∀ c ∈ tx, 32 ≤ c ∧ c ≤ 126) (hl : tx.length ≤ 60) {n0 : Nat} (hn0 : n0 ≤ 100) {K : Int32 → Mem → Prop} : ∀ (f : Nat) (n : Nat) (S : Mem) (p r : Nat), tx.length < p + f → f < n → TxM S tx → S 53 23 = nI p → p ≤ tx.length → S 54 0 = nI n0 → r ≤ 100 →
    (∀ S' x, FrU S S' → ReadM S' (parseA tx n0 f p r) x → K x S') → B_X7_hasFault_12 K n S (nI r) := by
  intro f
  induction f with
  | zero => intro n S p r h; omega
  | succ f ih =>
    intro n S p r hf hn hT h5 hp h0 hr k
    match n, hn with
    | n + 1, hn =>
      unfold B_X7_hasFault_12
      unfold parseA at k
      rw [hT.1, h5]
      refine ⟨fun q => ?_, fun q => ?_⟩
      · rw [if_pos ((nI_leI (by omega) (by omega)).mp q)] at k
        exact k S 0 (FrU.rf S) rfl
      · have hlt : p < tx.length := Nat.not_le.mp fun z => q ((nI_leI (by omega) (by omega)).mpr z)
        rw [if_neg (by omega)] at k
        refine m_readsRow htx hl hT h5 hp (fun q hq S2 f2 e2 => ⟨fun z => absurd rfl z, fun _ S7 hS7 S8 hS8 => ?_⟩) (fun kk v p' hq S2 f2 e2 k2 v2 => ⟨fun _ => ?_, fun z => absurd z (by decide)⟩)
        · rw [hq] at k
          have hb := rowA_pos hp hq
          have g7 : ∀ j, j ≠ 28 → S7 53 j = S2 53 j := fun j hj => by rw [hS7, mput_at, upd_ne _ _ hj]
          have g8 : ∀ j, j ≠ 29 → S8 53 j = S7 53 j := fun j hj => by rw [hS8, mput_at, upd_ne _ _ hj]
          have u8 : FrU S S8 := f2.u.trans ((by rw [hS7]; exact FrU.put S2 (by omega) _ : FrU S2 S7).trans (by rw [hS8]; exact FrU.put S7 (by omega) _))
          refine k S8 1 u8 ⟨rfl, ?_, ?_, ?_⟩
          · rw [g8 23 (by omega), g7 23 (by omega), f2.2 23 (by omega)]; exact h5
          · rw [g8 28 (by omega), hS7, mput_at, upd_at]; rfl
          · rw [hS8, mput_at, upd_at, g7 24 (by omega), g7 23 (by omega), e2, f2.2 23 (by omega), h5, pk_sub hb.1]
        · rw [hq] at k
          dsimp only at k
          obtain ⟨r1, r2, r3⟩ := rowA_ok hp hq
          refine ⟨fun z S4 hS4 => ?_, fun z => ?_⟩
          · have hne : r ≠ 100 := fun e => z (by rw [e]; rfl)
            rw [if_neg hne] at k
            have u4 : FrU S S4 := f2.u.trans (by rw [hS4]; exact FrU.put S2 (by omega) _)
            rw [nI_1]
            refine ih n S4 p' (r + 1) (by omega) (by omega) (hT.fru u4) (by rw [hS4, mput_at, upd_at]; exact e2) r3 (by rw [u4.1 54 (by omega)]; exact h0) (by omega) (fun S' x u' hz => k S' x (u4.trans u') ?_)
            cases hpar : parseA tx n0 f p' (r + 1) with
            | inl e => rw [hpar] at hz; exact hz
            | inr M => rw [hpar] at hz; exact hz
          · have he : r = 100 := (nI_eq (b := 100) (by omega) (by omega)).mp z
            rw [if_pos he] at k
            intro S5 hS5
            refine ⟨vin (n := 0) (by omega) (by omega), fun S6 hS6 => ?_⟩
            have u6 : FrU S S6 := f2.u.trans ((by rw [hS5]; exact FrU.put S2 (by omega) _ : FrU S2 S5).trans (by rw [hS6]; exact FrU.put S5 (by omega) _))
            have e54 : S5 54 (Int32.toNatClampNeg 0) = nI n0 := by rw [cl0, hS5, mput_ne _ _ _ (by omega), f2.1 54 (by omega)]; exact h0
            rw [e54, show (100 : Int32) - nI n0 = nI (100 - n0) from pk_sub (a := 100) hn0] at hS6
            refine k S6 1 u6 ⟨rfl, ?_, ?_, ?_⟩
            · rw [hS6, mput_at, upd_ne _ _ (by omega), hS5, mput_at, upd_ne _ _ (by omega), f2.2 23 (by omega)]; exact h5
            · rw [hS6, mput_at, upd_ne _ _ (by omega), hS5, mput_at, upd_at]; rfl
            · rw [hS6, mput_at, upd_at]
theorem MI.tx {S : Mem} {st : AT} (h : MI S st) : TxM S st.2.2 := ⟨h.2.2.2.2.1, h.2.2.2.2.2.1⟩
theorem m_hasFault {S : Mem} {st : AT} (h : MI S st) {K : Int32 → Mem → Prop} (k : ∀ S' x, FrU S S' → ReadM S' (parseT st) x → K x S') : P_X7_hasFault S K := by
  refine ⟨vin (n := 0) (by omega) (by omega), fun S1 hS1 => ⟨62, ?_⟩⟩
  have u1 : FrU S S1 := by rw [hS1]; exact FrU.put S (by omega) _
  rw [cl0, h.2.1.1]
  exact m_faultL h.1.2.2.2.2 h.1.2.2.2.1 h.1.1.1 61 62 S1 0 st.1.1.length (by have := h.1.2.2.2.1; omega) (by omega) (h.tx.fru u1) (by rw [hS1, mput_at, upd_at]; rfl) (Nat.zero_le _) (by rw [u1.1 54 (by omega)]; exact h.2.1.1) h.1.1.1 (fun S' x u' hz => k S' x (u1.trans u') hz)
theorem m_fault {S : Mem} {st : AT} (h : MI S st) {w : Int32} {K : Int32 → Mem → Prop} (kk : ∀ S', FrM S S' → MI S' st → K (aFault st w) S') : P_X7_fault S w K := by
  unfold P_X7_fault
  unfold aFault at kk
  refine m_in 0 2 rfl rfl (fun c => ⟨fun _ => ?_, fun z => absurd z (by decide)⟩) (fun c => ⟨fun z => absurd rfl z, fun _ => ?_⟩)
  · rw [if_pos c] at kk
    refine m_hasFault h (fun S3 x u3 hr => ?_)
    have kk := kk S3 u3.m (h.fru u3)
    cases hp : parseT st with
    | inl e =>
      rw [hp] at hr kk
      obtain ⟨rfl, o1, o2, o3⟩ := hr
      rw [o1, o2, o3]
      refine ⟨fun _ => ⟨fun n0 => ⟨fun n1 => ?_, fun e1 => ?_⟩, fun e0 => ?_⟩, fun z => absurd z (by decide)⟩
      · dsimp only at kk; rw [if_neg n0, if_neg n1] at kk; exact kk
      · dsimp only at kk; rw [if_neg n0, if_pos e1] at kk; exact kk
      · dsimp only at kk; rw [if_pos e0] at kk; exact kk
    | inr L =>
      rw [hp] at hr kk
      have hr : x = 0 := hr
      subst hr
      exact ⟨fun z => absurd rfl z, fun _ => kk⟩
  · rw [if_neg c] at kk
    exact kk S (FrM.rf S) h
theorem m_playL {tx : List Nat} (htx : ∀ c ∈ tx, 32 ≤ c ∧ c ≤ 126) (hl : tx.length ≤ 60) {n0 : Nat} {sets : Nat × Nat × Nat} {hi : List AS} {K : Int32 → Mem → Prop} : ∀ (f : Nat) (n : Nat) (S : Mem) (p r : Nat) (rows L : AR), tx.length < p + f → f < n → MI S ((rows, sets), hi, tx) → S 53 23 = nI p → p ≤ tx.length → r = rows.length → r ≤ 100 → parseA tx n0 f p r = .inr L →
    (∀ S', FrM S S' → MI S' ((rows ++ L, sets), hi, tx) → K (nI (rows.length + L.length)) S') → B_X7_play_19 K n S := by
  intro f
  induction f with
  | zero => intro n S p r rows L h; omega
  | succ f ih =>
    intro n S p r rows L hf hn hM h5 hp hr hr100 hpar k
    match n, hn with
    | n + 1, hn =>
      have hT := hM.tx
      have hT : TxM S tx := hT
      unfold B_X7_play_19
      unfold parseA at hpar
      rw [hT.1, h5]
      have done : L = [] → B_X7_play_60 K S := by
        rintro rfl
        refine ⟨vin (n := 0) (by omega) (by omega), ?_⟩
        rw [cl0, hM.2.1.1]
        have := k S (FrM.rf S) (by rw [List.append_nil]; exact hM)
        exact this
      refine ⟨fun q => ?_, fun q => ?_⟩
      · rw [if_pos ((nI_leI (by omega) (by omega)).mp q)] at hpar
        cases hpar
        exact done rfl
      · have hlt : p < tx.length := Nat.not_le.mp fun z => q ((nI_leI (by omega) (by omega)).mpr z)
        rw [if_neg (by omega)] at hpar
        refine m_readsRow htx hl hT h5 hp (fun q hq S2 f2 e2 => ?_) (fun kk v p' hq S2 f2 e2 k2 v2 => ⟨fun z => absurd z (by decide), fun _ => ?_⟩)
        · rw [hq] at hpar; cases hpar
        · rw [hq] at hpar
          dsimp only at hpar
          obtain ⟨r1, r2, r3⟩ := rowA_ok hp hq
          split at hpar
          · cases hpar
          · rename_i n100
            split at hpar
            · cases hpar
            · rename_i M hMp
              cases hpar
              rw [k2, v2]
              have m2 : MI S2 ((rows, sets), hi, tx) := hM.fru f2.u
              refine m_adds (a := (rows, sets)) m2 (by show rows.length < 100; omega) r1 (fun S8 f8 g8 S10 hS10 => ?_)
              have u10 : FrU S8 S10 := by rw [hS10]; exact FrU.put S8 (by omega) _
              refine ih n S10 p' (r + 1) (rows ++ [(kk, v)]) M (by omega) (by omega) (g8.fru u10) (by rw [hS10, mput_at, upd_at, f8 53 (by omega)]; exact e2) r3 (by rw [List.length_append, hr]; rfl) (by omega) hMp (fun S' f' g' => ?_)
              have e1 : rows ++ [(kk, v)] ++ M = rows ++ (kk, v) :: M := by rw [List.append_assoc]; rfl
              have e2' : (rows ++ [(kk, v)]).length + M.length = rows.length + ((kk, v) :: M).length := by simp only [List.length_append, List.length_cons, List.length_nil]; omega
              rw [e1] at g'
              rw [e2']
              exact k S' (fun i hi => by rw [f' i hi, u10.1 i (by omega), f8 i (by omega), f2.1 i (by omega)]) g'
theorem m_play {S : Mem} {st : AT} (h : MI S st) {K : Int32 → Mem → Prop} (kk : ∀ S', FrM S S' → MI S' (aPlay st).2 → K (aPlay st).1 S') : P_X7_play S K := by
  unfold P_X7_play
  unfold aPlay at kk
  refine m_hasFault h (fun S1 x u1 hr => ?_)
  cases hp : parseT st with
  | inl e =>
    rw [hp] at hr kk
    obtain ⟨rfl, -⟩ := hr
    exact ⟨fun z => absurd z (by decide), fun _ => kk S1 u1.m (h.fru u1)⟩
  | inr L =>
    rw [hp] at hr kk
    have hr : x = 0 := hr
    subst hr
    refine ⟨fun _ => m_record (h.fru u1) (fun S3 f3 e54 e53 g3 S5 hS5 => ⟨62, ?_⟩), fun z => absurd rfl z⟩
    have u5 : FrU S3 S5 := by rw [hS5]; exact FrU.put S3 (by omega) _
    refine m_playL h.1.2.2.2.2 h.1.2.2.2.1 (n0 := st.1.1.length) 61 62 S5 0 st.1.1.length st.1.1 L (by have := h.1.2.2.2.1; omega) (by omega) (g3.fru u5) (by rw [hS5, mput_at, upd_at]; rfl) (Nat.zero_le _) rfl h.1.1.1 hp (fun S' f' g' => kk S' ((u1.m.trans f3).trans (u5.m.trans f')) g')
theorem s_fault : ∀ (S : Mem) (a0 : Int32), Inv S → P_X6_fault S a0 (fun r1 S1 => P_X7_fault S1 a0 (fun r2 S2 => r1 = r2 ∧ Inv S2)) := fun S a ⟨st, hC, hM⟩ => c_fault hC (fun S1 f1 g1 => m_fault (hM.frC f1) (fun S2 f2 g2 => ⟨rfl, _, g1.frM f2, g2⟩))
theorem s_play : ∀ (S : Mem), Inv S → P_X6_play S (fun r1 S1 => P_X7_play S1 (fun r2 S2 => r1 = r2 ∧ Inv S2)) := fun S ⟨st, hC, hM⟩ => c_play hC (fun S1 f1 g1 => m_play (hM.frC f1) (fun S2 f2 g2 => ⟨rfl, _, g1.frM f2, g2⟩))
