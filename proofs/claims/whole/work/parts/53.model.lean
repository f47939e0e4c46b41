/-! the reference's simple calls -/
theorem lg_lt {x y : Int64} : lg_cmp x y < 0 ↔ x < y := by
  unfold lg_cmp
  constructor
  · intro h
    split at h
    · exact absurd h (by decide)
    · split at h
      · exact absurd h (by decide)
      · rename_i h1 h2
        rcases Int64.lt_or_le x y with z | z
        · exact z
        · exact absurd (Int64.le_antisymm (Int64.not_lt.mp h1) z) h2
  · intro h
    rw [if_neg (Int64.not_lt.mpr (Int64.le_of_lt h)), if_neg (fun e => absurd h (by rw [e]; exact Int64.lt_irrefl))]
    decide
theorem lg_gt {x y : Int64} : 0 < lg_cmp x y ↔ y < x := by
  unfold lg_cmp
  constructor
  · intro h
    split at h
    · rename_i h1; exact h1
    · split at h
      · exact absurd h (by decide)
      · exact absurd h (by decide)
  · intro h
    rw [if_pos h]
    decide
theorem i64_le {v : Int32} {lo : Int64} {l : Int32} (e : lo.toInt = l.toInt) : (lo ≤ v.toInt64 ↔ l ≤ v) ∧ (v.toInt64 ≤ lo ↔ v ≤ l) := by
  constructor
  · rw [Int64.le_iff_toInt_le, Int32.le_iff_toInt_le, Int32.toInt_toInt64, e]
  · rw [Int64.le_iff_toInt_le, Int32.le_iff_toInt_le, Int32.toInt_toInt64, e]
theorem m_in {S : Mem} {v : Int32} {lo hi : Int64} (l h : Int32) (e1 : lo.toInt = l.toInt) (e2 : hi.toInt = h.toInt) {K : Int32 → Mem → Prop} (h1 : l ≤ v ∧ v ≤ h → K 1 S) (h0 : ¬ (l ≤ v ∧ v ≤ h) → K 0 S) : P_X7_in S (Int32.toInt64 v) lo hi K := by
  unfold P_X7_in
  refine ⟨fun q => h0 fun z => ?_, fun q => ⟨fun y => h0 fun z => ?_, fun y => h1 ⟨?_, ?_⟩⟩⟩
  · exact absurd (lg_lt.mp q) (Int64.not_lt.mpr ((i64_le e1).1.mpr z.1))
  · exact absurd (lg_gt.mp y) (Int64.not_lt.mpr ((i64_le e2).2.mpr z.2))
  · exact (i64_le e1).1.mp (Int64.not_lt.mp fun z => q (lg_lt.mpr z))
  · exact (i64_le e2).2.mp (Int64.not_lt.mp fun z => y (lg_gt.mpr z))
theorem cl0 : Int32.toNatClampNeg (0 : Int32) = 0 := by decide
theorem cl1 : Int32.toNatClampNeg (1 : Int32) = 1 := by decide
theorem cl2 : Int32.toNatClampNeg (2 : Int32) = 2 := by decide
theorem cl3 : Int32.toNatClampNeg (3 : Int32) = 3 := by decide
theorem vin {n N : Nat} (h : n < N) (hN : N < 2 ^ 31) : vp_in (nI n) N := vp_in_nI h hN
theorem mset_mset (S : Mem) (a : Nat) (f g : Nat → Int32) : mset (mset S a f) a g = mset S a g := by
  funext i
  by_cases h : i = a
  · subst h; rw [mset_at, mset_at]
  · rw [mset_ne _ _ h, mset_ne _ _ h, mset_ne _ _ h]
theorem mset_self (S : Mem) (a : Nat) : mset S a (S a) = S := by
  funext i
  by_cases h : i = a
  · subst h; rw [mset_at]
  · rw [mset_ne _ _ h]
theorem mput_mset (S : Mem) (a j : Nat) (f : Nat → Int32) (v : Int32) : mput (mset S a f) a j v = mset S a (upd f j v) := by
  unfold mput
  rw [mset_at, mset_mset]
/-! record -/
def shf (f : Nat → Int32) (i : Nat) : Nat → Int32 := fun j => if j < i then f (j + 204) else f j
def cpf (f g : Nat → Int32) (b i : Nat) : Nat → Int32 := fun j => if b ≤ j ∧ j < b + i then g (j - b) else f j
theorem m_shift {S : Mem} {K : Mem → Prop} (k : B_X7_record_39 K (mset S 55 (shf (S 55) 612))) : ∀ (n i : Nat), i ≤ 612 → 612 - i < n → B_X7_record_10 K n (mset S 55 (shf (S 55) i)) (nI i) := by
  intro n
  induction n with
  | zero => intro i _ h; omega
  | succ n ih =>
    intro i hi hn
    refine ⟨fun q => ?_, fun q => ?_⟩
    · have := (nI_leI (a := 612) (by omega) (by omega)).mp q
      rw [show i = 612 by omega]
      exact k
    · have hlt : i < 612 := Nat.not_le.mp fun z => q ((nI_leI (a := 612) (by omega) (by omega)).mpr z)
      rw [show nI i + (204 : Int32) = nI (i + 204) from nI_add i 204]
      refine ⟨vin (by omega) (by omega), vin (by omega) (by omega), fun S5 hS5 => ?_⟩
      rw [nI_clamp (by omega), nI_clamp (by omega), mput_mset, mset_at] at hS5
      rw [nI_1]
      have : S5 = mset S 55 (shf (S 55) (i + 1)) := by
        rw [hS5]
        congr 1
        funext j
        simp only [shf]
        by_cases hj : j = i
        · subst hj
          rw [upd_at, if_neg (by omega), if_pos (by omega)]
        · rw [upd_ne _ _ hj]
          simp only [shf]
          by_cases h2 : j < i
          · rw [if_pos h2, if_pos (by omega)]
          · rw [if_neg h2, if_neg (by omega)]
      rw [this]
      exact ih (i + 1) (by omega) (by omega)
theorem m_copyIn {S : Mem} {m : Nat} (hm : m < 4) (e : S 53 2 = nI m) {K : Mem → Prop} (k : B_X7_record_85 K (mset S 55 (cpf (S 55) (S 54) (204 * m) 204))) : ∀ (n i : Nat), i ≤ 204 → 204 - i < n → B_X7_record_51 K n (mset S 55 (cpf (S 55) (S 54) (204 * m) i)) (nI i) := by
  intro n
  induction n with
  | zero => intro i _ h; omega
  | succ n ih =>
    intro i hi hn
    refine ⟨fun q => ?_, fun q => ?_⟩
    · have := (nI_leI (a := 204) (by omega) (by omega)).mp q
      rw [show i = 204 by omega]
      exact k
    · have hlt : i < 204 := Nat.not_le.mp fun z => q ((nI_leI (a := 204) (by omega) (by omega)).mpr z)
      have e1 : (204 : Int32) * (mset S 55 (cpf (S 55) (S 54) (204 * m) i) 53 2) + nI i = nI (204 * m + i) := by
        rw [mset_ne _ _ (by omega), e]
        show nI 204 * nI m + nI i = _
        rw [pk_mul, nI_add]
      rw [e1]
      refine ⟨vin (by omega) (by omega), vin (by omega) (by omega), fun S2 hS2 => ?_⟩
      rw [nI_clamp (by omega), nI_clamp (by omega), mput_mset, mset_ne S _ (show (54 : Nat) ≠ 55 by omega)] at hS2
      rw [nI_1]
      have : S2 = mset S 55 (cpf (S 55) (S 54) (204 * m) (i + 1)) := by
        rw [hS2]
        congr 1
        funext j
        simp only [cpf]
        by_cases hj : j = 204 * m + i
        · subst hj
          rw [upd_at, if_pos (by omega)]
          congr 1
          omega
        · rw [upd_ne _ _ hj]
          simp only [cpf]
          by_cases h2 : 204 * m ≤ j ∧ j < 204 * m + i
          · rw [if_pos h2, if_pos (by omega)]
          · rw [if_neg h2, if_neg (by omega)]
      rw [this]
      exact ih (i + 1) (by omega) (by omega)
theorem m_rec49 {S : Mem} {a : AS} {h : List AS} (ha : okS a) (hoks : ∀ x ∈ h, okS x) (hl : h.length < 4) (h1 : AllIs (S 54) a) (e : S 53 2 = nI h.length) (hh : ∀ k b, h[k]? = some b → AllIs (fun j => S 55 (204 * k + j)) b) {K : Mem → Prop} (k : ∀ S', (∀ i, i ≠ 53 → i ≠ 55 → S' i = S i) → (∀ j, j ≠ 2 → S' 53 j = S 53 j) → S' 53 2 = nI (h.length + 1) → (∀ k b, (h ++ [a])[k]? = some b → AllIs (fun j => S' 55 (204 * k + j)) b) → K S') : B_X7_record_49 K S := by
  refine ⟨205, ?_⟩
  have z := m_copyIn (S := S) hl e (K := K) ?_ 205 0 (by omega) (by omega)
  · have e0 : mset S 55 (cpf (S 55) (S 54) (204 * h.length) 0) = S := by
      have : cpf (S 55) (S 54) (204 * h.length) 0 = S 55 := by
        funext j
        simp only [cpf]
        rw [if_neg (by omega)]
      rw [this, mset_self]
    rw [e0] at z
    exact z
  · intro S1 hS1
    have f1 : ∀ i, i ≠ 53 → S1 i = mset S 55 (cpf (S 55) (S 54) (204 * h.length) 204) i := fun i hi => by rw [hS1]; exact mput_ne _ _ _ hi
    refine k S1 (fun i a b => by rw [f1 i a, mset_ne _ _ b]) (fun j hj => by rw [hS1, mput_at, upd_ne _ _ hj, mset_ne _ _ (by omega)]) (by rw [hS1, mput_at, upd_at, mset_ne _ _ (by omega), e, nI_1]) (fun k b hb => ?_)
    have hlen := (List.getElem?_eq_some_iff.mp hb).1
    rw [List.length_append] at hlen
    have hlen : k < h.length + 1 := hlen
    rw [f1 55 (by omega), mset_at]
    by_cases hk : k < h.length
    · rw [List.getElem?_append_left hk] at hb
      refine (hh k b hb).eq (hoks b (List.mem_of_getElem? hb)).1 (fun j hj => ?_)
      simp only [cpf]
      rw [if_neg (by omega)]
    · have : k = h.length := by omega
      subst this
      rw [List.getElem?_append_right (Nat.le_refl _), Nat.sub_self] at hb
      cases hb
      refine h1.eq ha.1 (fun j hj => ?_)
      simp only [cpf]
      rw [if_pos (by omega)]
      congr 1
      omega
theorem m_record {S : Mem} {st : AT} (h : MI S st) {K : Mem → Prop} (k : ∀ S', FrM S S' → S' 54 = S 54 → (∀ j, j ≠ 2 → S' 53 j = S 53 j) → MI S' (chg st st.1) → K S') : P_X7_record S K := by
  obtain ⟨h1, h2, h3, h4, h5, h6, h7⟩ := h
  have hl4 := h1.2.1
  unfold P_X7_record
  rw [h3]
  refine ⟨fun q => ?_, fun q => ?_⟩
  · have hlt : st.2.1.length < 4 := by
      rcases Nat.lt_or_ge st.2.1.length 4 with w | w
      · exact w
      · exact absurd (show nI st.2.1.length = nI 4 from by rw [show st.2.1.length = 4 by omega]) q
    refine m_rec49 h1.1 h1.2.2.1 hlt h2 h3 h4 (fun S' f1 f2 e1 g => k S' (fun i hi => f1 i (by omega) (by omega)) (f1 54 (by omega) (by omega)) f2 ?_)
    have ep : pushH st.2.1 st.1 = st.2.1 ++ [st.1] := by rw [pushH, if_neg (by omega)]
    refine ⟨okT_chg h1 h1.1, by rw [f1 54 (by omega) (by omega)]; exact h2, ?_, ?_, by rw [f2 22 (by omega)]; exact h5, by rw [f1 65 (by omega) (by omega)]; exact h6, by rw [f2 6 (by omega)]; exact h7⟩
    · show _ = nI (pushH st.2.1 st.1).length
      rw [ep, List.length_append]; exact e1
    · show ∀ k b, (pushH st.2.1 st.1)[k]? = some b → _
      rw [ep]; exact g
  · have hh4 : st.2.1.length = 4 := by
      have : nI st.2.1.length = nI 4 := q
      exact (nI_eq (by omega) (by omega)).mp this
    refine ⟨613, ?_⟩
    have z := m_shift (S := S) (K := K) ?_ 613 0 (by omega) (by omega)
    · have e0 : mset S 55 (shf (S 55) 0) = S := by
        have : shf (S 55) 0 = S 55 := by
          funext j
          simp only [shf]
          rw [if_neg (by omega)]
        rw [this, mset_self]
      rw [e0] at z
      exact z
    · intro S4 hS4
      have f4 : ∀ i, i ≠ 53 → S4 i = mset S 55 (shf (S 55) 612) i := fun i hi => by rw [hS4]; exact mput_ne _ _ _ hi
      have hd : (st.2.1.drop 1).length = 3 := by rw [List.length_drop]; omega
      have e4 : S4 53 2 = nI (st.2.1.drop 1).length := by
        rw [hS4, mput_at, upd_at, mset_ne _ _ (by omega), h3, hh4, hd]; exact nI_pred 3
      have ep : pushH st.2.1 st.1 = st.2.1.drop 1 ++ [st.1] := by rw [pushH, if_pos hh4]
      refine m_rec49 (h := st.2.1.drop 1) h1.1 (fun x hx => h1.2.2.1 x (List.mem_of_mem_drop hx)) (by omega) (by rw [f4 54 (by omega), mset_ne _ _ (by omega)]; exact h2) e4 (fun j b hb => ?_) (fun S' f1 f2 e1 g => k S' (fun i hi => by rw [f1 i (by omega) (by omega), f4 i (by omega), mset_ne _ _ (by omega)]) (by rw [f1 54 (by omega) (by omega), f4 54 (by omega), mset_ne _ _ (by omega)]) (fun j hj => by rw [f2 j hj, hS4, mput_at, upd_ne _ _ hj, mset_ne _ _ (by omega)]) ?_)
      · rw [List.getElem?_drop] at hb
        have hlen := (List.getElem?_eq_some_iff.mp hb).1
        rw [f4 55 (by omega), mset_at]
        refine (h4 (1 + j) b hb).eq (h1.2.2.1 b (List.mem_of_getElem? hb)).1 (fun i hi => ?_)
        simp only [shf]
        rw [if_pos (by omega)]
        congr 1
        omega
      · refine ⟨okT_chg h1 h1.1, by rw [f1 54 (by omega) (by omega), f4 54 (by omega), mset_ne _ _ (by omega)]; exact h2, ?_, ?_, by rw [f2 22 (by omega), hS4, mput_at, upd_ne _ _ (by omega), mset_ne _ _ (by omega)]; exact h5, by rw [f1 65 (by omega) (by omega), f4 65 (by omega), mset_ne _ _ (by omega)]; exact h6, by rw [f2 6 (by omega), hS4, mput_at, upd_ne _ _ (by omega), mset_ne _ _ (by omega)]; exact h7⟩
        · show _ = nI (pushH st.2.1 st.1).length
          rw [ep, List.length_append]; exact e1
        · show ∀ k b, (pushH st.2.1 st.1)[k]? = some b → _
          rw [ep]; exact g
/-- after a change of the row of numbers -/
theorem MI.all {S S' : Mem} {a : AS} {hi : List AS} {tx : List Nat} (h : MI S (a, hi, tx)) (b : AS) (hok : okS b) (g : AllIs (S' 54) b) (f : ∀ i, i ≠ 54 → S' i = S i) : MI S' (b, hi, tx) := by
  obtain ⟨h1, h2, h3, h4, h5, h6, h7⟩ := h
  exact ⟨⟨hok, h1.2⟩, g, by rw [f _ (by omega)]; exact h3, by rw [f 55 (by omega)]; exact h4, by rw [f _ (by omega)]; exact h5, by rw [f 65 (by omega)]; exact h6, by rw [f _ (by omega)]; exact h7⟩
theorem m_adds {S : Mem} {a : AS} {hi : List AS} {tx : List Nat} (h : MI S (a, hi, tx)) (hl : a.1.length < 100) {k : Nat} (hk : k ≤ 9999) {v : Int32} {K : Mem → Prop} (kk : ∀ S', (∀ i, i ≠ 54 → S' i = S i) → MI S' ((a.1 ++ [(k, v)], a.2), hi, tx) → K S') : P_X7_adds S (nI k) v K := by
  obtain ⟨h1, h2, h3, h4, h5, h6, h7⟩ := id h
  obtain ⟨a1, a2, a3, a4, a5⟩ := h2
  have a1 : S 54 0 = nI a.1.length := a1
  unfold P_X7_adds
  rw [cl0, a1, show (4 : Int32) + nI a.1.length = nI (4 + a.1.length) from nI_add 4 _]
  refine ⟨vin (n := 0) (by omega) (by omega), vin (by omega) (by omega), fun S1 hS1 => ?_⟩
  rw [nI_clamp (by omega)] at hS1
  have b1 : S1 54 0 = nI a.1.length := by rw [hS1, mput_at, upd_ne _ _ (by omega)]; exact a1
  rw [b1, show (104 : Int32) + nI a.1.length = nI (104 + a.1.length) from nI_add 104 _]
  refine ⟨vin (n := 0) (by omega) (by omega), vin (by omega) (by omega), fun S2 hS2 => ?_⟩
  rw [nI_clamp (by omega)] at hS2
  have b2 : S2 54 0 = nI a.1.length := by rw [hS2, mput_at, upd_ne _ _ (by omega)]; exact b1
  rw [b2, nI_1]
  refine ⟨vin (n := 0) (by omega) (by omega), vin (n := 0) (by omega) (by omega), fun S3 hS3 => ?_⟩
  have f3 : ∀ i, i ≠ 54 → S3 i = S i := fun i hi => by rw [hS3, mput_ne _ _ _ hi, hS2, mput_ne _ _ _ hi, hS1, mput_ne _ _ _ hi]
  have e : ∀ j, S3 54 j = if j = 0 then nI (a.1.length + 1) else if j = 104 + a.1.length then v else if j = 4 + a.1.length then nI k else S 54 j := by
    intro j
    rw [hS3, mput_at, hS2, mput_at, hS1, mput_at]
    simp only [upd]
  refine kk S3 f3 (h.all _ ⟨by rw [List.length_append]; simp; omega, fun r hr => ?_, h1.1.2.2⟩ ⟨?_, ?_, ?_, ?_, fun j r hr => ?_⟩ f3)
  · rcases List.mem_append.mp hr with q | q
    · exact h1.1.2.1 r q
    · rw [List.mem_singleton.mp q]; exact hk
  · rw [e, if_pos rfl, List.length_append]; rfl
  · rw [e, if_neg (by omega), if_neg (by omega), if_neg (by omega)]; exact a2
  · rw [e, if_neg (by omega), if_neg (by omega), if_neg (by omega)]; exact a3
  · rw [e, if_neg (by omega), if_neg (by omega), if_neg (by omega)]; exact a4
  · have hlen := (List.getElem?_eq_some_iff.mp hr).1
    rw [List.length_append] at hlen
    have hlen : j < a.1.length + 1 := hlen
    rw [e, e]
    by_cases hj : j < a.1.length
    · have hr : (a.1 ++ [(k, v)])[j]? = some r := hr
      rw [List.getElem?_append_left hj] at hr
      rw [if_neg (by omega), if_neg (by omega), if_neg (by omega), if_neg (by omega), if_neg (by omega), if_neg (by omega)]
      exact a5 j r hr
    · have : j = a.1.length := by omega
      subst this
      have hr : (a.1 ++ [(k, v)])[a.1.length]? = some r := hr
      rw [List.getElem?_append_right (Nat.le_refl _), Nat.sub_self] at hr
      cases hr
      rw [if_neg (by omega), if_neg (by omega), if_pos rfl, if_neg (by omega), if_pos rfl]
      exact ⟨rfl, rfl⟩
theorem m_row {S : Mem} {st : AT} (h : MI S st) {k v : Int32} {K : Int32 → Mem → Prop} (kk : ∀ S', FrM S S' → MI S' (aRow st k v).2 → K (aRow st k v).1 S') : P_X7_row S k v K := by
  unfold P_X7_row P_X7_isRow
  unfold aRow at kk
  have a1 := h.2.1.1
  have hle := h.1.1.1
  refine m_in 0 9999 rfl rfl (fun c1 => ⟨fun z => absurd z (by decide), fun _ => ?_⟩) (fun c1 => ⟨fun _ => ⟨fun z => absurd rfl z, fun _ => ?_⟩, fun z => absurd rfl z⟩)
  · refine m_in (-999) 999 rfl rfl (fun c2 => ⟨fun z => absurd z (by decide), fun _ => ⟨fun _ => ?_, fun z => absurd z (by decide)⟩⟩) (fun c2 => ⟨fun _ => ⟨fun z => absurd rfl z, fun _ => ?_⟩, fun z => absurd rfl z⟩)
    · rw [if_pos ⟨c1.1, c1.2, c2.1, c2.2⟩] at kk
      obtain ⟨j, hj, rfl⟩ := le_nI (n := 9999) c1.1 c1.2 (by omega)
      rw [cl0, a1]
      refine ⟨vin (n := 0) (by omega) (by omega), fun q => ?_, fun q => ?_⟩
      · have hlt : st.1.1.length < 100 := by
          rcases Nat.lt_or_ge st.1.1.length 100 with w | w
          · exact w
          · exact absurd (show nI st.1.1.length = nI 100 from by rw [show st.1.1.length = 100 by omega]) q
        rw [if_pos hlt, nI_clamp (by omega)] at kk
        refine m_record h (fun S3 f3 _ _ g3 => ?_)
        refine m_adds (a := st.1) g3 hlt hj (fun S5 f5 g5 => ⟨vin (n := 0) (by omega) (by omega), ?_⟩)
        have e5 : S5 54 0 = nI (st.1.1.length + 1) := by
          have := g5.2.1.1
          rw [List.length_append] at this
          exact this
        rw [e5, show nI (st.1.1.length + 1) - (1 : Int32) = nI st.1.1.length from nI_pred _]
        exact kk S5 (fun i hi => by rw [f5 i (by omega), f3 i hi]) g5
      · have hh : st.1.1.length = 100 := by
          have : nI st.1.1.length = nI 100 := q
          exact (nI_eq (by omega) (by omega)).mp this
        rw [if_neg (by omega)] at kk
        exact kk S (FrM.rf S) h
    · rw [if_neg (fun z => c2 ⟨z.2.2.1, z.2.2.2⟩)] at kk
      exact kk S (FrM.rf S) h
  · rw [if_neg (fun z => c1 ⟨z.1, z.2.1⟩)] at kk
    exact kk S (FrM.rf S) h
/-! drop -/
def drf (f : Nat → Int32) (r i : Nat) : Nat → Int32 := fun j => if (4 + r ≤ j ∧ j < 4 + i) ∨ (104 + r ≤ j ∧ j < 104 + i) then f (j + 1) else f j
theorem m_dropL {S : Mem} {r m : Nat} (hm : m < 100) (e : S 54 0 = nI m) {K : Int32 → Mem → Prop} (k : B_X7_drop_90 K (mset S 54 (drf (S 54) r m))) : ∀ (n i : Nat), r ≤ i → i ≤ m → m - i < n → B_X7_drop_36 K n (mset S 54 (drf (S 54) r i)) (nI i) := by
  intro n
  induction n with
  | zero => intro i _ _ h; omega
  | succ n ih =>
    intro i hr hi hn
    have e0 : mset S 54 (drf (S 54) r i) 54 (Int32.toNatClampNeg 0) = nI m := by
      rw [cl0, mset_at]
      simp only [drf]
      rw [if_neg (by omega)]
      exact e
    refine ⟨vin (n := 0) (by omega) (by omega), ?_⟩
    rw [e0]
    refine ⟨fun q => ?_, fun q => ?_⟩
    · have := (nI_leI (by omega) (by omega)).mp q
      rw [show i = m by omega]
      exact k
    · have hlt : i < m := Nat.not_le.mp fun z => q ((nI_leI (by omega) (by omega)).mpr z)
      rw [show (4 : Int32) + nI i = nI (4 + i) from nI_add 4 i, show (104 : Int32) + nI i = nI (104 + i) from nI_add 104 i, nI_1, nI_1, nI_1]
      refine ⟨vin (by omega) (by omega), vin (by omega) (by omega), fun S4 hS4 => ⟨vin (by omega) (by omega), vin (by omega) (by omega), fun S5 hS5 => ?_⟩⟩
      rw [nI_clamp (by omega), nI_clamp (by omega), mput_mset, mset_at] at hS4
      rw [nI_clamp (by omega), nI_clamp (by omega), hS4, mput_mset, mset_at] at hS5
      have : S5 = mset S 54 (drf (S 54) r (i + 1)) := by
        rw [hS5]
        congr 1
        funext j
        simp only [upd, drf]
        by_cases j1 : j = 104 + i
        · subst j1
          rw [if_pos rfl, if_neg (by omega), if_neg (by omega), if_pos (by omega)]
        · rw [if_neg j1]
          by_cases j2 : j = 4 + i
          · subst j2
            rw [if_pos rfl, if_neg (by omega), if_pos (by omega)]
          · rw [if_neg j2]
            by_cases h2 : (4 + r ≤ j ∧ j < 4 + i) ∨ (104 + r ≤ j ∧ j < 104 + i)
            · rw [if_pos h2, if_pos (by omega)]
            · rw [if_neg h2, if_neg (by omega)]
      rw [this]
      exact ih (i + 1) (by omega) (by omega) (by omega)
theorem m_drop {S : Mem} {st : AT} (h : MI S st) {r : Int32} {K : Int32 → Mem → Prop} (kk : ∀ S', FrM S S' → MI S' (aDrop st r).2 → K (aDrop st r).1 S') : P_X7_drop S r K := by
  unfold P_X7_drop
  unfold aDrop at kk
  have a1 := h.2.1.1
  have hle := h.1.1.1
  refine ⟨fun q0 => ?_, fun q0 => ?_⟩
  · have hn : ¬ r < 0 := Int32.not_lt.mpr q0
    rw [if_neg hn] at kk
    rw [cl0, a1]
    refine ⟨vin (n := 0) (by omega) (by omega), fun q => ?_, fun q => ?_⟩
    · rw [if_pos q] at kk
      obtain ⟨j, hj, rfl⟩ := nI_of hn
      have hlt : j < st.1.1.length := (nI_ltI hj (by omega)).mp q
      rw [nI_clamp hj] at kk
      refine m_record h (fun S1 f1 e54 _ g1 => ⟨vin (n := 0) (by omega) (by omega), vin (n := 0) (by omega) (by omega), fun S3 hS3 => ?_⟩)
      have b1 : S1 54 0 = nI st.1.1.length := by rw [e54]; exact a1
      obtain ⟨m, hm⟩ : ∃ m, st.1.1.length = m + 1 := ⟨st.1.1.length - 1, by omega⟩
      rw [b1, hm, show nI (m + 1) - (1 : Int32) = nI m from nI_pred m] at hS3
      have e3 : S3 54 0 = nI m := by rw [hS3, mput_at, upd_at]
      have f3 : ∀ i, i ≠ 54 → S3 i = S1 i := fun i hi => by rw [hS3]; exact mput_ne _ _ _ hi
      refine ⟨m + 1, ?_⟩
      have z := m_dropL (S := S3) (r := j) (m := m) (by omega) e3 (K := K) ?_ (m + 1) j (Nat.le_refl _) (by omega) (by omega)
      · have e0 : mset S3 54 (drf (S3 54) j j) = S3 := by
          have : drf (S3 54) j j = S3 54 := by
            funext i
            simp only [drf]
            rw [if_neg (by omega)]
          rw [this, mset_self]
        rw [e0] at z
        exact z
      · refine ⟨vin (n := 0) (by omega) (by omega), ?_⟩
        obtain ⟨S4, hS4⟩ : ∃ z, z = mset S3 54 (drf (S3 54) j m) := ⟨_, rfl⟩
        rw [← hS4]
        have e4 : ∀ i, S4 54 i = if (4 + j ≤ i ∧ i < 4 + m) ∨ (104 + j ≤ i ∧ i < 104 + m) then S3 54 (i + 1) else S3 54 i := fun i => by rw [hS4, mset_at]; rfl
        have e5 : ∀ i, i ≠ 0 → S3 54 i = S 54 i := fun i hi => by rw [hS3, mput_at, upd_ne _ _ hi, e54]
        have b4 : S4 54 (Int32.toNatClampNeg 0) = nI m := by rw [cl0, e4, if_neg (by omega)]; exact e3
        rw [b4]
        rw [hm, Nat.add_sub_cancel] at kk
        have f4 : ∀ i, i ≠ 54 → S4 i = S1 i := fun i hi => by rw [hS4, mset_ne _ _ hi]; exact f3 i hi
        have hl2 : (st.1.1.eraseIdx j).length = m := by rw [List.length_eraseIdx_of_lt hlt]; omega
        obtain ⟨-, c2, c3, c4, c5⟩ := h.2.1
        refine kk S4 (fun i hi => by rw [f4 i (by omega)]; exact f1 i hi) (MI.all (S := S1) (a := st.1) g1 _ ⟨by show (st.1.1.eraseIdx j).length ≤ 100; omega, fun x hx => h.1.1.2.1 x (List.mem_of_mem_eraseIdx hx), h.1.1.2.2⟩ ⟨?_, ?_, ?_, ?_, fun i x hx => ?_⟩ f4)
        · rw [e4, if_neg (by omega), e3, hl2]
        · rw [e4, if_neg (by omega), e5 _ (by omega)]; exact c2
        · rw [e4, if_neg (by omega), e5 _ (by omega)]; exact c3
        · rw [e4, if_neg (by omega), e5 _ (by omega)]; exact c4
        · have hx : (st.1.1.eraseIdx j)[i]? = some x := hx
          have hil := (List.getElem?_eq_some_iff.mp hx).1
          rw [List.getElem?_eraseIdx] at hx
          rw [e4, e4]
          by_cases hij : i < j
          · rw [if_pos hij] at hx
            rw [if_neg (by omega), if_neg (by omega), e5 _ (by omega), e5 _ (by omega)]
            exact c5 i x hx
          · rw [if_neg hij] at hx
            rw [if_pos (by omega), if_pos (by omega), e5 _ (by omega), e5 _ (by omega)]
            exact c5 (i + 1) x hx
    · rw [if_neg q] at kk
      exact kk S (FrM.rf S) h
  · rw [if_pos (Int32.not_le.mp q0)] at kk
    exact kk S (FrM.rf S) h
theorem m_clear {S : Mem} {st : AT} (h : MI S st) {K : Int32 → Mem → Prop} (kk : ∀ S', FrM S S' → MI S' (aClear st).2 → K (aClear st).1 S') : P_X7_clear S K := by
  unfold P_X7_clear
  obtain ⟨a1, a2, a3, a4, a5⟩ := h.2.1
  refine m_record h (fun S1 f1 e54 _ g1 => ⟨vin (n := 0) (by omega) (by omega), vin (n := 0) (by omega) (by omega), fun S3 hS3 => ?_⟩)
  rw [cl0, e54, a1]
  rw [cl0] at hS3
  have f3 : ∀ i, i ≠ 54 → S3 i = S1 i := fun i hi => by rw [hS3]; exact mput_ne _ _ _ hi
  refine kk S3 (fun i hi => by rw [f3 i (by omega)]; exact f1 i hi) (MI.all (S := S1) (a := st.1) g1 _ ⟨Nat.zero_le _, fun x hx => absurd hx List.not_mem_nil, h.1.1.2.2⟩ ⟨?_, ?_, ?_, ?_, fun i x hx => by cases hx⟩ f3)
  · rw [hS3, mput_at, upd_at]; rfl
  · rw [hS3, mput_at, upd_ne _ _ (by omega), e54]; exact a2
  · rw [hS3, mput_at, upd_ne _ _ (by omega), e54]; exact a3
  · rw [hS3, mput_at, upd_ne _ _ (by omega), e54]; exact a4
theorem getSet_all {f : Nat → Int32} {a : AS} (h : AllIs f a) {i : Nat} (hi : i < 3) : f (1 + i) = nI (getSet a i) := by
  rcases (show i = 0 ∨ i = 1 ∨ i = 2 by omega) with rfl | rfl | rfl
  · exact h.2.1
  · exact h.2.2.1
  · exact h.2.2.2.1
theorem putSet_all {f : Nat → Int32} {a : AS} (h : AllIs f a) {i j : Nat} (hi : i < 3) : AllIs (upd f (1 + i) (nI j)) (putSet a i j) := by
  obtain ⟨h1, h2, h3, h4, h5⟩ := h
  have e : ∀ k, k ≠ 1 + i → upd f (1 + i) (nI j) k = f k := fun k hk => upd_ne _ _ hk
  rcases (show i = 0 ∨ i = 1 ∨ i = 2 by omega) with rfl | rfl | rfl
  · exact ⟨by rw [e _ (by omega)]; exact h1, upd_at _ _ _, by rw [e _ (by omega)]; exact h3, by rw [e _ (by omega)]; exact h4, fun k r hr => by rw [e _ (by omega), e _ (by omega)]; exact h5 k r hr⟩
  · exact ⟨by rw [e _ (by omega)]; exact h1, by rw [e _ (by omega)]; exact h2, upd_at _ _ _, by rw [e _ (by omega)]; exact h4, fun k r hr => by rw [e _ (by omega), e _ (by omega)]; exact h5 k r hr⟩
  · exact ⟨by rw [e _ (by omega)]; exact h1, by rw [e _ (by omega)]; exact h2, by rw [e _ (by omega)]; exact h3, upd_at _ _ _, fun k r hr => by rw [e _ (by omega), e _ (by omega)]; exact h5 k r hr⟩
theorem m_set62 {S : Mem} {st : AT} (h : MI S st) {w v y : Int32} {K : Int32 → Mem → Prop} (hy : y = 1 ∧ okSet w v ∨ y = 0 ∧ ¬ okSet w v) (kk : ∀ S', FrM S S' → MI S' (aSet st w v).2 → K (aSet st w v).1 S') : B_X7_set_62 K S w v y := by
  unfold aSet at kk
  rcases hy with ⟨rfl, hs⟩ | ⟨rfl, hs⟩
  · rw [if_pos hs] at kk
    refine ⟨fun _ => ?_, fun z => absurd z (by decide)⟩
    obtain ⟨i, j, hi, rfl, rfl, h1, h2, h3, h4⟩ := okSet_nat hs
    rw [nI_clamp (by omega), nI_clamp (by omega)] at kk
    refine m_record h (fun S1 f1 e54 _ g1 => ?_)
    rw [show (1 : Int32) + nI i = nI (1 + i) from nI_add 1 i]
    refine ⟨vin (by omega) (by omega), vin (by omega) (by omega), fun S3 hS3 => ?_⟩
    rw [nI_clamp (by omega)] at hS3
    rw [nI_clamp (by omega), e54, getSet_all h.2.1 hi]
    have f3 : ∀ k, k ≠ 54 → S3 k = S1 k := fun k hk => by rw [hS3]; exact mput_ne _ _ _ hk
    refine kk S3 (fun k hk => by rw [f3 k (by omega)]; exact f1 k hk) (MI.all (S := S1) (a := st.1) g1 _ (putSet_ok h.1.1 hi h1 h2 h3 h4).1 ?_ f3)
    rw [hS3, mput_at, e54]
    exact putSet_all h.2.1 hi
  · rw [if_neg hs] at kk
    exact ⟨fun z => absurd rfl z, fun _ => kk S (FrM.rf S) h⟩
theorem odd_alike {v : Int32} (h1 : 1 ≤ v) (h2 : v ≤ 65535) : (v - v / (2 : Int32) * (2 : Int32) = 1) ↔ (v &&& (1 : Int32) = 1) := by
  obtain ⟨j, hj, rfl⟩ := le_nI (n := 65535) (Int32.le_trans (by decide) h1) h2 (by omega)
  have e1 : nI j - nI j / (2 : Int32) * (2 : Int32) = nI (j % 2) := pk_rem (d := 2) (by omega) (by omega) (by omega)
  have e2 : nI j &&& (1 : Int32) = nI (j % 2) := pk_andN (m := 1) (by omega) 1 (by decide)
  rw [e1, e2]
theorem m_set {S : Mem} {st : AT} (h : MI S st) {w v : Int32} {K : Int32 → Mem → Prop} (kk : ∀ S', FrM S S' → MI S' (aSet st w v).2 → K (aSet st w v).1 S') : P_X7_set S w v K := by
  unfold P_X7_set B_X7_set_61
  have no : ∀ {i : Int32}, w = i → i ≠ 0 → i ≠ 1 → i ≠ 2 → ¬ okSet w v := by
    intro i e n0 n1 n2 z
    rcases z with ⟨z, -⟩ | ⟨z, -⟩ | ⟨z, -⟩
    · exact n0 (e.symm.trans z)
    · exact n1 (e.symm.trans z)
    · exact n2 (e.symm.trans z)
  refine ⟨fun n0 => ⟨fun n1 => ⟨fun n2 => m_set62 h (Or.inr ⟨rfl, no rfl n0 n1 n2⟩) kk, fun e => ?_⟩, fun e => ?_⟩, fun e => ?_⟩
  · refine m_in 1 65535 rfl rfl (fun c => ⟨fun z => absurd z (by decide), fun _ => ⟨fun z => m_set62 h (Or.inr ⟨rfl, ?_⟩) kk, fun z => m_set62 h (Or.inl ⟨rfl, Or.inr (Or.inr ⟨e, c.1, c.2, (odd_alike c.1 c.2).mp z⟩)⟩) kk⟩⟩) (fun c => ⟨fun _ => m_set62 h (Or.inr ⟨rfl, ?_⟩) kk, fun z => absurd rfl z⟩)
    · rintro (⟨y, -⟩ | ⟨y, -⟩ | ⟨-, -, -, y⟩)
      · rw [e] at y; exact absurd y (by decide)
      · rw [e] at y; exact absurd y (by decide)
      · exact z ((odd_alike c.1 c.2).mpr y)
    · rintro (⟨y, -⟩ | ⟨y, -⟩ | ⟨-, y, x, -⟩)
      · rw [e] at y; exact absurd y (by decide)
      · rw [e] at y; exact absurd y (by decide)
      · exact c ⟨y, x⟩
  · refine m_in 1 4 rfl rfl (fun c => m_set62 h (Or.inl ⟨rfl, Or.inr (Or.inl ⟨e, c⟩)⟩) kk) (fun c => m_set62 h (Or.inr ⟨rfl, ?_⟩) kk)
    rintro (⟨y, -⟩ | ⟨-, y⟩ | ⟨y, -⟩)
    · rw [e] at y; exact absurd y (by decide)
    · exact c y
    · rw [e] at y; exact absurd y (by decide)
  · refine m_in 1 12 rfl rfl (fun c => m_set62 h (Or.inl ⟨rfl, Or.inl ⟨e, c⟩⟩) kk) (fun c => m_set62 h (Or.inr ⟨rfl, ?_⟩) kk)
    rintro (⟨-, y⟩ | ⟨y, -⟩ | ⟨y, -⟩)
    · exact c y
    · rw [e] at y; exact absurd y (by decide)
    · rw [e] at y; exact absurd y (by decide)
/-! rowOf -/
theorem m_hash {S : Mem} {a : AS} (ha : okS a) (h : AllIs (S 54) a) {k : Nat} (hk : k ≤ 9999) {K : Int32 → Mem → Prop} (kk : K (nI (hsh a.2.2.2 k)) S) : P_X7_hashOf S (nI k) K := by
  unfold P_X7_hashOf
  have h1 : k * a.2.2.2 ≤ 9999 * 65535 := Nat.mul_le_mul hk ha.2.2.2.2.2
  refine ⟨vin (n := 3) (by omega) (by omega), ?_⟩
  rw [cl3, h.2.2.2.1, pk_mul, show nI (k * a.2.2.2) + (7919 : Int32) = nI (k * a.2.2.2 + 7919) from nI_add _ _]
  rw [show nI (k * a.2.2.2 + 7919) - nI (k * a.2.2.2 + 7919) / (65536 : Int32) * (65536 : Int32) = nI ((k * a.2.2.2 + 7919) % 65536) from pk_rem (d := 65536) (by omega) (by omega) (by omega)]
  exact kk
theorem part_val {h b l : Nat} (hh : h < 65536) (hb1 : 1 ≤ b) (hb4 : b ≤ 4) (hl : (l + 1) * b ≤ 16) : (nI h >>> (((16 : Int32) - ((nI l + (1 : Int32)) * nI b)) &&& 31)) &&& (((1 : Int32) <<< (nI b &&& 31)) - (1 : Int32)) = nI (h / 2 ^ (16 - (l + 1) * b) % 2 ^ b) := by
  have e1 : (nI l + (1 : Int32)) * nI b = nI ((l + 1) * b) := by rw [nI_1, pk_mul]
  have e2 : (16 : Int32) - nI ((l + 1) * b) = nI (16 - (l + 1) * b) := pk_sub (a := 16) hl
  rw [e1, e2]
  obtain ⟨m, hm⟩ : ∃ m, m = 16 - (l + 1) * b := ⟨_, rfl⟩
  rw [← hm]
  have hm16 : m ≤ 16 := by omega
  have e3 : nI h >>> (nI m &&& 31) = nI (h / 2 ^ m) := by
    refine pk_shrN (by omega) _ m ?_
    have key : ∀ m, m < 17 → ((nI m &&& 31).toBitVec.smod 32).toNat = m := by decide
    exact key m (by omega)
  rw [e3]
  have hle : h / 2 ^ m ≤ h := Nat.div_le_self _ _
  refine pk_andN (by omega) b ?_
  rcases (show b = 1 ∨ b = 2 ∨ b = 3 ∨ b = 4 by omega) with rfl | rfl | rfl | rfl <;> decide
theorem m_part {S : Mem} {a : AS} (ha : okS a) (h : AllIs (S 54) a) {k l b : Nat} (hk : k ≤ 9999) (hb1 : 1 ≤ b) (hb4 : b ≤ 4) (hl : (l + 1) * b ≤ 16) {K : Int32 → Mem → Prop} (kk : K (nI (prt (hsh a.2.2.2) b l k)) S) : P_X7_partOf S (nI k) (nI l) (nI b) K := by
  unfold P_X7_partOf
  refine m_hash ha h hk ?_
  rw [part_val (hsh_lt _ _) hb1 hb4 hl]
  exact kk
theorem m_rowOf {S : Mem} {st : AT} (h : MI S st) {r w : Int32} {K : Int32 → Mem → Prop} (kk : K (aRowOf st r w) S) : P_X7_rowOf S r w K := by
  unfold P_X7_rowOf
  unfold aRowOf at kk
  have hle := h.1.1.1
  obtain ⟨a1, a2, a3, a4, a5⟩ := id h.2.1
  refine ⟨fun q => ?_, fun q => ?_⟩
  · rw [if_pos (Or.inl q)] at kk; exact kk
  · refine m_in 0 3 rfl rfl (fun c => ⟨fun _ => ?_, fun z => absurd z (by decide)⟩) (fun c => ⟨fun z => absurd rfl z, fun _ => ?_⟩)
    · rw [if_neg (fun z => z.elim q (fun z => z c))] at kk
      obtain ⟨j, hj, rfl⟩ := nI_of q
      rw [nI_clamp hj] at kk
      rw [cl0, a1]
      refine ⟨vin (n := 0) (by omega) (by omega), fun z => ?_, fun z => ?_⟩
      · have hlt := (nI_ltI hj (by omega)).mp z
        obtain ⟨x, hx⟩ : ∃ x, st.1.1[j]? = some x := ⟨_, List.getElem?_eq_getElem hlt⟩
        rw [hx] at kk
        dsimp only at kk
        obtain ⟨x1, x2⟩ := a5 j x hx
        have hxk := h.1.1.2.1 x (List.mem_of_getElem? hx)
        rw [show (4 : Int32) + nI j = nI (4 + j) from nI_add 4 j, show (104 : Int32) + nI j = nI (104 + j) from nI_add 104 j, nI_clamp (by omega), nI_clamp (by omega), x1, x2]
        refine ⟨vin (by omega) (by omega), fun n0 => ⟨fun n1 => ⟨fun n2 => ⟨vin (n := 2) (by omega) (by omega), ?_⟩, fun e => ?_⟩, fun e => ⟨vin (by omega) (by omega), ?_⟩⟩, fun e => ?_⟩
        · rw [if_neg n0, if_neg n1, if_neg n2] at kk
          rw [cl2, a3]
          exact m_part (l := 0) h.1.1 h.2.1 hxk h.1.1.2.2.2.1.1 h.1.1.2.2.2.1.2 (by have := h.1.1.2.2.2.1.2; omega) kk
        · rw [if_neg n0, if_neg n1, if_pos e] at kk
          exact m_hash h.1.1 h.2.1 hxk kk
        · rw [if_neg n0, if_pos e] at kk
          exact kk
        · rw [if_pos e] at kk
          exact kk
      · have hge : st.1.1.length ≤ j := Nat.not_lt.mp fun y => z ((nI_ltI hj (by omega)).mpr y)
        rw [List.getElem?_eq_none hge] at kk
        exact kk
    · rw [if_pos (Or.inr c)] at kk
      exact kk
/-! undo, type, clearText -/
theorem m_copyOut {S : Mem} {m : Nat} (hm : m < 4) (e : S 53 2 = nI m) {K : Int32 → Mem → Prop} (k : K (nI m) (mset S 54 (cpf (S 54) (fun j => S 55 (204 * m + j)) 0 204))) : ∀ (n i : Nat), i ≤ 204 → 204 - i < n → B_X7_undo_22 K n (mset S 54 (cpf (S 54) (fun j => S 55 (204 * m + j)) 0 i)) (nI i) := by
  intro n
  induction n with
  | zero => intro i _ h; omega
  | succ n ih =>
    intro i hi hn
    have e2 : mset S 54 (cpf (S 54) (fun j => S 55 (204 * m + j)) 0 i) 53 2 = nI m := by rw [mset_ne _ _ (by omega)]; exact e
    unfold B_X7_undo_22
    rw [e2]
    refine ⟨fun q => ?_, fun q => ?_⟩
    · have := (nI_leI (a := 204) (by omega) (by omega)).mp q
      rw [show i = 204 by omega]
      exact k
    · have hlt : i < 204 := Nat.not_le.mp fun z => q ((nI_leI (a := 204) (by omega) (by omega)).mpr z)
      rw [show (204 : Int32) * nI m + nI i = nI (204 * m + i) from by rw [show (204 : Int32) * nI m = nI (204 * m) from pk_mul 204 m, nI_add]]
      refine ⟨vin (by omega) (by omega), vin (by omega) (by omega), fun S2 hS2 => ?_⟩
      rw [nI_clamp (by omega), nI_clamp (by omega), mput_mset, mset_ne S _ (show (55 : Nat) ≠ 54 by omega)] at hS2
      rw [nI_1]
      have : S2 = mset S 54 (cpf (S 54) (fun j => S 55 (204 * m + j)) 0 (i + 1)) := by
        rw [hS2]
        congr 1
        funext j
        simp only [cpf]
        by_cases hj : j = i
        · subst hj
          rw [upd_at, if_pos (by omega), Nat.sub_zero]
        · rw [upd_ne _ _ hj]
          simp only [cpf]
          by_cases h2 : j < i
          · rw [if_pos (by omega), if_pos (by omega)]
          · rw [if_neg (by omega), if_neg (by omega)]
      rw [this]
      exact ih (i + 1) (by omega) (by omega)
theorem m_undo {S : Mem} {st : AT} (h : MI S st) {K : Int32 → Mem → Prop} (kk : ∀ S', FrM S S' → MI S' (aUndo st).2 → K (aUndo st).1 S') : P_X7_undo S K := by
  obtain ⟨h1, h2, h3, h4, h5, h6, h7⟩ := id h
  have hl4 := h1.2.1
  unfold P_X7_undo
  unfold aUndo at kk
  rw [h3]
  refine ⟨fun q S1 hS1 => ?_, fun q => ?_⟩
  · have hpos : 0 < st.2.1.length := by
      rcases Nat.eq_zero_or_pos st.2.1.length with z | z
      · exact absurd (by rw [z]; rfl) q
      · exact z
    obtain ⟨n, hn⟩ : ∃ n, st.2.1.length = n + 1 := ⟨st.2.1.length - 1, by omega⟩
    obtain ⟨a, hget⟩ : ∃ a, st.2.1[n]? = some a := ⟨_, List.getElem?_eq_getElem (by omega)⟩
    have hlast : st.2.1.getLast? = some a := by
      rw [List.getLast?_eq_getElem?, hn, Nat.add_sub_cancel]
      exact hget
    rw [hlast] at kk
    dsimp only at kk
    have ha : okS a := h1.2.2.1 a (List.mem_of_getElem? hget)
    rw [hn, show nI (n + 1) - (1 : Int32) = nI n from nI_pred n] at hS1
    have e1 : S1 53 2 = nI n := by rw [hS1, mput_at, upd_at]
    have f1 : ∀ i, i ≠ 53 → S1 i = S i := fun i hi => by rw [hS1]; exact mput_ne _ _ _ hi
    have g1 : ∀ j, j ≠ 2 → S1 53 j = S 53 j := fun j hj => by rw [hS1, mput_at, upd_ne _ _ hj]
    have hdl : st.2.1.dropLast.length = n := by rw [List.length_dropLast]; omega
    refine ⟨205, ?_⟩
    have z := m_copyOut (S := S1) (m := n) (by omega) e1 (K := K) ?_ 205 0 (by omega) (by omega)
    · have e0 : mset S1 54 (cpf (S1 54) (fun j => S1 55 (204 * n + j)) 0 0) = S1 := by
        have : cpf (S1 54) (fun j => S1 55 (204 * n + j)) 0 0 = S1 54 := by
          funext j
          simp only [cpf]
          rw [if_neg (by omega)]
        rw [this, mset_self]
      rw [e0] at z
      exact z
    · rw [hn, Nat.add_sub_cancel] at kk
      have ff : ∀ i, i ≠ 54 → mset S1 54 (cpf (S1 54) (fun j => S1 55 (204 * n + j)) 0 204) i = S1 i := fun i hi => mset_ne _ _ hi
      refine kk _ (fun i hi => by rw [ff i (by omega), f1 i (by omega)]) ⟨⟨ha, by show st.2.1.dropLast.length ≤ 4; omega, fun x hx => h1.2.2.1 x ((List.dropLast_sublist _).subset hx), h1.2.2.2⟩, ?_, ?_, fun j b hj => ?_, ?_, ?_, ?_⟩
      · have g := h4 n a hget
        rw [mset_at, f1 55 (by omega)]
        exact g.eq ha.1 (fun j hj => by simp only [cpf]; rw [if_pos (by omega), Nat.sub_zero])
      · rw [ff 53 (by omega), e1]; exact (congrArg nI hdl).symm
      · have hj2 : st.2.1.dropLast[j]? = some b := hj
        have hjl := (List.getElem?_eq_some_iff.mp hj2).1
        rw [List.getElem?_dropLast, if_pos (by omega)] at hj2
        rw [ff 55 (by omega), f1 55 (by omega)]
        exact h4 j b hj2
      · rw [ff 53 (by omega), g1 22 (by omega)]; exact h5
      · rw [ff 65 (by omega), f1 65 (by omega)]; exact h6
      · rw [ff 53 (by omega), g1 6 (by omega)]; exact h7
  · have h0 : st.2.1.length = 0 := by
      have : nI st.2.1.length = nI 0 := q
      exact (nI_eq (by omega) (by omega)).mp this
    have : st.2.1 = [] := List.length_eq_zero_iff.mp h0
    rw [this] at kk
    exact kk S (FrM.rf S) h
theorem m_type {S : Mem} {st : AT} (h : MI S st) {c : Int32} {K : Int32 → Mem → Prop} (kk : ∀ S', FrM S S' → MI S' (aType st c).2 → K (aType st c).1 S') : P_X7_type S c K := by
  obtain ⟨h1, h2, h3, h4, h5, h6, h7⟩ := id h
  have hl := h1.2.2.2.1
  unfold P_X7_type
  unfold aType at kk
  refine m_in 32 126 rfl rfl (fun q => ⟨fun _ => ?_, fun z => absurd z (by decide)⟩) (fun q => ⟨fun z => absurd rfl z, fun _ => ?_⟩)
  · rw [if_pos q] at kk
    obtain ⟨j, hj, rfl⟩ := le_nI (n := 126) (Int32.le_trans (by decide) q.1) q.2 (by omega)
    have hj32 := (nI_leI (a := 32) (by omega) (by omega)).mp q.1
    rw [nI_clamp (by omega)] at kk
    rw [h5]
    refine ⟨fun z => ?_, fun z => ?_⟩
    · have hlt : st.2.2.length < 60 := by
        rcases Nat.lt_or_ge st.2.2.length 60 with w | w
        · exact w
        · exact absurd (show nI st.2.2.length = nI 60 from by rw [show st.2.2.length = 60 by omega]) z
      rw [if_pos hlt] at kk
      refine ⟨vin hlt (by omega), fun S3 hS3 S4 hS4 => ?_⟩
      rw [nI_clamp (by omega)] at hS3
      have f3 : S3 53 = S 53 := by rw [hS3]; exact mput_ne _ _ _ (by omega)
      have e4 : S4 53 22 = nI (st.2.2.length + 1) := by rw [hS4, mput_at, upd_at, f3, h5, nI_1]
      have f4 : ∀ i, i ≠ 53 → S4 i = S3 i := fun i hi => by rw [hS4]; exact mput_ne _ _ _ hi
      have f : ∀ i, i ≠ 53 → i ≠ 65 → S4 i = S i := fun i a b => by rw [f4 i a, hS3]; exact mput_ne _ _ _ b
      rw [e4]
      refine kk S4 (fun i hi => f i (by omega) (by omega)) ⟨⟨h1.1, h1.2.1, h1.2.2.1, by show (st.2.2 ++ [j]).length ≤ 60; rw [List.length_append]; simp; omega, fun x hx => ?_⟩, by rw [f 54 (by omega) (by omega)]; exact h2, ?_, by rw [f 55 (by omega) (by omega)]; exact h4, ?_, fun i x hx => ?_, by rw [hS4, mput_at, upd_ne _ _ (by omega), f3]; exact h7⟩
      · rcases List.mem_append.mp hx with y | y
        · exact h1.2.2.2.2 x y
        · rw [List.mem_singleton.mp y]; exact ⟨hj32, hj⟩
      · rw [hS4, mput_at, upd_ne _ _ (by omega), f3]; exact h3
      · rw [e4]; exact congrArg nI (by rw [List.length_append]; rfl)
      · have hx : (st.2.2 ++ [j])[i]? = some x := hx
        rw [f4 65 (by omega), hS3, mput_at]
        by_cases hi : i < st.2.2.length
        · rw [List.getElem?_append_left hi] at hx
          rw [upd_ne _ _ (by omega)]
          exact h6 i x hx
        · have hil := (List.getElem?_eq_some_iff.mp hx).1
          rw [List.length_append] at hil
          have hil : i < st.2.2.length + 1 := hil
          have : i = st.2.2.length := by omega
          subst this
          rw [List.getElem?_append_right (Nat.le_refl _), Nat.sub_self] at hx
          cases hx
          exact upd_at _ _ _
    · have hh : st.2.2.length = 60 := by
        have : nI st.2.2.length = nI 60 := z
        exact (nI_eq (by omega) (by omega)).mp this
      rw [if_neg (by omega)] at kk
      exact kk S (FrM.rf S) h
  · rw [if_neg q] at kk
    exact kk S (FrM.rf S) h
theorem m_clearText {S : Mem} {st : AT} (h : MI S st) {K : Int32 → Mem → Prop} (kk : ∀ S', FrM S S' → MI S' (aClearText st).2 → K (aClearText st).1 S') : P_X7_clearText S K := by
  obtain ⟨h1, h2, h3, h4, h5, h6, h7⟩ := id h
  intro S1 hS1
  rw [h5]
  have f1 : ∀ i, i ≠ 53 → S1 i = S i := fun i hi => by rw [hS1]; exact mput_ne _ _ _ hi
  refine kk S1 (fun i hi => f1 i (by omega)) ⟨⟨h1.1, h1.2.1, h1.2.2.1, Nat.zero_le _, fun x hx => absurd hx List.not_mem_nil⟩, by rw [f1 54 (by omega)]; exact h2, by rw [hS1, mput_at, upd_ne _ _ (by omega)]; exact h3, by rw [f1 55 (by omega)]; exact h4, by rw [hS1, mput_at, upd_at]; rfl, fun i x hx => (by cases hx), by rw [hS1, mput_at, upd_ne _ _ (by omega)]; exact h7⟩
/-! the steps of these -/
theorem s_row : ∀ (S : Mem) (a0 a1 : Int32), Inv S → P_X6_row S a0 a1 (fun r1 S1 => P_X7_row S1 a0 a1 (fun r2 S2 => r1 = r2 ∧ Inv S2)) := fun S a b ⟨st, hC, hM⟩ => c_row hC (fun S1 f1 g1 => m_row (hM.frC f1) (fun S2 f2 g2 => ⟨rfl, _, g1.frM f2, g2⟩))
theorem s_drop : ∀ (S : Mem) (a0 : Int32), Inv S → P_X6_drop S a0 (fun r1 S1 => P_X7_drop S1 a0 (fun r2 S2 => r1 = r2 ∧ Inv S2)) := fun S a ⟨st, hC, hM⟩ => c_drop hC (fun S1 f1 g1 => m_drop (hM.frC f1) (fun S2 f2 g2 => ⟨rfl, _, g1.frM f2, g2⟩))
theorem s_clear : ∀ (S : Mem), Inv S → P_X6_clear S (fun r1 S1 => P_X7_clear S1 (fun r2 S2 => r1 = r2 ∧ Inv S2)) := fun S ⟨st, hC, hM⟩ => c_clear hC (fun S1 f1 g1 => m_clear (hM.frC f1) (fun S2 f2 g2 => ⟨rfl, _, g1.frM f2, g2⟩))
theorem s_set : ∀ (S : Mem) (a0 a1 : Int32), Inv S → P_X6_set S a0 a1 (fun r1 S1 => P_X7_set S1 a0 a1 (fun r2 S2 => r1 = r2 ∧ Inv S2)) := fun S a b ⟨st, hC, hM⟩ => c_set hC (fun S1 f1 g1 => m_set (hM.frC f1) (fun S2 f2 g2 => ⟨rfl, _, g1.frM f2, g2⟩))
theorem s_rowOf : ∀ (S : Mem) (a0 a1 : Int32), Inv S → P_X6_rowOf S a0 a1 (fun r1 S1 => P_X7_rowOf S1 a0 a1 (fun r2 S2 => r1 = r2 ∧ Inv S2)) := fun S a b ⟨st, hC, hM⟩ => c_rowOf hC (m_rowOf hM ⟨rfl, st, hC, hM⟩)
theorem s_undo : ∀ (S : Mem), Inv S → P_X6_undo S (fun r1 S1 => P_X7_undo S1 (fun r2 S2 => r1 = r2 ∧ Inv S2)) := fun S ⟨st, hC, hM⟩ => c_undo hC (fun S1 f1 g1 => m_undo (hM.frC f1) (fun S2 f2 g2 => ⟨rfl, _, g1.frM f2, g2⟩))
theorem s_type : ∀ (S : Mem) (a0 : Int32), Inv S → P_X6_type S a0 (fun r1 S1 => P_X7_type S1 a0 (fun r2 S2 => r1 = r2 ∧ Inv S2)) := fun S a ⟨st, hC, hM⟩ => c_type hC (fun S1 f1 g1 => m_type (hM.frC f1) (fun S2 f2 g2 => ⟨rfl, _, g1.frM f2, g2⟩))
theorem s_clearText : ∀ (S : Mem), Inv S → P_X6_clearText S (fun r1 S1 => P_X7_clearText S1 (fun r2 S2 => r1 = r2 ∧ Inv S2)) := fun S ⟨st, hC, hM⟩ => c_clearText hC (fun S1 f1 g1 => m_clearText (hM.frC f1) (fun S2 f2 g2 => ⟨rfl, _, g1.frM f2, g2⟩))
