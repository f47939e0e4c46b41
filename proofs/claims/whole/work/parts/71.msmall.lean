/-! the reference: adding, taking out, making, writing, counting -/
theorem FrG.p57 (S : Mem) (k : Nat) (v : Int32) : FrG S (mput S 57 k v) := ⟨fun i _ h => mput_ne _ _ _ h, fun j _ => by rw [mput_ne _ _ _ (by omega)]⟩
theorem m_addsTo {S : Mem} {G : List (Nat × Agg)} {g k : Nat} {y : Agg} {e : It} (h : GM S G) (hl : G.length ≤ 100) (hg : G[g]? = some (k, y)) (he : e.1 < 1900) (hi : ItK S e) {K : Mem → Prop} (kk : ∀ S', GM S' (G.set g (k, mergeA y e.2.2)) → FrG S S' → K S') : P_X7_addsTo S (nI g) (nI e.1) K := by
  have hgl := (List.getElem?_eq_some_iff.mp hg).1
  obtain ⟨g0, g1, g2, g3, g4⟩ := h.2 g _ hg
  obtain ⟨i0, i1, i2, i3, i4⟩ := hi
  have q1 : (5 : Int32) * nI g + (1 : Int32) = nI (5 * g + 1) := by rw [mul5]; exact nI_add _ 1
  have q2 : (5 : Int32) * nI g + (2 : Int32) = nI (5 * g + 2) := by rw [mul5]; exact nI_add _ 2
  have q3 : (5 : Int32) * nI g + (3 : Int32) = nI (5 * g + 3) := by rw [mul5]; exact nI_add _ 3
  have q4 : (5 : Int32) * nI g + (4 : Int32) = nI (5 * g + 4) := by rw [mul5]; exact nI_add _ 4
  have fin : ∀ (S9 : Mem) (v4 : Int32), S9 = mput (mput (mput S 57 (5 * g + 1) (y.1 + e.2.2.1)) 57 (5 * g + 2) (y.2.1 + e.2.2.2.1)) 57 (5 * g + 3) (if e.2.2.2.2.1 < y.2.2.1 then e.2.2.2.2.1 else y.2.2.1) → v4 = (if y.2.2.2 < e.2.2.2.2.2 then e.2.2.2.2.2 else y.2.2.2) → ∀ S12, S12 = mput S9 57 (5 * g + 4) v4 → K S12 := by
    intro S9 v4 h9 hv S12 h12
    have f12 : FrG S S12 := by
      rw [h12, h9]
      exact (((FrG.p57 S _ _).trans (FrG.p57 _ _ _)).trans (FrG.p57 _ _ _)).trans (FrG.p57 _ _ _)
    have e57 : S12 57 = upd (upd (upd (upd (S 57) (5 * g + 1) (y.1 + e.2.2.1)) (5 * g + 2) (y.2.1 + e.2.2.2.1)) (5 * g + 3) (if e.2.2.2.2.1 < y.2.2.1 then e.2.2.2.2.1 else y.2.2.1)) (5 * g + 4) v4 := by rw [h12, mput_at, h9, mput_at, mput_at, mput_at]
    refine kk S12 ⟨?_, fun j x hx => ?_⟩ f12
    · have : S12 53 6 = S 53 6 := by rw [h12, h9, mput_ne _ _ _ (by omega), mput_ne _ _ _ (by omega), mput_ne _ _ _ (by omega), mput_ne _ _ _ (by omega)]
      rw [this, List.length_set]; exact h.1
    · unfold GrK Ag4
      rw [e57]
      by_cases ej : j = g
      · subst ej
        rw [List.getElem?_set_self hgl] at hx
        cases hx
        refine ⟨?_, ?_, ?_, ?_, ?_⟩
        · rw [upd_ne _ _ (by omega), upd_ne _ _ (by omega), upd_ne _ _ (by omega), upd_ne _ _ (by omega)]; exact g0
        · rw [upd_ne _ _ (by omega), upd_ne _ _ (by omega), upd_ne _ _ (by omega), upd_at]; rfl
        · rw [upd_ne _ _ (by omega), upd_ne _ _ (by omega), upd_at]; rfl
        · rw [upd_ne _ _ (by omega), upd_at]; rfl
        · rw [upd_at, hv]; rfl
      · rw [List.getElem?_set_ne (Ne.symm ej)] at hx
        obtain ⟨x0, x1, x2, x3, x4⟩ := h.2 j x hx
        refine ⟨?_, ?_, ?_, ?_, ?_⟩ <;> (rw [upd_ne _ _ (by omega), upd_ne _ _ (by omega), upd_ne _ _ (by omega), upd_ne _ _ (by omega)]; assumption)
  have b85 : ∀ (S7 : Mem) (v3 : Int32), S7 = mput (mput S 57 (5 * g + 1) (y.1 + e.2.2.1)) 57 (5 * g + 2) (y.2.1 + e.2.2.2.1) → v3 = (if e.2.2.2.2.1 < y.2.2.1 then e.2.2.2.2.1 else y.2.2.1) → B_X7_addsTo_85 K S7 (nI g) (nI e.1) v3 (nI (5 * g + 3)) := by
    intro S7 v3 h7 hv
    unfold B_X7_addsTo_85
    rw [q4, clampN (by omega)]
    refine ⟨vin (by omega) (by omega), fun S9 hS9 => m_of (c := 4) he (by omega) ?_⟩
    have e9 : S9 57 (5 * g + 4) = y.2.2.2 := by
      rw [hS9, mput_at, upd_ne _ _ (by omega), h7, mput_at, upd_ne _ _ (by omega), mput_at, upd_ne _ _ (by omega)]; exact g4
    have e56 : S9 56 = S 56 := by rw [hS9, h7, mput_ne _ _ _ (by omega), mput_ne _ _ _ (by omega), mput_ne _ _ _ (by omega)]
    rw [clampN (by omega), e9, e56, i4]
    rw [h7, hv] at hS9
    refine ⟨vin (by omega) (by omega), fun z => ⟨vin (by omega) (by omega), ?_⟩, fun z => m_of (c := 4) he (by omega) ?_⟩
    · unfold B_X7_addsTo_133
      rw [clampN (by omega)]
      exact ⟨vin (by omega) (by omega), fin S9 _ hS9 (by rw [if_neg (Int32.not_lt.mpr z)])⟩
    · unfold B_X7_addsTo_133
      rw [clampN (by omega), e56, i4]
      exact ⟨vin (by omega) (by omega), fin S9 _ hS9 (by rw [if_pos (Int32.not_le.mp z)])⟩
  unfold P_X7_addsTo
  rw [q1, q2, q3, clampN (by omega), clampN (by omega), clampN (by omega)]
  refine ⟨vin (by omega) (by omega), m_of (c := 1) he (by omega) ⟨vin (by omega) (by omega), fun S3 hS3 => ⟨vin (by omega) (by omega), m_of (c := 2) he (by omega) ⟨vin (by omega) (by omega), fun S6 hS6 => m_of (c := 3) he (by omega) ?_⟩⟩⟩⟩
  have e356 : S3 56 = S 56 := by rw [hS3, mput_ne _ _ _ (by omega)]
  have e656 : S6 56 = S 56 := by rw [hS6, mput_ne _ _ _ (by omega)]; exact e356
  have e32 : S3 57 (5 * g + 2) = y.2.1 := by rw [hS3, mput_at, upd_ne _ _ (by omega)]; exact g2
  have e63 : S6 57 (5 * g + 3) = y.2.2.1 := by rw [hS6, mput_at, upd_ne _ _ (by omega), hS3, mput_at, upd_ne _ _ (by omega)]; exact g3
  rw [e32, e356, i2] at hS6
  rw [g1, i1] at hS3
  rw [hS3] at hS6
  rw [e63, e656, i3]
  refine ⟨vin (by omega) (by omega), fun z => ⟨vin (by omega) (by omega), b85 S6 _ hS6 (by rw [if_neg (Int32.not_lt.mpr z)])⟩, fun z => m_of (c := 3) he (by omega) ?_⟩
  rw [e656, i3]
  exact b85 S6 _ hS6 (by rw [if_pos (Int32.not_le.mp z)])
def shg (f : Nat → Int32) (lo hi : Nat) : Nat → Int32 := fun j => if lo ≤ j ∧ j < hi then f (j + 5) else f j
theorem m_takesOut {S : Mem} {G : List (Nat × Agg)} {g : Nat} (h : GM S G) (hl : G.length ≤ 100) (hg : g < G.length) {K : Mem → Prop} (kk : ∀ S', GM S' (G.eraseIdx g) → FrG S S' → K S') : P_X7_takesOut S (nI g) K := by
  intro S1 hS1
  rw [h.1, show nI G.length - (1 : Int32) = nI (G.length - 1) from pk_sub (b := 1) (by omega)] at hS1
  have f1 : FrG S S1 := by rw [hS1]; exact FrG.p6 _ _
  have e6 : S1 53 6 = nI (G.length - 1) := by rw [hS1, mput_at, upd_at]
  have e57 : S1 57 = S 57 := by rw [hS1, mput_ne _ _ _ (by omega)]
  have loop : ∀ m n x, x + m = 5 * (G.length - 1) → 5 * g ≤ x → m < n → B_X7_takesOut_14 K n (mset S1 57 (shg (S1 57) (5 * g) x)) (nI x) := by
    intro m
    induction m with
    | zero =>
      intro n x hx hgx hn
      match n, hn with
      | n + 1, _ =>
        have ex : x = 5 * (G.length - 1) := by omega
        subst ex
        unfold B_X7_takesOut_14
        rw [mset_ne _ _ (by omega), e6, mul5]
        refine ⟨fun _ => kk _ ⟨?_, fun j y hy => ?_⟩ (f1.trans (FrG.m57 _ _)), fun z => absurd ((nI_leI (by omega) (by omega)).mpr (Nat.le_refl _)) z⟩
        · rw [mset_ne _ _ (by omega), e6, List.length_eraseIdx_of_lt hg]
        · unfold GrK
          rw [mset_at, e57]
          have hjl := (List.getElem?_eq_some_iff.mp hy).1
          rw [List.length_eraseIdx_of_lt hg] at hjl
          rw [List.getElem?_eraseIdx] at hy
          have lo : ∀ t, t < 5 * g → shg (S 57) (5 * g) (5 * (G.length - 1)) t = S 57 t := fun t ht => by unfold shg; rw [if_neg (by omega)]
          have hi : ∀ t, 5 * g ≤ t → t < 5 * (G.length - 1) → shg (S 57) (5 * g) (5 * (G.length - 1)) t = S 57 (t + 5) := fun t h1 h2 => by unfold shg; rw [if_pos ⟨h1, h2⟩]
          split at hy
          · have := h.2 j y hy
            exact ⟨by rw [lo _ (by omega)]; exact this.1, this.2.eq fun c _ _ => lo _ (by omega)⟩
          · have := h.2 (j + 1) y hy
            refine ⟨by rw [hi _ (by omega) (by omega), show 5 * j + 5 = 5 * (j + 1) by omega]; exact this.1, this.2.eq fun c _ _ => ?_⟩
            rw [hi _ (by omega) (by omega), show 5 * j + c + 5 = 5 * (j + 1) + c by omega]
    | succ m ih =>
      intro n x hx hgx hn
      match n, hn with
      | n + 1, hn =>
        unfold B_X7_takesOut_14
        rw [mset_ne _ _ (by omega), e6, mul5, show nI x + (5 : Int32) = nI (x + 5) from nI_add x 5, clampN (by omega), clampN (by omega), nI_1, mset_at]
        refine ⟨fun z => absurd ((nI_leI (by omega) (by omega)).mp z) (by omega), fun _ => ⟨vin (by omega) (by omega), vin (by omega) (by omega), fun S2 hS2 => ?_⟩⟩
        have e1 : shg (S1 57) (5 * g) x (x + 5) = S1 57 (x + 5) := by unfold shg; rw [if_neg (by omega)]
        have e2 : upd (shg (S1 57) (5 * g) x) x (S1 57 (x + 5)) = shg (S1 57) (5 * g) (x + 1) := by
          funext j
          by_cases ej : j = x
          · subst ej; rw [upd_at]; unfold shg; rw [if_pos (by omega)]
          · rw [upd_ne _ _ ej]
            unfold shg
            by_cases c : 5 * g ≤ j ∧ j < x
            · rw [if_pos c, if_pos (by omega)]
            · rw [if_neg c, if_neg (by omega)]
        rw [e1, mput_mset, e2] at hS2
        rw [hS2]
        exact ih n (x + 1) (by omega) (by omega) (by omega)
  have := loop (5 * (G.length - 1) - 5 * g) (5 * (G.length - 1) - 5 * g + 1) (5 * g) (by omega) (by omega) (by omega)
  have e0 : shg (S1 57) (5 * g) (5 * g) = S1 57 := by
    funext j
    unfold shg
    rw [if_neg (by omega)]
  rw [e0, mset_self] at this
  rw [mul5]
  exact ⟨_, this⟩
theorem m_makes {S : Mem} {cnt k : Nat} {x : Agg} (h4 : S 53 4 = nI cnt) (hc : cnt < 1900) {K : Int32 → Mem → Prop}
    (kk : ∀ S', ItK S' (cnt, k, x) → S' 56 (6 * cnt + 5) = -1 → S' 53 4 = nI (cnt + 1) → (∀ i, i ≠ 53 → i ≠ 56 → S' i = S i) → (∀ j, j ≠ 4 → S' 53 j = S 53 j) → (∀ j, j < 6 * cnt ∨ 6 * cnt + 6 ≤ j → S' 56 j = S 56 j) → K (nI cnt) S') : P_X7_makes S (nI k) x.1 x.2.1 x.2.2.1 x.2.2.2 K := by
  unfold P_X7_makes
  have q0 : (6 : Int32) * nI cnt = nI (6 * cnt) := mul6 cnt
  rw [h4, q0, show nI (6 * cnt) + (1 : Int32) = nI (6 * cnt + 1) from nI_add _ 1, show nI (6 * cnt) + (2 : Int32) = nI (6 * cnt + 2) from nI_add _ 2, show nI (6 * cnt) + (3 : Int32) = nI (6 * cnt + 3) from nI_add _ 3, show nI (6 * cnt) + (4 : Int32) = nI (6 * cnt + 4) from nI_add _ 4, show nI (6 * cnt) + (5 : Int32) = nI (6 * cnt + 5) from nI_add _ 5]
  rw [clampN (by omega), clampN (by omega), clampN (by omega), clampN (by omega), clampN (by omega), clampN (by omega)]
  refine ⟨vin (by omega) (by omega), fun S1 hS1 => ⟨vin (by omega) (by omega), fun S2 hS2 => ⟨vin (by omega) (by omega), fun S3 hS3 => ⟨vin (by omega) (by omega), fun S4 hS4 => ⟨vin (by omega) (by omega), fun S5 hS5 => ⟨vin (by omega) (by omega), fun S6 hS6 S7 hS7 => ?_⟩⟩⟩⟩⟩⟩
  have e6 : S6 53 = S 53 := by rw [hS6, hS5, hS4, hS3, hS2, hS1, mput_ne _ _ _ (by omega), mput_ne _ _ _ (by omega), mput_ne _ _ _ (by omega), mput_ne _ _ _ (by omega), mput_ne _ _ _ (by omega), mput_ne _ _ _ (by omega)]
  have e56 : S7 56 = upd (upd (upd (upd (upd (upd (S 56) (6 * cnt) (nI k)) (6 * cnt + 1) x.1) (6 * cnt + 2) x.2.1) (6 * cnt + 3) x.2.2.1) (6 * cnt + 4) x.2.2.2) (6 * cnt + 5) (-1) := by
    rw [hS7, mput_ne _ _ _ (by omega), hS6, mput_at, hS5, mput_at, hS4, mput_at, hS3, mput_at, hS2, mput_at, hS1, mput_at]
  have e4 : S7 53 4 = nI (cnt + 1) := by rw [hS7, mput_at, upd_at, e6, h4, nI_1]
  rw [e4, show nI (cnt + 1) - (1 : Int32) = nI cnt from pk_sub (b := 1) (by omega)]
  refine kk S7 ⟨?_, ?_, ?_, ?_, ?_⟩ ?_ e4 (fun i h1 h2 => ?_) (fun j hj => ?_) (fun j hj => ?_)
  · rw [e56, upd_ne _ _ (by omega), upd_ne _ _ (by omega), upd_ne _ _ (by omega), upd_ne _ _ (by omega), upd_ne _ _ (by omega), upd_at]
  · rw [e56, upd_ne _ _ (by omega), upd_ne _ _ (by omega), upd_ne _ _ (by omega), upd_ne _ _ (by omega), upd_at]
  · rw [e56, upd_ne _ _ (by omega), upd_ne _ _ (by omega), upd_ne _ _ (by omega), upd_at]
  · rw [e56, upd_ne _ _ (by omega), upd_ne _ _ (by omega), upd_at]
  · rw [e56, upd_ne _ _ (by omega), upd_at]
  · rw [e56, upd_at]
  · rw [hS7, mput_ne _ _ _ h1, hS6, hS5, hS4, hS3, hS2, hS1, mput_ne _ _ _ h2, mput_ne _ _ _ h2, mput_ne _ _ _ h2, mput_ne _ _ _ h2, mput_ne _ _ _ h2, mput_ne _ _ _ h2]
  · rw [hS7, mput_at, upd_ne _ _ hj, e6]
  · rw [e56, upd_ne _ _ (by omega), upd_ne _ _ (by omega), upd_ne _ _ (by omega), upd_ne _ _ (by omega), upd_ne _ _ (by omega), upd_ne _ _ (by omega)]
/-- the file of a part -/
def FOK (S : Mem) (p : Nat) (fl : List It) : Prop := S 64 p = nI fl.length ∧ ∀ L e, fl = L ++ [e] → Ch S (S 62 p) fl ∧ S 63 p = nI e.1
theorem FOK.fr {S S' : Mem} {p : Nat} {fl : List It} (h : FOK S p fl) (f64 : S' 64 p = S 64 p) (f62 : S' 62 p = S 62 p) (f63 : S' 63 p = S 63 p) (f : ∀ e ∈ fl, ∀ c, c < 6 → S' 56 (6 * e.1 + c) = S 56 (6 * e.1 + c)) : FOK S' p fl := ⟨by rw [f64]; exact h.1, fun L e hL => by
  obtain ⟨h1, h2⟩ := h.2 L e hL
  exact ⟨by rw [f62]; exact h1.eq f, by rw [f63]; exact h2⟩⟩
theorem m_writes {S : Mem} {P p : Nat} {e : It} {FL : Nat → List It} (h8 : S 53 8 = nI (P + 1)) (hP : P < 1900) (hp : p < 16) (hF : ∀ q, q < 16 → FOK S q (FL q)) (hn : ((FL p).map (fun x => x.1)).Nodup) (hi : ItK S e) (he : e.1 < 1900) (hlt : ∀ x ∈ FL p, x.1 < 1900) (hlen : (FL p).length ≤ 1900)
    (hne : ∀ q, q < 16 → ∀ x ∈ FL q, x.1 ≠ e.1) (hcr : ∀ q, q < 16 → q ≠ p → ∀ x ∈ FL q, ∀ y ∈ FL p, x.1 ≠ y.1) {K : Mem → Prop}
    (kk : ∀ S', (∀ q, q < 16 → FOK S' q (if q = p then FL p ++ [e] else FL q)) → (∀ i, i ≠ 56 → i ≠ 58 → i ≠ 62 → i ≠ 63 → i ≠ 64 → S' i = S i) → S' 58 = upd (S 58) (7 * P + 5) (S 58 (7 * P + 5) + 1) → (∀ i c, c < 5 → S' 56 (6 * i + c) = S 56 (6 * i + c)) → (∀ i, i ≠ e.1 → (∀ x ∈ FL p, x.1 ≠ i) → S' 56 (6 * i + 5) = S 56 (6 * i + 5)) → K S') : P_X7_writes S (nI e.1) (nI p) K := by
  have q5 : (6 : Int32) * nI e.1 + (5 : Int32) = nI (6 * e.1 + 5) := by rw [mul6]; exact nI_add _ 5
  have hFp := hF p hp
  unfold P_X7_writes
  rw [q5, clampN (by omega), clampN (by omega)]
  refine ⟨vin (by omega) (by omega), fun S1 hS1 => ⟨vin (by omega) (by omega), ?_⟩⟩
  have o1 : ∀ i, i ≠ 56 → S1 i = S i := fun i hi => by rw [hS1, mput_ne _ _ _ hi]
  have e156 : S1 56 = upd (S 56) (6 * e.1 + 5) (-1) := by rw [hS1, mput_at]
  -- what is common: first and the links are put
  have b48 : ∀ S2 : Mem, (∀ i, i ≠ 56 → i ≠ 62 → S2 i = S i) → (∀ q, q ≠ p → S2 62 q = S 62 q) → (∀ i c, c < 5 → S2 56 (6 * i + c) = S 56 (6 * i + c)) → (∀ i, i ≠ e.1 → (∀ x ∈ FL p, x.1 ≠ i) → S2 56 (6 * i + 5) = S 56 (6 * i + 5)) → Ch S2 (S2 62 p) (FL p ++ [e]) → B_X7_writes_48 K S2 (nI e.1) (nI p) := by
    intro S2 o2 f62 a1 a2 hc
    unfold B_X7_writes_48
    rw [clampN (by omega)]
    refine ⟨vin (by omega) (by omega), fun S3 hS3 => ⟨vin (by omega) (by omega), vin (by omega) (by omega), fun S4 hS4 => ?_⟩⟩
    have e38 : S4 53 8 = nI (P + 1) := by rw [hS4, mput_ne _ _ _ (by omega), hS3, mput_ne _ _ _ (by omega), o2 53 (by omega) (by omega)]; exact h8
    refine m_counts (c := 5) e38 hP (by omega) (fun S5 hS5 => ?_)
    have e56 : S5 56 = S2 56 := by rw [hS5, mput_ne _ _ _ (by omega), hS4, mput_ne _ _ _ (by omega), hS3, mput_ne _ _ _ (by omega)]
    have e62 : S5 62 = S2 62 := by rw [hS5, mput_ne _ _ _ (by omega), hS4, mput_ne _ _ _ (by omega), hS3, mput_ne _ _ _ (by omega)]
    have e63 : S5 63 = upd (S 63) p (nI e.1) := by rw [hS5, mput_ne _ _ _ (by omega), hS4, mput_ne _ _ _ (by omega), hS3, mput_at, o2 63 (by omega) (by omega)]
    have e64 : S5 64 = upd (S 64) p (S 64 p + 1) := by rw [hS5, mput_ne _ _ _ (by omega), hS4, mput_at, hS3, mput_ne _ _ _ (by omega), o2 64 (by omega) (by omega)]
    refine kk S5 (fun q hq => ?_) (fun i b1 b2 b3 b4 b5 => by rw [hS5, mput_ne _ _ _ b2, hS4, mput_ne _ _ _ b5, hS3, mput_ne _ _ _ b4, o2 i b1 b3]) ?_ (fun i c hc => by rw [e56]; exact a1 i c hc) (fun i b1 b2 => by rw [e56]; exact a2 i b1 b2)
    · by_cases eq : q = p
      · subst eq
        rw [if_pos rfl]
        refine ⟨by rw [e64, upd_at, hFp.1, nI_1, List.length_append]; rfl, fun L e' hL => ⟨?_, ?_⟩⟩
        · rw [e62]
          exact hc.eq fun x _ c _ => by rw [e56]
        · have := (List.append_inj' hL rfl).2
          have : e = e' := by injection this
          rw [e63, upd_at, this]
      · rw [if_neg eq]
        refine (hF q hq).fr (by rw [e64, upd_ne _ _ eq]) (by rw [e62]; exact f62 q eq) (by rw [e63, upd_ne _ _ eq]) (fun x hx c hc => ?_)
        rw [e56]
        by_cases c5 : c = 5
        · subst c5
          exact a2 x.1 (hne q hq x hx) (fun y hy => Ne.symm (hcr q hq eq x hx y hy))
        · exact a1 x.1 c (by omega)
    · rw [hS5, mput_at]
      have : S4 58 = S 58 := by rw [hS4, mput_ne _ _ _ (by omega), hS3, mput_ne _ _ _ (by omega), o2 58 (by omega) (by omega)]
      rw [this]
  have hlast : S1 64 p = S 64 p := by rw [o1 64 (by omega)]
  rw [hlast, hFp.1]
  by_cases hnil : FL p = []
  · refine ⟨fun z => absurd (by rw [hnil]; rfl) z, fun _ => ⟨vin (by omega) (by omega), fun S7 hS7 => ?_⟩⟩
    have e756 : S7 56 = S1 56 := by rw [hS7, mput_ne _ _ _ (by omega)]
    refine b48 S7 (fun i b1 b2 => by rw [hS7, mput_ne _ _ _ b2, o1 i b1]) (fun q hq => by rw [hS7, mput_at, upd_ne _ _ hq, o1 62 (by omega)]) (fun i c hc => by rw [e756, e156, upd_ne _ _ (by omega)]) (fun i b1 _ => by rw [e756, e156, upd_ne _ _ (by omega)]) ?_
    rw [hnil]
    refine ⟨by rw [hS7, mput_at, upd_at], hi.eq fun c hc => by rw [e756, e156, upd_ne _ _ (by omega)], ?_⟩
    show S7 56 (6 * e.1 + 5) = -1
    rw [e756, e156, upd_at]
  · obtain ⟨L, e0, hL⟩ : ∃ L e0, FL p = L ++ [e0] := ⟨(FL p).dropLast, (FL p).getLast hnil, (List.dropLast_concat_getLast hnil).symm⟩
    obtain ⟨c1, c2⟩ := hFp.2 L e0 hL
    have he0m : e0 ∈ FL p := by rw [hL]; simp
    have he0 := hlt e0 he0m
    have hpos : 0 < (FL p).length := by rw [hL, List.length_append, List.length_singleton]; omega
    refine ⟨fun _ => ?_, fun z => ?_⟩
    · rw [o1 63 (by omega), c2, mul6, show nI (6 * e0.1) + (5 : Int32) = nI (6 * e0.1 + 5) from nI_add _ 5, clampN (by omega)]
      refine ⟨vin (by omega) (by omega), vin (by omega) (by omega), fun S2 hS2 => ?_⟩
      have e256 : S2 56 = upd (S1 56) (6 * e0.1 + 5) (nI e.1) := by rw [hS2, mput_at]
      have hne0 := hne p hp e0 he0m
      refine b48 S2 (fun i b1 b2 => by rw [hS2, mput_ne _ _ _ b1, o1 i b1]) (fun q hq => by rw [hS2, mput_ne _ _ _ (by omega), o1 62 (by omega)]) (fun i c hc => by rw [e256, upd_ne _ _ (by omega), e156, upd_ne _ _ (by omega)]) (fun i b1 b2 => by rw [e256, upd_ne _ _ (by have := b2 e0 he0m; omega), e156, upd_ne _ _ (by omega)]) ?_
      rw [show S2 62 p = S 62 p by rw [hS2, mput_ne _ _ _ (by omega), o1 62 (by omega)], hL]
      rw [hL] at c1 hn
      refine c1.snoc hn (fun x hx c hc hxc => ?_) (by rw [e256, upd_at]) (hi.eq fun c hc => by rw [e256, upd_ne _ _ (by omega), e156, upd_ne _ _ (by omega)]) (by rw [e256, upd_ne _ _ (by omega), e156, upd_at])
      have hxe := hne p hp x (by rw [hL]; exact hx)
      rw [e256, upd_ne _ _ (by omega), e156, upd_ne _ _ (by omega)]
    · have := (nI_eq (b := 0) (by omega) (by omega)).mp z
      omega
