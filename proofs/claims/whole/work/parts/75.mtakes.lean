/-! the reference takes an item -/
section
variable {a : AS} {lim b l d pre : Nat} {o : OUT} {n cnt0 cnt : Nat} {P : List It} {σ : PS} {FL : Nat → List It} {last : Bool}
theorem m_spill {S : Mem} (ha : okS a) (hb : 1 ≤ b ∧ b ≤ 4) (hl : (l + 1) * b ≤ 16) (h : MP S a lim b l pre o n cnt0 P σ FL cnt) (g : PI (hsh a.2.2.2) b lim l last (P.map (fun x => x.2.1)) σ) (hks : ∀ x ∈ P, x.2.1 ∈ ksOf a) (hPl : P.length ≤ 100) (hP : nP o < 1900) (hS : nS o < 1800) (hc0 : cnt0 + 100 ≤ 1900) (hne : σ.1 ≠ []) {K : Mem → Prop}
    (kk : ∀ S' FL' cnt', MP S' a lim b l pre o n cnt0 P (spl (hsh a.2.2.2) b l σ) FL' cnt' → FrN cnt0 P S S' → K S') : P_X7_spillsOne S K := by
  have hs7 := g.s7
  rw [List.length_map] at hs7
  have h16 := pow_b hb
  have hw := h
  obtain ⟨⟨h0, h1, h2, h3, h3', h3''⟩, h4, ⟨h5, h6⟩, ⟨h7, h7'⟩, ⟨h8, h8'⟩, h9, h10, h11⟩ := h
  have emap : (σ.1.map (fun k => (k, aggOf P k))).map (fun g => g.1) = σ.1 := by rw [List.map_map]; exact List.map_id _
  have hbl := bestP_lt (hsh a.2.2.2) b l σ.1
  obtain ⟨x0, hx0, hb0⟩ := bestP_pos (hsh a.2.2.2) b l hne
  have hb1 : isSp σ (bestP (hsh a.2.2.2) b l σ.1) = false := by rw [← hb0]; exact (g.s2 x0 hx0).2
  have hempty : σ.2.2.1 (bestP (hsh a.2.2.2) b l σ.1) = [] := by
    cases hF : σ.2.2.1 (bestP (hsh a.2.2.2) b l σ.1) with
    | nil => rfl
    | cons y L =>
      have := (g.s3 (bestP (hsh a.2.2.2) b l σ.1) y (by rw [hF]; exact List.mem_cons_self)).2.2
      rw [hb1] at this; cases this
  have hmk : ∀ gg ∈ σ.1.map (fun k => (k, aggOf P k)), gg.1 ≤ 9999 := fun gg hgg => by
    obtain ⟨k, hkm, rfl⟩ := List.mem_map.mp hgg
    obtain ⟨y, hy, e⟩ := List.mem_map.mp (g.s2 k hkm).1
    show k ≤ 9999
    rw [← e]
    exact key_le ha (mem_ksOf.mp (hks y hy))
  refine m_best ha hb hl h0 h2 h9 (by rw [List.length_map]; omega) hmk h5 hP h6.1 ?_
  rw [emap]
  refine ⟨σ.1.length + 1, ?_⟩
  have hsp16 : σ.2.1.length ≤ 16 := by
    have := spills_kids g
    have := kids_len b σ
    omega
  have key := ms_loop (K := K) (q := bestP (hsh a.2.2.2) b l σ.1) (by omega) ha hb hl g hks hPl hP hc0 hempty σ.1.length (σ.1.length + 1) 0 S FL cnt (by omega) (by omega) (by rw [spi_zero]; exact hw) (fun S2 FL2 cnt2 g2 f2 => ?_)
  · exact key
  · obtain ⟨⟨i0, i1, i2, i3, i3', i3''⟩, i4, ⟨i5, i6⟩, ⟨i7, i7'⟩, ⟨i8, i8'⟩, i9, i10, i11⟩ := g2
    have i7 : S2 53 10 = nI (nS o + σ.2.1.length) := i7
    have i7' : ∀ j q, σ.2.1[j]? = some q → SM4 S2 (nS o + j) (l, pre, q.1, q.2) := i7'
    obtain ⟨s, hs⟩ : ∃ s, nS o + σ.2.1.length = s := ⟨_, rfl⟩
    rw [hs] at i7
    have q4 : (7 : Int32) * (S2 53 8 - (1 : Int32)) + (4 : Int32) = nI (7 * nP o + 4) := by
      rw [i5, show nI (nP o + 1) - (1 : Int32) = nI (nP o) from pk_sub (b := 1) (by omega), mul7]; exact nI_add _ 4
    unfold B_X7_spillsOne_150
    rw [q4, clampN (by omega)]
    refine ⟨vin (by omega) (by omega), vin (by omega) (by omega), fun S3 hS3 => ?_⟩
    have o3 : ∀ i, i ≠ 58 → S3 i = S2 i := fun i hi => by rw [hS3, mput_ne _ _ _ hi]
    have g58 : ∀ j, j ≠ 7 * nP o + 4 → S3 58 j = S2 58 j := fun j hj => by rw [hS3, mput_at, upd_ne _ _ hj]
    have e8 : S3 53 8 = nI (nP o + 1) := by rw [o3 53 (by omega)]; exact i5
    refine m_last (c := 0) e8 hP (by omega) ?_
    have e10 : S3 53 10 = nI s := by rw [o3 53 (by omega)]; exact i7
    rw [Nat.add_zero, g58 _ (by omega), i6.1, e10]
    have p1 : (5 : Int32) * nI s + (1 : Int32) = nI (5 * s + 1) := by rw [mul5]; exact nI_add _ 1
    have p2 : (5 : Int32) * nI s + (2 : Int32) = nI (5 * s + 2) := by rw [mul5]; exact nI_add _ 2
    have p3 : (5 : Int32) * nI s + (3 : Int32) = nI (5 * s + 3) := by rw [mul5]; exact nI_add _ 3
    rw [p1, p2, p3, mul5, clampN (by omega), clampN (by omega), clampN (by omega), clampN (by omega)]
    refine ⟨vin (by omega) (by omega), fun S4 hS4 => ?_⟩
    have e84 : S4 53 8 = nI (nP o + 1) := by rw [hS4, mput_ne _ _ _ (by omega)]; exact e8
    refine m_last (c := 1) e84 hP (by omega) ?_
    have e581 : S4 58 (7 * nP o + 1) = nI pre := by rw [hS4, mput_ne _ _ _ (by omega), g58 _ (by omega)]; exact i6.2.1
    rw [e581]
    refine ⟨vin (by omega) (by omega), fun S7 hS7 => ⟨vin (by omega) (by omega), fun S8 hS8 => ⟨vin (by omega) (by omega), fun S9 hS9 => fun S10 hS10 => ?_⟩⟩⟩
    have o10 : ∀ i, i ≠ 53 → i ≠ 58 → i ≠ 59 → S10 i = S2 i := fun i b1 b2 b3 => by rw [hS10, mput_ne _ _ _ b1, hS9, mput_ne _ _ _ b3, hS8, mput_ne _ _ _ b3, hS7, mput_ne _ _ _ b3, hS4, mput_ne _ _ _ b3, o3 i b2]
    have e953 : S9 53 = S2 53 := by rw [hS9, mput_ne _ _ _ (by omega), hS8, mput_ne _ _ _ (by omega), hS7, mput_ne _ _ _ (by omega), hS4, mput_ne _ _ _ (by omega), o3 53 (by omega)]
    have e53 : ∀ j, j ≠ 10 → S10 53 j = S2 53 j := fun j hj => by rw [hS10, mput_at, upd_ne _ _ hj, e953]
    have e58 : S10 58 = S3 58 := by rw [hS10, mput_ne _ _ _ (by omega), hS9, mput_ne _ _ _ (by omega), hS8, mput_ne _ _ _ (by omega), hS7, mput_ne _ _ _ (by omega), hS4, mput_ne _ _ _ (by omega)]
    have e59 : S10 59 = upd (upd (upd (upd (S2 59) (5 * s) (nI l)) (5 * s + 1) (nI pre)) (5 * s + 2) (nI (bestP (hsh a.2.2.2) b l σ.1))) (5 * s + 3) (nI (cntP (hsh a.2.2.2) b l σ.1 (bestP (hsh a.2.2.2) b l σ.1))) := by rw [hS10, mput_ne _ _ _ (by omega), hS9, mput_at, hS8, mput_at, hS7, mput_at, hS4, mput_at, o3 59 (by omega)]; rfl
    have low : ∀ j, j < 5 * s → S10 59 j = S2 59 j := fun j hj => by rw [e59, upd_ne _ _ (by omega), upd_ne _ _ (by omega), upd_ne _ _ (by omega), upd_ne _ _ (by omega)]
    have esf : spl (hsh a.2.2.2) b l σ = ((spi (hsh a.2.2.2) b l σ (bestP (hsh a.2.2.2) b l σ.1) σ.1.length).1, σ.2.1 ++ [(bestP (hsh a.2.2.2) b l σ.1, cntP (hsh a.2.2.2) b l σ.1 (bestP (hsh a.2.2.2) b l σ.1))], (spi (hsh a.2.2.2) b l σ (bestP (hsh a.2.2.2) b l σ.1) σ.1.length).2.2.1, (spi (hsh a.2.2.2) b l σ (bestP (hsh a.2.2.2) b l σ.1) σ.1.length).2.2.2.1, σ.2.2.2.2.1, σ.2.2.2.2.2) := by
      unfold spl spi
      simp only [List.take_length, List.drop_length, List.append_nil]
      rfl
    obtain ⟨mk1, mk2⟩ := mask_PI g hb.2
    refine kk S10 FL2 cnt2 ?_ (f2.trans ⟨fun i hi => o10 i (by omega) (by omega) (by omega), fun j hj => e53 j (by omega), fun i _ _ c _ => by rw [o10 56 (by omega) (by omega) (by omega)]⟩)
    rw [esf]
    refine ⟨⟨i0.same (o10 54 (by omega) (by omega) (by omega)), by rw [e53 _ (by omega)]; exact i1, by rw [e53 _ (by omega)]; exact i2, by rw [e53 _ (by omega)]; exact i3, i3', i3''⟩, i4.eq (fun j hj => by rw [e58, g58 j (by omega)]) (fun j hj => low j (by omega)) (fun j _ => by rw [o10 60 (by omega) (by omega) (by omega)]), ⟨by rw [e53 _ (by omega)]; exact i5, ?_⟩, ⟨?_, fun j q hj => ?_⟩, ⟨by rw [e53 _ (by omega)]; exact i8, by rw [e53 _ (by omega)]; exact i8'⟩, i9.fr (e53 _ (by omega)) (o10 57 (by omega) (by omega) (by omega)), fun q hq => (i10 q hq).fr (by rw [o10 64 (by omega) (by omega) (by omega)]) (by rw [o10 62 (by omega) (by omega) (by omega)]) (by rw [o10 63 (by omega) (by omega) (by omega)]) (fun _ _ _ _ => by rw [o10 56 (by omega) (by omega) (by omega)]), i11⟩
    · obtain ⟨p0, p1, p2, p3, p4, p5, p6⟩ := i6
      unfold PMr
      rw [e58]
      refine ⟨(g58 _ (by omega)).trans p0, (g58 _ (by omega)).trans p1, (g58 _ (by omega)).trans p2, (g58 _ (by omega)).trans p3, ?_, (g58 _ (by omega)).trans p5, (g58 _ (by omega)).trans p6⟩
      rw [hS3, mput_at, upd_at, p4]
      show nI (maskS σ.2.1) ||| _ = nI (maskS (σ.2.1 ++ [_]))
      rw [shl1 (by omega), pk_orN, maskS_app]
      show nI (maskS σ.2.1 ||| 2 ^ bestP (hsh a.2.2.2) b l σ.1) = nI (maskS σ.2.1 + 2 ^ bestP (hsh a.2.2.2) b l σ.1)
      rw [add_or mk1 (by omega) (by rw [mk2]; exact hb1)]
    · rw [hS10, mput_at, upd_at, e953, i7, nI_1]
      show nI (s + 1) = nI (nS o + (σ.2.1 ++ [_]).length)
      rw [List.length_append, ← hs]; rfl
    · have hj : (σ.2.1 ++ [(bestP (hsh a.2.2.2) b l σ.1, cntP (hsh a.2.2.2) b l σ.1 (bestP (hsh a.2.2.2) b l σ.1))])[j]? = some q := hj
      by_cases ej : j < σ.2.1.length
      · rw [List.getElem?_append_left ej] at hj
        obtain ⟨z0, z1, z2, z3⟩ := i7' j q hj
        exact ⟨(low _ (by omega)).trans z0, (low _ (by omega)).trans z1, (low _ (by omega)).trans z2, (low _ (by omega)).trans z3⟩
      · have hjl := (List.getElem?_eq_some_iff.mp hj).1
        rw [List.length_append, List.length_singleton] at hjl
        have ejl : j = σ.2.1.length := by omega
        subst ejl
        rw [List.getElem?_append_right (Nat.le_refl _), Nat.sub_self] at hj
        cases hj
        unfold SM4
        rw [hs, e59]
        refine ⟨?_, ?_, ?_, ?_⟩
        · rw [upd_ne _ _ (by omega), upd_ne _ _ (by omega), upd_ne _ _ (by omega), upd_at]
        · rw [upd_ne _ _ (by omega), upd_ne _ _ (by omega), upd_at]
        · rw [upd_ne _ _ (by omega), upd_at]
        · rw [upd_at]
theorem m_takes {S : Mem} {e : It} (ha : okS a) (hb : 1 ≤ b ∧ b ≤ 4) (hlim : 1 ≤ lim ∧ lim ≤ 12) (hd : l + d + 1 = 16 / b) (hl : (l + 1) * b ≤ 16) (h : MP S a lim b l pre o n cnt0 P σ FL cnt) (g : PI (hsh a.2.2.2) b lim l (d == 0) (P.map (fun x => x.2.1)) σ) (hP : nP o < 1900) (hS : nS o < 1800) (hc0 : cnt0 + 100 ≤ 1900) (hPl : P.length < 100) (hks : ∀ x ∈ P, x.2.1 ∈ ksOf a) (hk : e.2.1 ∈ ksOf a) (hi : ItK S e) (he : e.1 < cnt0) (hnd : e.1 ∉ P.map (fun x => x.1)) {K : Int32 → Mem → Prop}
    (k1 : ¬ (isSp σ (prt (hsh a.2.2.2) b l e.2.1) = false ∧ e.2.1 ∉ σ.1 ∧ lim ≤ σ.1.length ∧ (d == 0) = false) → ∀ S' FL' cnt', MP S' a lim b l pre o n cnt0 (P ++ [e]) (take0 (hsh a.2.2.2) b lim l σ e.2.1) FL' cnt' → FrN cnt0 (P ++ [e]) S S' → K 1 S')
    (k0 : isSp σ (prt (hsh a.2.2.2) b l e.2.1) = false ∧ e.2.1 ∉ σ.1 ∧ lim ≤ σ.1.length ∧ (d == 0) = false → ∀ S' FL' cnt', MP S' a lim b l pre o n cnt0 P (spl (hsh a.2.2.2) b l σ) FL' cnt' → FrN cnt0 P S S' → K 0 S') : P_X7_takes S (nI e.1) K := by
  have hs7 := g.s7
  rw [List.length_map] at hs7
  have h16 := pow_b hb
  have hb16 : 16 / b ≤ 16 := Nat.div_le_self _ _
  have hpl := prt_lt (hsh a.2.2.2) b l e.2.1
  have hw := h
  obtain ⟨⟨h0, h1, h2, h3, h3', h3''⟩, h4, ⟨h5, h6⟩, ⟨h7, h7'⟩, ⟨h8, h8'⟩, h9, h10, h11⟩ := h
  have hk9 := key_le ha (mem_ksOf.mp hk)
  obtain ⟨m1, m2⟩ := mask_PI g hb.2
  have emap : (σ.1.map (fun k => (k, aggOf P k))).map (fun g => g.1) = σ.1 := by rw [List.map_map]; exact List.map_id _
  have hmk : ∀ gg ∈ σ.1.map (fun k => (k, aggOf P k)), gg.1 ≤ 9999 := fun gg hgg => by
    obtain ⟨k, hkm, rfl⟩ := List.mem_map.mp hgg
    obtain ⟨y, hy, e⟩ := List.mem_map.mp (g.s2 k hkm).1
    show k ≤ 9999
    rw [← e]
    exact key_le ha (mem_ksOf.mp (hks y hy))
  refine m_of (c := 0) (by omega) (by omega) (m_last (c := 0) h5 hP (by omega) ?_)
  rw [Nat.add_zero, Nat.add_zero, hi.1, h6.1, h2]
  refine m_part ha h0 hk9 hb.1 hb.2 hl (m_last (c := 4) h5 hP (by omega) ?_)
  rw [h6.2.2.2.2.1]
  show (¬ (nI (maskS σ.2.1) >>> _) &&& _ = _ → _) ∧ ((nI (maskS σ.2.1) >>> _) &&& _ = _ → _)
  rw [bit_test m1 (by omega), m2]
  refine ⟨fun z => ?_, fun z => ?_⟩
  · have hsp : isSp σ (prt (hsh a.2.2.2) b l e.2.1) = false := by simpa using z
    refine m_of (c := 0) (by omega) (by omega) ?_
    rw [Nat.add_zero, hi.1]
    refine m_inMemory h9 (by rw [List.length_map]; omega) hk9 hmk (fun j x hj => ⟨fun w => ?_, fun _ => ?_⟩) (fun hnone => ⟨fun _ => ?_, fun w => absurd rfl w⟩)
    · have hjl := (List.getElem?_eq_some_iff.mp hj).1
      rw [List.length_map] at hjl
      have := congrArg Int32.toInt w
      rw [nI_toInt (by omega)] at this
      have h2 : (-1 : Int32).toInt = -1 := by decide
      rw [h2] at this
      omega
    · have hm : e.2.1 ∈ σ.1 := by
        rw [← emap]
        exact List.mem_map.mpr ⟨_, List.mem_of_getElem? hj, rfl⟩
      refine mt_add hw g (by omega) hi (by omega) hsp hj (fun S' g' f' => k1 (fun c => c.2.1 hm) S' FL cnt ?_ f')
      unfold take0
      rw [if_neg (by rw [hsp]; decide), if_pos hm]
      exact g'
    · have hm : e.2.1 ∉ σ.1 := fun c => hnone (e.2.1, aggOf P e.2.1) (List.mem_map.mpr ⟨_, c, rfl⟩) rfl
      have lay : ∀ y0 : Int32, y0 = nI (if lim ≤ σ.1.length then 1 else 0) → ¬ (lim ≤ σ.1.length ∧ (d == 0) = false) → B_X7_takes_126 K S (nI e.1) y0 (S 53 13) := fun y0 hy hno => mt_lay ha hw g hP hPl hks hk hi (by omega) hsp hm hy (fun S' g' f' => k1 (fun c => hno c.2.2) S' FL cnt (by
        unfold take0
        rw [if_neg (by rw [hsp]; decide), if_neg hm]
        exact g') f')
      rw [h9.1, List.length_map, h1]
      refine ⟨fun w => ?_, fun w => ?_⟩
      · have hlt := (nI_ltI (by omega) (by omega)).mp w
        exact ⟨fun _ => ⟨fun _ => lay 0 (by rw [if_neg (by omega)]; rfl) (fun c => by omega), fun z => absurd rfl z⟩, fun z => absurd rfl z⟩
      · have hge : lim ≤ σ.1.length := Nat.not_lt.mp fun c => w ((nI_ltI (by omega) (by omega)).mpr c)
        refine ⟨fun z => absurd z (by decide), fun _ => m_last (c := 0) h5 hP (by omega) ?_⟩
        rw [Nat.add_zero, h6.1, h2]
        have e1 : (16 : Int32) / nI b - (1 : Int32) = nI (16 / b - 1) := by
          rcases (show b = 1 ∨ b = 2 ∨ b = 3 ∨ b = 4 by omega) with rfl | rfl | rfl | rfl <;> decide
        rw [e1]
        refine ⟨fun c => by have := (nI_eq (b := 0) (by omega) (by omega)).mp c; omega, fun c => ⟨fun z => absurd z (by decide), fun _ => ?_⟩, fun c => ?_⟩
        · have c : 16 / b - 1 ≤ l := (nI_leI (by omega) (by omega)).mp c
          refine lay 1 (by rw [if_pos hge]; rfl) (fun q => ?_)
          have hd0 : d = 0 := by omega
          rw [hd0] at q
          cases q.2
        · have hd1 : d ≠ 0 := fun q => (show ¬ nI (16 / b - 1) ≤ nI l from c) ((nI_leI (by omega) (by omega)).mpr (by omega))
          have hdf : (d == 0) = false := beq_eq_false_iff_ne.mpr hd1
          have hne : σ.1 ≠ [] := fun c => by rw [c] at hge; simp at hge; omega
          exact m_spill ha hb hl hw g hks (by omega) hP hS hc0 hne (k0 ⟨hsp, hm, hge, hdf⟩)
  · refine mt_fil ha hb hw g hP (by omega) (by omega) hks hk hi he hnd z (fun S' FL' g' f' => k1 (fun c => by rw [z] at c; cases c.1) S' FL' cnt ?_ f')
    unfold take0
    rw [if_pos z]
    exact g'
end
