/-! the reference spills a part -/
def spi (h : Nat → Nat) (b l : Nat) (σ : PS) (q i : Nat) : PS := ((σ.1.take i).filter (fun k => !(prt h b l k == q)) ++ σ.1.drop i, σ.2.1, (fun r => if r = q then σ.2.2.1 r ++ (σ.1.take i).filter (fun k => prt h b l k == q) else σ.2.2.1 r), σ.2.2.2.1 + ((σ.1.take i).filter (fun k => prt h b l k == q)).length, σ.2.2.2.2.1, σ.2.2.2.2.2)
theorem spi_zero (h : Nat → Nat) (b l : Nat) (σ : PS) (q : Nat) : spi h b l σ q 0 = σ := by
  obtain ⟨m, sp, F, w, pk, by0⟩ := σ
  unfold spi
  simp only [List.take_zero, List.filter_nil, List.nil_append, List.drop_zero, List.append_nil, List.length_nil, Nat.add_zero, ite_self]
theorem spi_skip {h : Nat → Nat} {b l : Nat} {σ : PS} {q i : Nat} (hi : i < σ.1.length) (hne : ¬ prt h b l (σ.1[i]'hi) = q) : spi h b l σ q (i + 1) = spi h b l σ q i := by
  have e1 := take_filter_succ hi (fun k => !(prt h b l k == q))
  have e2 := take_filter_succ hi (fun k => prt h b l k == q)
  rw [if_pos (by simp [hne])] at e1
  rw [if_neg (by simp [hne]), List.append_nil] at e2
  unfold spi
  rw [e1, e2, List.append_assoc, show [σ.1[i]] ++ σ.1.drop (i + 1) = σ.1.drop i from (List.drop_eq_getElem_cons hi).symm]
theorem m_best {a : AS} {b l Pn : Nat} {S : Mem} {G : List (Nat × Agg)} (ha : okS a) (hb : 1 ≤ b ∧ b ≤ 4) (hl : (l + 1) * b ≤ 16) (h0 : AllIs (S 54) a) (h14 : S 53 14 = nI b) (hG : GM S G) (hGl : G.length ≤ 100) (h9 : ∀ g ∈ G, g.1 ≤ 9999) (h8 : S 53 8 = nI (Pn + 1)) (hP : Pn < 1900) (hr : S 58 (7 * Pn) = nI l) {K : Mem → Prop} (k : B_X7_spillsOne_39 K S (nI (bestP (hsh a.2.2.2) b l (G.map (fun g => g.1))))) : P_X7_spillsOne S K := by
  have h16 := pow_b hb
  obtain ⟨L, hLe⟩ : ∃ L, G.map (fun g => g.1) = L := ⟨_, rfl⟩
  have hLl : L.length = G.length := by rw [← hLe, List.length_map]
  rw [hLe] at k
  have loop : ∀ m n j best, j + m = 2 ^ b → m < n → best < 2 ^ b → best = (List.range j).foldl (fun best p => if cntP (hsh a.2.2.2) b l L best < cntP (hsh a.2.2.2) b l L p then p else best) 0 → B_X7_spillsOne_4 K n S (nI best) (nI j) := by
    intro m
    induction m with
    | zero =>
      intro n j best hj hn hbest he
      match n, hn with
      | n + 1, _ =>
        unfold B_X7_spillsOne_4
        rw [h14, shl1 (by omega)]
        refine ⟨fun _ => ?_, fun z => absurd ((nI_leI (by omega) (by omega)).mpr (by omega)) z⟩
        rw [show j = 2 ^ b by omega] at he
        rw [he]; exact k
    | succ m ih =>
      intro n j best hj hn hbest he
      match n, hn with
      | n + 1, hn =>
        have c1 := cnt_le (hsh a.2.2.2) b l L j
        have c2 := cnt_le (hsh a.2.2.2) b l L best
        unfold B_X7_spillsOne_4
        rw [h14, shl1 (by omega)]
        refine ⟨fun z => absurd ((nI_leI (by omega) (by omega)).mp z) (by omega), fun _ => ?_⟩
        refine m_manyOf ha hb hl h0 h14 hG hGl h9 h8 hP hr (by omega) (m_manyOf ha hb hl h0 h14 hG hGl h9 h8 hP hr (by omega) ?_)
        rw [hLe]
        have er := bestP_range (hsh a.2.2.2) b l L j
        rw [← he] at er
        refine ⟨fun z => ?_, fun z => ?_⟩
        · have := (nI_leI (by omega) (by omega)).mp z
          rw [if_neg (by omega)] at er
          show B_X7_spillsOne_4 K n S (nI best) (nI j + 1)
          rw [nI_1]
          exact ih n (j + 1) best (by omega) (by omega) hbest er.symm
        · have : ¬ cntP (hsh a.2.2.2) b l L j ≤ cntP (hsh a.2.2.2) b l L best := fun c => z ((nI_leI (by omega) (by omega)).mpr c)
          rw [if_pos (by omega)] at er
          show B_X7_spillsOne_4 K n S (nI j) (nI j + 1)
          rw [nI_1]
          exact ih n (j + 1) j (by omega) (by omega) (by omega) er.symm
  exact ⟨2 ^ b, loop (2 ^ b - 1) (2 ^ b) 1 0 (by omega) (by omega) (by omega) (by rw [bestP_range (j := 0)]; split <;> rfl)⟩
section
variable {a : AS} {lim b l d pre : Nat} {o : OUT} {n cnt0 cnt : Nat} {P : List It} {σ : PS} {FL : Nat → List It} {last : Bool}
theorem ms_loop {q : Nat} (hq : q < 16) (ha : okS a) (hb : 1 ≤ b ∧ b ≤ 4) (hl : (l + 1) * b ≤ 16) (g : PI (hsh a.2.2.2) b lim l last (P.map (fun x => x.2.1)) σ) (hks : ∀ x ∈ P, x.2.1 ∈ ksOf a) (hPl : P.length ≤ 100) (hP : nP o < 1900) (hc0 : cnt0 + 100 ≤ 1900) (hFq : σ.2.2.1 q = []) {K : Mem → Prop} : ∀ (m f i : Nat) (S : Mem) (FL : Nat → List It) (cnt : Nat), i + m = σ.1.length → m < f → MP S a lim b l pre o n cnt0 P (spi (hsh a.2.2.2) b l σ q i) FL cnt →
    (∀ S' FL' cnt', MP S' a lim b l pre o n cnt0 P (spi (hsh a.2.2.2) b l σ q σ.1.length) FL' cnt' → FrN cnt0 P S S' → B_X7_spillsOne_150 K S' (nI q) (nI (cntP (hsh a.2.2.2) b l σ.1 q))) →
    B_X7_spillsOne_43 K f S (nI q) (nI ((σ.1.take i).filter (fun k => prt (hsh a.2.2.2) b l k == q)).length) (nI ((σ.1.take i).filter (fun k => !(prt (hsh a.2.2.2) b l k == q))).length) := by
  have hs7 := g.s7
  rw [List.length_map] at hs7
  have hmk : ∀ k ∈ σ.1, k ≤ 9999 := fun k hkm => by
    obtain ⟨y, hy, e⟩ := List.mem_map.mp (g.s2 k hkm).1
    rw [← e]
    exact key_le ha (mem_ksOf.mp (hks y hy))
  intro m
  induction m with
  | zero =>
    intro f i S FL cnt hi hf h k
    match f, hf with
    | f + 1, _ =>
      have ei : i = σ.1.length := by omega
      subst ei
      have h6 := h.2.2.2.2.2.1.1
      have e1 : (spi (hsh a.2.2.2) b l σ q σ.1.length).1 = σ.1.filter (fun k => !(prt (hsh a.2.2.2) b l k == q)) := by
        show (σ.1.take σ.1.length).filter _ ++ σ.1.drop σ.1.length = _
        rw [List.take_length, List.drop_length, List.append_nil]
      rw [List.length_map, e1] at h6
      rw [List.take_length]
      have hfl : (σ.1.filter (fun k => !(prt (hsh a.2.2.2) b l k == q))).length ≤ σ.1.length := List.length_filter_le _ _
      exact ⟨fun _ => k S FL cnt h (FrN.rf _ _ _), fun z => absurd (by rw [h6]; exact (nI_leI (by omega) (by omega)).mpr (Nat.le_refl _)) z⟩
  | succ m ih =>
    intro f i S FL cnt hi hf h k
    match f, hf with
    | f + 1, hf =>
      have hil : i < σ.1.length := by omega
      have hmem := List.getElem_mem hil
      obtain ⟨x, hxe⟩ : ∃ x, σ.1[i]'hil = x := ⟨_, rfl⟩
      have hx9 := hmk _ hmem
      have hskip := spi_skip (h := hsh a.2.2.2) (b := b) (l := l) (σ := σ) (q := q) hil
      have t1 := take_filter_succ hil (fun k => !(prt (hsh a.2.2.2) b l k == q))
      have t2 := take_filter_succ hil (fun k => prt (hsh a.2.2.2) b l k == q)
      have hdrop : σ.1.drop i = (σ.1[i]'hil) :: σ.1.drop (i + 1) := List.drop_eq_getElem_cons hil
      rw [hxe] at hskip t1 t2 hdrop hx9 hmem
      obtain ⟨kp, hkp⟩ : ∃ kp, (σ.1.take i).filter (fun k => !(prt (hsh a.2.2.2) b l k == q)) = kp := ⟨_, rfl⟩
      obtain ⟨fk, hfk⟩ : ∃ fk, (σ.1.take i).filter (fun k => prt (hsh a.2.2.2) b l k == q) = fk := ⟨_, rfl⟩
      have hkl : kp.length ≤ i := by rw [← hkp]; exact Nat.le_trans (List.length_filter_le _ _) (List.length_take_le _ _)
      have hfkl : fk.length ≤ i := by rw [← hfk]; exact Nat.le_trans (List.length_filter_le _ _) (List.length_take_le _ _)
      have es1 : (spi (hsh a.2.2.2) b l σ q i).1 = kp ++ x :: σ.1.drop (i + 1) := by
        show (σ.1.take i).filter _ ++ σ.1.drop i = _
        rw [hkp, hdrop]
      have hw := h
      obtain ⟨⟨h0, h1, h2, h3, h3', h3''⟩, h4, ⟨h5, h6⟩, ⟨h7, h7'⟩, ⟨h8, h8'⟩, h9, h10, h11⟩ := h
      have hlen1 : ((spi (hsh a.2.2.2) b l σ q i).1.map (fun k => (k, aggOf P k))).length = kp.length + 1 + (σ.1.length - (i + 1)) := by rw [List.length_map, es1, List.length_append, List.length_cons, List.length_drop]; omega
      have hgx : ((spi (hsh a.2.2.2) b l σ q i).1.map (fun k => (k, aggOf P k)))[kp.length]? = some (x, aggOf P x) := by
        rw [es1, List.map_append, List.getElem?_append_right (by rw [List.length_map]; exact Nat.le_refl _), List.length_map, Nat.sub_self]
        rfl
      have hpx := prt_lt (hsh a.2.2.2) b l x
      have h16 := pow_b hb
      obtain ⟨gx0, gx1, gx2, gx3, gx4⟩ := h9.2 _ _ hgx
      have q1 : (5 : Int32) * nI kp.length + (1 : Int32) = nI (5 * kp.length + 1) := by rw [mul5]; exact nI_add _ 1
      have q2 : (5 : Int32) * nI kp.length + (2 : Int32) = nI (5 * kp.length + 2) := by rw [mul5]; exact nI_add _ 2
      have q3 : (5 : Int32) * nI kp.length + (3 : Int32) = nI (5 * kp.length + 3) := by rw [mul5]; exact nI_add _ 3
      have q4 : (5 : Int32) * nI kp.length + (4 : Int32) = nI (5 * kp.length + 4) := by rw [mul5]; exact nI_add _ 4
      rw [hkp, hfk]
      unfold B_X7_spillsOne_43
      rw [h9.1, hlen1]
      refine ⟨fun z => absurd ((nI_leI (by omega) (by omega)).mp z) (by omega), fun _ => ?_⟩
      rw [q1, q2, q3, q4, mul5, clampN (by omega), clampN (by omega), clampN (by omega), clampN (by omega), clampN (by omega), gx0]
      refine ⟨vin (by omega) (by omega), m_last (c := 0) h5 hP (by omega) ?_⟩
      rw [Nat.add_zero, h6.1, h2]
      refine m_part ha h0 hx9 hb.1 hb.2 hl ⟨fun z => ?_, fun z => ?_⟩
      · have hne : ¬ prt (hsh a.2.2.2) b l x = q := fun c => z (by rw [c])
        have := ih f (i + 1) S FL cnt (by omega) (by omega) (by rw [hskip hne]; exact hw) k
        rw [if_pos (by simp [hne])] at t1
        rw [if_neg (by simp [hne]), List.append_nil] at t2
        rw [t1, t2, hkp, hfk, List.length_append, List.length_singleton] at this
        show B_X7_spillsOne_43 K f S (nI q) (nI fk.length) (nI kp.length + 1)
        rw [nI_1]
        exact this
      · have heq : prt (hsh a.2.2.2) b l x = q := (nI_eq (by omega) (by omega)).mp z
        refine ⟨vin (by omega) (by omega), vin (by omega) (by omega), vin (by omega) (by omega), vin (by omega) (by omega), vin (by omega) (by omega), ?_⟩
        rw [gx0, gx1, gx2, gx3, gx4]
        have hsw : (spi (hsh a.2.2.2) b l σ q i).2.2.2.1 = σ.2.2.2.1 + fk.length := by show σ.2.2.2.1 + _ = _; rw [hfk]
        have hfkl2 : fk.length + (kp.length + (σ.1.length - i)) = σ.1.length := by
          have := filter_len (fun k => prt (hsh a.2.2.2) b l k == q) (σ.1.take i)
          rw [hkp, hfk, List.length_take] at this
          omega
        have hcl : cnt < cnt0 + 100 := by rw [hsw] at h3''; omega
        refine m_makes (k := x) (x := aggOf P x) h3 (by omega) (fun S15 mi m5 m4 mf m53 m56 => ?_)
        have hFk : (spi (hsh a.2.2.2) b l σ q i).2.2.1 q = fk := by
          show (if q = q then σ.2.2.1 q ++ _ else _) = _
          rw [if_pos rfl, hFq, hfk, List.nil_append]
        have hkeys : ∀ r, r < 16 → ∀ y ∈ FL r, y.2.1 ∈ ksOf a ∧ prt (hsh a.2.2.2) b l y.2.1 = r := fun r hr y hy => by
          have hm : y.2.1 ∈ (spi (hsh a.2.2.2) b l σ q i).2.2.1 r := by rw [← (h11 r hr).2.1]; exact List.mem_map.mpr ⟨y, hy, rfl⟩
          have hm : y.2.1 ∈ (if r = q then σ.2.2.1 r ++ (σ.1.take i).filter (fun k => prt (hsh a.2.2.2) b l k == q) else σ.2.2.1 r) := hm
          have hall : ∀ z ∈ P.map (fun x => x.2.1), z ∈ ksOf a := fun z hz => by
            obtain ⟨w, hw, rfl⟩ := List.mem_map.mp hz
            exact hks w hw
          split at hm
          · rename_i er
            rcases List.mem_append.mp hm with hm | hm
            · obtain ⟨a1, a2, -⟩ := g.s3 r _ hm
              exact ⟨hall _ a1, a2⟩
            · obtain ⟨a1, a2⟩ := List.mem_filter.mp hm
              exact ⟨hall _ (g.s2 _ (List.mem_of_mem_take a1)).1, by rw [er]; simpa using a2⟩
          · obtain ⟨a1, a2, -⟩ := g.s3 r _ hm
            exact ⟨hall _ a1, a2⟩
        have hFL15 : ∀ r, r < 16 → FOK S15 r (FL r) := fun r hr => (h10 r hr).fr (by rw [mf 64 (by omega) (by omega)]) (by rw [mf 62 (by omega) (by omega)]) (by rw [mf 63 (by omega) (by omega)]) (fun y hy c hc => m56 _ (by have := ((h11 r hr).2.2.1 y hy).1; omega))
        have hch : ∀ r, r < 16 → ∀ y ∈ FL r, ItK S15 y := fun r hr y hy => by
          have hne : FL r ≠ [] := fun c => by rw [c] at hy; simp at hy
          exact ((hFL15 r hr).2 _ _ (List.dropLast_concat_getLast hne).symm).1.it y hy
        have hFql : (FL q).length = fk.length := by rw [← hFk, ← (h11 q hq).2.1, List.length_map]
        refine m_writes (e := (cnt, x, aggOf P x)) (FL := FL) (P := nP o) (by rw [m53 8 (by omega)]; exact h5) hP hq hFL15 (h11 q hq).1 mi (by show cnt < 1900; omega) (fun y hy => by have := ((h11 q hq).2.2.1 y hy).1; omega) (by omega) (fun r hr y hy => by have := ((h11 r hr).2.2.1 y hy).1; show y.1 ≠ cnt; omega) (fun r hr hrq y hy w hw c => ?_) (fun S17 w10 wo w58 w56a w56b => ?_)
        · have k1 := hch r hr y hy
          have k2 := hch q hq w hw
          have l1 := key_le ha (mem_ksOf.mp (hkeys r hr y hy).1)
          have l2 := key_le ha (mem_ksOf.mp (hkeys q hq w hw).1)
          have e1 : nI y.2.1 = nI w.2.1 := by rw [← k1.1, ← k2.1, c]
          have e2 := (nI_eq (by omega) (by omega)).mp e1
          have p1 := (hkeys r hr y hy).2
          have p2 := (hkeys q hq w hw).2
          exact hrq (by rw [← p1, e2, p2])
        · have fo : ∀ i, i ≠ 53 → i ≠ 56 → i ≠ 58 → i ≠ 62 → i ≠ 63 → i ≠ 64 → S17 i = S i := fun i a0 a1 a2 a3 a4 a5 => by rw [wo i a1 a2 a3 a4 a5, mf i a0 a1]
          have f53 : ∀ j, j ≠ 4 → S17 53 j = S 53 j := fun j hj => by rw [wo 53 (by omega) (by omega) (by omega) (by omega) (by omega), m53 j hj]
          have g58 : ∀ j, j ≠ 7 * nP o + 5 → S17 58 j = S 58 j := fun j hj => by rw [w58, upd_ne _ _ hj, mf 58 (by omega) (by omega)]
          refine m_takesOut (G := (spi (hsh a.2.2.2) b l σ q i).1.map (fun k => (k, aggOf P k))) (h9.fr (f53 6 (by omega)) (fo 57 (by omega) (by omega) (by omega) (by omega) (by omega) (by omega))) (by omega) (by omega) (fun S19 g19 f19 => ?_)
          have hi32 : nI kp.length + (-1 : Int32) + (1 : Int32) = nI kp.length := by rw [Int32.add_assoc, show (-1 : Int32) + 1 = 0 from by decide, Int32.add_zero]
          have fo2 : ∀ i, i ≠ 53 → i ≠ 56 → i ≠ 57 → i ≠ 58 → i ≠ 62 → i ≠ 63 → i ≠ 64 → S19 i = S i := fun i a0 a1 a6 a2 a3 a4 a5 => by rw [f19.1 i a0 a6, fo i a0 a1 a2 a3 a4 a5]
          have f532 : ∀ j, j ≠ 4 → j ≠ 6 → S19 53 j = S 53 j := fun j a1 a2 => by rw [f19.2 j a2, f53 j a1]
          have g582 : ∀ j, j ≠ 7 * nP o + 5 → S19 58 j = S 58 j := fun j hj => by rw [f19.1 58 (by omega) (by omega), g58 j hj]
          have hMP : MP S19 a lim b l pre o n cnt0 P (spi (hsh a.2.2.2) b l σ q (i + 1)) (fun r => if r = q then FL q ++ [(cnt, x, aggOf P x)] else FL r) (cnt + 1) := by
            have ew : (spi (hsh a.2.2.2) b l σ q (i + 1)).2.2.2.1 = σ.2.2.2.1 + (fk.length + 1) := by
              show σ.2.2.2.1 + _ = _
              rw [t2, hfk, if_pos (by simp [heq]), List.length_append]; rfl
            refine ⟨⟨h0.same (fo2 54 (by omega) (by omega) (by omega) (by omega) (by omega) (by omega) (by omega)), by rw [f532 _ (by omega) (by omega)]; exact h1, by rw [f532 _ (by omega) (by omega)]; exact h2, ?_, by omega, ?_⟩, h4.eq (fun j hj => g582 j (by omega)) (fun j _ => by rw [fo2 59 (by omega) (by omega) (by omega) (by omega) (by omega) (by omega) (by omega)]) (fun j _ => by rw [fo2 60 (by omega) (by omega) (by omega) (by omega) (by omega) (by omega) (by omega)]), ⟨by rw [f532 _ (by omega) (by omega)]; exact h5, ?_⟩, ⟨by rw [f532 _ (by omega) (by omega)]; exact h7, fun j r hj => by have := h7' j r hj; unfold SM4 at this ⊢; rw [fo2 59 (by omega) (by omega) (by omega) (by omega) (by omega) (by omega) (by omega)]; exact this⟩, ⟨by rw [f532 _ (by omega) (by omega)]; exact h8, by rw [f532 _ (by omega) (by omega)]; exact h8'⟩, ?_, fun r hr => ?_, fun r hr => ?_⟩
            · rw [f19.2 4 (by omega), wo 53 (by omega) (by omega) (by omega) (by omega) (by omega)]; exact m4
            · rw [ew]; rw [hsw] at h3''; omega
            · obtain ⟨p0, p1, p2, p3, p4, p5, p6⟩ := h6
              refine ⟨(g582 _ (by omega)).trans p0, (g582 _ (by omega)).trans p1, (g582 _ (by omega)).trans p2, (g582 _ (by omega)).trans p3, (g582 _ (by omega)).trans p4, ?_, (g582 _ (by omega)).trans p6⟩
              show _ = nI (spi (hsh a.2.2.2) b l σ q (i + 1)).2.2.2.1
              rw [f19.1 58 (by omega) (by omega), w58, upd_at, mf 58 (by omega) (by omega), p5, ew]
              show nI (spi (hsh a.2.2.2) b l σ q i).2.2.2.1 + 1 = _
              rw [hsw, nI_1]
              rfl
            · have eG : ((spi (hsh a.2.2.2) b l σ q i).1.map (fun k => (k, aggOf P k))).eraseIdx kp.length = (spi (hsh a.2.2.2) b l σ q (i + 1)).1.map (fun k => (k, aggOf P k)) := by
                have e3 : (spi (hsh a.2.2.2) b l σ q (i + 1)).1 = kp ++ σ.1.drop (i + 1) := by
                  show (σ.1.take (i + 1)).filter _ ++ _ = _
                  rw [t1, hkp, if_neg (by simp [heq]), List.append_nil]
                rw [es1, e3, map_eraseIdx', List.eraseIdx_append_of_length_le (Nat.le_refl _), Nat.sub_self]
                rfl
              rw [← eG]; exact g19
            · exact (w10 r hr).fr (by rw [f19.1 64 (by omega) (by omega)]) (by rw [f19.1 62 (by omega) (by omega)]) (by rw [f19.1 63 (by omega) (by omega)]) (fun _ _ _ _ => by rw [f19.1 56 (by omega) (by omega)])
            · obtain ⟨b1, b2, b3, b4⟩ := h11 r hr
              have eF : (spi (hsh a.2.2.2) b l σ q (i + 1)).2.2.1 r = if r = q then fk ++ [x] else (spi (hsh a.2.2.2) b l σ q i).2.2.1 r := by
                show (if r = q then σ.2.2.1 r ++ (σ.1.take (i + 1)).filter _ else σ.2.2.1 r) = if r = q then fk ++ [x] else (if r = q then _ else σ.2.2.1 r)
                split
                · rename_i er
                  rw [er, hFq, t2, hfk, if_pos (by simp [heq]), List.nil_append]
                · rfl
              rw [eF]
              dsimp only
              by_cases er : r = q
              · subst er
                rw [if_pos rfl, if_pos rfl]
                rw [hFk] at b2 b4
                refine ⟨?_, by rw [List.map_append, b2]; rfl, fun y hy => ?_, fun k hk => ?_⟩
                · rw [List.map_append, List.nodup_append]
                  refine ⟨b1, by simp, fun u hu v hv c => ?_⟩
                  have hv : v = cnt := by simpa using hv
                  obtain ⟨y, hy, rfl⟩ := List.mem_map.mp hu
                  have := (b3 y hy).1
                  omega
                · rcases List.mem_append.mp hy with hy | hy
                  · exact ⟨by have := (b3 y hy).1; omega, (b3 y hy).2⟩
                  · rw [List.mem_singleton] at hy
                    subst hy
                    exact ⟨Nat.lt_succ_self cnt, Or.inr h3'⟩
                · rw [aggOf_snoc, b2]
                  by_cases ek : x = k
                  · subst ek
                    have hnf : x ∉ fk := by
                      intro c
                      rw [← hfk] at c
                      have c := (List.mem_filter.mp c).1
                      obtain ⟨j, hj, hje⟩ := List.getElem_of_mem c
                      have hjl : j < i := by rw [List.length_take] at hj; omega
                      have hw2 := List.pairwise_iff_getElem.mp g.s1 j i (by omega) hil hjl
                      rw [List.getElem_take] at hje
                      rw [hje, hxe] at hw2
                      omega
                    rw [if_pos rfl, if_neg hnf]
                  · rw [if_neg ek]
                    rcases List.mem_append.mp hk with hk | hk
                    · exact b4 k hk
                    · rw [List.mem_singleton] at hk
                      exact absurd hk.symm ek
              · rw [if_neg er, if_neg er]
                exact ⟨b1, b2, fun y hy => ⟨by have := (b3 y hy).1; omega, (b3 y hy).2⟩, b4⟩
          have fN : FrN cnt0 P S S19 := by
            refine ⟨fun i hi => fo2 i (by omega) (by omega) (by omega) (by omega) (by omega) (by omega) (by omega), fun j hj => f532 j (by omega) (by omega), fun j hj hjP c hc => ?_⟩
            rw [f19.1 56 (by omega) (by omega)]
            by_cases c5 : c = 5
            · subst c5
              have hjf : ∀ y ∈ FL q, y.1 ≠ j := by
                intro y hy c
                have hy1 := (h11 q hq).2.2.1 y hy
                rcases hy1.2 with z | z
                · exact hjP (by rw [← c]; exact z)
                · omega
              rw [w56b j (by show j ≠ cnt; omega) hjf, m56 _ (by omega)]
            · rw [w56a j c (by omega), m56 _ (by omega)]
          have := ih f (i + 1) S19 _ (cnt + 1) (by omega) (by omega) hMP (fun S' FL' cnt' g' f' => k S' FL' cnt' g' (fN.trans f'))
          rw [if_neg (by simp [heq]), List.append_nil] at t1
          rw [if_pos (by simp [heq])] at t2
          rw [t1, t2, hkp, hfk, List.length_append, List.length_singleton] at this
          show B_X7_spillsOne_43 K f S19 (nI q) (nI fk.length + 1) (nI kp.length + (-1) + 1)
          rw [nI_1, hi32]
          exact this
end
