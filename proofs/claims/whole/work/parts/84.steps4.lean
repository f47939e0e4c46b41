/-! groupOf -/
theorem pl_count {k : Nat} : ∀ {L : List Nat}, Srt L → pl k L = (L.filter (fun x => decide (x < k))).length
  | [], _ => rfl
  | x :: L, h => by
    obtain ⟨h1, h2⟩ := List.pairwise_cons.mp h
    unfold pl
    by_cases c : x < k
    · rw [if_pos c, List.filter_cons_of_pos (by simp [c]), List.length_cons, pl_count h2]
    · rw [if_neg c, List.filter_eq_nil_iff.mpr]
      · rfl
      · intro y hy
        rcases List.mem_cons.mp hy with rfl | hy
        · simp [c]
        · have := h1 y hy
          simp; omega
theorem low_idx {st : AT} (ha : okS st.1) {k : Nat} (hk : k ∈ ksOf st.1) : ((keysD (rn st)).filter (fun x => decide (x < k))).length = idx st.1 k := by
  obtain ⟨-, -, hn, hm, -, -⟩ := run_bounds ha ha.2.2.1.1 ha.2.2.2.1
  rw [idx_pl hk, pl_count (ksOf_srt st.1)]
  have hk2 : (ksOf st.1).Nodup := (ksOf_srt st.1).imp (fun h => Nat.ne_of_lt h)
  have h1 := nodup_len ((keysD (rn st)).filter (fun x => decide (x < k))) ((ksOf st.1).filter (fun x => decide (x < k))) (List.Pairwise.filter _ hn) (fun x hx => by
    obtain ⟨a, c⟩ := List.mem_filter.mp hx
    exact List.mem_filter.mpr ⟨(hm x).mp a, c⟩)
  have h2 := nodup_len ((ksOf st.1).filter (fun x => decide (x < k))) ((keysD (rn st)).filter (fun x => decide (x < k))) (List.Pairwise.filter _ hk2) (fun x hx => by
    obtain ⟨a, c⟩ := List.mem_filter.mp hx
    exact List.mem_filter.mpr ⟨(hm x).mpr a, c⟩)
  omega
def gv (a : AS) (i : Nat) (d : DR) (w : Nat) : Int32 := match w with
  | 0 => nI d.1
  | 1 => (aggK a d.1).1
  | 2 => (aggK a d.1).2.1
  | 3 => (aggK a d.1).2.2.1
  | 4 => (aggK a d.1).2.2.2
  | 5 => nI d.2.1
  | 6 => nI d.2.2
  | _ => nI i
theorem DMr.col {S : Mem} {a : AS} {i : Nat} {d : DR} (h : DMr S a i d) {w : Nat} (hw : w ≤ 6) : S 60 (7 * i + w) = gv a i d w := by
  obtain ⟨h0, ⟨h1, h2, h3, h4⟩, h5, h6⟩ := h
  rcases (show w = 0 ∨ w = 1 ∨ w = 2 ∨ w = 3 ∨ w = 4 ∨ w = 5 ∨ w = 6 by omega) with rfl | rfl | rfl | rfl | rfl | rfl | rfl
  · exact h0
  · exact h1
  · exact h2
  · exact h3
  · exact h4
  · exact h5
  · exact h6
theorem m_group {S : Mem} {st : AT} (ha : okS st.1) (h12 : S 53 12 = nI (nD (rn st))) (hD : ∀ i d, (rn st).2.2.1[i]? = some d → DMr S st.1 i d) {j w : Nat} (hj : j < 2 ^ 31) (hw : w ≤ 7) {K : Int32 → Mem → Prop} (k1 : ∀ i d, (rn st).2.2.1[i]? = some d → idx st.1 d.1 = j → K (gv st.1 i d w) S) (k0 : (∀ (i : Nat) d, (rn st).2.2.1[i]? = some d → idx st.1 d.1 ≠ j) → K (-1000004) S) : ∃ n, B_X7_groupOf_25 K n S (nI j) (nI w) 0 := by
  obtain ⟨-, -, hnD⟩ := nn_bounds ha
  obtain ⟨-, -, -, hm, -, -⟩ := run_bounds ha ha.2.2.1.1 ha.2.2.2.1
  have hk100 := ksOf_len ha
  obtain ⟨DD, hDD⟩ : ∃ DD, (rn st).2.2.1 = DD := ⟨_, rfl⟩
  have hl : DD.length = nD (rn st) := by rw [← hDD]; rfl
  have hkeys : ∀ (i : Nat) (d : DR), DD[i]? = some d → d.1 ∈ ksOf st.1 := fun i d hd => (hm d.1).mp (List.mem_map.mpr ⟨d, by rw [← hDD] at hd; exact List.mem_of_getElem? hd, rfl⟩)
  have hlow : ∀ (i : Nat) (d : DR), DD[i]? = some d → (DD.filter (fun x => decide (x.1 < d.1))).length = idx st.1 d.1 := fun i d hd => by
    rw [← low_idx ha (hkeys i d hd)]
    unfold keysD
    rw [hDD, List.filter_map, List.length_map]
    rfl
  rw [hDD] at hD k1 k0
  rw [← hl] at h12
  have inner : ∀ (R : Mem → Int32 → Int32 → Int32 → Prop) (i : Nat) (d : DR), DD[i]? = some d → B_X7_groupOf_86 R K S (nI j) (nI w) (nI i) (nI (idx st.1 d.1)) → ∀ m f t, t + m = DD.length → m < f → B_X7_groupOf_39 R K f S (nI j) (nI w) (nI i) (nI ((DD.take t).filter (fun x => decide (x.1 < d.1))).length) (nI t) := by
    intro R i d hd k m
    have hil := (List.getElem?_eq_some_iff.mp hd).1
    induction m with
    | zero =>
      intro f t ht hf
      match f, hf with
      | f + 1, _ =>
        unfold B_X7_groupOf_39
        rw [h12, List.take_of_length_le (by omega), hlow i d hd]
        exact ⟨fun _ => k, fun z => absurd ((nI_leI (by omega) (by omega)).mpr (by omega)) z⟩
    | succ m ih =>
      intro f t ht hf
      match f, hf with
      | f + 1, hf =>
        have htl : t < DD.length := by omega
        have hx : DD[t]? = some (DD[t]'htl) := List.getElem?_eq_getElem htl
        have e2 : (DD.take (t + 1)).filter (fun x => decide (x.1 < d.1)) = (DD.take t).filter (fun x => decide (x.1 < d.1)) ++ (if decide ((DD[t]'htl).1 < d.1) = true then [DD[t]'htl] else []) := by
          rw [List.take_succ_eq_append_getElem htl, List.filter_append]
          congr 1
          by_cases e : decide ((DD[t]'htl).1 < d.1) = true
          · rw [if_pos e, List.filter_cons, if_pos e]; rfl
          · rw [if_neg e, List.filter_cons, if_neg e]; rfl
        obtain ⟨x, hxe⟩ : ∃ x, DD[t]'htl = x := ⟨_, rfl⟩
        rw [hxe] at hx e2
        have l1 := key_le ha (mem_ksOf.mp (hkeys t x hx))
        have l2 := key_le ha (mem_ksOf.mp (hkeys i d hd))
        have nx := ih f (t + 1) (by omega) (by omega)
        rw [e2] at nx
        unfold B_X7_groupOf_39
        rw [h12, mul7, mul7, clampN (by omega), clampN (by omega), (hD i d hd).1, (hD t x hx).1]
        refine ⟨fun z => absurd ((nI_leI (by omega) (by omega)).mp z) (by omega), fun _ => ⟨vin (by omega) (by omega), vin (by omega) (by omega), fun z => ?_, fun z => ?_⟩⟩
        · have : ¬ x.1 < d.1 := by have := (nI_leI (by omega) (by omega)).mp z; omega
          rw [if_neg (by simp [this]), List.append_nil] at nx
          show B_X7_groupOf_39 R K f S (nI j) (nI w) (nI i) (_ + 0) (nI t + 1)
          rw [nI_1, Int32.add_zero]; exact nx
        · have : x.1 < d.1 := Nat.not_le.mp fun c => z ((nI_leI (by omega) (by omega)).mpr c)
          rw [if_pos (by simp [this]), List.length_append, List.length_singleton] at nx
          show B_X7_groupOf_39 R K f S (nI j) (nI w) (nI i) (_ + 1) (nI t + 1)
          rw [nI_1, nI_1]; exact nx
  have loop : ∀ m f i, i + m = DD.length → m < f → (∀ (t : Nat) (d : DR), t < i → DD[t]? = some d → idx st.1 d.1 ≠ j) → B_X7_groupOf_25 K f S (nI j) (nI w) (nI i) := by
    intro m
    induction m with
    | zero =>
      intro f i hi hf hno
      match f, hf with
      | f + 1, _ =>
        unfold B_X7_groupOf_25
        rw [h12]
        exact ⟨fun _ => k0 (fun t d hd => hno t d (by have := (List.getElem?_eq_some_iff.mp hd).1; omega) hd), fun z => absurd ((nI_leI (by omega) (by omega)).mpr (by omega)) z⟩
    | succ m ih =>
      intro f i hi hf hno
      match f, hf with
      | f + 1, hf =>
        have hil : i < DD.length := by omega
        have hx : DD[i]? = some (DD[i]'hil) := List.getElem?_eq_getElem hil
        obtain ⟨x, hxe⟩ : ∃ x, DD[i]'hil = x := ⟨_, rfl⟩
        rw [hxe] at hx
        have hix := idx_lt (hkeys i x hx)
        unfold B_X7_groupOf_25
        rw [h12]
        refine ⟨fun z => absurd ((nI_leI (by omega) (by omega)).mp z) (by omega), fun _ => ⟨DD.length + 1, inner _ i x hx ⟨fun z => ?_, fun z => ?_⟩ DD.length (DD.length + 1) 0 (by omega) (by omega)⟩⟩
        · rw [nI_1]
          refine ih f (i + 1) (by omega) (by omega) (fun t d ht hd => ?_)
          by_cases e : t = i
          · subst e; rw [hx] at hd; cases hd; exact fun c => z (by rw [c])
          · exact hno t d (by omega) hd
        · have ej : idx st.1 x.1 = j := (nI_eq (by omega) hj).mp z
          have kk := k1 i x hx ej
          unfold B_X7_groupOf_92
          rw [mul7, nI_add]
          refine ⟨fun z3 => ?_, fun z3 => ?_⟩
          · have hw6 : w ≤ 6 := by
              rcases Nat.lt_or_ge w 7 with c | c
              · omega
              · exact absurd (by rw [show w = 7 by omega]; rfl) z3
            rw [clampN (by omega), (hD i x hx).col hw6]
            exact ⟨vin (by omega) (by omega), kk⟩
          · have hw7 : w = 7 := (nI_eq (b := 7) (by omega) (by omega)).mp z3
            subst hw7
            exact kk
  exact ⟨DD.length + 1, loop DD.length (DD.length + 1) 0 (by omega) (by omega) (fun t d ht => by omega)⟩
theorem s_groupOf : ∀ (S : Mem) (a0 a1 : Int32), Inv S → P_X6_groupOf S a0 a1 (fun r1 S1 => P_X7_groupOf S1 a0 a1 (fun r2 S2 => r1 = r2 ∧ Inv S2)) := by
  rintro S a0 a1 ⟨st, hC, hM⟩
  have ha := hC.1.1
  obtain ⟨-, -, hnD⟩ := nn_bounds ha
  obtain ⟨-, -, hnod, hm, -, -⟩ := run_bounds ha ha.2.2.1.1 ha.2.2.2.1
  have hk100 := ksOf_len ha
  refine ⟨fun z => ⟨fun _ => ⟨rfl, st, hC, hM⟩, fun c => absurd z c⟩, fun z => ?_⟩
  obtain ⟨j, hj, rfl⟩ := nI_of z
  refine c_in (fun c => ⟨fun _ => ?_, fun c2 => absurd rfl c2⟩) (fun c => ⟨fun c2 => absurd c2 (by decide), fun _ => ⟨fun w => absurd w z, fun _ => m_in 0 7 rfl rfl (fun c3 => absurd c3 c) (fun _ => ⟨fun c4 => absurd rfl c4, fun _ => ⟨rfl, st, hC, hM⟩⟩)⟩⟩)
  obtain ⟨w, hw, rfl⟩ := le_nI (n := 7) c.1 c.2 (by omega)
  have ref : ∀ (r : Int32) (S' : Mem), FrC S S' → CG S' st → (ksOf st.1 = [] ∨ (ksOf st.1).length ≤ j → r = -1000004) → (∀ i d, (rn st).2.2.1[i]? = some d → idx st.1 d.1 = j → r = gv st.1 i d w) → P_X7_groupOf S' (nI j) (nI w) (fun r2 S2 => r = r2 ∧ Inv S2) := by
    intro r S' f' g' h1 h2
    refine ⟨fun c => absurd c z, fun _ => m_in 0 7 rfl rfl (fun _ => ⟨fun _ => m_runNow (hM.frC f') (fun S2 f2 g2 q2 => ?_), fun c4 => absurd c4 (by decide)⟩) (fun c3 => absurd c c3)⟩
    refine m_group ha q2.2.2.2.1 q2.1.2.2 hj hw (fun i d hd e => ⟨h2 i d hd e, mI g' f2 g2⟩) (fun hno => ⟨h1 (Or.inr (Nat.not_lt.mp fun hlt => ?_)), mI g' f2 g2⟩)
    have hks : (ksOf st.1)[j]'hlt ∈ ksOf st.1 := List.getElem_mem hlt
    obtain ⟨d, hd, he⟩ := List.mem_map.mp ((hm _).mpr hks)
    obtain ⟨i, hi, hid⟩ := List.getElem_of_mem hd
    refine hno i d (by rw [← hid]; exact List.getElem?_eq_getElem hi) ?_
    rw [he]
    have hk2 : (ksOf st.1).Nodup := (ksOf_srt st.1).imp (fun h => Nat.ne_of_lt h)
    have hg := idx_get hks
    obtain ⟨q1, q2⟩ := List.getElem?_eq_some_iff.mp hg
    have hw2 := List.pairwise_iff_getElem.mp (ksOf_srt st.1)
    rcases Nat.lt_trichotomy (idx st.1 ((ksOf st.1)[j]'hlt)) j with c | c | c
    · have := hw2 _ _ q1 hlt c; omega
    · exact c
    · have := hw2 _ _ hlt q1 c; omega
  refine c_groupsNow hC (fun S1 f1 g1 => ⟨rfl, t_length g1.2.2.1.1 ?_⟩)
  rw [List.length_map]
  refine ⟨fun q => ?_, fun q => ref _ S1 f1 g1 (fun _ => rfl) (fun i d hd e => ?_)⟩
  · have hlt : j < (ksOf st.1).length := (nI_ltI hj (by omega)).mp q
    have hne : ¬ (ksOf st.1 = [] ∨ (ksOf st.1).length ≤ j) := by
      rintro (c | c)
      · rw [c] at hlt; simp at hlt
      · omega
    refine ⟨fun w4 => ?_, fun w4 => ?_⟩
    · have hw5 : 5 ≤ w := (nI_ltI (a := 4) (by omega) (by omega)).mp w4
      refine c_passesNow g1.1 (fun S7 f7 g7 r7 => ⟨rfl, ?_⟩)
      obtain ⟨-, -, -, ⟨E, r38, rE⟩, -⟩ := r7
      have e5 : nI w - (4 : Int32) - (1 : Int32) = nI (w - 5) := by
        rw [show nI w - (4 : Int32) = nI (w - 4) from pk_sub (b := 4) (by omega), show nI (w - 4) - (1 : Int32) = nI (w - 4 - 1) from pk_sub (b := 1) (by omega), show w - 4 - 1 = w - 5 by omega]
      rw [e5]
      refine t_at t38.1 r38 (by omega) (by rw [t38.2.1]; omega) (ref _ S7 (f1.trans f7) g7 (fun c => absurd c hne) (fun i d hd e => ?_))
      obtain ⟨x0, x1, x2⟩ := rE i d hd
      rw [e] at x0 x1 x2
      rcases (show w = 5 ∨ w = 6 ∨ w = 7 by omega) with rfl | rfl | rfl
      · exact x0
      · exact x1
      · exact x2
    · have hw4 : w ≤ 4 := Nat.not_lt.mp fun c => w4 (nI_lt (a := 4) c (by omega))
      refine t_at t29.1 g1.2.2.1.1 (by omega) (by rw [t29.2.1]; omega) (ref _ S1 f1 g1 (fun c => absurd c hne) (fun i d hd e => ?_))
      have hdk : d.1 ∈ ksOf st.1 := (hm d.1).mp (List.mem_map.mpr ⟨d, List.mem_of_getElem? hd, rfl⟩)
      have hg := idx_get hdk
      rw [e] at hg
      rw [getD_mapN hg]
      rcases (show w = 0 ∨ w = 1 ∨ w = 2 ∨ w = 3 ∨ w = 4 by omega) with rfl | rfl | rfl | rfl | rfl <;> rfl
  · exfalso
    have hdk : d.1 ∈ ksOf st.1 := (hm d.1).mp (List.mem_map.mpr ⟨d, List.mem_of_getElem? hd, rfl⟩)
    have := idx_lt hdk
    exact q ((nI_ltI hj (by omega)).mpr (by omega))
