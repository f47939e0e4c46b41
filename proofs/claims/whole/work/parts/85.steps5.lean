/-! count -/
def sumV (L : AR) : Int32 := L.foldl (fun s r => s + r.2) 0
theorem m_isFirst {S : Mem} {a : AS} (ha : okS a) (h : AllIs (S 54) a) {i : Nat} {r : Nat × Int32} (hi : a.1[i]? = some r) {K : Int32 → Mem → Prop} (k : K (if r.1 ∈ ksOf (pre a i) then 0 else 1) S) : P_X7_isFirst S (nI i) K := by
  have h100 := ha.1
  have hil := (List.getElem?_eq_some_iff.mp hi).1
  have hr9 : r.1 ≤ 9999 := ha.2.1 r (List.mem_of_getElem? hi)
  have loop : ∀ m f t, t + m = i → m < f → B_X7_isFirst_4 K f S (nI i) (if r.1 ∈ keysR (pre a t) then 0 else 1) (nI t) := by
    intro m
    induction m with
    | zero =>
      intro f t ht hf
      match f, hf with
      | f + 1, _ =>
        have et : t = i := by omega
        subst et
        have e : (if r.1 ∈ keysR (pre a t) then (0 : Int32) else 1) = if r.1 ∈ ksOf (pre a t) then 0 else 1 := by
          by_cases c : r.1 ∈ keysR (pre a t)
          · rw [if_pos c, if_pos (mem_ksOf.mpr c)]
          · rw [if_neg c, if_neg (fun q => c (mem_ksOf.mp q))]
        rw [e]
        refine ⟨fun _ => ⟨?_, k⟩, fun z => absurd ((nI_leI (by omega) (by omega)).mpr (Nat.le_refl _)) z⟩
        split
        · exact Or.inl rfl
        · exact Or.inr rfl
    | succ m ih =>
      intro f t ht hf
      match f, hf with
      | f + 1, hf =>
        have htl : t < a.1.length := by omega
        have hx : a.1[t]? = some (a.1[t]'htl) := List.getElem?_eq_getElem htl
        obtain ⟨x, hxe⟩ : ∃ x, a.1[t]'htl = x := ⟨_, rfl⟩
        rw [hxe] at hx
        have hx9 : x.1 ≤ 9999 := ha.2.1 x (List.mem_of_getElem? hx)
        have ek : keysR (pre a (t + 1)) = keysR (pre a t) ++ [x.1] := by
          unfold keysR
          rw [pre_succ hx, List.map_append]; rfl
        have nx := ih f (t + 1) (by omega) (by omega)
        rw [ek, ← nI_1] at nx
        refine ⟨fun z => absurd ((nI_leI (by omega) (by omega)).mp z) (by omega), fun _ => ⟨fun z => ?_, fun z => ?_⟩⟩
        · have hm : r.1 ∈ keysR (pre a t) := by
            by_cases c : r.1 ∈ keysR (pre a t)
            · exact c
            · rw [if_neg c] at z; exact absurd z (by decide)
          rw [if_pos (List.mem_append_left _ hm)] at nx
          exact nx
        · have hm : r.1 ∉ keysR (pre a t) := fun c => z (by rw [if_pos c])
          rw [show (4 : Int32) + nI t = nI (4 + t) from nI_add 4 t, show (4 : Int32) + nI i = nI (4 + i) from nI_add 4 i, clampN (by omega), clampN (by omega), (h.2.2.2.2 t x hx).1, (h.2.2.2.2 i r hi).1, nI_eq (by omega) (by omega)]
          refine ⟨vin (by omega) (by omega), vin (by omega) (by omega), fun e => ?_, fun e => ?_⟩
          · rw [if_pos (List.mem_append_right _ (by simp [e]))] at nx
            exact nx
          · rw [if_neg (fun c => by
              rcases List.mem_append.mp c with c | c
              · exact hm c
              · rw [List.mem_singleton] at c; exact e c.symm)] at nx
            exact nx
  have := loop i (i + 1) 0 (by omega) (by omega)
  exact ⟨_, this⟩
theorem ks_len_pre {a : AS} {j : Nat} {r : Nat × Int32} (h : a.1[j]? = some r) : (ksOf (pre a (j + 1))).length = (ksOf (pre a j)).length + (if r.1 ∈ ksOf (pre a j) then 0 else 1) := by
  rw [ksOf_pre h]
  unfold addK
  split
  · rfl
  · rw [insK_length]
theorem m_count7 {S : Mem} {a : AS} (ha : okS a) (h : AllIs (S 54) a) {x1 : Int32} {K : Int32 → Mem → Prop} (k : B_X7_count_54 K S x1 (sumV a.1) (nI (ksOf a).length)) : P_X7_count S x1 K := by
  have h100 := ha.1
  have loop : ∀ m f j, j + m = a.1.length → m < f → B_X7_count_7 K f S x1 (sumV (a.1.take j)) (nI (ksOf (pre a j)).length) (nI j) := by
    intro m
    induction m with
    | zero =>
      intro f j hj hf
      match f, hf with
      | f + 1, _ =>
        have ej : j = a.1.length := by omega
        subst ej
        rw [pre_all, List.take_length]
        refine ⟨vin (n := 0) (by omega) (by omega), ?_⟩
        rw [cl0, h.1]
        exact ⟨fun _ => k, fun z => absurd ((nI_leI (by omega) (by omega)).mpr (Nat.le_refl _)) z⟩
    | succ m ih =>
      intro f j hj hf
      match f, hf with
      | f + 1, hf =>
        have hjl : j < a.1.length := by omega
        have hx : a.1[j]? = some (a.1[j]'hjl) := List.getElem?_eq_getElem hjl
        have e1 : sumV (a.1.take (j + 1)) = sumV (a.1.take j) + (a.1[j]'hjl).2 := by
          unfold sumV
          rw [List.take_succ_eq_append_getElem hjl, List.foldl_append]; rfl
        obtain ⟨x, hxe⟩ : ∃ x, a.1[j]'hjl = x := ⟨_, rfl⟩
        rw [hxe] at hx e1
        have nx := ih f (j + 1) (by omega) (by omega)
        rw [e1, ks_len_pre hx] at nx
        refine ⟨vin (n := 0) (by omega) (by omega), ?_⟩
        rw [cl0, h.1]
        refine ⟨fun z => absurd ((nI_leI (by omega) (by omega)).mp z) (by omega), fun _ => ?_⟩
        rw [show (104 : Int32) + nI j = nI (104 + j) from nI_add 104 j, clampN (by omega)]
        refine ⟨vin (by omega) (by omega), m_isFirst ha h hx ⟨fun z => ?_, fun z => ?_⟩⟩
        · have hm : x.1 ∈ ksOf (pre a j) := by
            by_cases c : x.1 ∈ ksOf (pre a j)
            · exact c
            · rw [if_neg c] at z; exact absurd z (by decide)
          rw [if_pos hm] at nx
          show B_X7_count_7 K f S x1 (_ + S 54 (104 + j)) (nI (ksOf (pre a j)).length + 0) (nI j + 1)
          rw [(h.2.2.2.2 j x hx).2, nI_1, Int32.add_zero]; exact nx
        · have hm : x.1 ∉ ksOf (pre a j) := fun c => z (by rw [if_pos c])
          rw [if_neg hm] at nx
          show B_X7_count_7 K f S x1 (_ + S 54 (104 + j)) (nI (ksOf (pre a j)).length + 1) (nI j + 1)
          rw [(h.2.2.2.2 j x hx).2, nI_1, nI_1]; exact nx
  exact ⟨a.1.length + 1, loop a.1.length (a.1.length + 1) 0 (by omega) (by omega)⟩
theorem m_count {S : Mem} {st : AT} (h : MI S st) {a0 r : Int32} {Q : Mem → Prop} (hQ : Q S) (h0 : a0 = 0 → r = nI st.1.1.length) (h1 : a0 = 1 → r = sumV st.1.1) (h2 : a0 = 2 → r = nI (ksOf st.1).length) (h3 : a0 = 3 → r = nI st.2.1.length) (h4 : a0 = 4 → r = nI st.2.2.length) (h20 : a0 = 20 → r = nI st.1.2.1) (h21 : a0 = 21 → r = nI st.1.2.2.1) (h22 : a0 = 22 → r = nI st.1.2.2.2)
    (hd : ¬ a0 = 0 → ¬ a0 = 1 → ¬ a0 = 2 → ¬ a0 = 3 → ¬ a0 = 4 → ¬ a0 = 20 → ¬ a0 = 21 → ¬ a0 = 22 → r = -1000001) : P_X7_count S a0 (fun r2 S2 => r = r2 ∧ Q S2) := by
  have hA := h.2.1
  refine m_count7 h.1.1 hA ⟨fun e => ⟨vin (n := 0) (by omega) (by omega), ?_⟩, fun e => ⟨h1 e, hQ⟩, fun e => ⟨h2 e, hQ⟩, fun e => ⟨by rw [h.2.2.1]; exact h3 e, hQ⟩, fun e => ⟨by rw [h.2.2.2.2.1]; exact h4 e, hQ⟩, fun e => m_in 20 22 rfl rfl (fun c => ⟨fun z => absurd z (by decide), fun _ => ?_⟩) (fun c => ⟨fun _ => ⟨?_, hQ⟩, fun z => absurd rfl z⟩)⟩
  · rw [cl0, hA.1]; exact ⟨h0 e, hQ⟩
  · obtain ⟨w, hw, rfl⟩ := le_nI (n := 22) (Int32.le_trans (by decide) c.1) c.2 (by omega)
    have hw20 := (nI_leI (a := 20) (by omega) (by omega)).mp c.1
    have e1 : (1 : Int32) + nI w - (20 : Int32) = nI (w - 19) := by
      rw [show (1 : Int32) + nI w = nI (1 + w) from nI_add 1 w, show nI (1 + w) - (20 : Int32) = nI (1 + w - 20) from pk_sub (b := 20) (by omega), show 1 + w - 20 = w - 19 by omega]
    rw [e1, clampN (by omega)]
    refine ⟨vin (by omega) (by omega), ?_, hQ⟩
    rcases (show w = 20 ∨ w = 21 ∨ w = 22 by omega) with rfl | rfl | rfl
    · rw [show S 54 (20 - 19) = S 54 1 from rfl, hA.2.1]; exact h20 rfl
    · rw [show S 54 (21 - 19) = S 54 2 from rfl, hA.2.2.1]; exact h21 rfl
    · rw [show S 54 (22 - 19) = S 54 3 from rfl, hA.2.2.2.1]; exact h22 rfl
  · refine hd e.1 e.2.1 e.2.2.1 e.2.2.2.1 e.2.2.2.2 (fun q => ?_) (fun q => ?_) (fun q => ?_) <;> (subst q; exact c ⟨by decide, by decide⟩)
theorem s_count : ∀ (S : Mem) (a0 : Int32), Inv S → P_X6_count S a0 (fun r1 S1 => P_X7_count S1 a0 (fun r2 S2 => r1 = r2 ∧ Inv S2)) := by
  rintro S a0 ⟨st, hC, hM⟩
  have hi : Inv S := ⟨st, hC, hM⟩
  have hR := hC.2.2.1
  refine ⟨fun e => ?_, fun e => ?_, fun e => ?_, fun e => ?_, fun e => ?_, fun e => ?_, fun e => ?_, fun e => ?_, fun e => ?_⟩
  · subst e
    refine t_length hR.1 ?_
    rw [List.length_map]
    exact m_count hM hi (fun _ => rfl) (fun c => absurd c (by decide)) (fun c => absurd c (by decide)) (fun c => absurd c (by decide)) (fun c => absurd c (by decide)) (fun c => absurd c (by decide)) (fun c => absurd c (by decide)) (fun c => absurd c (by decide)) (fun c => absurd rfl c)
  · subst e
    refine t_sum (c := 1) (t := 2) (by decide) hR.1 (by decide) ?_
    have e1 : sumC (st.1.1.map rowR) 1 = sumV st.1.1 := by unfold sumC sumV; rw [List.foldl_map]; rfl
    rw [e1]
    exact m_count hM hi (fun c => absurd c (by decide)) (fun _ => rfl) (fun c => absurd c (by decide)) (fun c => absurd c (by decide)) (fun c => absurd c (by decide)) (fun c => absurd c (by decide)) (fun c => absurd c (by decide)) (fun c => absurd c (by decide)) (fun _ c => absurd rfl c)
  · subst e
    refine c_groupsNow hC (fun S1 f1 g1 => ⟨rfl, t_length g1.2.2.1.1 ?_⟩)
    rw [List.length_map]
    exact m_count (hM.frC f1) (Q := Inv) ⟨st, g1.1, hM.frC f1⟩ (fun c => absurd c (by decide)) (fun c => absurd c (by decide)) (fun _ => rfl) (fun c => absurd c (by decide)) (fun c => absurd c (by decide)) (fun c => absurd c (by decide)) (fun c => absurd c (by decide)) (fun c => absurd c (by decide)) (fun _ _ c => absurd rfl c)
  · subst e
    obtain ⟨o, ho, q1, q2, q3⟩ := hC.2.2.2.1
    unfold P_X1_length
    rw [q2]
    exact m_count hM hi (fun c => absurd c (by decide)) (fun c => absurd c (by decide)) (fun c => absurd c (by decide)) (fun _ => rfl) (fun c => absurd c (by decide)) (fun c => absurd c (by decide)) (fun c => absurd c (by decide)) (fun c => absurd c (by decide)) (fun _ _ _ c => absurd rfl c)
  · subst e
    refine t_length hC.2.2.2.2.1 ?_
    rw [List.length_map]
    exact m_count hM hi (fun c => absurd c (by decide)) (fun c => absurd c (by decide)) (fun c => absurd c (by decide)) (fun c => absurd c (by decide)) (fun _ => rfl) (fun c => absurd c (by decide)) (fun c => absurd c (by decide)) (fun c => absurd c (by decide)) (fun _ _ _ _ c => absurd rfl c)
  · subst e
    exact c_setting (s := 1) (w := 0) (by decide) hR (by omega) (m_count hM hi (fun c => absurd c (by decide)) (fun c => absurd c (by decide)) (fun c => absurd c (by decide)) (fun c => absurd c (by decide)) (fun c => absurd c (by decide)) (fun _ => rfl) (fun c => absurd c (by decide)) (fun c => absurd c (by decide)) (fun _ _ _ _ _ c => absurd rfl c))
  · subst e
    exact c_setting (s := 1) (w := 1) (by decide) hR (by omega) (m_count hM hi (fun c => absurd c (by decide)) (fun c => absurd c (by decide)) (fun c => absurd c (by decide)) (fun c => absurd c (by decide)) (fun c => absurd c (by decide)) (fun c => absurd c (by decide)) (fun _ => rfl) (fun c => absurd c (by decide)) (fun _ _ _ _ _ _ c => absurd rfl c))
  · subst e
    exact c_setting (s := 1) (w := 2) (by decide) hR (by omega) (m_count hM hi (fun c => absurd c (by decide)) (fun c => absurd c (by decide)) (fun c => absurd c (by decide)) (fun c => absurd c (by decide)) (fun c => absurd c (by decide)) (fun c => absurd c (by decide)) (fun c => absurd c (by decide)) (fun _ => rfl) (fun _ _ _ _ _ _ _ c => absurd rfl c))
  · obtain ⟨e0, e1, e2, e3, e4, e5, e6, e7⟩ := e
    exact m_count hM hi (fun c => absurd c e0) (fun c => absurd c e1) (fun c => absurd c e2) (fun c => absurd c e3) (fun c => absurd c e4) (fun c => absurd c e5) (fun c => absurd c e6) (fun c => absurd c e7) (fun _ _ _ _ _ _ _ _ => rfl)
